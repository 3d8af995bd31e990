/-! ===== the pure part: meeting ===== -/
def sCn (f : Nat → Int32) : Nat → Nat
  | 0 => 0
  | k + 1 => sCn f k + if f k = 0 then 0 else 1
theorem sCn_le (f : Nat → Int32) : ∀ k, sCn f k ≤ k := by
  intro k
  induction k with
  | zero => exact Nat.le_refl _
  | succ k ih => unfold sCn; split <;> omega
/-- how many stand at place a at hour h -/
def sCS (z : Nat → Int32) (q a h : Nat) : Nat := sCn (fun k => sD z k (z (74 + k)) a h) q
theorem q_cntX {σ : gMem} {z : Nat → Int32} (hR : Rg 1 13 σ z) {p q n' y : Nat} (w : WF p q n' y z) {a h : Nat} (ha : a < 12) (hh : h < 24) : m_X1_countStanding (nI a) (nI h) σ = some (nI (sCS z q a h)) := by
  have hq := w.1.2.1
  have hq8 := w.1.2.2.2.2.2.1
  have hσ : σ 1 8 = nI q := (Rg_peo hR).trans hq
  have L : m_X1_countStanding_5 (nI a) (nI h) σ gFU 0 0 = some (nI (sCS z q a h)) := by
    refine for_to (fun m k => m_X1_countStanding_5 (nI a) (nI h) σ m (nI (sCn (fun k => sD z k (z (74 + k)) a h) k)) (nI k)) q _ (fun m k hk => ?_) (fun m => ?_) (by omega)
    · show b_X1_countStanding_5 (nI a) (nI h) σ (m_X1_countStanding_5 (nI a) (nI h) σ m) _ (nI k) = _
      have c1 : ¬ nI q ≤ nI k := nI_ge hk (by omega)
      obtain ⟨-, g1, g2, -⟩ := w.2.2.2.2.2.1 k hk
      simp only [b_X1_countStanding_5, hσ, c1, if_false, q_standsAt hR (show k < 8 by omega) ha hh ⟨g1, by omega⟩, gb1_s, gnm_s, nI_1, sCn]
      rcases sD_01 z k (z (74 + k)) a h with f | f <;> simp only [f, if_true, ne10, if_false, Nat.add_zero]
    · show b_X1_countStanding_5 (nI a) (nI h) σ (m_X1_countStanding_5 (nI a) (nI h) σ m) _ (nI q) = _
      simp only [b_X1_countStanding_5, hσ, nI_le (Nat.le_refl q) (show q < 2 ^ 31 by omega), if_true]; rfl
  simp only [m_X1_countStanding, L, gb1_s]
theorem q_cntM {μ : gMem} {p q n' y : Nat} (w : WF p q n' y (μ 1)) {a h : Nat} (ha : a < 12) (hh : h < 24) : m_X7_meeting_54 (nI h) (nI a) μ gFU 0 0 = some (nI (sCS (μ 1) q a h)) := by
  have hq := w.1.2.1
  have hq8 := w.1.2.2.2.2.2.1
  refine for_to (fun m k => m_X7_meeting_54 (nI h) (nI a) μ m (nI (sCn (fun k => sD (μ 1) k ((μ 1) (74 + k)) a h) k)) (nI k)) q _ (fun m k hk => ?_) (fun m => ?_) (by omega)
  · show b_X7_meeting_54 (nI h) (nI a) μ (m_X7_meeting_54 (nI h) (nI a) μ m) _ (nI k) = _
    have c1 : ¬ nI q ≤ nI k := nI_ge hk (by omega)
    simp only [b_X7_meeting_54, in63, gck_s, l63, hq, c1, if_false, q_does (show k < 8 by omega) ha hh, gb1_s, gnm_s, nI_1, sCn, add0]
    rcases sD_01 (μ 1) k ((μ 1) (74 + k)) a h with f | f <;> simp only [f, if_true, ne10, if_false, Nat.add_zero]
  · show b_X7_meeting_54 (nI h) (nI a) μ (m_X7_meeting_54 (nI h) (nI a) μ m) _ (nI q) = _
    simp only [b_X7_meeting_54, in63, gck_s, l63, hq, nI_le (Nat.le_refl q) (show q < 2 ^ 31 by omega), if_true]; rfl
abbrev gBest : Type := Option (Nat × Nat × Nat)
/-- one more place, at hour h -/
def sBs (z : Nat → Int32) (q h k : Nat) (o : gBest) : gBest := if 0 ≤ (z k).toInt then o else match o with
  | none => some (k, h, sCS z q k h)
  | some (a, b, c) => if sCS z q k h ≤ c then some (a, b, c) else some (k, h, sCS z q k h)
def sBp (z : Nat → Int32) (q h : Nat) (o : gBest) : Nat → gBest
  | 0 => o
  | k + 1 => sBs z q h k (sBp z q h o k)
def sBh (z : Nat → Int32) (p q : Nat) : Nat → gBest
  | 0 => none
  | h + 1 => sBp z q h (sBh z p q h) p
def okB (o : gBest) : Prop := ∀ a b c, o = some (a, b, c) → c ≤ 8
theorem okB_s {z : Nat → Int32} {q h k : Nat} {o : gBest} (hq : q ≤ 8) (ho : okB o) : okB (sBs z q h k o) := by
  have h8 : sCS z q k h ≤ 8 := Nat.le_trans (sCn_le _ q) hq
  unfold sBs
  split
  · exact ho
  · cases o with
    | none => intro a b c e; cases e; exact h8
    | some v =>
      obtain ⟨a, b, c⟩ := v
      dsimp only
      split
      · exact ho
      · intro a b c e; cases e; exact h8
theorem okB_p {z : Nat → Int32} {q h : Nat} {o : gBest} (hq : q ≤ 8) (ho : okB o) : ∀ k, okB (sBp z q h o k) := by
  intro k
  induction k with
  | zero => exact ho
  | succ k ih => exact okB_s hq ih
theorem okB_h {z : Nat → Int32} {p q : Nat} (hq : q ≤ 8) : ∀ h, okB (sBh z p q h) := by
  intro h
  induction h with
  | zero => intro a b c e; cases e
  | succ h ih => exact okB_p hq ih p
def e1 (o : gBest) : Int32 := match o with | none => -4 | some (a, _, _) => nI a
def e2 (o : gBest) : Int32 := match o with | none => -4 | some (_, b, _) => nI b
def e3X (o : gBest) : Int32 := match o with | none => -4 | some (_, _, c) => nI c
def e3M (o : gBest) : Int32 := match o with | none => -1 | some (_, _, c) => nI c
theorem nI_gt {n : Nat} (h : n < 2 ^ 31) {x : Int32} (hx : x.toInt < 0) : ¬ nI n ≤ x := by
  rw [i32_le, nI_toInt h]; omega
theorem q_meetX1 {σ : gMem} {z : Nat → Int32} (hR : Rg 1 13 σ z) {p q n' y : Nat} (w : WF p q n' y z) {h : Nat} (hh : h < 24) {o : gBest} (ho : okB o) : m_X6_meeting_34 (nI h) σ gFU (e1 o) (e2 o) (e3X o) 0 = some (e1 (sBp z q h o p), e2 (sBp z q h o p), e3X (sBp z q h o p)) := by
  have hp := w.1.1
  have hp12 := w.1.2.2.2.2.1
  have hq8 := w.1.2.2.2.2.2.1
  have hσ : σ 1 0 = nI p := (Rg_pla hR).trans hp
  refine for_to (fun m k => m_X6_meeting_34 (nI h) σ m (e1 (sBp z q h o k)) (e2 (sBp z q h o k)) (e3X (sBp z q h o k)) (nI k)) p _ (fun m k hk => ?_) (fun m => ?_) (by omega)
  · show b_X6_meeting_34 (nI h) σ (m_X6_meeting_34 (nI h) σ m) _ _ _ (nI k) = _
    have c1 : ¬ nI p ≤ nI k := nI_ge hk (by omega)
    have hok := okB_p (z := z) (h := h) hq8 ho k
    have h8 : sCS z q k h ≤ 8 := Nat.le_trans (sCn_le _ q) hq8
    have z4 : ∀ o' : gBest, okB o' → (-4 : Int32) ≤ e3X o' := by
      intro o' ho'
      cases o' with
      | none => decide
      | some v =>
        obtain ⟨a, b, c⟩ := v
        have := ho' a b c rfl
        show (-4 : Int32) ≤ nI c
        rw [i32_le, nI_toInt (by omega)]; show (-4 : Int) ≤ _; omega
    show b_X6_meeting_34 (nI h) σ (m_X6_meeting_34 (nI h) σ m) (e1 (sBp z q h o k)) (e2 (sBp z q h o k)) (e3X (sBp z q h o k)) (nI k) = m_X6_meeting_34 (nI h) σ m (e1 (sBs z q h k (sBp z q h o k))) (e2 (sBs z q h k (sBp z q h o k))) (e3X (sBs z q h k (sBp z q h o k))) (nI (k + 1))
    generalize sBp z q h o k = o1 at hok ⊢
    have z0 : (0 : Int32) ≤ z k ↔ 0 ≤ (z k).toInt := i32_le
    simp only [b_X6_meeting_34, hσ, c1, if_false, inb_t (show k < 12 by omega) (show 12 < 2 ^ 31 by decide), gck_s, nI_clamp (show k < 2 ^ 31 by omega), Rg_dep hR (show k < 12 by omega), z0, z4 o1 hok, if_true, gnm_s, nI_1, q_cntX hR w (show k < 12 by omega) hh, gb1_s, sBs]
    by_cases d : 0 ≤ (z k).toInt
    · simp only [d, if_true]
    · simp only [d, if_false]
      cases o1 with
      | none =>
        have c2 : ¬ nI (sCS z q k h) ≤ e3X none := nI_gt (by omega) (by decide)
        simp only [c2, if_false]; rfl
      | some v =>
        obtain ⟨a, b, c⟩ := v
        have hc := hok a b c rfl
        have c2 : nI (sCS z q k h) ≤ e3X (some (a, b, c)) ↔ sCS z q k h ≤ c := nI_leI (by omega) (by omega)
        simp only [c2]
        by_cases c3 : sCS z q k h ≤ c
        · simp only [c3, if_true]
        · simp only [c3, if_false]; rfl
  · show b_X6_meeting_34 (nI h) σ (m_X6_meeting_34 (nI h) σ m) _ _ _ (nI p) = _
    simp only [b_X6_meeting_34, hσ, nI_le (Nat.le_refl p) (show p < 2 ^ 31 by omega), if_true]
theorem q_meetM1 {μ : gMem} {p q n' y : Nat} (w : WF p q n' y (μ 1)) {h : Nat} (hh : h < 24) {o : gBest} (ho : okB o) : m_X7_meeting_36 (nI h) μ gFU (e1 o) (e2 o) (e3M o) 0 = some (e1 (sBp (μ 1) q h o p), e2 (sBp (μ 1) q h o p), e3M (sBp (μ 1) q h o p)) := by
  have hp := w.1.1
  have hp12 := w.1.2.2.2.2.1
  have hq8 := w.1.2.2.2.2.2.1
  refine for_to (fun m k => m_X7_meeting_36 (nI h) μ m (e1 (sBp (μ 1) q h o k)) (e2 (sBp (μ 1) q h o k)) (e3M (sBp (μ 1) q h o k)) (nI k)) p _ (fun m k hk => ?_) (fun m => ?_) (by omega)
  · show b_X7_meeting_36 (nI h) μ (m_X7_meeting_36 (nI h) μ m) _ _ _ (nI k) = _
    have c1 : ¬ nI p ≤ nI k := nI_ge hk (by omega)
    have hok := okB_p (z := μ 1) (h := h) hq8 ho k
    have h8 : sCS (μ 1) q k h ≤ 8 := Nat.le_trans (sCn_le _ q) hq8
    show b_X7_meeting_36 (nI h) μ (m_X7_meeting_36 (nI h) μ m) (e1 (sBp (μ 1) q h o k)) (e2 (sBp (μ 1) q h o k)) (e3M (sBp (μ 1) q h o k)) (nI k) = m_X7_meeting_36 (nI h) μ m (e1 (sBs (μ 1) q h k (sBp (μ 1) q h o k))) (e2 (sBs (μ 1) q h k (sBp (μ 1) q h o k))) (e3M (sBs (μ 1) q h k (sBp (μ 1) q h o k))) (nI (k + 1))
    generalize sBp (μ 1) q h o k = o1 at hok ⊢
    have z0 : (0 : Int32) ≤ μ 1 k ↔ 0 ≤ (μ 1 k).toInt := i32_le
    have f2 : (0 : Int32) + nI k = nI k := by rw [show (0 : Int32) = nI 0 from rfl, nI_add, Nat.zero_add]
    simp only [b_X7_meeting_36, in62, gck_s, l62, hp, c1, if_false, q_cntM w (show k < 12 by omega) hh, gb1_s, f2, inb_t (show k < 528 by omega) (by decide), nI_clamp (show k < 2 ^ 31 by omega), z0, gnm_s, nI_1, sBs]
    by_cases d : 0 ≤ (μ 1 k).toInt
    · simp only [d, if_true]
    · simp only [d, if_false]
      cases o1 with
      | none =>
        have c2 : ¬ nI (sCS (μ 1) q k h) ≤ e3M none := nI_gt (by omega) (by decide)
        simp only [c2, if_false]; rfl
      | some v =>
        obtain ⟨a, b, c⟩ := v
        have hc := hok a b c rfl
        have c2 : nI (sCS (μ 1) q k h) ≤ e3M (some (a, b, c)) ↔ sCS (μ 1) q k h ≤ c := nI_leI (by omega) (by omega)
        simp only [c2]
        by_cases c3 : sCS (μ 1) q k h ≤ c
        · simp only [c3, if_true]
        · simp only [c3, if_false]; rfl
  · show b_X7_meeting_36 (nI h) μ (m_X7_meeting_36 (nI h) μ m) _ _ _ (nI p) = _
    simp only [b_X7_meeting_36, in62, gck_s, l62, hp, nI_le (Nat.le_refl p) (show p < 2 ^ 31 by omega), if_true]
theorem p_meeting {σ μ : gMem} (hI : INV σ μ) (a : Int32) : OKp (m_X6_meeting a σ) (m_X7_meeting a μ) := by
  have ea : m_X7_in a.toInt64 0 2 μ = some (wi a 0 2) := q_in a 0 2 μ
  rcases wi_n (m := 2) (by decide) a with hv | ⟨hv, j, hj, ej⟩
  · replace hv : wi a 0 2 = 0 := hv
    exact ⟨-1, by simp only [m_X6_meeting, q_within, gb1_s, hv, if_true], by simp only [m_X7_meeting, ea, gb1_s, hv, if_true]⟩
  replace hv : wi a 0 2 = 1 := hv
  obtain ⟨hs, p, q, n', y, w⟩ := hI
  have hq8 := w.1.2.2.2.2.2.1
  have L1 : m_X6_meeting_24 σ gFU (-4) (-4) (-4) 0 = some (e1 (sBh (μ 1) p q 24), e2 (sBh (μ 1) p q 24), e3X (sBh (μ 1) p q 24)) := by
    refine for_to (fun m h => m_X6_meeting_24 σ m (e1 (sBh (μ 1) p q h)) (e2 (sBh (μ 1) p q h)) (e3X (sBh (μ 1) p q h)) (nI h)) 24 _ (fun m h hh => ?_) (fun m => rfl) (by decide)
    show b_X6_meeting_24 σ (m_X6_meeting_24 σ m) _ _ _ (nI h) = _
    have c1 : ¬ (24 : Int32) ≤ nI h := nI_ge (b := 24) hh (by decide)
    simp only [b_X6_meeting_24, c1, if_false, q_meetX1 hs.1 w hh (okB_h hq8 h), gb3_s, gnm_s, nI_1, sBh]
  have L2 : m_X7_meeting_26 μ gFU (-4) (-4) (-1) 0 = some (e1 (sBh (μ 1) p q 24), e2 (sBh (μ 1) p q 24), e3M (sBh (μ 1) p q 24)) := by
    refine for_to (fun m h => m_X7_meeting_26 μ m (e1 (sBh (μ 1) p q h)) (e2 (sBh (μ 1) p q h)) (e3M (sBh (μ 1) p q h)) (nI h)) 24 _ (fun m h hh => ?_) (fun m => rfl) (by decide)
    show b_X7_meeting_26 μ (m_X7_meeting_26 μ m) _ _ _ (nI h) = _
    have c1 : ¬ (24 : Int32) ≤ nI h := nI_ge (b := 24) hh (by decide)
    simp only [b_X7_meeting_26, c1, if_false, q_meetM1 w hh (okB_h hq8 h), gb3_s, gnm_s, nI_1, sBh]
  have O := okB_h (z := μ 1) (p := p) hq8 24
  refine ⟨if a = 0 then e1 (sBh (μ 1) p q 24) else if a = 1 then e2 (sBh (μ 1) p q 24) else e3X (sBh (μ 1) p q 24), ?_, ?_⟩
  · simp only [m_X6_meeting, q_within, gb1_s, hv, ne10, if_false, L1, gb3_s]
    split
    · rfl
    · split <;> rfl
  · simp only [m_X7_meeting, ea, gb1_s, hv, ne10, if_false, L2, gb3_s]
    generalize sBh (μ 1) p q 24 = o at O ⊢
    cases o with
    | none =>
      rw [if_neg (show ¬ (0 : Int32) ≤ e3M none from by decide)]
      show some (-4) = some (if a = 0 then -4 else if a = 1 then -4 else -4)
      congr 1
      split
      · rfl
      · split <;> rfl
    | some v =>
      obtain ⟨x, b, c⟩ := v
      have hc := O x b c rfl
      rw [if_pos (show (0 : Int32) ≤ e3M (some (x, b, c)) from nI_pos' (by omega))]
      split
      · rfl
      · split <;> rfl
