/-! ===== flood, the reference's side ===== -/
theorem fu_split {k : Nat} (h : k < 100000) : ∃ m, gFU = (m + 1) + k := ⟨100000 - k - 1, by unfold gFU; omega⟩
def oI (o : Option Nat) : Int32 := match o with | none => -1 | some v => nI v
/-- the most who stay dry, by the set that is left -/
def TSp (q : Nat) (d : Nat → Nat → Nat) (T : Nat → Nat) (a : Nat) : Prop := T 0 = 0 ∧ (∀ l, T l ≤ 100) ∧ (∀ l, l < a → T l ≤ pc l) ∧ ∀ l, l < a → l ≠ 0 → (∀ j, j < q → tb l j = 1 → T (cl l j) + d (q - pc l) j ≤ T l) ∧ ∃ j, j < q ∧ tb l j = 1 ∧ T (cl l j) + d (q - pc l) j = T l
theorem gst_self {μ : gMem} {k i : Nat} {x : Int32} (h : μ k i = x) : gst μ k i x = μ := by
  funext c; unfold gst grow
  by_cases hc : c = k
  · subst hc; rw [if_pos rfl]; funext j; unfold upd
    by_cases hj : j = i
    · subst hj; rw [if_pos rfl]; exact h.symm
    · rw [if_neg hj]
  · rw [if_neg hc]
theorem gst_gst (μ : gMem) (k i : Nat) (x y : Int32) : gst (gst μ k i x) k i y = gst μ k i y := by
  funext c; unfold gst grow
  by_cases hc : c = k
  · subst hc; simp only [if_true]; funext j; unfold upd
    by_cases hj : j = i <;> simp only [hj, if_true, if_false]
  · simp only [hc, if_false]
theorem q_share1 {μ : gMem} {p q n' y : Nat} (w : WF p q n' y (μ 1)) {f : Int32} {T : Nat → Nat} {l : Nat} (hl : l < 2 ^ q) (l0 : l ≠ 0) (hT : ∀ x, x < l → μ 12 x = nI (T x) ∧ T x ≤ 100) : ∃ v, m_X7_share_43 f (nI q) (nI l) (nI (q - pc l)) gFU 0 (gst μ 12 l (-1)) = some (gst μ 12 l (nI v)) ∧ (∀ j, j < q → tb l j = 1 → T (cl l j) + sDr (μ 1) f (q - pc l) j ≤ v) ∧ ∃ j, j < q ∧ tb l j = 1 ∧ T (cl l j) + sDr (μ 1) f (q - pc l) j = v := by
  have hq8 := w.1.2.2.2.2.2.1
  have p1 := pow_r q hq8
  have pl : pc l ≤ q ∧ 1 ≤ pc l := by
    have c := (cpl q hq8 l hl).1
    obtain ⟨k, hk, tk⟩ := ex_bit l (by omega) l0
    have := (cl_r l (by omega) k hk).2 tk
    omega
  have P : ∀ k, k ≤ q → ∃ o : Option Nat, (∀ m, m_X7_share_43 f (nI q) (nI l) (nI (q - pc l)) (m + k) 0 (gst μ 12 l (-1)) = m_X7_share_43 f (nI q) (nI l) (nI (q - pc l)) m (nI k) (gst μ 12 l (oI o))) ∧ (match o with | none => ∀ j, j < k → tb l j = 0 | some v => v ≤ 101 ∧ (∀ j, j < k → tb l j = 1 → T (cl l j) + sDr (μ 1) f (q - pc l) j ≤ v) ∧ ∃ j, j < k ∧ tb l j = 1 ∧ T (cl l j) + sDr (μ 1) f (q - pc l) j = v) := by
    intro k
    induction k with
    | zero => intro _; exact ⟨none, fun m => rfl, fun j hj => absurd hj (by omega)⟩
    | succ k ih =>
      intro hk
      obtain ⟨o, e1, e2⟩ := ih (by omega)
      have c1 : ¬ nI q ≤ nI k := nI_ge (by omega) (by omega)
      have eb : ((nI l >>> (nI k &&& 31)) &&& 1) = nI (tb l k) := fb1 l (by omega) k (by omega)
      have S : ∀ m, m_X7_share_43 f (nI q) (nI l) (nI (q - pc l)) (m + (k + 1)) 0 (gst μ 12 l (-1)) = b_X7_share_43 f (nI q) (nI l) (nI (q - pc l)) (m_X7_share_43 f (nI q) (nI l) (nI (q - pc l)) m) (nI k) (gst μ 12 l (oI o)) := by
        intro m
        rw [show m + (k + 1) = (m + 1) + k by omega, e1 (m + 1)]; rfl
      rcases tb_01 l k with t0 | t0
      · refine ⟨o, fun m => ?_, ?_⟩
        · rw [S m]
          simp only [b_X7_share_43, c1, if_false, eb, t0, show ¬ nI 0 = 1 from by decide, gnm_s, nI_1]
        · cases o with
          | none =>
            intro j hj
            by_cases e : j = k
            · subst e; exact t0
            · exact e2 j (by omega)
          | some v =>
            obtain ⟨v1, v2, j, j1, j2, j3⟩ := e2
            refine ⟨v1, fun i hi ti => ?_, j, by omega, j2, j3⟩
            by_cases e : i = k
            · subst e; omega
            · exact v2 i (by omega) ti
      · have cr := (cl_r l (by omega) k (by omega)).2 t0
        obtain ⟨T1, T2⟩ := hT (cl l k) cr.1
        have w' : WF p q n' y ((gst μ 12 l (oI o)) 1) := by rw [gst_ne _ _ (by decide)]; exact w
        have D := q_dry w' (show q - pc l < q by omega) (show k < q by omega) f
        rw [gst_ne _ _ (show (1 : Nat) ≠ 12 by decide)] at D
        have g1 : gst μ 12 l (oI o) 12 (cl l k) = nI (T (cl l k)) := by rw [gst_eq, pk_un (by omega)]; exact T1
        have g2 : gst μ 12 l (oI o) 12 l = oI o := by rw [gst_eq, pk_us]
        have i256 := inb_t (show l < 256 by omega) (show 256 < 2 ^ 31 by decide)
        have j256 := inb_t (show cl l k < 256 by omega) (show 256 < 2 ^ 31 by decide)
        have d1 : sDr (μ 1) f (q - pc l) k ≤ 1 := by rcases sDr_01 (μ 1) f (q - pc l) k with e | e <;> omega
        have cmp : nI (T (cl l k) + sDr (μ 1) f (q - pc l) k) ≤ oI o ↔ ∃ v, o = some v ∧ T (cl l k) + sDr (μ 1) f (q - pc l) k ≤ v := by
          cases o with
          | none => exact ⟨fun h => absurd h (nI_gt (by omega) (by decide)), fun ⟨v, h, _⟩ => by cases h⟩
          | some v =>
            have := e2.1
            show nI _ ≤ nI v ↔ _
            rw [nI_leI (by omega) (by omega)]
            exact ⟨fun h => ⟨v, rfl, h⟩, fun ⟨v', h, h2⟩ => by cases h; exact h2⟩
        by_cases c3 : nI (T (cl l k) + sDr (μ 1) f (q - pc l) k) ≤ oI o
        · obtain ⟨v, ho, hv⟩ := cmp.mp c3
          subst ho
          refine ⟨some v, fun m => ?_, ?_⟩
          · rw [S m]
            simp only [b_X7_share_43, c1, if_false, eb, t0, show nI 1 = 1 from rfl, if_true, fb3 l (by omega) k (by omega), j256, i256, gck_s, nI_clamp (show cl l k < 2 ^ 31 by omega), nI_clamp (show l < 2 ^ 31 by omega), D, gb1_s, gnm_s, g1, g2, nI_add, c3, gst_self g2, nI_1]
          · obtain ⟨v1, v2, j, j1, j2, j3⟩ := e2
            refine ⟨v1, fun i hi ti => ?_, j, by omega, j2, j3⟩
            by_cases e : i = k
            · subst e; exact hv
            · exact v2 i (by omega) ti
        · refine ⟨some (T (cl l k) + sDr (μ 1) f (q - pc l) k), fun m => ?_, by omega, fun i hi ti => ?_, k, by omega, t0, rfl⟩
          · rw [S m]
            simp only [b_X7_share_43, c1, if_false, eb, t0, show nI 1 = 1 from rfl, if_true, fb3 l (by omega) k (by omega), j256, i256, gck_s, nI_clamp (show cl l k < 2 ^ 31 by omega), nI_clamp (show l < 2 ^ 31 by omega), D, gb1_s, gnm_s, g1, g2, nI_add, c3, gst_gst, nI_1]; rfl
          · by_cases e : i = k
            · subst e; exact Nat.le_refl _
            · cases o with
              | none => exact absurd (e2 i (by omega)) (by omega)
              | some v =>
                have h1 := e2.2.1 i (by omega) ti
                have h2 : ¬ T (cl l k) + sDr (μ 1) f (q - pc l) k ≤ v := fun h => c3 (cmp.mpr ⟨v, rfl, h⟩)
                omega
  obtain ⟨o, e1, e2⟩ := P q (Nat.le_refl _)
  have R : m_X7_share_43 f (nI q) (nI l) (nI (q - pc l)) gFU 0 (gst μ 12 l (-1)) = some (gst μ 12 l (oI o)) := by
    have := e1 (gFU - q)
    rw [show gFU - q + q = gFU from Nat.sub_add_cancel (by show q ≤ 100000; omega)] at this
    rw [this]
    obtain ⟨m, hm⟩ : ∃ m, gFU - q = m + 1 := ⟨gFU - q - 1, by show 100000 - q = 100000 - q - 1 + 1; omega⟩
    rw [hm]
    show b_X7_share_43 f (nI q) (nI l) (nI (q - pc l)) (m_X7_share_43 f (nI q) (nI l) (nI (q - pc l)) m) (nI q) _ = _
    simp only [b_X7_share_43, nI_le (Nat.le_refl q) (show q < 2 ^ 31 by omega), if_true]
  cases o with
  | none =>
    exfalso
    obtain ⟨k, hk, tk⟩ := ex_bit l (by omega) l0
    by_cases hkq : k < q
    · have := e2 k hkq; omega
    · have := tb_hi q hq8 l hl k hk (by omega); omega
  | some v => exact ⟨v, R, e2.2⟩
theorem q_share0 {q : Nat} (hq8 : q ≤ 8) (f x : Int32) (μ : gMem) : m_X7_share_43 f (nI q) 0 x gFU 0 μ = some μ := by
  refine for_to (fun m j => m_X7_share_43 f (nI q) 0 x m (nI j) μ) q _ (fun m j hj => ?_) (fun m => ?_) (by omega)
  · show b_X7_share_43 f (nI q) 0 x (m_X7_share_43 f (nI q) 0 x m) (nI j) _ = _
    have c2 : ¬ nI q ≤ nI j := nI_ge hj (by omega)
    have eb : (((0 : Int32) >>> (nI j &&& 31)) &&& 1) = nI (tb 0 j) := fb1 0 (by omega) j (by omega)
    have tz : tb 0 j = 0 := by unfold tb; rw [Nat.zero_div]
    simp only [b_X7_share_43, c2, if_false, eb, tz, show ¬ nI 0 = 1 from by decide, gnm_s, nI_1]
  · show b_X7_share_43 f (nI q) 0 x (m_X7_share_43 f (nI q) 0 x m) (nI q) _ = _
    simp only [b_X7_share_43, nI_le (Nat.le_refl q) (show q < 2 ^ 31 by omega), if_true]
theorem share_s0 {q : Nat} (hq8 : q ≤ 8) (hq0 : 0 < 2 ^ q) (f : Int32) (rc : Int32 → gMem → Option gMem) (μ : gMem) : b_X7_share_10 f (nI q) rc (nI 0) μ = rc (nI (0 + 1)) (gst μ 12 0 0) := by
  have p1 := pow_r q hq8
  have c1 : ¬ nI (2 ^ q) ≤ nI 0 := nI_ge hq0 (by omega)
  have qb : m_X7_bits (nI 0) (gst μ 12 0 0) = some (nI (pc 0)) := q_bits (m := 0) (by decide) _
  have i0 : inb (nI 0) 256 = true := rfl
  have l0 : (nI 0).toNatClampNeg = 0 := rfl
  have L0 : m_X7_share_43 f (nI q) (nI 0) (nI q - nI (pc 0)) gFU 0 (gst μ 12 0 0) = some (gst μ 12 0 0) := q_share0 hq8 f (nI q - nI (pc 0)) (gst μ 12 0 0)
  have e0 : (if nI 0 = 0 then (some 0 : Option Int32) else some (-1)) = some 0 := if_pos rfl
  unfold b_X7_share_10
  rw [fb6 q hq8, if_neg c1, e0, gb1_s, i0, gck_s, gnm_s, l0, qb, gb1_s, gnm_s, L0, gb1_s, gnm_s, nI_1]
theorem q_share2 {μ : gMem} {p q n' y : Nat} (w : WF p q n' y (μ 1)) (f : Int32) : ∃ T μ', m_X7_share_10 f (nI q) gFU 0 μ = some μ' ∧ TSp q (sDr (μ 1) f) T (2 ^ q) ∧ (∀ l, l < 2 ^ q → μ' 12 l = nI (T l)) ∧ ∀ c, c ≠ 12 → μ' c = μ c := by
  have hq8 := w.1.2.2.2.2.2.1
  have p1 := pow_r q hq8
  have P : ∀ k, k ≤ 2 ^ q → ∃ T μk, (∀ m, m_X7_share_10 f (nI q) (m + k) 0 μ = m_X7_share_10 f (nI q) m (nI k) μk) ∧ TSp q (sDr (μ 1) f) T k ∧ (∀ l, l < k → μk 12 l = nI (T l)) ∧ ∀ c, c ≠ 12 → μk c = μ c := by
    intro k
    induction k with
    | zero => intro _; exact ⟨fun _ => 0, μ, fun m => rfl, ⟨rfl, fun _ => Nat.zero_le _, fun l hl => absurd hl (by omega), fun l hl => absurd hl (by omega)⟩, fun l hl => absurd hl (by omega), fun c _ => rfl⟩
    | succ k ih =>
      intro hk
      obtain ⟨T, μk, e1, ⟨t1, t2, t3, t4⟩, e3, e4⟩ := ih (by omega)
      have S : ∀ m, m_X7_share_10 f (nI q) (m + (k + 1)) 0 μ = b_X7_share_10 f (nI q) (m_X7_share_10 f (nI q) m) (nI k) μk := by
        intro m
        rw [show m + (k + 1) = (m + 1) + k by omega, e1 (m + 1)]; rfl
      have c1 : ¬ nI (2 ^ q) ≤ nI k := nI_ge (by omega) (by omega)
      have i256 := inb_t (show k < 256 by omega) (show 256 < 2 ^ 31 by decide)
      have ck := nI_clamp (show k < 2 ^ 31 by omega)
      have m1 : μk 1 = μ 1 := e4 1 (by decide)
      have pk := (cpl q hq8 k (by omega)).1
      have sb : nI q - nI (pc k) = nI (q - pc k) := nI_sub (by omega)
      by_cases k0 : k = 0
      · subst k0
        refine ⟨T, gst μk 12 0 0, fun m => ?_, ⟨t1, t2, fun l hl => ?_, fun l hl h0 => absurd hl (by omega)⟩, fun l hl => ?_, fun c hc => by rw [gst_ne _ _ hc]; exact e4 c hc⟩
        · rw [S m]
          exact share_s0 hq8 (by omega) f _ _
        · have : l = 0 := by omega
          subst this; rw [t1]; exact Nat.zero_le _
        · have : l = 0 := by omega
          subst this; rw [gst_eq, pk_us, t1]; rfl
      · have w' : WF p q n' y (μk 1) := by rw [m1]; exact w
        obtain ⟨v, s1, s2, j, j1, j2, j3⟩ := q_share1 w' (f := f) (T := T) (show k < 2 ^ q by omega) k0 (fun x hx => ⟨e3 x hx, t2 x⟩)
        rw [m1] at s2 j3
        have cj := (cl_r k (by omega) j (by omega)).2 j2
        have d1 : sDr (μ 1) f (q - pc k) j ≤ 1 := by rcases sDr_01 (μ 1) f (q - pc k) j with e | e <;> omega
        have tc := t3 (cl k j) cj.1
        have pc8 := pc_r k (by omega)
        obtain ⟨T', hT'⟩ : ∃ T' : Nat → Nat, T' = fun x => if x = k then v else T x := ⟨_, rfl⟩
        have Tn : ∀ x, x ≠ k → T' x = T x := fun x hx => by rw [hT']; exact if_neg hx
        have Tk : T' k = v := by rw [hT']; exact if_pos rfl
        refine ⟨T', gst μk 12 k (nI v), fun m => ?_, ⟨by rw [Tn 0 (fun h => k0 h.symm)]; exact t1, fun l => ?_, fun l hl => ?_, fun l hl h0 => ?_⟩, fun l hl => ?_, fun c hc => by rw [gst_ne _ _ hc]; exact e4 c hc⟩
        · rw [S m]
          have n0 : ¬ nI k = 0 := nI_ne0 (by omega) (by omega)
          simp only [b_X7_share_10, fb6 q hq8, c1, if_false, n0, gb1_s, i256, gck_s, gnm_s, ck, q_bits (show k < 256 by omega), sb, s1, nI_1]
        · by_cases e : l = k
          · subst e; rw [Tk]; omega
          · rw [Tn l e]; exact t2 l
        · by_cases e : l = k
          · subst e; rw [Tk]; omega
          · rw [Tn l e]; exact t3 l (by omega)
        · by_cases e : l = k
          · subst e
            refine ⟨fun i hi ti => ?_, j, j1, j2, ?_⟩
            · have ci := (cl_r l (by omega) i (by omega)).2 ti
              rw [Tk, Tn _ (by omega)]; exact s2 i hi ti
            · rw [Tk, Tn _ (by omega)]; exact j3
          · obtain ⟨u1, i, u2, u3, u4⟩ := t4 l (by omega) h0
            refine ⟨fun x hx tx => ?_, i, u2, u3, ?_⟩
            · have ci := (cl_r l (by omega) x (by omega)).2 tx
              rw [Tn l e, Tn _ (by omega)]; exact u1 x hx tx
            · have ci := (cl_r l (by omega) i (by omega)).2 u3
              rw [Tn l e, Tn _ (by omega)]; exact u4
        · rw [gst_eq]
          by_cases e : l = k
          · subst e; rw [pk_us, Tk]
          · rw [pk_un e, Tn l e]; exact e3 l (by omega)
  obtain ⟨T, μk, e1, e2, e3, e4⟩ := P (2 ^ q) (Nat.le_refl _)
  refine ⟨T, μk, ?_, e2, e3, e4⟩
  obtain ⟨m, hm⟩ := fu_split (show 2 ^ q < 100000 by omega)
  rw [hm, e1 (m + 1)]
  show b_X7_share_10 f (nI q) (m_X7_share_10 f (nI q) m) (nI (2 ^ q)) μk = _
  simp only [b_X7_share_10, fb6 q hq8, nI_le (Nat.le_refl (2 ^ q)) (show 2 ^ q < 2 ^ 31 by omega), if_true]
/-- the fewest who drown and the most who stay dry are one -/
theorem FT_sum {q : Nat} {d : Nat → Nat → Nat} {F T : Nat → Nat} (hq : q ≤ 8) (hd : ∀ k j, d k j ≤ 1) (hF : FSp q d F 0) (hT : TSp q d T (2 ^ q)) : ∀ l, l < 2 ^ q → T l + F (2 ^ q - 1 - l) = pc l := by
  have p1 := pow_r q hq
  intro l
  induction l using Nat.strongRecOn with
  | ind l ih =>
    intro hl
    by_cases l0 : l = 0
    · subst l0
      rw [hT.1, Nat.sub_zero, hF.1]; rfl
    have c := cpl q hq l hl
    obtain ⟨b, ⟨b1, b2, b3, b4⟩, fb⟩ := hF.2.2.2 (2 ^ q - 1 - l) (Nat.zero_le _) (by omega) (by omega)
    obtain ⟨u1, i, i1, i2, i3⟩ := hT.2.2.2 l hl l0
    have pg : pc (2 ^ q - 1 - l) = q - pc l := by omega
    rw [pg] at b3 fb
    have key : ∀ j, j < q → tb l j = 1 → tb (2 ^ q - 1 - l) j = 0 ∧ T (cl l j) + F (so (2 ^ q - 1 - l) j) + 1 = pc l := by
      intro j hj tj
      have cj := c.2 j hj
      have r := (cl_r l (by omega) j (by omega)).2 tj
      have := ih (cl l j) r.1 (by omega)
      rw [cj.2 tj]
      exact ⟨by omega, by omega⟩
    have kb := key b b1 (by have := (c.2 b b1).1; omega)
    have ki := key i i1 i2
    have ub := u1 b b1 (by have := (c.2 b b1).1; omega)
    have bi := b3 i i1 ki.1
    have := hd (q - pc l) b
    have := hd (q - pc l) i
    omega
