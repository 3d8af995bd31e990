/-! ===== the pure part: years, wrong ===== -/
def cl8 (x : Int) : Int := if x < -20 then -20 else if 60 < x then 60 else x
theorem cl8_r (x : Int) : -20 ≤ cl8 x ∧ cl8 x ≤ 60 := by
  unfold cl8; split
  · omega
  · split <;> omega
/-- a depth n years on -/
def dY (d s : Int32) (n : Nat) : Int32 := Int32.ofInt (cl8 (d.toInt - n * s.toInt))
theorem dY_t (d s : Int32) (n : Nat) : (dY d s n).toInt = cl8 (d.toInt - n * s.toInt) := by
  have := cl8_r (d.toInt - n * s.toInt)
  exact Int32.toInt_ofInt_of_le (by omega) (by omega)
theorem dY_0 {d s : Int32} (h : -20 ≤ d.toInt ∧ d.toInt ≤ 60) : dY d s 0 = d := by
  rw [i32_eq, dY_t]
  unfold cl8
  simp only [Int.ofNat_zero, Int.zero_mul, Int.sub_zero, Int.natCast_zero]
  rw [if_neg (by omega), if_neg (by omega)]
theorem n30 {n : Nat} {s : Int} (hn : n ≤ 100) (h : -5 ≤ s ∧ s ≤ 5) : -500 ≤ (n : Int) * s ∧ (n : Int) * s ≤ 500 := by
  constructor
  · have : (n : Int) * (-5) ≤ n * s := Int.mul_le_mul_of_nonneg_left h.1 (by omega)
    omega
  · have : (n : Int) * s ≤ n * 5 := Int.mul_le_mul_of_nonneg_left h.2 (by omega)
    omega
theorem q_silted {d s : Int32} {n : Nat} (hd : -20 ≤ d.toInt ∧ d.toInt ≤ 60) (hs : -5 ≤ s.toInt ∧ s.toInt ≤ 5) (hn : n ≤ 99) (μ : gMem) : m_X7_silted (dY d s n) s μ = some (dY d s (n + 1)) := by
  have e0 := dY_t d s n
  have r0 := cl8_r (d.toInt - n * s.toInt)
  have e1 : (dY d s n - s).toInt = cl8 (d.toInt - n * s.toInt) - s.toInt := by
    rw [i32_sub (by rw [e0]; omega) (by rw [e0]; omega), e0]
  have e2 : ((n + 1 : Nat) : Int) * s.toInt = n * s.toInt + s.toInt := by rw [Int.natCast_add, Int.add_mul]; simp
  have e3 := dY_t d s (n + 1)
  rw [e2] at e3
  have sg : (0 ≤ s.toInt → 0 ≤ (n : Int) * s.toInt) ∧ (s.toInt ≤ 0 → (n : Int) * s.toInt ≤ 0) := by
    constructor
    · intro h; exact Int.mul_nonneg (by omega) h
    · intro h; exact Int.mul_nonpos_of_nonneg_of_nonpos (by omega) h
  unfold m_X7_silted
  simp only [gnm_s, i32_le, e1, show (-20 : Int32).toInt = -20 from rfl, show (60 : Int32).toInt = 60 from rfl]
  generalize (n : Int) * s.toInt = m at e0 e1 e3 sg
  by_cases c1 : -20 ≤ cl8 (d.toInt - m) - s.toInt
  · rw [if_pos c1]
    by_cases c2 : cl8 (d.toInt - m) - s.toInt ≤ 60
    · rw [if_pos c2]
      congr 1
      rw [i32_eq, e1, e3]
      unfold cl8 at *
      split at c1 <;> (repeat' split at c2) <;> (repeat' split) <;> omega
    · rw [if_neg c2]
      congr 1
      rw [i32_eq, e3, show (60 : Int32).toInt = 60 from rfl]
      unfold cl8 at *
      split at c1 <;> (repeat' split at c2) <;> (repeat' split) <;> omega
  · rw [if_neg c1]
    congr 1
    rw [i32_eq, e3, show (-20 : Int32).toInt = -20 from rfl]
    unfold cl8 at *
    (repeat' split at c1) <;> (repeat' split) <;> omega
theorem q_depthIn {σ : gMem} {z : Nat → Int32} (h : Rg 1 13 σ z) {a n : Nat} (ha : a < 12) (hn : n ≤ 100) (hd : -20 ≤ (z a).toInt ∧ (z a).toInt ≤ 60) (hs : -5 ≤ (z (24 + a)).toInt ∧ (z (24 + a)).toInt ≤ 5) : m_X1_depthIn (nI a) (nI n) σ = some (dY (z a) (z (24 + a)) n) := by
  have e1 : (nI n * z (24 + a)).toInt = n * (z (24 + a)).toInt := by
    have := n30 hn hs
    rw [i32_mul (by rw [nI_toInt (by omega)]; omega) (by rw [nI_toInt (by omega)]; omega), nI_toInt (by omega)]
  have e2 : (z a - nI n * z (24 + a)).toInt = (z a).toInt - n * (z (24 + a)).toInt := by
    have := n30 hn hs
    rw [i32_sub (by rw [e1]; omega) (by rw [e1]; omega), e1]
  simp only [m_X1_depthIn, inb_t ha (show 12 < 2 ^ 31 by decide), gck_s, nI_clamp (show a < 2 ^ 31 by omega), Rg_dep h ha, Rg_sil h ha]
  congr 1
  rw [i32_eq, dY_t]
  generalize z a - nI n * z (24 + a) = x at e2
  rw [← e2]
  unfold gmin gmax cl8
  simp only [i32_lt, show (-20 : Int32).toInt = -20 from rfl]
  by_cases c1 : -20 < x.toInt
  · rw [if_pos c1]
    simp only [show (60 : Int32).toInt = 60 from rfl]
    by_cases c2 : x.toInt < 60
    · rw [if_pos c2, if_neg (by omega), if_neg (by omega)]
    · rw [if_neg c2, if_neg (by omega)]
      by_cases c3 : 60 < x.toInt
      · rw [if_pos c3]; rfl
      · rw [if_neg c3]; show (60 : Int) = _; omega
  · rw [if_neg c1]
    simp only [show (-20 : Int32).toInt = -20 from rfl, show (60 : Int32).toInt = 60 from rfl]
    rw [if_pos (by decide)]
    by_cases c3 : x.toInt < -20
    · rw [if_pos c3]; rfl
    · rw [if_neg c3, if_neg (by omega)]; show (-20 : Int) = _; omega
/-- all depths n years on, of the first k places n + 1 -/
def zY (z : Nat → Int32) (p n k : Nat) : Nat → Int32 := fun j => if j < p then dY (z j) (z (24 + j)) (if j < k then n + 1 else n) else z j
theorem q_yearsM1 {μ : gMem} {z : Nat → Int32} {p q n' y n : Nat} (w : WF p q n' y z) (hn : n ≤ 99) : m_X7_years_41 gFU 0 (grow μ 1 (zY z p n 0)) = some (grow μ 1 (zY z p (n + 1) 0)) := by
  have hp := w.1.1
  have hp12 := w.1.2.2.2.2.1
  have e0 : grow μ 1 (zY z p n p) = grow μ 1 (zY z p (n + 1) 0) := by
    congr 1; funext j; unfold zY
    by_cases c : j < p
    · simp only [c, if_true, Nat.not_lt_zero, if_false]
    · simp only [c, if_false]
  rw [← e0]
  refine for_to (fun m k => m_X7_years_41 m (nI k) (grow μ 1 (zY z p n k))) p _ (fun m k hk => ?_) (fun m => ?_) (by omega)
  · show b_X7_years_41 (m_X7_years_41 m) (nI k) _ = _
    have c1 : ¬ nI p ≤ nI k := nI_ge hk (by omega)
    have f1 : (24 : Int32) + nI k = nI (24 + k) := by rw [show (24 : Int32) = nI 24 from rfl, nI_add]
    have f2 : (0 : Int32) + nI k = nI k := by rw [show (0 : Int32) = nI 0 from rfl, nI_add, Nat.zero_add]
    have g1 : ∀ k', grow μ 1 (zY z p n k') 1 = zY z p n k' := fun k' => if_pos rfl
    have g2 : zY z p n k 62 = nI p := by unfold zY; rw [if_neg (by omega)]; exact hp
    have g3 : zY z p n k k = dY (z k) (z (24 + k)) n := by unfold zY; rw [if_pos hk, if_neg (by omega)]
    have g4 : zY z p n k (24 + k) = z (24 + k) := by unfold zY; rw [if_neg (by omega)]
    obtain ⟨b1, b2, -, -, b5, b6⟩ := w.2.1 k hk
    simp only [b_X7_years_41, in62, gck_s, l62, g1, g2, c1, if_false, f1, f2, inb_t (show k < 528 by omega) (by decide), inb_t (show 24 + k < 528 by omega) (by decide), nI_clamp (show k < 2 ^ 31 by omega), nI_clamp (show 24 + k < 2 ^ 31 by omega), g3, g4, q_silted ⟨b1, b2⟩ ⟨b5, b6⟩ hn, gb1_s, gnm_s, nI_1]
    congr 1
    funext a; unfold gst grow
    by_cases ha : a = 1
    · subst ha
      simp only [if_true]
      funext j; unfold upd zY
      by_cases hj : j = k
      · subst hj; rw [if_pos rfl, if_pos hk, if_pos (by omega)]
      · rw [if_neg hj]
        by_cases q : j < k
        · rw [if_pos q, if_pos (show j < k + 1 by omega)]
        · rw [if_neg q, if_neg (show ¬ j < k + 1 by omega)]
    · simp only [ha, if_false]
  · show b_X7_years_41 (m_X7_years_41 m) (nI p) _ = _
    have g1 : grow μ 1 (zY z p n p) 1 = zY z p n p := if_pos rfl
    have g2 : zY z p n p 62 = nI p := by unfold zY; rw [if_neg (by omega)]; exact hp
    simp only [b_X7_years_41, in62, gck_s, l62, g1, g2, nI_le (Nat.le_refl p) (show p < 2 ^ 31 by omega), if_true]
theorem q_yearsM {μ : gMem} {p q n' y n : Nat} (w : WF p q n' y (μ 1)) (hn : n ≤ 100) : m_X7_years_34 (nI n) gFU 0 μ = some (grow μ 1 (zY (μ 1) p n 0)) := by
  have e0 : μ = grow μ 1 (zY (μ 1) p 0 0) := by
    funext a; unfold grow
    by_cases ha : a = 1
    · subst ha; rw [if_pos rfl]; funext j; unfold zY
      by_cases c : j < p
      · obtain ⟨b1, b2, -⟩ := w.2.1 j c
        rw [if_pos c, if_neg (by omega), dY_0 ⟨b1, b2⟩]
      · rw [if_neg c]
    · rw [if_neg ha]
  have := for_to (fun m k => m_X7_years_34 (nI n) m (nI k) (grow μ 1 (zY (μ 1) p k 0))) n (grow μ 1 (zY (μ 1) p n 0)) (fun m k hk => ?_) (fun m => ?_) (by omega)
  · rw [← e0] at this; exact this
  · show b_X7_years_34 (nI n) (m_X7_years_34 (nI n) m) (nI k) _ = _
    have c1 : ¬ nI n ≤ nI k := nI_ge hk (by omega)
    simp only [b_X7_years_34, c1, if_false, q_yearsM1 w (show k ≤ 99 by omega), gb1_s, gnm_s, nI_1]
  · show b_X7_years_34 (nI n) (m_X7_years_34 (nI n) m) (nI n) _ = _
    simp only [b_X7_years_34, nI_le (Nat.le_refl n) (show n < 2 ^ 31 by omega), if_true]
/-- the class's depths, the first k of them -/
theorem q_age {σ : gMem} {z : Nat → Int32} (h : Rg 1 13 σ z) {p q n' y n : Nat} (w : WF p q n' y z) (hn : n ≤ 100) : m_X1_age_2 (nI n) gFU 0 σ = some (grow σ 2 (fun j => if j < p then dY (z j) (z (24 + j)) n else σ 2 j)) := by
  have hp := w.1.1
  have hp12 := w.1.2.2.2.2.1
  have hσ : σ 1 0 = nI p := (Rg_pla h).trans hp
  have e0 : σ = grow σ 2 (fun j => if j < 0 then dY (z j) (z (24 + j)) n else σ 2 j) := by
    funext a; unfold grow
    by_cases ha : a = 2
    · subst ha; rw [if_pos rfl]; funext j; rw [if_neg (by omega)]
    · rw [if_neg ha]
  have := for_to (fun m k => m_X1_age_2 (nI n) m (nI k) (grow σ 2 (fun j => if j < k then dY (z j) (z (24 + j)) n else σ 2 j))) p (grow σ 2 (fun j => if j < p then dY (z j) (z (24 + j)) n else σ 2 j)) (fun m k hk => ?_) (fun m => ?_) (by omega)
  · rw [← e0] at this; exact this
  · show b_X1_age_2 (nI n) (m_X1_age_2 (nI n) m) (nI k) _ = _
    have c1 : ¬ nI p ≤ nI k := nI_ge hk (by omega)
    obtain ⟨b1, b2, -, -, b5, b6⟩ := w.2.1 k hk
    have g0 : grow σ 2 (fun j => if j < k then dY (z j) (z (24 + j)) n else σ 2 j) 1 = σ 1 := if_neg (by decide)
    have D : m_X1_depthIn (nI k) (nI n) (grow σ 2 (fun j => if j < k then dY (z j) (z (24 + j)) n else σ 2 j)) = some (dY (z k) (z (24 + k)) n) := by
      have := q_depthIn h (a := k) (n := n) (by omega) hn ⟨b1, b2⟩ ⟨b5, b6⟩
      have i12 := inb_t (show k < 12 by omega) (show 12 < 2 ^ 31 by decide)
      have ck := nI_clamp (show k < 2 ^ 31 by omega)
      simp only [m_X1_depthIn, i12, gck_s, ck] at this ⊢
      have s2 : grow σ 2 (fun j => if j < k then dY (z j) (z (24 + j)) n else σ 2 j) 2 k = σ 2 k := by
        unfold grow; rw [if_pos rfl, if_neg (by omega)]
      have s4 : grow σ 2 (fun j => if j < k then dY (z j) (z (24 + j)) n else σ 2 j) 4 = σ 4 := if_neg (by decide)
      rw [s2, s4]; exact this
    simp only [b_X1_age_2, g0, hσ, c1, if_false, D, gb1_s, inb_t (show k < 12 by omega) (show 12 < 2 ^ 31 by decide), gck_s, gnm_s, nI_clamp (show k < 2 ^ 31 by omega), nI_1]
    congr 1
    funext a; unfold gst grow
    by_cases ha : a = 2
    · subst ha
      simp only [if_true]
      funext j; unfold upd; dsimp only
      by_cases hj : j = k
      · subst hj; rw [if_pos rfl, if_pos (by omega)]
      · rw [if_neg hj]
        by_cases q : j < k
        · rw [if_pos q, if_pos (by omega)]
        · rw [if_neg q, if_neg (by omega)]
    · simp only [ha, if_false]
  · show b_X1_age_2 (nI n) (m_X1_age_2 (nI n) m) (nI p) _ = _
    have g0 : grow σ 2 (fun j => if j < p then dY (z j) (z (24 + j)) n else σ 2 j) 1 = σ 1 := if_neg (by decide)
    simp only [b_X1_age_2, g0, hσ, nI_le (Nat.le_refl p) (show p < 2 ^ 31 by omega), if_true]
theorem ca_n2 : ∀ k : Nat, k < 264 → ¬ k < 12 → (ca 1 13 k).1 ≠ 2 := by decide +kernel
theorem SIM_age {σ μ : gMem} (h : SIM σ μ) {p q n' y n : Nat} (w : WF p q n' y (μ 1)) : SIM (grow σ 2 (fun j => if j < p then dY (μ 1 j) (μ 1 (24 + j)) n else σ 2 j)) (grow μ 1 (zY (μ 1) p n 0)) := by
  have hp12 := w.1.2.2.2.2.1
  obtain ⟨hR, hi, ht, hs⟩ := h
  have g1 : grow μ 1 (zY (μ 1) p n 0) 1 = zY (μ 1) p n 0 := if_pos rfl
  refine ⟨?_, SIMi_fr hi (by unfold grow; rw [if_neg (by decide)]) (by unfold grow; rw [if_neg (by decide)]) (fun c h1 h2 => by unfold grow; rw [if_neg (by omega)]) (fun k hk => by rw [g1]; unfold zY; rw [if_neg (by omega)]), SIMt_fr ht (by unfold grow; rw [if_neg (by decide)]) (by unfold grow; rw [if_neg (by decide)]) (by unfold grow; rw [if_neg (by decide)]) (by unfold grow; rw [if_neg (by decide)]), SIMs_fr hs (fun c h1 h2 => by unfold grow; rw [if_neg (by omega)]) (by unfold grow; rw [if_neg (by decide)]) (by unfold grow; rw [if_neg (by decide)]) (by unfold grow; rw [if_neg (by decide)])⟩
  intro k hk
  rw [g1]
  by_cases c : k < 12
  · rw [ca_dep c]
    show (if k < p then _ else σ 2 k) = _
    unfold zY
    by_cases c2 : k < p
    · rw [if_pos c2, if_pos c2, if_neg (by omega)]
    · rw [if_neg c2, if_neg c2]; exact Rg_dep hR c
  · have e : zY (μ 1) p n 0 k = μ 1 k := by unfold zY; rw [if_neg (by omega)]
    have e2 : grow σ 2 (fun j => if j < p then dY (μ 1 j) (μ 1 (24 + j)) n else σ 2 j) (ca 1 13 k).1 = σ (ca 1 13 k).1 := if_neg (ca_n2 k hk c)
    rw [e, e2]; exact hR k hk
theorem WF_age {p q n' y n : Nat} {z : Nat → Int32} (w : WF p q n' y z) (hy : y + n ≤ 999) : WF p q n' (y + n) (upd (zY z p n 0) 65 (nI (y + n))) := by
  obtain ⟨⟨a1, a2, a3, a4, hp, hq, hn', hy'⟩, b, c, e, f, g, i, m⟩ := w
  have U : ∀ j, p ≤ j → j ≠ 65 → upd (zY z p n 0) 65 (nI (y + n)) j = z j := fun j h1 h2 => by rw [pk_un h2]; unfold zY; rw [if_neg (by omega)]
  have V : ∀ j, j < p → upd (zY z p n 0) 65 (nI (y + n)) j = dY (z j) (z (24 + j)) n := fun j h1 => by rw [pk_un (by omega)]; unfold zY; rw [if_pos h1, if_neg (by omega)]
  have W : upd (zY z p n 0) 65 (nI (y + n)) 65 = nI (y + n) := pk_us
  generalize upd (zY z p n 0) 65 (nI (y + n)) = z' at U V W
  refine ⟨⟨by rw [U 62 (by omega) (by omega)]; exact a1, by rw [U 63 (by omega) (by omega)]; exact a2, by rw [U 64 (by omega) (by omega)]; exact a3, W, hp, hq, hn', hy⟩, fun j hj => ?_, ?_, fun j hj => ?_, ?_, fun j hj => ?_, fun j hj => ?_, fun s t hs ht => ?_⟩
  · obtain ⟨-, -, b3, b4, b5, b6⟩ := b j hj
    have := cl8_r ((z j).toInt - n * (z (24 + j)).toInt)
    rw [V j hj, dY_t, U (12 + j) (by omega) (by omega), U (24 + j) (by omega) (by omega)]
    exact ⟨this.1, this.2, b3, b4, b5, b6⟩
  · have : ∀ r, r ≤ p → npo z' 99 r = npo z 99 r := by
      intro r
      induction r with
      | zero => intro _; rfl
      | succ r ih => intro hr; simp only [npo, ih (by omega), U (12 + r) (by omega) (by omega)]
    rw [this p (Nat.le_refl _)]; exact c
  · rw [U (36 + j) (by omega) (by omega)]; exact e j hj
  · rw [U 60 (by omega) (by omega), U 61 (by omega) (by omega)]; exact f
  · rw [U (66 + j) (by omega) (by omega), U (74 + j) (by omega) (by omega), U (82 + j) (by omega) (by omega)]; exact g j hj
  · rw [U (90 + j) (by omega) (by omega), U (100 + j) (by omega) (by omega), U (110 + j) (by omega) (by omega)]; exact i j hj
  · rw [U (120 + 12 * s + t) (by omega) (by omega), U (120 + 12 * t + s) (by omega) (by omega)]; exact m s t hs ht
theorem wi_1n {m : Nat} (hm : m ≤ 100000) (a : Int32) : wi a 1 (nI m) = 0 ∨ (wi a 1 (nI m) = 1 ∧ ∃ i, 1 ≤ i ∧ i ≤ m ∧ a = nI i) := by
  rcases wi_r a 1 (nI m) with h | ⟨h, h1, h2⟩
  · exact Or.inl h
  · rw [nI_toInt (by omega)] at h2
    have h1 : (1 : Int) ≤ a.toInt := h1
    obtain ⟨j, hj, rfl⟩ := nat_of (n := m) (by omega) h2 (by omega)
    rw [nI_toInt (by omega)] at h1
    exact Or.inr ⟨h, j, by omega, hj, rfl⟩
theorem p_years {σ μ : gMem} (h : INV σ μ) (a : Int32) : OKu σ μ (m_X6_years a σ) (m_X7_years a μ) := by
  have ea : m_X7_in a.toInt64 1 30 μ = some (wi a 1 30) := q_in a 1 30 μ
  rcases wi_1n (m := 30) (by decide) a with hv | ⟨hv, n, h1, h2, rfl⟩
  · replace hv : wi a 1 30 = 0 := hv
    exact ⟨-1, σ, μ, by simp only [m_X6_years, q_within, gb1_s, hv, if_true], by simp only [m_X7_years, ea, gb1_s, hv, if_true], h⟩
  replace hv : wi (nI n) 1 30 = 1 := hv
  obtain ⟨hs, p, q, n', y, w⟩ := h
  have hy := w.1.2.2.2.1
  have hy9 := w.1.2.2.2.2.2.2.2
  have hσ : σ 1 16 = nI y := (Rg_yea hs.1).trans hy
  have l1 : nI y ≤ 999 - nI n ↔ y + n ≤ 999 := by
    rw [show (999 : Int32) = nI 999 from rfl, nI_sub (by omega), nI_leI (by omega) (by omega)]; omega
  have l2 : nI (y + n) ≤ 999 ↔ y + n ≤ 999 := nI_leI (b := 999) (by omega) (by decide)
  by_cases full : y + n ≤ 999
  · have S := SIM_age hs (n := n) w
    have S2 := SIM_set S (k := 65) (by omega) (c := 1) (s := 16) rfl (nI (y + n))
    refine ⟨nI (y + n), gst (grow σ 2 (fun j => if j < p then dY (μ 1 j) (μ 1 (24 + j)) n else σ 2 j)) 1 16 (nI (y + n)), gst (grow μ 1 (zY (μ 1) p n 0)) 1 65 (nI (y + n)), ?_, ?_, S2, p, q, n', y + n, ?_⟩
    · have g0 : grow σ 2 (fun j => if j < p then dY (μ 1 j) (μ 1 (24 + j)) n else σ 2 j) 1 = σ 1 := if_neg (by decide)
      simp only [m_X6_years, q_within, gb1_s, hv, ne10, if_false, hσ, l1, full, if_true, m_X1_age, q_age hs.1 w (show n ≤ 100 by omega), gnm_s, g0, nI_add, gst_eq, pk_us]
    · have g1 : grow μ 1 (zY (μ 1) p n 0) 1 = zY (μ 1) p n 0 := if_pos rfl
      have g2 : zY (μ 1) p n 0 65 = nI y := by unfold zY; rw [if_neg (by have := w.1.2.2.2.2.1; omega)]; exact hy
      simp only [m_X7_years, ea, gb1_s, hv, ne10, if_false, in65, gck_s, l65, hy, l2, full, if_true, q_yearsM w (show n ≤ 100 by omega), gnm_s, g1, g2, nI_add, gst_eq, pk_us]
    · have g1 : grow μ 1 (zY (μ 1) p n 0) 1 = zY (μ 1) p n 0 := if_pos rfl
      rw [gst_eq, g1]; exact WF_age w full
  · refine ⟨-3, σ, μ, ?_, ?_, hs, p, q, n', y, w⟩
    · simp only [m_X6_years, q_within, gb1_s, hv, ne10, if_false, hσ, l1, full]
    · simp only [m_X7_years, ea, gb1_s, hv, ne10, if_false, in65, gck_s, l65, hy, nI_add, l2, full]
/-- one of people at home, n years on -/
def sH (z : Nat → Int32) (k h n : Nat) : Int32 := sB z (z (66 + k)) (z (74 + k)) (z 65 + nI n) (sW z (dY (z (z (82 + k)).toNatClampNeg) (z (24 + (z (82 + k)).toNatClampNeg)) n) h (z 60))
theorem sH_01 (z : Nat → Int32) (k h n : Nat) : sH z k h n = 0 ∨ sH z k h n = 1 := sB_01 _ _ _ _ _
theorem q_homeIn {σ : gMem} {z : Nat → Int32} (hR : Rg 1 13 σ z) {p q n' y : Nat} (w : WF p q n' y z) {k t n : Nat} (hk : k < q) (ht : t < 24) (hn : n ≤ 100) : m_X1_standsAtHomeIn (nI k) (nI t) (nI n) σ = some (sH z k t n) := by
  have hp12 := w.1.2.2.2.2.1
  have hq8 := w.1.2.2.2.2.2.1
  obtain ⟨-, g1, g2, a, ha, ea⟩ := w.2.2.2.2.2.1 k hk
  obtain ⟨b1, b2, -, -, b5, b6⟩ := w.2.1 a ha
  have i8 := inb_t (show k < 8 by omega) (show 8 < 2 ^ 31 by decide)
  have ck := nI_clamp (show k < 2 ^ 31 by omega)
  have k8 : k < 8 := by omega
  simp only [m_X1_standsAtHomeIn, i8, gck_s, ck, Rg_hom hR k8, ea, q_depthIn hR (a := a) (by omega) hn ⟨b1, b2⟩ ⟨b5, b6⟩, gb1_s, q_waterOver hR ht, Rg_flo hR, Rg_kin hR k8, Rg_tol hR k8, Rg_yea hR, q_bears hR (show 0 ≤ (z (74 + k)).toInt ∧ (z (74 + k)).toInt ≤ 100000 from ⟨g1, by omega⟩), izb_w (sB_01 _ _ _ _ _), sH, nI_clamp (show a < 2 ^ 31 by omega)]
theorem sH_0 {p q n' y : Nat} {z : Nat → Int32} (w : WF p q n' y z) {k t : Nat} (hk : k < q) : sH z k t 0 = sD z k (z (74 + k)) (z (82 + k)).toNatClampNeg t := by
  obtain ⟨-, g1, g2, a, ha, ea⟩ := w.2.2.2.2.2.1 k hk
  have hp12 := w.1.2.2.2.2.1
  obtain ⟨b1, b2, -⟩ := w.2.1 a ha
  unfold sH sD
  rw [ea, nI_clamp (by omega), dY_0 ⟨b1, b2⟩, show z 65 + nI 0 = z 65 from add0 _]
/-- who is wrong then -/
def sWr (z : Nat → Int32) (t n k : Nat) : Int32 := if sH z k t 0 = 0 then 0 else if sH z k t n = 0 then 1 else 0
theorem p_wrong {σ μ : gMem} (h : INV σ μ) (a b : Int32) : OKp (m_X6_wrong a b σ) (m_X7_wrong a b μ) := by
  have ea : m_X7_in a.toInt64 1 30 μ = some (wi a 1 30) := q_in a 1 30 μ
  rcases wi_1n (m := 30) (by decide) a with hv | ⟨hv, n, h1, h2, rfl⟩
  · replace hv : wi a 1 30 = 0 := hv
    exact ⟨-1, by simp only [m_X6_wrong, q_within, gb1_s, hv, if_true], by simp only [m_X7_wrong, ea, gb1_s, hv, if_true]⟩
  replace hv : wi (nI n) 1 30 = 1 := hv
  rcases wi_n (m := 23) (by decide) b with hw | ⟨hw, t, ht, rfl⟩
  · replace hw : wi b 0 23 = 0 := hw
    exact ⟨-1, by simp only [m_X6_wrong, q_within, q_isHour, gb1_s, hv, hw, ne10, if_true, if_false], by simp only [m_X7_wrong, ea, q_isHourM, gb1_s, hv, hw, ne10, if_true, if_false]⟩
  replace hw : wi (nI t) 0 23 = 1 := hw
  obtain ⟨hs, p, q, n', y, w⟩ := h
  have hq := w.1.2.1
  have hp12 := w.1.2.2.2.2.1
  have hq8 := w.1.2.2.2.2.2.1
  have hσ : σ 1 8 = nI q := (Rg_peo hs.1).trans hq
  have L1 : m_X6_wrong_24 (nI n) (nI t) σ gFU 0 0 = some (sBits (sWr (μ 1) t n) q) := by
    refine for_to (fun m k => m_X6_wrong_24 (nI n) (nI t) σ m (sBits (sWr (μ 1) t n) k) (nI k)) q _ (fun m k hk => ?_) (fun m => ?_) (by omega)
    · show b_X6_wrong_24 (nI n) (nI t) σ (m_X6_wrong_24 (nI n) (nI t) σ m) _ (nI k) = _
      have c1 : ¬ nI q ≤ nI k := nI_ge hk (by omega)
      have H0 : m_X1_standsAtHomeIn (nI k) (nI t) 0 σ = some (sH (μ 1) k t 0) := q_homeIn hs.1 w hk (by omega) (n := 0) (by omega)
      have H1 := q_homeIn hs.1 w hk (show t < 24 by omega) (n := n) (by omega)
      simp only [b_X6_wrong_24, hσ, c1, if_false, H0, H1, gb1_s, gnm_s, nI_1, sBits, sWr]
      rcases sH_01 (μ 1) k t 0 with f0 | f0 <;> rcases sH_01 (μ 1) k t n with f1 | f1 <;> simp only [f0, f1, if_true, ne10, if_false]
    · show b_X6_wrong_24 (nI n) (nI t) σ (m_X6_wrong_24 (nI n) (nI t) σ m) _ (nI q) = _
      simp only [b_X6_wrong_24, hσ, nI_le (Nat.le_refl q) (show q < 2 ^ 31 by omega), if_true]
  have L2 : m_X7_wrong_26 (nI n) (nI t) μ gFU 0 0 = some (sBits (sWr (μ 1) t n) q) := by
    refine for_to (fun m k => m_X7_wrong_26 (nI n) (nI t) μ m (sBits (sWr (μ 1) t n) k) (nI k)) q _ (fun m k hk => ?_) (fun m => ?_) (by omega)
    · show b_X7_wrong_26 (nI n) (nI t) μ (m_X7_wrong_26 (nI n) (nI t) μ m) _ (nI k) = _
      have c1 : ¬ nI q ≤ nI k := nI_ge hk (by omega)
      obtain ⟨-, g1, g2, s, hs1, es⟩ := w.2.2.2.2.2.1 k hk
      obtain ⟨b1, b2, -, -, b5, b6⟩ := w.2.1 s hs1
      have f1 : (82 : Int32) + nI k = nI (82 + k) := by rw [show (82 : Int32) = nI 82 from rfl, nI_add]
      have f2 : (0 : Int32) + nI s = nI s := by rw [show (0 : Int32) = nI 0 from rfl, nI_add, Nat.zero_add]
      have f3 : (66 : Int32) + nI k = nI (66 + k) := by rw [show (66 : Int32) = nI 66 from rfl, nI_add]
      have f4 : (74 : Int32) + nI k = nI (74 + k) := by rw [show (74 : Int32) = nI 74 from rfl, nI_add]
      have f5 : (24 : Int32) + nI s = nI (24 + s) := by rw [show (24 : Int32) = nI 24 from rfl, nI_add]
      have LL : m_X7_wrong_64 (nI n) (nI s) μ gFU (μ 1 s) 0 = some (dY (μ 1 s) (μ 1 (24 + s)) n) := by
        have := for_to (fun m j => m_X7_wrong_64 (nI n) (nI s) μ m (dY (μ 1 s) (μ 1 (24 + s)) j) (nI j)) n (dY (μ 1 s) (μ 1 (24 + s)) n) (fun m j hj => ?_) (fun m => ?_) (by omega)
        · rw [dY_0 ⟨b1, b2⟩] at this; exact this
        · show b_X7_wrong_64 (nI n) (nI s) μ (m_X7_wrong_64 (nI n) (nI s) μ m) _ (nI j) = _
          have c2 : ¬ nI n ≤ nI j := nI_ge hj (by omega)
          simp only [b_X7_wrong_64, c2, if_false, f5, inb_t (show 24 + s < 528 by omega) (by decide), gck_s, nI_clamp (show 24 + s < 2 ^ 31 by omega), q_silted ⟨b1, b2⟩ ⟨b5, b6⟩ (show j ≤ 99 by omega), gb1_s, gnm_s, nI_1]
        · show b_X7_wrong_64 (nI n) (nI s) μ (m_X7_wrong_64 (nI n) (nI s) μ m) _ (nI n) = _
          simp only [b_X7_wrong_64, nI_le (Nat.le_refl n) (show n < 2 ^ 31 by omega), if_true]
      have S0 := sH_0 w (t := t) hk
      rw [es, nI_clamp (show s < 2 ^ 31 by omega)] at S0
      have S1 : sB (μ 1) (μ 1 (66 + k)) (μ 1 (74 + k)) (μ 1 65 + nI n) (sW (μ 1) (dY (μ 1 s) (μ 1 (24 + s)) n) t (μ 1 60)) = sH (μ 1) k t n := by
        unfold sH; rw [es, nI_clamp (show s < 2 ^ 31 by omega)]
      simp only [b_X7_wrong_26, in63, gck_s, l63, hq, c1, if_false, f1, inb_t (show 82 + k < 528 by omega) (by decide), gnm_s, nI_clamp (show 82 + k < 2 ^ 31 by omega), es, f2, inb_t (show s < 528 by omega) (by decide), nI_clamp (show s < 2 ^ 31 by omega), LL, gb1_s, f3, f4, inb_t (show 66 + k < 528 by omega) (by decide), inb_t (show 74 + k < 528 by omega) (by decide), in65, in60, l65, l60, nI_clamp (show 66 + k < 2 ^ 31 by omega), nI_clamp (show 74 + k < 2 ^ 31 by omega), q_waterBy (show t < 24 by omega), q_standsBy, q_does (show k < 8 by omega) (show s < 12 by omega) (show t < 24 by omega), ← S0, S1, nI_1, sBits, sWr, or0]
      rcases sH_01 (μ 1) k t 0 with f0 | f0 <;> rcases sH_01 (μ 1) k t n with f1 | f1 <;> simp only [f0, f1, if_true, ne10, if_false]
    · show b_X7_wrong_26 (nI n) (nI t) μ (m_X7_wrong_26 (nI n) (nI t) μ m) _ (nI q) = _
      simp only [b_X7_wrong_26, in63, gck_s, l63, hq, nI_le (Nat.le_refl q) (show q < 2 ^ 31 by omega), if_true]
  exact ⟨sBits (sWr (μ 1) t n) q, by simp only [m_X6_wrong, q_within, q_isHour, gb1_s, hv, hw, ne10, if_false, L1], by simp only [m_X7_wrong, ea, q_isHourM, gb1_s, hv, hw, ne10, if_false, L2]⟩
