/-! ===== pairs: the class's side ===== -/
def sLen (z : Nat → Int32) (k : Nat) : Int32 := sK (z (66 + k)) (z (74 + k)) (z 65)
def dLen (z : Nat → Int32) (k : Nat) : Int := (sLen z k).toInt
theorem dLen_r {p q n y : Nat} {z : Nat → Int32} (w : WF p q n y z) {k : Nat} (hk : k < q) : 0 ≤ dLen z k ∧ dLen z k ≤ 2000 := by
  obtain ⟨-, g1, g2, -⟩ := w.2.2.2.2.2.1 k hk
  have ey := w.1.2.2.2.1
  have y9 := w.1.2.2.2.2.2.2.2
  have yt : (z 65).toInt = (y : Int) := by rw [ey, nI_toInt (by omega)]
  unfold dLen sLen sK
  split
  · split
    · exact ⟨by decide, by decide⟩
    · rename_i c
      have c' : ¬ (z (74 + k)).toInt ≤ 2 := fun h => c (i32_le.mpr h)
      rw [i32_sub (by show _ ≤ _ - (2 : Int); omega) (by show _ - (2 : Int) < _; omega)]
      show 0 ≤ _ - (2 : Int) ∧ _ - (2 : Int) ≤ _; omega
  · split
    · rw [i32_add (by omega) (by omega)]; omega
    · omega
theorem q_lengthOf {σ : gMem} {z : Nat → Int32} (hR : Rg 1 13 σ z) {p q n y : Nat} (w : WF p q n y z) {k : Nat} (hk : k < q) : m_X1_lengthOf (nI k) σ = some (sLen z k) := by
  obtain ⟨-, g1, g2, -⟩ := w.2.2.2.2.2.1 k hk
  have q8 := w.1.2.2.2.2.2.1
  simp only [m_X1_lengthOf, inb_t (show k < 8 by omega) (show 8 < 2 ^ 31 by decide), gck_s, nI_clamp (show k < 2 ^ 31 by omega), Rg_kin hR (show k < 8 by omega), Rg_tol hR (show k < 8 by omega), Rg_yea hR, q_byKind (show 0 ≤ (z (74 + k)).toInt ∧ (z (74 + k)).toInt ≤ 100000 from ⟨g1, by omega⟩), gb1_s, sLen]
theorem q_shortest {σ : gMem} {z : Nat → Int32} (hR : Rg 1 13 σ z) {p q n y : Nat} (w : WF p q n y z) {l : Nat} (hl : l < 2 ^ q) (l0 : l ≠ 0) : ∃ i, i < q ∧ tb l i = 1 ∧ m_X1_shortestOf (nI l) σ = some (nI i) ∧ ∀ x, tb l x = 1 → dLen z i ≤ dLen z x := by
  have hq8 := w.1.2.2.2.2.2.1
  have p1 := pow_r q hq8
  have hq : σ 1 8 = nI q := (Rg_peo hR).trans w.1.2.1
  have P : ∀ k, k ≤ q → ∃ o : Option Nat, (∀ m, m_X1_shortestOf_4 (nI l) σ (m + k) (-1) 0 = m_X1_shortestOf_4 (nI l) σ m (oI o) (nI k)) ∧ (match o with | none => ∀ x, x < k → tb l x = 0 | some i => i < k ∧ tb l i = 1 ∧ ∀ x, x < k → tb l x = 1 → dLen z i ≤ dLen z x) := by
    intro k
    induction k with
    | zero => intro _; exact ⟨none, fun m => rfl, fun x hx => absurd hx (by omega)⟩
    | succ k ih =>
      intro hk
      obtain ⟨o, e1, e2⟩ := ih (by omega)
      have c1 : ¬ nI q ≤ nI k := nI_ge (by omega) (by omega)
      have H : m_X6_holds (nI l) (nI k) σ = some (nI (tb l k)) := by rw [q_holds, fb1 l (by omega) k (by omega)]
      have S : ∀ m, m_X1_shortestOf_4 (nI l) σ (m + (k + 1)) (-1) 0 = b_X1_shortestOf_4 (nI l) σ (m_X1_shortestOf_4 (nI l) σ m) (oI o) (nI k) := by
        intro m
        rw [show m + (k + 1) = (m + 1) + k by omega, e1 (m + 1)]; rfl
      rcases tb_01 l k with t0 | t0
      · refine ⟨o, fun m => ?_, ?_⟩
        · rw [S m]
          simp only [b_X1_shortestOf_4, hq, c1, if_false, H, t0, gb1_s, show nI 0 = 0 from rfl, if_true, gnm_s, nI_1]
        · cases o with
          | none =>
            intro x hx
            by_cases e : x = k
            · subst e; exact t0
            · exact e2 x (by omega)
          | some i =>
            obtain ⟨a1, a2, a3⟩ := e2
            refine ⟨by omega, a2, fun x hx tx => ?_⟩
            by_cases e : x = k
            · subst e; omega
            · exact a3 x (by omega) tx
      · have n1 : ¬ nI 1 = 0 := by decide
        cases o with
        | none =>
          refine ⟨some k, fun m => ?_, by omega, t0, fun x hx tx => ?_⟩
          · rw [S m]
            simp only [b_X1_shortestOf_4, hq, c1, if_false, H, t0, gb1_s, n1, oI, show (-1 : Int32) < 0 from by decide, if_true, gnm_s, nI_1]
          · by_cases e : x = k
            · subst e; exact Int.le_refl _
            · have := e2 x (by omega); omega
        | some i =>
          obtain ⟨a1, a2, a3⟩ := e2
          have n2 : ¬ nI i < 0 := nI_pos (by omega)
          by_cases c : sLen z i ≤ sLen z k
          · refine ⟨some i, fun m => ?_, by omega, a2, fun x hx tx => ?_⟩
            · rw [S m]
              simp only [b_X1_shortestOf_4, hq, c1, if_false, H, t0, gb1_s, n1, oI, n2, q_lengthOf hR w (show k < q by omega), q_lengthOf hR w (show i < q by omega), c, if_true, gnm_s, nI_1]
            · by_cases e : x = k
              · subst e; exact i32_le.mp c
              · exact a3 x (by omega) tx
          · have c' : dLen z k < dLen z i := Int.not_le.mp (fun h => c (i32_le.mpr h))
            refine ⟨some k, fun m => ?_, by omega, t0, fun x hx tx => ?_⟩
            · rw [S m]
              simp only [b_X1_shortestOf_4, hq, c1, if_false, H, t0, gb1_s, n1, oI, n2, q_lengthOf hR w (show k < q by omega), q_lengthOf hR w (show i < q by omega), c, gnm_s, nI_1]
            · by_cases e : x = k
              · subst e; exact Int.le_refl _
              · have := a3 x (by omega) tx; omega
  obtain ⟨o, e1, e2⟩ := P q (Nat.le_refl _)
  have R : m_X1_shortestOf_4 (nI l) σ gFU (-1) 0 = some (oI o) := by
    obtain ⟨m, hm⟩ := fu_split (show q < 100000 by omega)
    rw [hm, e1 (m + 1)]
    show b_X1_shortestOf_4 (nI l) σ (m_X1_shortestOf_4 (nI l) σ m) (oI o) (nI q) = _
    simp only [b_X1_shortestOf_4, hq, nI_le (Nat.le_refl q) (show q < 2 ^ 31 by omega), if_true]
  have inq : ∀ x, tb l x = 1 → x < q := fun x tx => by
    by_cases c : x < q
    · exact c
    · have := tb_hi q hq8 l hl x (el8 (by omega) tx) (by omega); omega
  cases o with
  | none =>
    exfalso
    obtain ⟨k, hk, tk⟩ := ex_bit l (by omega) l0
    have := e2 k (inq k tk); omega
  | some i =>
    obtain ⟨a1, a2, a3⟩ := e2
    refine ⟨i, a1, a2, ?_, fun x tx => a3 x (inq x tx) tx⟩
    have g : gmax 0 (nI i) = nI i := by
      unfold gmax
      by_cases c : i = 0
      · subst c; rfl
      · have pz : (0 : Int32) < nI i := nI_lt (a := 0) (b := i) (by omega) (by omega)
        rw [if_pos pz]
    simp only [m_X1_shortestOf, R, gb1_s, oI, g]
/-- the greedy loop gives the most -/
theorem q_greedy {σ : gMem} {z : Nat → Int32} (hR : Rg 1 13 σ z) {p q n y : Nat} (w : WF p q n y z) {a : Int32} {T : Nat → Nat} (PS : PSp (cD (dLen z) a.toInt) T (2 ^ q)) : ∀ d t m l k, t + d = 8 → d < m → l < 2 ^ q → pc l ≤ d → ∃ c, m_X6_pairs_29 a σ m (nI k) (nI l) (nI t) = some (c, nI (k + T l)) := by
  have hq8 := w.1.2.2.2.2.2.1
  have p1 := pow_r q hq8
  intro d
  induction d with
  | zero =>
    intro t m l k ht hm hl hp
    obtain ⟨m', rfl⟩ : ∃ m', m = m' + 1 := ⟨m - 1, by omega⟩
    obtain rfl : t = 8 := by omega
    have l0 : l = 0 := by
      by_cases e : l = 0
      · exact e
      · obtain ⟨x, hx, tx⟩ := ex_bit l (by omega) e
        have := (cl_r l (by omega) x hx).2 tx; omega
    subst l0
    have T0 := PS_0 PS (by omega)
    refine ⟨1, ?_⟩
    show b_X6_pairs_29 a σ (m_X6_pairs_29 a σ m') (nI k) (nI 0) (nI 8) = _
    simp only [b_X6_pairs_29, show (8 : Int32) ≤ nI 8 from by decide, if_true, T0, Nat.add_zero]
  | succ d ih =>
    intro t m l k ht hm hl hp
    obtain ⟨m', rfl⟩ : ∃ m', m = m' + 1 := ⟨m - 1, by omega⟩
    have c1 : ¬ (8 : Int32) ≤ nI t := nI_ge (b := 8) (by omega) (by decide)
    have U : m_X6_pairs_29 a σ (m' + 1) (nI k) (nI l) (nI t) = b_X6_pairs_29 a σ (m_X6_pairs_29 a σ m') (nI k) (nI l) (nI t) := rfl
    by_cases l0 : l = 0
    · subst l0
      have T0 := PS_0 PS (by omega)
      refine ⟨1, ?_⟩
      rw [U]
      simp only [b_X6_pairs_29, c1, if_false, show nI 0 = 0 from rfl, if_true, T0, Nat.add_zero]
    have n0 : ¬ nI l = 0 := nI_ne0 (by omega) (by omega)
    obtain ⟨i, hi, ei, si, mi⟩ := q_shortest hR w hl l0
    have G := PS_G p1.2 PS hl ei mi
    have ci := (cl_r l (by omega) i (by omega)).2 ei
    have f3 := fb3 l (by omega) i (by omega)
    by_cases z0 : cl l i = 0
    · have Tl := G.1 z0
      refine ⟨0, ?_⟩
      rw [U]
      simp only [b_X6_pairs_29, c1, if_false, n0, si, gb1_s, f3, gnm_s, z0, show nI 0 = 0 from rfl, if_true, Tl, Nat.add_zero]
    have n1 : ¬ nI (cl l i) = 0 := nI_ne0 (by omega) (by omega)
    obtain ⟨j, hj, ej, sj, mj⟩ := q_shortest hR w (show cl l i < 2 ^ q by omega) z0
    have G2 := G.2 j ej mj
    have cj := (cl_r (cl l i) (by omega) j (by omega)).2 ej
    have f4 := fb3 (cl l i) (by omega) j (by omega)
    have ri := dLen_r w hi
    have rj := dLen_r w hj
    have df : (sLen z j - sLen z i).toInt = dLen z j - dLen z i := i32_sub (by unfold dLen at ri rj; omega) (by unfold dLen at ri rj; omega)
    by_cases c : a < sLen z j - sLen z i
    · have h := i32_lt.mp c
      rw [df] at h
      have Tl := G2.2 (by omega)
      obtain ⟨c', e⟩ := ih (t + 1) m' (cl l i) k (by omega) (by omega) (by omega) (by omega)
      refine ⟨c', ?_⟩
      rw [U, Tl]
      simp only [b_X6_pairs_29, c1, if_false, n0, si, gb1_s, f3, gnm_s, n1, sj, q_lengthOf hR w hi, q_lengthOf hR w hj, c, if_true, nI_1, e]
    · have h : ¬ a.toInt < dLen z j - dLen z i := fun h => c (i32_lt.mpr (by rw [df]; exact h))
      have Tl := G2.1 (by omega)
      obtain ⟨c', e⟩ := ih (t + 1) m' (cl (cl l i) j) (k + 1) (by omega) (by omega) (by omega) (by omega)
      refine ⟨c', ?_⟩
      rw [U, Tl, show k + (1 + T (cl (cl l i) j)) = k + 1 + T (cl (cl l i) j) by omega]
      simp only [b_X6_pairs_29, c1, if_false, n0, si, gb1_s, f3, gnm_s, n1, sj, q_lengthOf hR w hi, q_lengthOf hR w hj, c, nI_1, f4, e]
