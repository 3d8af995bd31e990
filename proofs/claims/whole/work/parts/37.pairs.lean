/-! ===== pairs: the reference's side ===== -/
theorem fp1 : ∀ m, m < 256 → ∀ i, i < 8 → ∀ j, j < 8 → ((nI m &&& (((1 : Int32) <<< (nI i &&& 31)) ||| ((1 : Int32) <<< (nI j &&& 31)))) = (((1 : Int32) <<< (nI i &&& 31)) ||| ((1 : Int32) <<< (nI j &&& 31))) ↔ tb m i = 1 ∧ tb m j = 1) := by decide +kernel
theorem fp2 : ∀ m, m < 256 → ∀ i, i < 8 → ∀ j, j < 8 → nI m &&& ((((1 : Int32) <<< (nI i &&& 31)) ||| ((1 : Int32) <<< (nI j &&& 31))) ^^^ (-1)) = nI (cl (cl m i) j) := by decide +kernel
theorem q_of2 {μ : gMem} {p q n y : Nat} (w : WF p q n y (μ 1)) {k : Nat} (hk : k < q) : m_X7_of (nI k) 2 μ = some (sLen (μ 1) k) := by
  have hq := w.1.2.1
  have q8 := w.1.2.2.2.2.2.1
  have hw : wi (nI k) 0 (nI q - 1) = 1 := by
    rcases wi_c (n := q) (by omega) (nI k) with h | ⟨h, -⟩
    · exfalso
      have := wi_0.mp h
      rw [show (1 : Int32) = nI 1 from rfl, nI_sub (by omega), nI_toInt (by omega), nI_toInt (by omega)] at this
      exact this ⟨by show (0 : Int) ≤ _; omega, by omega⟩
    · exact h
  have e1 : (66 : Int32) + nI k = nI (66 + k) := nI_add 66 k
  have e2 : (74 : Int32) + nI k = nI (74 + k) := nI_add 74 k
  have b1 := inb_t (show 66 + k < 528 by omega) (show 528 < 2 ^ 31 by decide)
  have b2 := inb_t (show 74 + k < 528 by omega) (show 528 < 2 ^ 31 by decide)
  have eb : m_X7_in (2 : Int32).toInt64 0 3 μ = some 1 := q_in 2 0 3 μ
  simp only [m_X7_of, q_isPerson hq, eb, gb1_s, hw, ne10, if_false, if_true, e1, e2, b1, b2, in65, l65, gck_s, nI_clamp (show 66 + k < 2 ^ 31 by omega), nI_clamp (show 74 + k < 2 ^ 31 by omega), q_byKindM, sLen]
/-- the pairs of one person with those before -/
theorem q_pair1 {μ : gMem} {p q n' y : Nat} (w : WF p q n' y (μ 1)) (a : Int32) {T : Nat → Nat} {l i : Nat} (hl : l < 2 ^ q) (hi : i < q) (hT : ∀ x, x < l → μ 12 x = nI (T x) ∧ T x ≤ 300) {v0 : Nat} (hv0 : v0 ≤ 301) : ∀ j, j ≤ i → ∃ v, v ≤ 301 ∧ (∀ m, m_X7_pairs_56 a (nI l) (nI i) (m + j) 0 (gst μ 12 l (nI v0)) = m_X7_pairs_56 a (nI l) (nI i) m (nI j) (gst μ 12 l (nI v))) ∧ v0 ≤ v ∧ (∀ x, x < j → tb l i = 1 → tb l x = 1 → cD (dLen (μ 1)) a.toInt i x → T (cl (cl l i) x) + 1 ≤ v) ∧ (v = v0 ∨ ∃ x, x < j ∧ tb l i = 1 ∧ tb l x = 1 ∧ cD (dLen (μ 1)) a.toInt i x ∧ T (cl (cl l i) x) + 1 = v) := by
  have hq8 := w.1.2.2.2.2.2.1
  have p1 := pow_r q hq8
  intro j
  induction j with
  | zero => intro _; exact ⟨v0, hv0, fun m => rfl, Nat.le_refl _, fun x hx => absurd hx (by omega), Or.inl rfl⟩
  | succ j ih =>
    intro hj
    obtain ⟨v, v1, e1, v2, v3, v4⟩ := ih (by omega)
    have S : ∀ m, m_X7_pairs_56 a (nI l) (nI i) (m + (j + 1)) 0 (gst μ 12 l (nI v0)) = b_X7_pairs_56 a (nI l) (nI i) (m_X7_pairs_56 a (nI l) (nI i) m) (nI j) (gst μ 12 l (nI v)) := by
      intro m
      rw [show m + (j + 1) = (m + 1) + j by omega, e1 (m + 1)]; rfl
    have c1 : ¬ nI i ≤ nI j := nI_ge (by omega) (by omega)
    have w' : WF p q n' y ((gst μ 12 l (nI v)) 1) := by rw [gst_ne _ _ (by decide)]; exact w
    have o1 := q_of2 w' hi
    have o2 := q_of2 w' (show j < q by omega)
    rw [gst_ne _ _ (show (1 : Nat) ≠ 12 by decide)] at o1 o2
    have f1 := fp1 l (by omega) i (by omega) j (by omega)
    have f2 := fp2 l (by omega) i (by omega) j (by omega)
    have ri := dLen_r w hi
    have rj := dLen_r w (show j < q by omega)
    have d1 : (sLen (μ 1) i - sLen (μ 1) j).toInt = dLen (μ 1) i - dLen (μ 1) j := i32_sub (by unfold dLen at ri rj; omega) (by unfold dLen at ri rj; omega)
    have d2 : (-(sLen (μ 1) i - sLen (μ 1) j)).toInt = dLen (μ 1) j - dLen (μ 1) i := by
      rw [Int32.neg_sub]; exact i32_sub (by unfold dLen at ri rj; omega) (by unfold dLen at ri rj; omega)
    -- a step that leaves all as it is
    have KEEP : ¬ (tb l i = 1 ∧ tb l j = 1 ∧ cD (dLen (μ 1)) a.toInt i j ∧ ¬ T (cl (cl l i) j) + 1 ≤ v) → (∀ x, x < j + 1 → tb l i = 1 → tb l x = 1 → cD (dLen (μ 1)) a.toInt i x → T (cl (cl l i) x) + 1 ≤ v) ∧ (v = v0 ∨ ∃ x, x < j + 1 ∧ tb l i = 1 ∧ tb l x = 1 ∧ cD (dLen (μ 1)) a.toInt i x ∧ T (cl (cl l i) x) + 1 = v) := fun h => by
      refine ⟨fun x hx t1 t2 t3 => ?_, ?_⟩
      · by_cases e : x = j
        · subst e
          exact Classical.byContradiction (fun h2 => h ⟨t1, t2, t3, h2⟩)
        · exact v3 x (by omega) t1 t2 t3
      · rcases v4 with v4 | ⟨x, x1, x2, x3, x4, x5⟩
        · exact Or.inl v4
        · exact Or.inr ⟨x, by omega, x2, x3, x4, x5⟩
    by_cases b : tb l i = 1 ∧ tb l j = 1
    · have e := f1.mpr b
      by_cases k1 : a < sLen (μ 1) i - sLen (μ 1) j
      · have h := i32_lt.mp k1
        rw [d1] at h
        obtain ⟨r1, r2⟩ := KEEP (fun h2 => by have := h2.2.2.1.1; omega)
        refine ⟨v, v1, fun m => ?_, v2, r1, r2⟩
        rw [S m]
        simp only [b_X7_pairs_56, c1, if_false, gnm_s, o1, o2, gb1_s, e, if_true, k1, nI_1]
      by_cases k2 : a < -(sLen (μ 1) i - sLen (μ 1) j)
      · have h := i32_lt.mp k2
        rw [d2] at h
        obtain ⟨r1, r2⟩ := KEEP (fun h2 => by have := h2.2.2.1.2; omega)
        refine ⟨v, v1, fun m => ?_, v2, r1, r2⟩
        rw [S m]
        simp only [b_X7_pairs_56, c1, if_false, gnm_s, o1, o2, gb1_s, e, if_true, k1, k2, nI_1]
      have hC : cD (dLen (μ 1)) a.toInt i j := ⟨Int.not_lt.mp (fun h => k1 (i32_lt.mpr (by rw [d1]; exact h))), Int.not_lt.mp (fun h => k2 (i32_lt.mpr (by rw [d2]; exact h)))⟩
      have l1 := cl_lt (show l < 256 by omega) b.1
      have l2 := cl_lt (show cl l i < 256 by omega) (el_cl (show l < 256 by omega) b.1 b.2 (by omega))
      obtain ⟨t1, t2⟩ := hT (cl (cl l i) j) (by omega)
      have g1 : gst μ 12 l (nI v) 12 (cl (cl l i) j) = nI (T (cl (cl l i) j)) := by rw [gst_eq, pk_un (by omega)]; exact t1
      have g2 : gst μ 12 l (nI v) 12 l = nI v := by rw [gst_eq, pk_us]
      have i256 := inb_t (show l < 256 by omega) (show 256 < 2 ^ 31 by decide)
      have j256 := inb_t (show cl (cl l i) j < 256 by omega) (show 256 < 2 ^ 31 by decide)
      have kl := nI_clamp (show l < 2 ^ 31 by omega)
      have kj := nI_clamp (show cl (cl l i) j < 2 ^ 31 by omega)
      have cmp := nI_leI (show T (cl (cl l i) j) + 1 < 2 ^ 31 by omega) (show v < 2 ^ 31 by omega)
      by_cases c3 : T (cl (cl l i) j) + 1 ≤ v
      · obtain ⟨r1, r2⟩ := KEEP (fun h2 => h2.2.2.2 c3)
        refine ⟨v, v1, fun m => ?_, v2, r1, r2⟩
        rw [S m]
        simp only [b_X7_pairs_56, c1, if_false, gnm_s, o1, o2, gb1_s, e, if_true, k1, k2, nI_1, f2, j256, i256, gck_s, kl, kj, g1, g2, cmp.mpr c3]
      · have c3' : ¬ nI (T (cl (cl l i) j) + 1) ≤ nI v := fun h => c3 (cmp.mp h)
        refine ⟨T (cl (cl l i) j) + 1, by omega, fun m => ?_, by omega, fun x hx u1 u2 u3 => ?_, Or.inr ⟨j, by omega, b.1, b.2, hC, rfl⟩⟩
        · rw [S m]
          simp only [b_X7_pairs_56, c1, if_false, gnm_s, o1, o2, gb1_s, e, if_true, k1, k2, nI_1, f2, j256, i256, gck_s, kl, kj, g1, g2, c3', gst_gst]
        · by_cases e : x = j
          · subst e; exact Nat.le_refl _
          · have := v3 x (by omega) u1 u2 u3; omega
    · have e : ¬ _ := fun h => b (f1.mp h)
      obtain ⟨r1, r2⟩ := KEEP (fun h2 => b ⟨h2.1, h2.2.1⟩)
      refine ⟨v, v1, fun m => ?_, v2, r1, r2⟩
      rw [S m]
      simp only [b_X7_pairs_56, c1, if_false, gnm_s, o1, o2, gb1_s, e, nI_1]
