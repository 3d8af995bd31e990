/-! ===== the pure part: image, restore ===== -/
theorem gcpy_a (σ : gMem) (k0 k1 : Nat) (sp dp n : Int32) (a : Nat) : gcpy σ k0 k1 sp dp n a = if a = k1 then va_cpy (σ k0) (σ k1) sp.toNatClampNeg dp.toNatClampNeg n.toNatClampNeg else σ a := rfl
theorem cpy0 {f g : Nat → Int32} {n j : Nat} (h : j < n) : va_cpy f g 0 0 n j = f j := by
  unfold va_cpy
  rw [if_pos ⟨Nat.zero_le _, by omega⟩]; congr 1; omega
theorem l0 : (0 : Int32).toNatClampNeg = 0 := rfl
theorem l8 : (8 : Int32).toNatClampNeg = 8 := rfl
theorem l10 : (10 : Int32).toNatClampNeg = 10 := rfl
theorem l12 : (12 : Int32).toNatClampNeg = 12 := rfl
theorem l24 : (24 : Int32).toNatClampNeg = 24 := rfl
theorem gok12 : gcok 12 12 0 0 12 = true := rfl
theorem gok24 : gcok 24 24 0 0 24 = true := rfl
theorem gok8 : gcok 8 8 0 0 8 = true := rfl
theorem gok10 : gcok 10 10 0 0 10 = true := rfl
theorem Rg_mk {o r : Nat} {σ : gMem} {z : Nat → Int32} (h1 : ∀ i, i < 12 → σ (o + 1) i = z i) (h2 : ∀ i, i < 12 → σ (o + 2) i = z (12 + i)) (h3 : ∀ i, i < 12 → σ (o + 3) i = z (24 + i)) (h4 : ∀ i, i < 24 → σ (o + 5) i = z (36 + i)) (h5 : σ o 6 = z 60) (h6 : σ o 7 = z 61) (h7 : σ o 0 = z 62) (h8 : σ o 8 = z 63) (h9 : σ o 12 = z 64) (h10 : σ o 16 = z 65) (h11 : ∀ i, i < 8 → σ (o + 6) i = z (66 + i)) (h12 : ∀ i, i < 8 → σ (o + 7) i = z (74 + i)) (h13 : ∀ i, i < 8 → σ (o + 8) i = z (82 + i)) (h14 : ∀ i, i < 10 → σ (o + 9) i = z (90 + i)) (h15 : ∀ i, i < 10 → σ (o + 10) i = z (100 + i)) (h16 : ∀ i, i < 10 → σ (o + 11) i = z (110 + i)) (h17 : ∀ i j, i < 12 → j < 12 → σ (r + i) j = z (120 + 12 * i + j)) : Rg o r σ z := by
  intro k hk
  by_cases c1 : k < 12
  · rw [ca_dep c1]; exact h1 k c1
  by_cases c2 : k < 24
  · obtain ⟨i, rfl⟩ : ∃ i, k = 12 + i := ⟨k - 12, by omega⟩
    rw [ca_spl (by omega)]; exact h2 i (by omega)
  by_cases c3 : k < 36
  · obtain ⟨i, rfl⟩ : ∃ i, k = 24 + i := ⟨k - 24, by omega⟩
    rw [ca_sil (by omega)]; exact h3 i (by omega)
  by_cases c4 : k < 60
  · obtain ⟨i, rfl⟩ : ∃ i, k = 36 + i := ⟨k - 36, by omega⟩
    rw [ca_tid (by omega)]; exact h4 i (by omega)
  by_cases c5 : k < 66
  · rcases (show k = 60 ∨ k = 61 ∨ k = 62 ∨ k = 63 ∨ k = 64 ∨ k = 65 by omega) with rfl | rfl | rfl | rfl | rfl | rfl
    · exact h5
    · exact h6
    · exact h7
    · exact h8
    · exact h9
    · exact h10
  by_cases c6 : k < 74
  · obtain ⟨i, rfl⟩ : ∃ i, k = 66 + i := ⟨k - 66, by omega⟩
    rw [ca_kin (by omega)]; exact h11 i (by omega)
  by_cases c7 : k < 82
  · obtain ⟨i, rfl⟩ : ∃ i, k = 74 + i := ⟨k - 74, by omega⟩
    rw [ca_tol (by omega)]; exact h12 i (by omega)
  by_cases c8 : k < 90
  · obtain ⟨i, rfl⟩ : ∃ i, k = 82 + i := ⟨k - 82, by omega⟩
    rw [ca_hom (by omega)]; exact h13 i (by omega)
  by_cases c9 : k < 100
  · obtain ⟨i, rfl⟩ : ∃ i, k = 90 + i := ⟨k - 90, by omega⟩
    rw [ca_who (by omega)]; exact h14 i (by omega)
  by_cases c10 : k < 110
  · obtain ⟨i, rfl⟩ : ∃ i, k = 100 + i := ⟨k - 100, by omega⟩
    rw [ca_whe (by omega)]; exact h15 i (by omega)
  by_cases c11 : k < 120
  · obtain ⟨i, rfl⟩ : ∃ i, k = 110 + i := ⟨k - 110, by omega⟩
    rw [ca_whn (by omega)]; exact h16 i (by omega)
  obtain ⟨i, j, rfl, hi, hj⟩ : ∃ i j, k = 120 + 12 * i + j ∧ i < 12 ∧ j < 12 := ⟨(k - 120) / 12, (k - 120) % 12, by omega, by omega, by omega⟩
  rw [ca_min hi hj]; exact h17 i j hi hj
/-- the reference's image -/
theorem q_imageM (μ : gMem) : ∃ μ', m_X7_image_2 gFU 0 μ = some μ' ∧ (∀ c, c ≠ 1 → μ' c = μ c) ∧ (∀ k, k < 264 → μ' 1 k = μ 1 k) ∧ ∀ k, k < 264 → μ' 1 (264 + k) = μ 1 k := by
  refine ⟨grow μ 1 (fun j => if 264 ≤ j ∧ j < 264 + 264 then μ 1 (j - 264) else μ 1 j), ?_, fun c hc => if_neg hc, fun k hk => ?_, fun k hk => ?_⟩
  · have e0 : μ = grow μ 1 (fun j => if 264 ≤ j ∧ j < 264 + 0 then μ 1 (j - 264) else μ 1 j) := by
      funext a
      unfold grow
      by_cases ha : a = 1
      · subst ha; rw [if_pos rfl]; funext j; rw [if_neg (by omega)]
      · rw [if_neg ha]
    have := for_to (fun n i => m_X7_image_2 n (nI i) (grow μ 1 (fun j => if 264 ≤ j ∧ j < 264 + i then μ 1 (j - 264) else μ 1 j))) 264 (grow μ 1 (fun j => if 264 ≤ j ∧ j < 264 + 264 then μ 1 (j - 264) else μ 1 j)) (fun n i hi => ?_) (fun n => rfl) (by decide)
    · rw [← e0] at this; exact this
    · show b_X7_image_2 (m_X7_image_2 n) (nI i) _ = _
      have c1 : ¬ (264 : Int32) ≤ nI i := nI_ge (b := 264) hi (by decide)
      have e1 : (264 : Int32) + nI i = nI (264 + i) := by rw [show (264 : Int32) = nI 264 from rfl, nI_add]
      simp only [b_X7_image_2, c1, if_false, e1, inb_t (show i < 528 by omega) (by decide), inb_t (show 264 + i < 528 by omega) (by decide), gck_s, gnm_s, nI_clamp (show i < 2 ^ 31 by omega), nI_clamp (show 264 + i < 2 ^ 31 by omega), nI_1]
      congr 1
      funext a
      unfold gst grow
      by_cases ha : a = 1
      · subst ha
        simp only [if_true]
        funext j
        unfold upd
        dsimp only
        by_cases hj : j = 264 + i
        · subst hj
          rw [if_pos rfl, if_neg (by omega), if_pos (by omega), Nat.add_sub_cancel_left]
        · rw [if_neg hj]
          by_cases q : 264 ≤ j ∧ j < 264 + i
          · rw [if_pos q, if_pos (by omega)]
          · rw [if_neg q, if_neg (by omega)]
      · simp only [ha, if_false]
  · show (if 264 ≤ k ∧ k < 264 + 264 then _ else _) = _
    rw [if_neg (by omega)]
  · show (if 264 ≤ 264 + k ∧ 264 + k < 264 + 264 then _ else _) = _
    rw [if_pos (by omega), Nat.add_sub_cancel_left]
theorem q_restoreM (μ : gMem) : ∃ μ', m_X7_restore_12 gFU 0 μ = some μ' ∧ (∀ c, c ≠ 1 → μ' c = μ c) ∧ (∀ k, k < 264 → μ' 1 k = μ 1 (264 + k)) ∧ ∀ k, k < 264 → μ' 1 (264 + k) = μ 1 (264 + k) := by
  refine ⟨grow μ 1 (fun j => if j < 264 then μ 1 (264 + j) else μ 1 j), ?_, fun c hc => if_neg hc, fun k hk => ?_, fun k hk => ?_⟩
  · have e0 : μ = grow μ 1 (fun j => if j < 0 then μ 1 (264 + j) else μ 1 j) := by
      funext a
      unfold grow
      by_cases ha : a = 1
      · subst ha; rw [if_pos rfl]; funext j; rw [if_neg (by omega)]
      · rw [if_neg ha]
    have := for_to (fun n i => m_X7_restore_12 n (nI i) (grow μ 1 (fun j => if j < i then μ 1 (264 + j) else μ 1 j))) 264 (grow μ 1 (fun j => if j < 264 then μ 1 (264 + j) else μ 1 j)) (fun n i hi => ?_) (fun n => rfl) (by decide)
    · rw [← e0] at this; exact this
    · show b_X7_restore_12 (m_X7_restore_12 n) (nI i) _ = _
      have c1 : ¬ (264 : Int32) ≤ nI i := nI_ge (b := 264) hi (by decide)
      have e1 : (264 : Int32) + nI i = nI (264 + i) := by rw [show (264 : Int32) = nI 264 from rfl, nI_add]
      simp only [b_X7_restore_12, c1, if_false, e1, inb_t (show i < 528 by omega) (by decide), inb_t (show 264 + i < 528 by omega) (by decide), gck_s, gnm_s, nI_clamp (show i < 2 ^ 31 by omega), nI_clamp (show 264 + i < 2 ^ 31 by omega), nI_1]
      congr 1
      funext a
      unfold gst grow
      by_cases ha : a = 1
      · subst ha
        simp only [if_true]
        funext j
        unfold upd
        dsimp only
        by_cases hj : j = i
        · subst hj
          rw [if_pos rfl, if_neg (by omega), if_pos (by omega)]
        · rw [if_neg hj]
          by_cases q : j < i
          · rw [if_pos q, if_pos (by omega)]
          · rw [if_neg q, if_neg (by omega)]
      · simp only [ha, if_false]
  · show (if k < 264 then _ else _) = _
    rw [if_pos hk]
  · show (if 264 + k < 264 then _ else _) = _
    rw [if_neg (by omega)]
/-- rows of paths, copied one by one -/
def cpR (σ : gMem) (f t i : Nat) : gMem := fun c => if t ≤ c ∧ c < t + i then va_cpy (σ (f + (c - t))) (σ c) 0 0 12 else σ c
theorem cpR_0 (σ : gMem) (f t : Nat) : cpR σ f t 0 = σ := by
  funext c; unfold cpR; rw [if_neg (by omega)]
theorem cpR_s {σ : gMem} {f t i : Nat} (h : f + 12 ≤ t ∨ t + 12 ≤ f) (hi : i < 12) : gcpy (cpR σ f t i) (f + i) (t + i) 0 0 12 = cpR σ f t (i + 1) := by
  funext c
  rw [gcpy_a, l0, l12]
  by_cases hc : c = t + i
  · subst hc
    rw [if_pos rfl]
    unfold cpR
    rw [if_neg (show ¬ (t ≤ f + i ∧ f + i < t + i) by omega), if_neg (show ¬ (t ≤ t + i ∧ t + i < t + i) by omega), if_pos (by omega)]
    congr 2; omega
  · rw [if_neg hc]
    unfold cpR
    by_cases q : t ≤ c ∧ c < t + i
    · rw [if_pos q, if_pos (by omega)]
    · rw [if_neg q, if_neg (by omega)]
theorem q_rowsB (σ : gMem) : m_X1_become_b_200 gFU 0 σ = some (cpR σ 13 37 12) := by
  have := for_to (fun n i => m_X1_become_b_200 n (nI i) (cpR σ 13 37 i)) 12 (cpR σ 13 37 12) (fun n i hi => ?_) (fun n => rfl) (by decide)
  · rw [cpR_0] at this; exact this
  · show b_X1_become_b_200 (m_X1_become_b_200 n) (nI i) _ = _
    have c1 : ¬ (12 : Int32) ≤ nI i := nI_ge (b := 12) hi (by decide)
    simp only [b_X1_become_b_200, c1, if_false, inb_t hi (show 12 < 2 ^ 31 by decide), gok12, gck_s, gnm_s, nI_clamp (show i < 2 ^ 31 by omega), nI_1, cpR_s (σ := σ) (f := 13) (t := 37) (by omega) hi]
theorem q_rowsA (σ : gMem) : m_X1_become_a_200 gFU 0 σ = some (cpR σ 37 13 12) := by
  have := for_to (fun n i => m_X1_become_a_200 n (nI i) (cpR σ 37 13 i)) 12 (cpR σ 37 13 12) (fun n i hi => ?_) (fun n => rfl) (by decide)
  · rw [cpR_0] at this; exact this
  · show b_X1_become_a_200 (m_X1_become_a_200 n) (nI i) _ = _
    have c1 : ¬ (12 : Int32) ≤ nI i := nI_ge (b := 12) hi (by decide)
    simp only [b_X1_become_a_200, c1, if_false, inb_t hi (show 12 < 2 ^ 31 by decide), gok12, gck_s, gnm_s, nI_clamp (show i < 2 ^ 31 by omega), nI_1, cpR_s (σ := σ) (f := 37) (t := 13) (by omega) hi]
theorem cpR_in {σ : gMem} {f t i j : Nat} (hi : i < 12) (hj : j < 12) : cpR σ f t 12 (t + i) j = σ (f + i) j := by
  unfold cpR
  rw [if_pos (by omega), cpy0 hj, Nat.add_sub_cancel_left]
theorem cpR_out {σ : gMem} {f t c : Nat} (h : c < t ∨ t + 12 ≤ c) : cpR σ f t 12 c = σ c := by
  unfold cpR; rw [if_neg (by omega)]
def fBA (t f k : Nat) (σ : gMem) : gMem := gst σ t k (σ f k)
/-- the class's image: cells 25 .. 48 become what 1 .. 24 hold -/
theorem q_becomeB {σ : gMem} {z : Nat → Int32} (h : Rg 1 13 σ z) : ∃ σ', m_X1_become_b σ = some σ' ∧ Rg 25 37 σ' z ∧ ∀ c, (c < 25 ∨ 49 ≤ c) → σ' c = σ c := by
  refine ⟨cpR (gcpy (gcpy (gcpy (gcpy (gcpy (gcpy (gcpy (gcpy (gcpy (gcpy (fBA 25 1 16 (fBA 25 1 12 (fBA 25 1 8 (fBA 25 1 7 (fBA 25 1 6 (fBA 25 1 0 σ)))))) 2 26 0 0 12) 3 27 0 0 12) 4 28 0 0 12) 6 30 0 0 24) 7 31 0 0 8) 8 32 0 0 8) 9 33 0 0 8) 10 34 0 0 10) 11 35 0 0 10) 12 36 0 0 10) 13 37 12, ?_, ?_, ?_⟩
  · simp only [m_X1_become_b, gnm_s, gok12, gok24, gok8, gok10, gck_s, q_rowsB, gb1_s]; rfl
  · refine Rg_mk ?_ ?_ ?_ ?_ ?_ ?_ ?_ ?_ ?_ ?_ ?_ ?_ ?_ ?_ ?_ ?_ ?_
    · intro i hi; rw [cpR_out (by omega)]; simp [fBA, gcpy_a, gst_a, l0, l8, l10, l12, l24, cpy0 hi]; exact Rg_dep h hi
    · intro i hi; rw [cpR_out (by omega)]; simp [fBA, gcpy_a, gst_a, l0, l8, l10, l12, l24, cpy0 hi]; exact Rg_spl h hi
    · intro i hi; rw [cpR_out (by omega)]; simp [fBA, gcpy_a, gst_a, l0, l8, l10, l12, l24, cpy0 hi]; exact Rg_sil h hi
    · intro i hi; rw [cpR_out (by omega)]; simp [fBA, gcpy_a, gst_a, l0, l8, l10, l12, l24, cpy0 hi]; exact Rg_tid h hi
    · rw [cpR_out (by omega)]; simp [fBA, gcpy_a, gst_a, upd_a]; exact Rg_flo h
    · rw [cpR_out (by omega)]; simp [fBA, gcpy_a, gst_a, upd_a]; exact Rg_rea h
    · rw [cpR_out (by omega)]; simp [fBA, gcpy_a, gst_a, upd_a]; exact Rg_pla h
    · rw [cpR_out (by omega)]; simp [fBA, gcpy_a, gst_a, upd_a]; exact Rg_peo h
    · rw [cpR_out (by omega)]; simp [fBA, gcpy_a, gst_a, upd_a]; exact Rg_nee h
    · rw [cpR_out (by omega)]; simp [fBA, gcpy_a, gst_a, upd_a]; exact Rg_yea h
    · intro i hi; rw [cpR_out (by omega)]; simp [fBA, gcpy_a, gst_a, l0, l8, l10, l12, l24, cpy0 hi]; exact Rg_kin h hi
    · intro i hi; rw [cpR_out (by omega)]; simp [fBA, gcpy_a, gst_a, l0, l8, l10, l12, l24, cpy0 hi]; exact Rg_tol h hi
    · intro i hi; rw [cpR_out (by omega)]; simp [fBA, gcpy_a, gst_a, l0, l8, l10, l12, l24, cpy0 hi]; exact Rg_hom h hi
    · intro i hi; rw [cpR_out (by omega)]; simp [fBA, gcpy_a, gst_a, l0, l8, l10, l12, l24, cpy0 hi]; exact Rg_who h hi
    · intro i hi; rw [cpR_out (by omega)]; simp [fBA, gcpy_a, gst_a, l0, l8, l10, l12, l24, cpy0 hi]; exact Rg_whe h hi
    · intro i hi; rw [cpR_out (by omega)]; simp [fBA, gcpy_a, gst_a, l0, l8, l10, l12, l24, cpy0 hi]; exact Rg_whn h hi
    · intro i j hi hj
      rw [cpR_in hi hj]
      simp only [fBA, gcpy_a, gst_a, show ¬ 13 + i = 36 by omega, show ¬ 13 + i = 35 by omega, show ¬ 13 + i = 34 by omega, show ¬ 13 + i = 33 by omega, show ¬ 13 + i = 32 by omega, show ¬ 13 + i = 31 by omega, show ¬ 13 + i = 30 by omega, show ¬ 13 + i = 28 by omega, show ¬ 13 + i = 27 by omega, show ¬ 13 + i = 26 by omega, show ¬ 13 + i = 25 by omega, if_false]
      exact Rg_min h hi hj
  · intro c hc
    rw [cpR_out (by omega)]
    simp only [fBA, gcpy_a, gst_a, show ¬ c = 36 by omega, show ¬ c = 35 by omega, show ¬ c = 34 by omega, show ¬ c = 33 by omega, show ¬ c = 32 by omega, show ¬ c = 31 by omega, show ¬ c = 30 by omega, show ¬ c = 28 by omega, show ¬ c = 27 by omega, show ¬ c = 26 by omega, show ¬ c = 25 by omega, if_false]
/-- readings of the kept lagoon -/
theorem Rk {σ : gMem} {z : Nat → Int32} (h : Rg 25 37 σ z) {k c s : Nat} (hk : k < 264) (hc : ca 25 37 k = (c, s)) : σ c s = z k := by
  have := h k hk
  rw [hc] at this; exact this
theorem q_becomeA {σ : gMem} {z : Nat → Int32} (h : Rg 25 37 σ z) : ∃ σ', m_X1_become_a σ = some σ' ∧ Rg 1 13 σ' z ∧ ∀ c, (c < 1 ∨ 25 ≤ c) → σ' c = σ c := by
  refine ⟨cpR (gcpy (gcpy (gcpy (gcpy (gcpy (gcpy (gcpy (gcpy (gcpy (gcpy (fBA 1 25 16 (fBA 1 25 12 (fBA 1 25 8 (fBA 1 25 7 (fBA 1 25 6 (fBA 1 25 0 σ)))))) 26 2 0 0 12) 27 3 0 0 12) 28 4 0 0 12) 30 6 0 0 24) 31 7 0 0 8) 32 8 0 0 8) 33 9 0 0 8) 34 10 0 0 10) 35 11 0 0 10) 36 12 0 0 10) 37 13 12, ?_, ?_, ?_⟩
  · simp only [m_X1_become_a, gnm_s, gok12, gok24, gok8, gok10, gck_s, q_rowsA, gb1_s]; rfl
  · refine Rg_mk ?_ ?_ ?_ ?_ ?_ ?_ ?_ ?_ ?_ ?_ ?_ ?_ ?_ ?_ ?_ ?_ ?_
    · intro i hi; rw [cpR_out (by omega)]; simp [fBA, gcpy_a, gst_a, l0, l8, l10, l12, l24, cpy0 hi]; exact Rk h (by omega) (ca_dep hi)
    · intro i hi; rw [cpR_out (by omega)]; simp [fBA, gcpy_a, gst_a, l0, l8, l10, l12, l24, cpy0 hi]; exact Rk h (by omega) (ca_spl hi)
    · intro i hi; rw [cpR_out (by omega)]; simp [fBA, gcpy_a, gst_a, l0, l8, l10, l12, l24, cpy0 hi]; exact Rk h (by omega) (ca_sil hi)
    · intro i hi; rw [cpR_out (by omega)]; simp [fBA, gcpy_a, gst_a, l0, l8, l10, l12, l24, cpy0 hi]; exact Rk h (by omega) (ca_tid hi)
    · rw [cpR_out (by omega)]; simp [fBA, gcpy_a, gst_a, upd_a]; exact Rk h (k := 60) (by omega) rfl
    · rw [cpR_out (by omega)]; simp [fBA, gcpy_a, gst_a, upd_a]; exact Rk h (k := 61) (by omega) rfl
    · rw [cpR_out (by omega)]; simp [fBA, gcpy_a, gst_a, upd_a]; exact Rk h (k := 62) (by omega) rfl
    · rw [cpR_out (by omega)]; simp [fBA, gcpy_a, gst_a, upd_a]; exact Rk h (k := 63) (by omega) rfl
    · rw [cpR_out (by omega)]; simp [fBA, gcpy_a, gst_a, upd_a]; exact Rk h (k := 64) (by omega) rfl
    · rw [cpR_out (by omega)]; simp [fBA, gcpy_a, gst_a, upd_a]; exact Rk h (k := 65) (by omega) rfl
    · intro i hi; rw [cpR_out (by omega)]; simp [fBA, gcpy_a, gst_a, l0, l8, l10, l12, l24, cpy0 hi]; exact Rk h (by omega) (ca_kin hi)
    · intro i hi; rw [cpR_out (by omega)]; simp [fBA, gcpy_a, gst_a, l0, l8, l10, l12, l24, cpy0 hi]; exact Rk h (by omega) (ca_tol hi)
    · intro i hi; rw [cpR_out (by omega)]; simp [fBA, gcpy_a, gst_a, l0, l8, l10, l12, l24, cpy0 hi]; exact Rk h (by omega) (ca_hom hi)
    · intro i hi; rw [cpR_out (by omega)]; simp [fBA, gcpy_a, gst_a, l0, l8, l10, l12, l24, cpy0 hi]; exact Rk h (by omega) (ca_who hi)
    · intro i hi; rw [cpR_out (by omega)]; simp [fBA, gcpy_a, gst_a, l0, l8, l10, l12, l24, cpy0 hi]; exact Rk h (by omega) (ca_whe hi)
    · intro i hi; rw [cpR_out (by omega)]; simp [fBA, gcpy_a, gst_a, l0, l8, l10, l12, l24, cpy0 hi]; exact Rk h (by omega) (ca_whn hi)
    · intro i j hi hj
      rw [cpR_in hi hj]
      simp only [fBA, gcpy_a, gst_a, show ¬ 37 + i = 12 by omega, show ¬ 37 + i = 11 by omega, show ¬ 37 + i = 10 by omega, show ¬ 37 + i = 9 by omega, show ¬ 37 + i = 8 by omega, show ¬ 37 + i = 7 by omega, show ¬ 37 + i = 6 by omega, show ¬ 37 + i = 4 by omega, show ¬ 37 + i = 3 by omega, show ¬ 37 + i = 2 by omega, show ¬ 37 + i = 1 by omega, if_false]
      exact Rk h (by omega) (ca_min hi hj)
  · intro c hc
    rw [cpR_out (by omega)]
    simp only [fBA, gcpy_a, gst_a, show ¬ c = 12 by omega, show ¬ c = 11 by omega, show ¬ c = 10 by omega, show ¬ c = 9 by omega, show ¬ c = 8 by omega, show ¬ c = 7 by omega, show ¬ c = 6 by omega, show ¬ c = 4 by omega, show ¬ c = 3 by omega, show ¬ c = 2 by omega, show ¬ c = 1 by omega, if_false]
theorem p_image {σ μ : gMem} (h : INV σ μ) : OKu σ μ (m_X6_image σ) (m_X7_image μ) := by
  obtain ⟨⟨hR, hi, ht, hs⟩, p, q, n, y, w⟩ := h
  obtain ⟨σ', f1, f2, f3⟩ := q_becomeB hR
  obtain ⟨μ', g1, g2, g3, g4⟩ := q_imageM μ
  refine ⟨1, gst σ' 0 2 1, gst μ' 0 1 1, by simp only [m_X6_image, f1, gb1_s, gnm_s], by simp only [m_X7_image, g1, gb1_s, gnm_s], ⟨?_, ⟨?_, Or.inr ⟨?_, ?_, p, q, n, y, ?_⟩⟩, ?_, ?_⟩, p, q, n, y, ?_⟩
  · intro k hk
    have := ca_n k hk
    rw [gst_ne _ _ (by omega), f3 _ (Or.inl this.2), gst_ne _ _ (by decide), g3 k hk]; exact hR k hk
  · rfl
  · rfl
  · intro k hk
    have := ca_k k hk
    rw [gst_ne _ _ (by omega)]
    show _ = gst μ' 0 1 1 1 (264 + k)
    rw [gst_ne _ _ (by decide), g4 k hk]; exact f2 k hk
  · exact WF_congr (fun k hk => by show gst μ' 0 1 1 1 (264 + k) = _; rw [gst_ne _ _ (by decide), g4 k hk]) w
  · exact SIMt_fr ht (by rw [gst_ne _ _ (by decide), f3 49 (by omega)]) (by rw [gst_eq, pk_un (by decide), g2 0 (by decide)]) (by rw [gst_ne _ _ (by decide), f3 50 (by omega)]) (by rw [gst_ne _ _ (by decide), g2 2 (by decide)])
  · exact SIMs_fr hs (fun c h1 h2 => by rw [gst_ne _ _ (by omega), f3 c (by omega)]) (by rw [gst_ne _ _ (by decide), g2 6 (by decide)]) (by rw [gst_ne _ _ (by decide), g2 5 (by decide)]) (by rw [gst_ne _ _ (by decide), g2 4 (by decide)])
  · exact WF_congr (fun k hk => by rw [gst_ne _ _ (by decide), g3 k hk]) w
theorem p_restore {σ μ : gMem} (h : INV σ μ) : OKu σ μ (m_X6_restore σ) (m_X7_restore μ) := by
  have I := h
  obtain ⟨⟨hR, ⟨hk0, hk⟩, ht, hs⟩, hw⟩ := h
  rcases hk with k0 | ⟨k1, hRk, p, q, n, y, w⟩
  · refine ⟨-4, σ, μ, ?_, ?_, I⟩
    · simp only [m_X6_restore, k0, if_true]
    · simp only [m_X7_restore, ← hk0, k0, if_true]
  · obtain ⟨σ', f1, f2, f3⟩ := q_becomeA hRk
    obtain ⟨μ', g1, g2, g3, g4⟩ := q_restoreM μ
    refine ⟨1, σ', μ', by simp only [m_X6_restore, k1, ne10, if_false, f1, gb1_s], by simp only [m_X7_restore, ← hk0, k1, ne10, if_false, g1, gb1_s], ⟨?_, ?_, ?_, ?_⟩, p, q, n, y, ?_⟩
    · intro k hk
      rw [g3 k hk]; exact f2 k hk
    · exact SIMi_fr ⟨hk0, Or.inr ⟨k1, hRk, p, q, n, y, w⟩⟩ (by rw [f3 0 (by omega)]) (by rw [g2 0 (by decide)]) (fun c h1 h2 => f3 c (by omega)) g4
    · exact SIMt_fr ht (by rw [f3 49 (by omega)]) (by rw [g2 0 (by decide)]) (f3 50 (by omega)) (g2 2 (by decide))
    · exact SIMs_fr hs (fun c h1 h2 => f3 c (by omega)) (g2 6 (by decide)) (g2 5 (by decide)) (g2 4 (by decide))
    · exact WF_congr (fun k hk => g3 k hk) w
