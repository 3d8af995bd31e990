/-! ===== the pure part: tides, copy ===== -/
/-- whether all of the last k of N turns say yes: 1, else 0 -/
def sAll (f : Nat → Int32) (N : Nat) : Nat → Nat
  | 0 => 1
  | k + 1 => if f (N - (k + 1)) = 0 then 0 else sAll f N k
theorem sAll_01 (f : Nat → Int32) (N : Nat) : ∀ k, sAll f N k = 0 ∨ sAll f N k = 1 := by
  intro k
  induction k with
  | zero => exact Or.inr rfl
  | succ k ih =>
    unfold sAll
    split
    · exact Or.inl rfl
    · exact ih
theorem sAll_1 {f : Nat → Int32} {N : Nat} : ∀ k, k ≤ N → sAll f N k = 1 → ∀ j, N - k ≤ j → j < N → ¬ f j = 0 := by
  intro k
  induction k with
  | zero => intro _ _ j h1 h2; omega
  | succ k ih =>
    intro hk h j h1 h2
    unfold sAll at h
    by_cases e : f (N - (k + 1)) = 0
    · rw [if_pos e] at h; exact absurd h (by decide)
    · rw [if_neg e] at h
      by_cases q : j = N - (k + 1)
      · rw [q]; exact e
      · exact ih (by omega) h j (by omega) h2
theorem q_tidesX {σ : gMem} {s : Nat} (hs : s < 4) (f : Nat → Int32) (hf : ∀ j, j < 24 → wi (σ (209 + s) j) (-20) 20 = f j) : m_X6_tides_37 (nI s) σ gFU 0 = some (sAll f 24 24) := by
  refine for_back0 (fun n i => m_X6_tides_37 (nI s) σ n (nI i)) 24 (fun i => sAll f 24 (24 - i)) (fun n i hi h => ?_) (fun n => rfl) (by decide)
  show b_X6_tides_37 (nI s) σ (m_X6_tides_37 (nI s) σ n) (nI i) = _
  have c1 : ¬ (24 : Int32) ≤ nI i := nI_ge (b := 24) hi (by decide)
  have e : 24 - i = (24 - (i + 1)) + 1 := by omega
  have e2 : 24 - (24 - (i + 1) + 1) = i := by omega
  rw [e]
  simp only [b_X6_tides_37, c1, if_false, inb_t hi (show 24 < 2 ^ 31 by decide), gck_s, q_within, gb1_s, nI_clamp (show s < 2 ^ 31 by omega), nI_clamp (show i < 2 ^ 31 by omega), hf i hi, gnm_s, nI_1, sAll, e2]
  split
  · rfl
  · exact h
theorem q_tidesM {μ : gMem} {s : Nat} (hs : s < 4) (f : Nat → Int32) (hf : ∀ j, j < 24 → wi (μ 4 (24 * s + j)) (-20) 20 = f j) : m_X7_tides_68 (nI s) μ gFU 0 = some (sAll f 24 24) := by
  refine for_back0 (fun n i => m_X7_tides_68 (nI s) μ n (nI i)) 24 (fun i => sAll f 24 (24 - i)) (fun n i hi h => ?_) (fun n => rfl) (by decide)
  show b_X7_tides_68 (nI s) μ (m_X7_tides_68 (nI s) μ n) (nI i) = _
  have c1 : ¬ (24 : Int32) ≤ nI i := nI_ge (b := 24) hi (by decide)
  have e : 24 - i = (24 - (i + 1)) + 1 := by omega
  have e2 : 24 - (24 - (i + 1) + 1) = i := by omega
  have e3 : (24 : Int32) * nI s + nI i = nI (24 * s + i) := by rw [show (24 : Int32) = nI 24 from rfl, nI_mul, nI_add]
  have e4 : m_X7_in ((μ 4 (24 * s + i)).toInt64) (-20) 20 μ = some (wi (μ 4 (24 * s + i)) (-20) 20) := q_in _ (-20) 20 μ
  rw [e]
  simp only [b_X7_tides_68, c1, if_false, e3, inb_t (show 24 * s + i < 96 by omega) (by decide), gck_s, nI_clamp (show 24 * s + i < 2 ^ 31 by omega), e4, gb1_s, hf i hi, gnm_s, nI_1, sAll, e2]
  split
  · rfl
  · exact h
theorem q_tidesC {μ : gMem} {s : Nat} (hs : s < 4) : m_X7_tides_109 (nI s) gFU 0 μ = some (grow μ 1 (fun j => if 36 ≤ j ∧ j < 36 + 24 then μ 4 (24 * s + (j - 36)) else μ 1 j)) := by
  have e0 : μ = grow μ 1 (fun j => if 36 ≤ j ∧ j < 36 + 0 then μ 4 (24 * s + (j - 36)) else μ 1 j) := by
    funext a; unfold grow
    by_cases ha : a = 1
    · subst ha; rw [if_pos rfl]; funext j; rw [if_neg (by omega)]
    · rw [if_neg ha]
  have := for_to (fun n i => m_X7_tides_109 (nI s) n (nI i) (grow μ 1 (fun j => if 36 ≤ j ∧ j < 36 + i then μ 4 (24 * s + (j - 36)) else μ 1 j))) 24 (grow μ 1 (fun j => if 36 ≤ j ∧ j < 36 + 24 then μ 4 (24 * s + (j - 36)) else μ 1 j)) (fun n i hi => ?_) (fun n => rfl) (by decide)
  · rw [← e0] at this; exact this
  · show b_X7_tides_109 (nI s) (m_X7_tides_109 (nI s) n) (nI i) _ = _
    have c1 : ¬ (24 : Int32) ≤ nI i := nI_ge (b := 24) hi (by decide)
    have e3 : (24 : Int32) * nI s + nI i = nI (24 * s + i) := by rw [show (24 : Int32) = nI 24 from rfl, nI_mul, nI_add]
    have e4 : (36 : Int32) + nI i = nI (36 + i) := by rw [show (36 : Int32) = nI 36 from rfl, nI_add]
    simp only [b_X7_tides_109, c1, if_false, e3, e4, inb_t (show 24 * s + i < 96 by omega) (by decide), inb_t (show 36 + i < 528 by omega) (by decide), gck_s, gnm_s, nI_clamp (show 24 * s + i < 2 ^ 31 by omega), nI_clamp (show 36 + i < 2 ^ 31 by omega), nI_1]
    congr 1
    funext a; unfold gst grow
    by_cases ha : a = 1
    · subst ha
      simp only [if_true, show ¬ (4 : Nat) = 1 by decide, if_false]
      funext j; unfold upd; dsimp only
      by_cases hj : j = 36 + i
      · subst hj; rw [if_pos rfl, if_pos (by omega), Nat.add_sub_cancel_left]
      · rw [if_neg hj]
        by_cases q : 36 ≤ j ∧ j < 36 + i
        · rw [if_pos q, if_pos (by omega)]
        · rw [if_neg q, if_neg (by omega)]
    · simp only [ha, if_false]
theorem ca_n6 : ∀ k : Nat, k < 264 → ¬ (36 ≤ k ∧ k < 60) → (ca 1 13 k).1 ≠ 6 := by decide +kernel
theorem WF_tides {p q n y : Nat} {z z' : Nat → Int32} (w : WF p q n y z) (U : ∀ j, ¬ (36 ≤ j ∧ j < 60) → z' j = z j) (T : ∀ h, h < 24 → -20 ≤ (z' (36 + h)).toInt ∧ (z' (36 + h)).toInt ≤ 20) : WF p q n y z' := by
  obtain ⟨⟨a1, a2, a3, a4, hp, hq, hn', hy⟩, b, c, e, f, g, i, m⟩ := w
  refine ⟨⟨by rw [U 62 (by omega)]; exact a1, by rw [U 63 (by omega)]; exact a2, by rw [U 64 (by omega)]; exact a3, by rw [U 65 (by omega)]; exact a4, hp, hq, hn', hy⟩, fun j hj => ?_, ?_, T, ?_, fun j hj => ?_, fun j hj => ?_, fun j l hj hl => ?_⟩
  · rw [U j (by omega), U (12 + j) (by omega), U (24 + j) (by omega)]; exact b j hj
  · rw [npo_congr (z' := z) (fun k hk => U k (by omega)) p hp]; exact c
  · rw [U 60 (by omega), U 61 (by omega)]; exact f
  · rw [U (66 + j) (by omega), U (74 + j) (by omega), U (82 + j) (by omega)]; exact g j hj
  · rw [U (90 + j) (by omega), U (100 + j) (by omega), U (110 + j) (by omega)]; exact i j hj
  · rw [U (120 + 12 * j + l) (by omega), U (120 + 12 * l + j) (by omega)]; exact m j l hj hl
theorem p_tides {σ μ : gMem} (h : INV σ μ) (a b : Int32) : OKu σ μ (m_X6_tides a b σ) (m_X7_tides a b μ) := by
  rcases wi_n (m := 3) (by decide) a with hw | ⟨hw, s, hs, rfl⟩
  · replace hw : wi a 0 3 = 0 := hw
    exact ⟨-1, σ, μ, by simp only [m_X6_tides, m_X6_refusal, q_isSheet, gb1_s, hw, if_true, show ¬ (-1 : Int32) = 0 from by decide, if_false], by simp only [m_X7_tides, q_isSheetM, gb1_s, hw, if_true], h⟩
  replace hw : wi (nI s) 0 3 = 1 := hw
  rcases wi_n (m := 2) (by decide) b with hv | ⟨hv, l, hl, rfl⟩
  · replace hv : wi b 0 2 = 0 := hv
    exact ⟨-1, σ, μ, by simp only [m_X6_tides, m_X6_refusal, q_isSheet, q_isLane, gb1_s, hw, hv, ne10, if_false, if_true, show ¬ (-1 : Int32) = 0 from by decide], by simp only [m_X7_tides, q_isSheetM, q_isLaneM, gb1_s, hw, hv, ne10, if_false, if_true], h⟩
  replace hv : wi (nI l) 0 2 = 1 := hv
  obtain ⟨n, hn, e1, e2, e3, e4⟩ := h.1.2.2.2 s (by omega)
  have b4 := inb_t (show s < 4 by omega) (show 4 < 2 ^ 31 by decide)
  have cs := nI_clamp (show s < 2 ^ 31 by omega)
  rcases e3 with ⟨e3, e5⟩ | ⟨e3, l', hl', e5, e6⟩
  · exact ⟨-11, σ, μ, by simp only [m_X6_tides, q_refusal (show s < 4 by omega) hw hv, gb1_s, e3, if_true, show ¬ (-11 : Int32) = 0 from by decide, if_false], by simp only [m_X7_tides, q_isSheetM, q_isLaneM, gb1_s, hw, hv, ne10, if_false, b4, gck_s, cs, e5, show (-1 : Int32) < 0 from by decide, if_true, show ¬ (0 : Int32) ≤ -1 from by decide], h⟩
  by_cases hll : l' = l
  · subst hll
    have g0 : ¬ nI l' < 0 := nI_pos (by omega)
    by_cases hn24 : n = 24
    · subst hn24
      have t1 : (24 : Int32) ≤ nI 24 := by decide
      have hX := q_tidesX (σ := σ) (show s < 4 by omega) (fun j => wi (μ 4 (24 * s + j)) (-20) 20) (fun j hj => by rw [e4 j hj])
      have hM := q_tidesM (μ := μ) (show s < 4 by omega) (fun j => wi (μ 4 (24 * s + j)) (-20) 20) (fun j hj => rfl)
      rcases sAll_01 (fun j => wi (μ 4 (24 * s + j)) (-20) 20) 24 24 with A | A
      · exact ⟨-2, σ, μ, by simp only [m_X6_tides, q_refusal (show s < 4 by omega) hw hv, gb1_s, e3, e5, ne10, if_true, if_false, b4, gck_s, cs, e1, t1, hX, A], by simp only [m_X7_tides, q_isSheetM, q_isLaneM, gb1_s, hw, hv, ne10, if_false, b4, gck_s, cs, e6, g0, if_true, e2, t1, hM, A], h⟩
      · have T := sAll_1 24 (Nat.le_refl _) A
        have nn : ¬ (1 : Nat) = 0 := by decide
        obtain ⟨⟨hR, hi, ht, hsh⟩, p, q, m, y, w⟩ := h
        refine ⟨1, gcpy σ (209 + s) 6 0 0 24, grow μ 1 (fun j => if 36 ≤ j ∧ j < 36 + 24 then μ 4 (24 * s + (j - 36)) else μ 1 j), ?_, ?_, ⟨?_, ?_, ?_, ?_⟩, p, q, m, y, ?_⟩
        · simp only [m_X6_tides, q_refusal (show s < 4 by omega) hw hv, gb1_s, e3, e5, ne10, if_true, if_false, b4, gck_s, cs, e1, t1, hX, A, nn, gok24, gnm_s]
        · simp only [m_X7_tides, q_isSheetM, q_isLaneM, gb1_s, hw, hv, ne10, if_false, b4, gck_s, cs, e6, g0, if_true, e2, t1, hM, A, nn, q_tidesC (show s < 4 by omega)]
        · intro k hk
          show _ = if 36 ≤ k ∧ k < 36 + 24 then μ 4 (24 * s + (k - 36)) else μ 1 k
          by_cases q : 36 ≤ k ∧ k < 60
          · obtain ⟨i, rfl⟩ : ∃ i, k = 36 + i := ⟨k - 36, by omega⟩
            rw [ca_tid (by omega), if_pos (by omega), Nat.add_sub_cancel_left]
            show gcpy σ (209 + s) 6 0 0 24 6 i = _
            rw [gcpy_a, if_pos rfl, l0, l24, cpy0 (by omega)]; exact e4 i (by omega)
          · rw [gcpy_a, if_neg (ca_n6 k hk q), if_neg (by omega)]; exact hR k hk
        · exact SIMi_fr hi (by rw [gcpy_a, if_neg (by decide)]) (by unfold grow; rw [if_neg (by decide)]) (fun c h1 h2 => by rw [gcpy_a, if_neg (by omega)]) (fun k hk => by unfold grow; rw [if_pos rfl, if_neg (by omega)])
        · exact SIMt_fr ht (by rw [gcpy_a, if_neg (by decide)]) (by unfold grow; rw [if_neg (by decide)]) (by rw [gcpy_a, if_neg (by decide)]) (by unfold grow; rw [if_neg (by decide)])
        · exact SIMs_fr hsh (fun c h1 h2 => by rw [gcpy_a, if_neg (by omega)]) (by unfold grow; rw [if_neg (by decide)]) (by unfold grow; rw [if_neg (by decide)]) (by unfold grow; rw [if_neg (by decide)])
        · refine WF_tides w (fun j hj => ?_) (fun j hj => ?_)
          · show (if 36 ≤ j ∧ j < 36 + 24 then _ else μ 1 j) = _
            rw [if_neg (by omega)]
          · have e : grow μ 1 (fun j => if 36 ≤ j ∧ j < 36 + 24 then μ 4 (24 * s + (j - 36)) else μ 1 j) 1 (36 + j) = μ 4 (24 * s + j) := by
              show (if 36 ≤ 36 + j ∧ 36 + j < 36 + 24 then _ else _) = _
              rw [if_pos (by omega), Nat.add_sub_cancel_left]
            rw [e]; exact wi_1.mp (T j (by omega) hj)
    · have t1 : ¬ (24 : Int32) ≤ nI n := nI_ge (b := 24) (by omega) (by decide)
      exact ⟨-13, σ, μ, by simp only [m_X6_tides, q_refusal (show s < 4 by omega) hw hv, gb1_s, e3, e5, ne10, if_true, if_false, b4, gck_s, cs, e1, t1], by simp only [m_X7_tides, q_isSheetM, q_isLaneM, gb1_s, hw, hv, ne10, if_false, b4, gck_s, cs, e6, g0, if_true, e2, t1], h⟩
  · have hne : ¬ nI l' = nI l := fun q => hll ((nI_eq (by omega) (by omega)).mp q)
    exact ⟨-12, σ, μ, by simp only [m_X6_tides, q_refusal (show s < 4 by omega) hw hv, gb1_s, e3, e5, hne, ne10, if_false, show ¬ (-12 : Int32) = 0 from by decide], by simp only [m_X7_tides, q_isSheetM, q_isLaneM, gb1_s, hw, hv, ne10, if_false, b4, gck_s, cs, e6, nI_pos (show l' < 2 ^ 31 by omega), hne, nI_pos' (show l' < 2 ^ 31 by omega), if_true], h⟩
theorem i64_add (i n : Nat) (hi : i < 2 ^ 31) (hn : n < 2 ^ 31) : ((nI i).toInt64 + (nI n).toInt64).toInt = (i : Int) + n := by
  rw [Int64.toInt_add, Int32.toInt_toInt64, Int32.toInt_toInt64, nI_toInt hi, nI_toInt hn]
  exact Int.bmod_eq_of_le (by omega) (by omega)
theorem q_lcmp (i n l : Nat) (hi : i < 2 ^ 31) (hn : n < 2 ^ 31) (hl : l < 2 ^ 31) : (0 < lg_cmp ((nI i).toInt64 + (nI n).toInt64) ((nI l).toInt64)) ↔ l < i + n := by
  rw [lg_cmp_gt, Int64.lt_iff_toInt_lt, i64_add i n hi hn, Int32.toInt_toInt64, nI_toInt hl]; omega
theorem q_lcmp2 (i n l : Nat) (hi : i < 2 ^ 31) (hn : n < 2 ^ 31) (hl : l < 2 ^ 31) : (lg_cmp ((nI i).toInt64 + (nI n).toInt64) ((nI l).toInt64) ≤ 0) ↔ i + n ≤ l := by
  rw [lg_cmp_le, Int64.le_iff_toInt_le, i64_add i n hi hn, Int32.toInt_toInt64, nI_toInt hl]; omega
theorem q_hasRange {σ : gMem} {s l i n : Nat} (hl : σ (205 + s) 2 = nI l) (hl2 : l < 2 ^ 31) (hi : i < 2 ^ 31) (hn : n < 2 ^ 31) : m_X2_hasRange s (nI i) (nI n) σ = some (if i + n ≤ l then 1 else 0) := by
  simp only [m_X2_hasRange, q_within, gb1_s, hl]
  by_cases h : i ≤ l
  · have h1 : ¬ wi (nI i) 0 (nI l) = 0 := wi_1.mpr ⟨by rw [nI_toInt hi]; show (0 : Int) ≤ _; omega, by rw [nI_toInt hi, nI_toInt hl2]; omega⟩
    rw [if_neg h1, nI_sub h]
    by_cases h2 : i + n ≤ l
    · rw [if_neg (nI_nlt (by omega) (by omega)), if_pos h2]
    · rw [if_pos (nI_lt (by omega) (by omega)), if_neg h2]
  · have h1 : wi (nI i) 0 (nI l) = 0 := wi_0.mpr (fun q => by have := q.2; rw [nI_toInt hi, nI_toInt hl2] at this; omega)
    rw [if_pos h1, if_neg (by omega)]
theorem q_copy1 {μ : gMem} {s i n : Nat} (hs : s < 4) (h : i + n ≤ 24) : m_X7_copy_110 (nI s) (nI i) (nI n) gFU 0 μ = some (grow μ 7 (fun j => if j < n then μ 4 (24 * s + i + j) else μ 7 j)) := by
  have e0 : μ = grow μ 7 (fun j => if j < 0 then μ 4 (24 * s + i + j) else μ 7 j) := by
    funext a; unfold grow
    by_cases ha : a = 7
    · subst ha; rw [if_pos rfl]; funext j; rw [if_neg (by omega)]
    · rw [if_neg ha]
  have := for_to (fun m k => m_X7_copy_110 (nI s) (nI i) (nI n) m (nI k) (grow μ 7 (fun j => if j < k then μ 4 (24 * s + i + j) else μ 7 j))) n (grow μ 7 (fun j => if j < n then μ 4 (24 * s + i + j) else μ 7 j)) (fun m k hk => ?_) (fun m => ?_) (by omega)
  · rw [← e0] at this; exact this
  · show b_X7_copy_110 (nI s) (nI i) (nI n) (m_X7_copy_110 (nI s) (nI i) (nI n) m) (nI k) _ = _
    have c1 : ¬ nI n ≤ nI k := nI_ge hk (by omega)
    have e3 : (24 : Int32) * nI s + nI i + nI k = nI (24 * s + i + k) := by rw [show (24 : Int32) = nI 24 from rfl, nI_mul, nI_add, nI_add]
    simp only [b_X7_copy_110, c1, if_false, e3, inb_t (show 24 * s + i + k < 96 by omega) (by decide), inb_t (show k < 24 by omega) (by decide), gck_s, gnm_s, nI_clamp (show 24 * s + i + k < 2 ^ 31 by omega), nI_clamp (show k < 2 ^ 31 by omega), nI_1]
    congr 1
    funext a; unfold gst grow
    by_cases ha : a = 7
    · subst ha
      simp only [if_true, show ¬ (4 : Nat) = 7 by decide, if_false]
      funext j; unfold upd; dsimp only
      by_cases hj : j = k
      · subst hj; rw [if_pos rfl, if_pos (by omega)]
      · rw [if_neg hj]
        by_cases q : j < k
        · rw [if_pos q, if_pos (by omega)]
        · rw [if_neg q, if_neg (by omega)]
    · simp only [ha, if_false]
  · show b_X7_copy_110 (nI s) (nI i) (nI n) (m_X7_copy_110 (nI s) (nI i) (nI n) m) (nI n) _ = _
    simp only [b_X7_copy_110, nI_le (Nat.le_refl n) (show n < 2 ^ 31 by omega), if_true]
theorem q_copy2 {μ : gMem} {s i n : Nat} (hs : s < 4) (h : i + n ≤ 24) : m_X7_copy_147 (nI s) (nI i) (nI n) gFU 0 μ = some (grow μ 4 (fun j => if 24 * s + i ≤ j ∧ j < 24 * s + i + n then μ 7 (j - (24 * s + i)) else μ 4 j)) := by
  have e0 : μ = grow μ 4 (fun j => if 24 * s + i ≤ j ∧ j < 24 * s + i + 0 then μ 7 (j - (24 * s + i)) else μ 4 j) := by
    funext a; unfold grow
    by_cases ha : a = 4
    · subst ha; rw [if_pos rfl]; funext j; rw [if_neg (by omega)]
    · rw [if_neg ha]
  have := for_to (fun m k => m_X7_copy_147 (nI s) (nI i) (nI n) m (nI k) (grow μ 4 (fun j => if 24 * s + i ≤ j ∧ j < 24 * s + i + k then μ 7 (j - (24 * s + i)) else μ 4 j))) n (grow μ 4 (fun j => if 24 * s + i ≤ j ∧ j < 24 * s + i + n then μ 7 (j - (24 * s + i)) else μ 4 j)) (fun m k hk => ?_) (fun m => ?_) (by omega)
  · rw [← e0] at this; exact this
  · show b_X7_copy_147 (nI s) (nI i) (nI n) (m_X7_copy_147 (nI s) (nI i) (nI n) m) (nI k) _ = _
    have c1 : ¬ nI n ≤ nI k := nI_ge hk (by omega)
    have e3 : (24 : Int32) * nI s + nI i + nI k = nI (24 * s + i + k) := by rw [show (24 : Int32) = nI 24 from rfl, nI_mul, nI_add, nI_add]
    simp only [b_X7_copy_147, c1, if_false, e3, inb_t (show 24 * s + i + k < 96 by omega) (by decide), inb_t (show k < 24 by omega) (by decide), gck_s, gnm_s, nI_clamp (show 24 * s + i + k < 2 ^ 31 by omega), nI_clamp (show k < 2 ^ 31 by omega), nI_1]
    congr 1
    funext a; unfold gst grow
    by_cases ha : a = 4
    · subst ha
      simp only [if_true, show ¬ (7 : Nat) = 4 by decide, if_false]
      funext j; unfold upd; dsimp only
      by_cases hj : j = 24 * s + i + k
      · subst hj; rw [if_pos rfl, if_pos (by omega), Nat.add_sub_cancel_left]
      · rw [if_neg hj]
        by_cases q : 24 * s + i ≤ j ∧ j < 24 * s + i + k
        · rw [if_pos q, if_pos (by omega)]
        · rw [if_neg q, if_neg (by omega)]
    · simp only [ha, if_false]
  · show b_X7_copy_147 (nI s) (nI i) (nI n) (m_X7_copy_147 (nI s) (nI i) (nI n) m) (nI n) _ = _
    simp only [b_X7_copy_147, nI_le (Nat.le_refl n) (show n < 2 ^ 31 by omega), if_true]
theorem p_copy {σ μ : gMem} (h : INV σ μ) (a b c d e : Int32) : OKu σ μ (m_X6_copy a b c d e σ) (m_X7_copy a b c d e μ) := by
  rcases wi_n (m := 3) (by decide) a with hw | ⟨hw, s, hs, rfl⟩
  · replace hw : wi a 0 3 = 0 := hw
    exact ⟨-1, σ, μ, by simp only [m_X6_copy, q_isSheet, gb1_s, hw, if_true], by simp only [m_X7_copy, q_isSheetM, gb1_s, hw, if_true], h⟩
  replace hw : wi (nI s) 0 3 = 1 := hw
  rcases wi_n (m := 3) (by decide) c with hv | ⟨hv, t, ht, rfl⟩
  · replace hv : wi c 0 3 = 0 := hv
    exact ⟨-1, σ, μ, by simp only [m_X6_copy, q_isSheet, gb1_s, hw, hv, ne10, if_false, if_true], by simp only [m_X7_copy, q_isSheetM, gb1_s, hw, hv, ne10, if_false, if_true], h⟩
  replace hv : wi (nI t) 0 3 = 1 := hv
  obtain ⟨n1, hn1, e1, e2, e3, e4⟩ := h.1.2.2.2 s (by omega)
  obtain ⟨n2, hn2, f1, f2, f3, f4⟩ := h.1.2.2.2 t (by omega)
  have b4 := inb_t (show s < 4 by omega) (show 4 < 2 ^ 31 by decide)
  have cs := nI_clamp (show s < 2 ^ 31 by omega)
  have b5 := inb_t (show t < 4 by omega) (show 4 < 2 ^ 31 by decide)
  have ct := nI_clamp (show t < 2 ^ 31 by omega)
  have m1 : (-1 : Int32) < 0 := by decide
  have m2 : ¬ (0 : Int32) ≤ -1 := by decide
  rcases e3 with ⟨e3, e5⟩ | ⟨e3, l1, hl1, e5, e6⟩
  · exact ⟨-11, σ, μ, by simp only [m_X6_copy, q_isSheet, gb1_s, hw, hv, ne10, if_false, b4, b5, gck_s, cs, e3, if_true], by simp only [m_X7_copy, q_isSheetM, gb1_s, hw, hv, ne10, if_false, b4, gck_s, cs, e5, m1, if_true], h⟩
  have g0 : ¬ nI l1 < 0 := nI_pos (by omega)
  rcases f3 with ⟨f3, f5⟩ | ⟨f3, l2, hl2, f5, f6⟩
  · exact ⟨-11, σ, μ, by simp only [m_X6_copy, q_isSheet, gb1_s, hw, hv, ne10, if_false, b4, b5, gck_s, cs, ct, e3, f3, if_true], by simp only [m_X7_copy, q_isSheetM, gb1_s, hw, hv, ne10, if_false, b4, b5, gck_s, cs, ct, e6, g0, f5, m2], h⟩
  have g1 : 0 ≤ nI l2 := nI_pos' (by omega)
  by_cases hll : l1 = l2
  · subst hll
    by_cases z1 : e < 0
    · refine ⟨-13, σ, μ, by simp only [m_X6_copy, q_isSheet, gb1_s, hw, hv, ne10, if_false, b4, b5, gck_s, cs, ct, e3, f3, e5, f5, z1, if_true], ?_, h⟩
      simp only [m_X7_copy, q_isSheetM, gb1_s, hw, hv, ne10, if_false, b4, b5, gck_s, cs, ct, e6, f6, g0, g1, z1, if_true]
      split
      · rfl
      · split <;> rfl
    obtain ⟨n, hn, rfl⟩ := nI_of z1
    by_cases z2 : b < 0
    · have r : m_X2_hasRange s b (nI n) σ = some 0 := by
        simp only [m_X2_hasRange, q_within, gb1_s]
        rw [if_pos (wi_0.mpr (fun q => by have := q.1; have z3 := i32_lt.mp z2; omega))]
      exact ⟨-13, σ, μ, by simp only [m_X6_copy, q_isSheet, gb1_s, hw, hv, ne10, if_false, b4, b5, gck_s, cs, ct, e3, f3, e5, f5, z1, if_true, r], by simp only [m_X7_copy, q_isSheetM, gb1_s, hw, hv, ne10, if_false, b4, b5, gck_s, cs, ct, e6, f6, g0, g1, z2, if_true], h⟩
    obtain ⟨i, hi, rfl⟩ := nI_of z2
    have rs := q_hasRange (s := s) e1 (by omega) hi hn
    by_cases z3 : d < 0
    · refine ⟨-13, σ, μ, ?_, by simp only [m_X7_copy, q_isSheetM, gb1_s, hw, hv, ne10, if_false, b4, b5, gck_s, cs, ct, e6, f6, g0, g1, z2, z3, if_true], h⟩
      have r : m_X2_hasRange t d (nI n) σ = some 0 := by
        simp only [m_X2_hasRange, q_within, gb1_s]
        rw [if_pos (wi_0.mpr (fun q => by have := q.1; have z4 := i32_lt.mp z3; omega))]
      simp only [m_X6_copy, q_isSheet, gb1_s, hw, hv, ne10, if_false, b4, b5, gck_s, cs, ct, e3, f3, e5, f5, z1, if_true, rs, r]
      by_cases o : i + n ≤ n1
      · simp only [o, if_true, ne10, if_false]
      · simp only [o, if_false, if_true]
    obtain ⟨j, hj, rfl⟩ := nI_of z3
    have rt := q_hasRange (s := t) f1 (by omega) hj hn
    have L1 := q_lcmp i n n1 hi hn (by omega)
    have L2 := q_lcmp2 j n n2 hj hn (by omega)
    by_cases o1 : i + n ≤ n1
    · have L1' : ¬ n1 < i + n := by omega
      by_cases o2 : j + n ≤ n2
      · have ok : gcok 24 24 (nI i) (nI j) (nI n) = true := by
          simp only [gcok, nI_clamp hi, nI_clamp hj, nI_clamp hn, z1, z2, z3, decide_false, Bool.not_false, Bool.true_and, Bool.and_eq_true, decide_eq_true_eq]; omega
        refine ⟨nI n, gcpy σ (209 + s) (209 + t) (nI i) (nI j) (nI n), grow (grow μ 7 (fun k => if k < n then μ 4 (24 * s + i + k) else μ 7 k)) 4 (fun k => if 24 * t + j ≤ k ∧ k < 24 * t + j + n then (grow μ 7 (fun k => if k < n then μ 4 (24 * s + i + k) else μ 7 k)) 7 (k - (24 * t + j)) else (grow μ 7 (fun k => if k < n then μ 4 (24 * s + i + k) else μ 7 k)) 4 k), ?_, ?_, INV_sh h (fun k hk => by rw [gcpy_a, if_neg (by omega)]) (fun k hk => by unfold grow; rw [if_neg (by omega), if_neg (by omega)]) (SIMs_at h.1.2.2.2 (s := t) (fun k hk hkt => ⟨by rw [gcpy_a, if_neg (by omega)], by rw [gcpy_a, if_neg (by omega)], by unfold grow; rw [if_neg (by decide), if_neg (by decide)], by unfold grow; rw [if_neg (by decide), if_neg (by decide)], fun m hm => ?_⟩) ⟨n2, hn2, by rw [gcpy_a, if_neg (by omega)]; exact f1, by unfold grow; rw [if_neg (by decide), if_neg (by decide)]; exact f2, Or.inr ⟨by rw [gcpy_a, if_neg (by omega)]; exact f3, l1, hl2, by rw [gcpy_a, if_neg (by omega)]; exact f5, by unfold grow; rw [if_neg (by decide), if_neg (by decide)]; exact f6⟩, fun m hm => ?_⟩)⟩
        · simp only [m_X6_copy, q_isSheet, gb1_s, hw, hv, ne10, if_false, b4, b5, gck_s, cs, ct, e3, f3, e5, f5, z1, if_true, rs, rt, o1, o2, ok, gnm_s]
        · simp only [m_X7_copy, q_isSheetM, gb1_s, hw, hv, ne10, if_false, b4, b5, gck_s, cs, ct, e6, f6, g0, g1, z1, z2, z3, if_true, e2, f2, L1, L2, L1', o2, q_copy1 (show s < 4 by omega) (show i + n ≤ 24 by omega), q_copy2 (show t < 4 by omega) (show j + n ≤ 24 by omega)]
        · unfold grow
          simp only [if_true, show ¬ (4 : Nat) = 7 by decide, if_false]
          rw [if_neg (by omega)]
        · rw [gcpy_a, if_pos rfl, nI_clamp hi, nI_clamp hj, nI_clamp hn]
          unfold grow va_cpy
          simp only [if_true, show ¬ (4 : Nat) = 7 by decide, if_false]
          by_cases q : j ≤ m ∧ m < j + n
          · rw [if_pos q, if_pos (by omega), if_pos (by omega), e4 _ (by omega)]
            congr 1; omega
          · rw [if_neg q, if_neg (by omega)]; exact f4 m hm
      · exact ⟨-13, σ, μ, by simp only [m_X6_copy, q_isSheet, gb1_s, hw, hv, ne10, if_false, b4, b5, gck_s, cs, ct, e3, f3, e5, f5, z1, if_true, rs, rt, o1, o2], by simp only [m_X7_copy, q_isSheetM, gb1_s, hw, hv, ne10, if_false, b4, b5, gck_s, cs, ct, e6, f6, g0, g1, z1, z2, z3, if_true, e2, f2, L1, L2, L1', o2], h⟩
    · have L1' : n1 < i + n := by omega
      exact ⟨-13, σ, μ, by simp only [m_X6_copy, q_isSheet, gb1_s, hw, hv, ne10, if_false, b4, b5, gck_s, cs, ct, e3, f3, e5, f5, z1, if_true, rs, o1], by simp only [m_X7_copy, q_isSheetM, gb1_s, hw, hv, ne10, if_false, b4, b5, gck_s, cs, ct, e6, f6, g0, g1, z1, z2, z3, if_true, e2, f2, L1, L1'], h⟩
  · have hne : ¬ nI l1 = nI l2 := fun q => hll ((nI_eq (by omega) (by omega)).mp q)
    exact ⟨-12, σ, μ, by simp only [m_X6_copy, q_isSheet, gb1_s, hw, hv, ne10, if_false, b4, b5, gck_s, cs, ct, e3, f3, e5, f5, hne], by simp only [m_X7_copy, q_isSheetM, gb1_s, hw, hv, ne10, if_false, b4, b5, gck_s, cs, ct, e6, f6, g0, g1, hne, if_true], h⟩
