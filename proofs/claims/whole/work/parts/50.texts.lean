theorem RgA {σ A : gMem} {z z' : Nat → Int32} (h : Rg 1 13 σ z) (h1 : ∀ c, 2 ≤ c → c < 13 → A c = σ c) (h2 : A 1 6 = σ 1 6) (h3 : A 1 7 = σ 1 7) (a1 : A 1 0 = 0) (a2 : A 1 8 = 0) (a3 : A 1 12 = 0) (a4 : A 1 16 = 0) (a5 : ∀ r j, r < 12 → j < 12 → A (13 + r) j = 0) (b1 : z' 62 = 0) (b2 : z' 63 = 0) (b3 : z' 64 = 0) (b4 : z' 65 = 0) (b5 : ∀ k, k < 120 → k ≠ 62 → k ≠ 63 → k ≠ 64 → k ≠ 65 → z' k = z k) (b6 : ∀ k, k < 144 → z' (120 + k) = 0) : Rg 1 13 A z' := by
  refine Rg_mk (fun i hi => ?_) (fun i hi => ?_) (fun i hi => ?_) (fun i hi => ?_) ?_ ?_ ?_ ?_ ?_ ?_ (fun i hi => ?_) (fun i hi => ?_) (fun i hi => ?_) (fun i hi => ?_) (fun i hi => ?_) (fun i hi => ?_) (fun i j hi hj => ?_)
  · rw [h1 _ (by omega) (by omega), b5 _ (by omega) (by omega) (by omega) (by omega) (by omega)]; exact Rg_dep h hi
  · rw [h1 _ (by omega) (by omega), b5 _ (by omega) (by omega) (by omega) (by omega) (by omega)]; exact Rg_spl h hi
  · rw [h1 _ (by omega) (by omega), b5 _ (by omega) (by omega) (by omega) (by omega) (by omega)]; exact Rg_sil h hi
  · rw [h1 _ (by omega) (by omega), b5 _ (by omega) (by omega) (by omega) (by omega) (by omega)]; exact Rg_tid h hi
  · rw [h2, b5 _ (by omega) (by omega) (by omega) (by omega) (by omega)]; exact Rg_flo h
  · rw [h3, b5 _ (by omega) (by omega) (by omega) (by omega) (by omega)]; exact Rg_rea h
  · rw [a1, b1]
  · rw [a2, b2]
  · rw [a3, b3]
  · rw [a4, b4]
  · rw [h1 _ (by omega) (by omega), b5 _ (by omega) (by omega) (by omega) (by omega) (by omega)]; exact Rg_kin h hi
  · rw [h1 _ (by omega) (by omega), b5 _ (by omega) (by omega) (by omega) (by omega) (by omega)]; exact Rg_tol h hi
  · rw [h1 _ (by omega) (by omega), b5 _ (by omega) (by omega) (by omega) (by omega) (by omega)]; exact Rg_hom h hi
  · rw [h1 _ (by omega) (by omega), b5 _ (by omega) (by omega) (by omega) (by omega) (by omega)]; exact Rg_who h hi
  · rw [h1 _ (by omega) (by omega), b5 _ (by omega) (by omega) (by omega) (by omega) (by omega)]; exact Rg_whe h hi
  · rw [h1 _ (by omega) (by omega), b5 _ (by omega) (by omega) (by omega) (by omega) (by omega)]; exact Rg_whn h hi
  · have b := b6 (12 * i + j) (by omega)
    rw [show 120 + (12 * i + j) = 120 + 12 * i + j by omega] at b
    rw [a5 i j hi hj, b]
/-- the answer to a fault is below 0 -/
theorem flt_le {f : Nat} (hf : f ≤ 80) : (-20 - nI f : Int32) ≤ 0 ∧ ¬ nI f < (0 : Int32) := by
  have h : (nI f).toInt = (f : Int) := nI_toInt (by omega)
  refine ⟨?_, ?_⟩
  · rw [i32_le, i32_sub (by rw [h]; show _ ≤ (-20 : Int) - _; omega) (by rw [h]; show (-20 : Int) - _ < _; omega), h]
    show (-20 : Int) - f ≤ 0; omega
  · rw [i32_lt, h]; show ¬ (f : Int) < 0; omega
theorem INV_tap0 {σ μ s m : gMem} (h : INV σ μ) (h1 : ∀ c, c < 49 ∨ 205 ≤ c → s c = σ c) (h2 : mJ μ m) : INV (gst s 49 0 0) (gst m 0 3 0) := by
  refine INV_tape h (fun c hc => by rw [gst_ne _ _ (by omega)]; exact h1 c hc) (fun c c0 _ c3 => by rw [gst_ne _ _ c0]; exact h2.1 c c0 c3) (by rw [gst_eq, pk_un (by decide)]; exact h2.2 1 (by decide) (by decide) (by decide)) ⟨0, by omega, by rw [gst_eq, pk_us]; rfl, by rw [gst_eq, pk_us]; rfl, fun i hi => absurd hi (by omega)⟩
theorem q_lagoonE (μ : gMem) : m_X7_lagoon μ = gb1 (m_X7_begin μ) fun s2 => gb2 (m_X7_lagoon_10 gFU 0 0 1 s2) fun x1_7 s8 => gb1 (mEnd s8) fun s39 => if (s39 0 5) < 0 then gb1 (m_X7_lagoon_244 gFU 0 (gst (gst (gst (gst (gst s39 0 3 0) 1 62 0) 1 63 0) 1 64 0) 1 65 0)) (fun s56 => gb1 (m_X7_lagoon_272 x1_7 gFU 0 s56) fun s63 => some (x1_7, s63)) else some (-20 - s39 0 5, gst s39 0 3 0) := by
  unfold m_X7_lagoon mEnd
  simp only [in62, in63, in64, in65, gck_s, l62, l63, l64, l65, gnm_s, m_X7_fails, gb2_s]
  rfl
theorem p_lagoon {σ μ : gMem} (h : INV σ μ) : OKu σ μ (m_X6_lagoon σ) (m_X7_lagoon μ) := by
  obtain ⟨s', m, μ1, μ', K, b1, b2, b3, k1, k8, e5, J, fr, mj⟩ := q_readPlaces h.1.2.2.1
  have L := q_lagoonE μ
  rw [b1, gb1_s, b2, gb2_s, b3, gb1_s] at L
  rcases J with ⟨f, f80, A, e⟩ | ⟨A, e, u', D⟩
  · obtain ⟨q1, q2⟩ := flt_le f80
    refine ⟨-20 - nI f, gst s' 49 0 0, gst μ' 0 3 0, ?_, ?_, INV_tap0 h (fun c hc => fr c (by omega) (by omega) (by omega)) mj⟩
    · unfold m_X6_lagoon
      rw [A, gb2_s, if_pos q1, gnm_s]
    · rw [L, e, if_neg q2]
  · have K0 : ¬ nI K ≤ (0 : Int32) := nI_ge (a := 0) (by omega) (by omega)
    rw [e, if_pos (show (-1 : Int32) < 0 by decide)] at L
    obtain ⟨⟨hR, hi, ht, hs⟩, p, q, n, y, w⟩ := h
    -- the class, cleared
    generalize eA : gst (gst (gst (gst s' 1 0 0) 1 8 0) 1 12 0) 1 16 0 = A0 at *
    have Z1 : ∀ c, c ≠ 1 → A0 c = s' c := fun c hc => by rw [← eA, gst_ne _ _ hc, gst_ne _ _ hc, gst_ne _ _ hc, gst_ne _ _ hc]
    have Z2 : ∀ j, j ≠ 0 → j ≠ 8 → j ≠ 12 → j ≠ 16 → A0 1 j = s' 1 j := fun j h1 h2 h3 h4 => by
      rw [← eA, gst_eq, pk_un h4, gst_eq, pk_un h3, gst_eq, pk_un h2, gst_eq, pk_un h1]
    have Z3 : A0 1 0 = 0 ∧ A0 1 8 = 0 ∧ A0 1 12 = 0 ∧ A0 1 16 = 0 := by
      rw [← eA]
      simp [gst_eq, upd_a]
    obtain ⟨A1, L1, a1, a2⟩ := q_settle22 A0
    have A1c : A1 1 = A0 1 := a1 1 (by omega)
    -- the reference, cleared
    generalize eB : gst (gst (gst (gst (gst μ' 0 3 0) 1 62 0) 1 63 0) 1 64 0) 1 65 0 = B0 at *
    have Y1 : ∀ c, c ≠ 0 → c ≠ 1 → B0 c = μ' c := fun c h0 h1 => by rw [← eB, gst_ne _ _ h1, gst_ne _ _ h1, gst_ne _ _ h1, gst_ne _ _ h1, gst_ne _ _ h0]
    have Y0 : ∀ j, j ≠ 3 → B0 0 j = μ' 0 j := fun j hj => by
      rw [← eB, gst_ne _ _ (by decide), gst_ne _ _ (by decide), gst_ne _ _ (by decide), gst_ne _ _ (by decide), gst_eq, pk_un hj]
    have Y03 : B0 0 3 = 0 := by
      rw [← eB, gst_ne _ _ (by decide), gst_ne _ _ (by decide), gst_ne _ _ (by decide), gst_ne _ _ (by decide), gst_eq, pk_us]
    have Y2 : ∀ j, j ≠ 62 → j ≠ 63 → j ≠ 64 → j ≠ 65 → B0 1 j = μ' 1 j := fun j h1 h2 h3 h4 => by
      rw [← eB, gst_eq, pk_un h4, gst_eq, pk_un h3, gst_eq, pk_un h2, gst_eq, pk_un h1, gst_ne _ _ (by decide)]
    have Y3 : B0 1 62 = 0 ∧ B0 1 63 = 0 ∧ B0 1 64 = 0 ∧ B0 1 65 = 0 := by
      rw [← eB]
      simp [gst_eq, upd_a]
    obtain ⟨B1, L2, c1, c2, c3⟩ := q_clear244 B0
    have m1 : μ' 1 = μ 1 := mj.1 1 (by decide) (by decide)
    have R1 : Rg 1 13 A1 (B1 1) := by
      refine RgA hR (fun c h1 h2 => ?_) ?_ ?_ ?_ ?_ ?_ ?_ a2 ?_ ?_ ?_ ?_ (fun k hk h1 h2 h3 h4 => ?_) c3
      · rw [a1 c (by omega), Z1 c (by omega), fr c (by omega) (by omega) (by omega)]
      · rw [A1c, Z2 6 (by decide) (by decide) (by decide) (by decide), fr 1 (by decide) (by decide) (by decide)]
      · rw [A1c, Z2 7 (by decide) (by decide) (by decide) (by decide), fr 1 (by decide) (by decide) (by decide)]
      · rw [A1c]; exact Z3.1
      · rw [A1c]; exact Z3.2.1
      · rw [A1c]; exact Z3.2.2.1
      · rw [A1c]; exact Z3.2.2.2
      · rw [c2 62 (by omega)]; exact Y3.1
      · rw [c2 63 (by omega)]; exact Y3.2.1
      · rw [c2 64 (by omega)]; exact Y3.2.2.1
      · rw [c2 65 (by omega)]; exact Y3.2.2.2
      · rw [c2 k (by omega), Y2 k h1 h2 h3 h4, m1]
    have W1 : WF 0 0 0 0 (B1 1) := by
      refine WF_none w ?_ ?_ ?_ ?_ (fun k hk => ?_) c3
      · rw [c2 62 (by omega)]; exact Y3.1
      · rw [c2 63 (by omega)]; exact Y3.2.1
      · rw [c2 64 (by omega)]; exact Y3.2.2.1
      · rw [c2 65 (by omega)]; exact Y3.2.2.2
      · rw [c2 k (by omega), Y2 k (by omega) (by omega) (by omega) (by omega), m1]
    obtain ⟨A2, B2, L3, L4, r1, r2, r3, r4, r5⟩ := q_settle59 k8 D (A := A1) (B := B1) (by rw [a1 49 (by omega), Z1 49 (by decide)]; exact e5) (fun c hc => by rw [a1 c (by omega), Z1 c (by omega)]) (by rw [c1 3 (by decide), Y1 3 (by decide) (by decide)]) R1 W1
    rw [L2, gb1_s, L4, gb1_s] at L
    have FA : ∀ c, c < 1 ∨ 25 ≤ c → A2 c = s' c := fun c hc => by rw [r3 c hc, a1 c (by omega), Z1 c (by omega)]
    have FB : ∀ c, c ≠ 0 → c ≠ 1 → B2 c = μ' c := fun c h0 h1 => by rw [r4 c h1, c1 c h1, Y1 c h0 h1]
    refine ⟨nI K, gst A2 49 0 0, B2, ?_, L, ⟨?_, ?_, ?_, ?_⟩, K, 0, 0, 0, r2⟩
    · unfold m_X6_lagoon m_X1_settle
      rw [A, gb2_s, if_neg K0, gnm_s, gnm_s, gnm_s, gnm_s, eA, L1, gb1_s, L3, gb1_s, gb1_s, gnm_s]
    · exact Rg_fr r1 (fun c h1 h2 => gst_ne _ _ (by omega))
    · refine SIMi_fr hi ?_ ?_ (fun c h1 h2 => ?_) (fun k hk => ?_)
      · rw [gst_ne _ _ (by decide), FA 0 (by omega), fr 0 (by decide) (by decide) (by decide)]
      · rw [r4 0 (by decide), c1 0 (by decide), Y0 1 (by decide)]; exact mj.2 1 (by decide) (by decide) (by decide)
      · rw [gst_ne _ _ (by omega), FA c (by omega), fr c (by omega) (by omega) (by omega)]
      · rw [r5 _ (by omega), c2 _ (by omega), Y2 _ (by omega) (by omega) (by omega) (by omega), m1]
    · refine ⟨0, by omega, ?_, ?_, fun i hi => absurd hi (by omega)⟩
      · rw [gst_eq, pk_us]; rfl
      · rw [r4 0 (by decide), c1 0 (by decide), Y03]; rfl
    · refine SIMs_fr hs (fun c h1 h2 => ?_) ?_ ?_ ?_
      · rw [gst_ne _ _ (by omega), FA c (by omega), fr c (by omega) (by omega) (by omega)]
      · rw [FB 6 (by decide) (by decide)]; exact mj.1 6 (by decide) (by decide)
      · rw [FB 5 (by decide) (by decide)]; exact mj.1 5 (by decide) (by decide)
      · rw [FB 4 (by decide) (by decide)]; exact mj.1 4 (by decide) (by decide)
