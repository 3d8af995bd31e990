/-! ===== texts: the start of a reading; all places of a lagoon ===== -/
theorem q_begin {σ μ : gMem} (h : SIMt σ μ) : ∃ t c s m, m_X3_begin σ = some s ∧ m_X7_begin μ = some m ∧ RX s t c 0 ∧ RM m t c 0 ∧ s 49 3 = -1 ∧ m 0 5 = -1 ∧ s 49 5 = nI 0 ∧ s 49 4 = nI 0 ∧ (∀ j, j ≠ 49 → s j = σ j) ∧ mJ μ m := by
  obtain ⟨t, t80, e1, e2, e3⟩ := h
  have T : ∀ i, i < t → μ 2 i = nI ((μ 2 i).toNatClampNeg) ∧ 32 ≤ (μ 2 i).toNatClampNeg ∧ (μ 2 i).toNatClampNeg ≤ 126 := fun i hi => by
    obtain ⟨-, c, c1, c2, c3⟩ := e3 i hi
    rw [c3, nI_clamp (by omega)]; exact ⟨rfl, c1, c2⟩
  refine ⟨t, fun i => (μ 2 i).toNatClampNeg, gst (gst (gst (gst σ 49 2 0) 49 5 0) 49 4 0) 49 3 (-1), gst (gst μ 0 4 0) 0 5 (-1), rfl, rfl, ⟨?_, t80, fun i hi => ⟨?_, (T i hi).2⟩, ?_, Nat.zero_le _⟩, ⟨?_, t80, fun i hi => ⟨?_, (T i hi).2⟩, ?_, Nat.zero_le _⟩, ?_, ?_, ?_, ?_, fun j hj => ?_, mJ_t (mK_J (mK_s μ (Or.inl rfl) _)) (mK_J (mK_s _ (Or.inr (Or.inl rfl)) _))⟩
  · rw [gst_eq, pk_un (by decide), gst_eq, pk_un (by decide), gst_eq, pk_un (by decide), gst_eq, pk_un (by decide)]; exact e1
  · rw [gst_ne _ _ (by decide), gst_ne _ _ (by decide), gst_ne _ _ (by decide), gst_ne _ _ (by decide), (e3 i hi).1]; exact (T i hi).1
  · rw [gst_eq, pk_un (by decide), gst_eq, pk_un (by decide), gst_eq, pk_un (by decide), gst_eq, pk_us]; rfl
  · rw [gst_eq, pk_un (by decide), gst_eq, pk_un (by decide)]; exact e2
  · rw [gst_ne _ _ (by decide), gst_ne _ _ (by decide)]; exact (T i hi).1
  · rw [gst_eq, pk_un (by decide), gst_eq, pk_us]; rfl
  · rw [gst_eq, pk_us]
  · rw [gst_eq, pk_us]
  · rw [gst_eq, pk_un (by decide), gst_eq, pk_un (by decide), gst_eq, pk_us]; rfl
  · rw [gst_eq, pk_un (by decide), gst_eq, pk_us]; rfl
  · rw [gst_ne _ _ hj, gst_ne _ _ hj, gst_ne _ _ hj, gst_ne _ _ hj]
theorem q_readPlaces {σ μ : gMem} (h : SIMt σ μ) : ∃ s' m μ1 μ' K, m_X7_begin μ = some m ∧ m_X7_lagoon_10 gFU 0 0 1 m = some (nI K, μ1) ∧ mEnd μ1 = some μ' ∧ 1 ≤ K ∧ K ≤ 8 ∧ s' 49 5 = nI K ∧ ((∃ f, f ≤ 80 ∧ m_X3_readPlaces σ = some (-20 - nI f, s') ∧ μ' 0 5 = nI f) ∨ (m_X3_readPlaces σ = some (nI K, s') ∧ μ' 0 5 = -1 ∧ ∃ u', pD K u' s' μ')) ∧ (∀ j, j ≠ 49 → j ≠ 51 → j ≠ 53 → s' j = σ j) ∧ mJ μ μ' := by
  obtain ⟨t, c, s, m, b1, b2, r1, r2, f1, f2, e5, e4, fr, mj⟩ := q_begin h
  have t80 := r1.2.1
  obtain ⟨s', μ1, μ', K, z, i1, i2, i3, i4, i5, i6, i7, i8, i9, i10⟩ := q_lagoonLoop 8 0 0 s m 0 100000 100000 (by decide) (by decide) (by decide) (by decide) r1 r2 f1 f2 e5 e4 ⟨by decide, rfl, fun i hi => absurd hi (by omega)⟩
  have i1' : m_X3_readPlaces_6 gFU 1 s = some s' := i1
  have i2' : m_X7_lagoon_10 gFU (nI 0) (nI 0) 1 m = some (nI K, μ1) := i2
  rw [show nI 0 = 0 from rfl] at i2'
  refine ⟨s', m, μ1, μ', K, b2, i2', i3, i5, i6, i7, ?_, fun j j1 j2 j3 => by rw [i9 j j1 j2 j3]; exact fr j j1, mJ_t mj i10⟩
  rcases i8 with ⟨f, ft, a3, a5⟩ | ⟨a3, a5, u', D⟩
  · refine Or.inl ⟨f, by omega, ?_, a5⟩
    have f0 : (0 : Int32) ≤ nI f := nI_le (a := 0) (b := f) (by omega) (by omega)
    unfold m_X3_readPlaces
    rw [b1, gb1_s, i1', gb1_s]
    unfold m_X3_outcome
    rw [a3, if_pos f0, gb1_s]
  · refine Or.inr ⟨?_, a5, u', D⟩
    unfold m_X3_readPlaces
    rw [b1, gb1_s, i1', gb1_s]
    unfold m_X3_outcome
    rw [a3, if_neg (show ¬ (0 : Int32) ≤ -1 by decide), i7, gb1_s]
