/-! ===== texts: all paths are taken away ===== -/
theorem q_settle30 (σ : gMem) {r : Nat} (hr : r < 12) : ∃ s, m_X1_settle_30 (nI r) gFU 0 σ = some s ∧ (∀ c, c ≠ 13 + r → s c = σ c) ∧ ∀ j, j < 12 → s (13 + r) j = 0 := by
  obtain ⟨s, L, q1, q2⟩ := run_to (G := fun m i s => m_X1_settle_30 (nI r) m (nI i) s) (Q := fun i s => (∀ c, c ≠ 13 + r → s c = σ c) ∧ ∀ j, j < i → s (13 + r) j = 0) (N := 12) (by decide) (fun m i s hi hq => by
    obtain ⟨q1, q2⟩ := hq
    refine ⟨gst s (13 + r) i 0, ?_, fun c hc => by rw [gst_ne _ _ hc]; exact q1 c hc, fun j hj => ?_⟩
    · show b_X1_settle_30 (nI r) (m_X1_settle_30 (nI r) m) (nI i) s = _
      have c1 : ¬ (12 : Int32) ≤ nI i := nI_ge (b := 12) hi (by decide)
      simp only [b_X1_settle_30, c1, if_false, inb_t hr (show 12 < 2 ^ 31 by decide), inb_t hi (show 12 < 2 ^ 31 by decide), gck_s, gnm_s, nI_clamp (show r < 2 ^ 31 by omega), nI_clamp (show i < 2 ^ 31 by omega), nI_1]
    · rw [gst_eq]
      by_cases e : j = i
      · rw [e]; exact pk_us
      · rw [pk_un e]; exact q2 j (by omega)) (fun m s hq => by
    show b_X1_settle_30 (nI r) (m_X1_settle_30 (nI r) m) (nI 12) s = _
    simp only [b_X1_settle_30, show (12 : Int32) ≤ nI 12 from by decide, if_true]) (s := σ) ⟨fun c _ => rfl, fun j hj => absurd hj (by omega)⟩
  have L' : m_X1_settle_30 (nI r) gFU (nI 0) σ = some s := L
  rw [show nI 0 = 0 from rfl] at L'
  exact ⟨s, L', q1, q2⟩
theorem q_settle22 (σ : gMem) : ∃ s, m_X1_settle_22 gFU 0 σ = some s ∧ (∀ c, c < 13 ∨ 25 ≤ c → s c = σ c) ∧ ∀ r j, r < 12 → j < 12 → s (13 + r) j = 0 := by
  obtain ⟨s, L, q1, q2⟩ := run_to (G := fun m i s => m_X1_settle_22 m (nI i) s) (Q := fun i s => (∀ c, c < 13 ∨ 25 ≤ c → s c = σ c) ∧ ∀ r j, r < i → j < 12 → s (13 + r) j = 0) (N := 12) (by decide) (fun m i s hi hq => by
    obtain ⟨q1, q2⟩ := hq
    obtain ⟨s', e1, e2, e3⟩ := q_settle30 s hi
    refine ⟨s', ?_, fun c hc => by rw [e2 c (by omega)]; exact q1 c hc, fun r j hr hj => ?_⟩
    · show b_X1_settle_22 (m_X1_settle_22 m) (nI i) s = _
      have c1 : ¬ (12 : Int32) ≤ nI i := nI_ge (b := 12) hi (by decide)
      simp only [b_X1_settle_22, c1, if_false, e1, gb1_s, gnm_s, nI_1]
    · by_cases e : r = i
      · rw [e]; exact e3 j hj
      · rw [e2 _ (by omega)]; exact q2 r j (by omega) hj) (fun m s hq => by
    show b_X1_settle_22 (m_X1_settle_22 m) (nI 12) s = _
    simp only [b_X1_settle_22, show (12 : Int32) ≤ nI 12 from by decide, if_true]) (s := σ) ⟨fun c _ => rfl, fun r j hr => absurd hr (by omega)⟩
  have L' : m_X1_settle_22 gFU (nI 0) σ = some s := L
  rw [show nI 0 = 0 from rfl] at L'
  exact ⟨s, L', q1, q2⟩
theorem q_clear244 (μ : gMem) : ∃ s, m_X7_lagoon_244 gFU 0 μ = some s ∧ (∀ c, c ≠ 1 → s c = μ c) ∧ (∀ j, j < 120 ∨ 264 ≤ j → s 1 j = μ 1 j) ∧ ∀ k, k < 144 → s 1 (120 + k) = 0 := by
  obtain ⟨s, L, q1, q2, q3⟩ := run_to (G := fun m i s => m_X7_lagoon_244 m (nI i) s) (Q := fun i s => (∀ c, c ≠ 1 → s c = μ c) ∧ (∀ j, j < 120 ∨ 264 ≤ j → s 1 j = μ 1 j) ∧ ∀ k, k < i → s 1 (120 + k) = 0) (N := 144) (by decide) (fun m i s hi hq => by
    obtain ⟨q1, q2, q3⟩ := hq
    refine ⟨gst s 1 (120 + i) 0, ?_, fun c hc => by rw [gst_ne _ _ hc]; exact q1 c hc, fun j hj => by rw [gst_eq, pk_un (by omega)]; exact q2 j hj, fun k hk => ?_⟩
    · show b_X7_lagoon_244 (m_X7_lagoon_244 m) (nI i) s = _
      have c1 : ¬ (144 : Int32) ≤ nI i := nI_ge (b := 144) hi (by decide)
      have f1 : (120 : Int32) + nI i = nI (120 + i) := nI_add 120 i
      simp only [b_X7_lagoon_244, c1, if_false, f1, inb_t (show 120 + i < 528 by omega) (show 528 < 2 ^ 31 by decide), gck_s, gnm_s, nI_clamp (show 120 + i < 2 ^ 31 by omega), nI_1]
    · rw [gst_eq]
      by_cases e : k = i
      · rw [e]; exact pk_us
      · rw [pk_un (by omega)]; exact q3 k (by omega)) (fun m s hq => by
    show b_X7_lagoon_244 (m_X7_lagoon_244 m) (nI 144) s = _
    simp only [b_X7_lagoon_244, show (144 : Int32) ≤ nI 144 from by decide, if_true]) (s := μ) ⟨fun c _ => rfl, fun j _ => rfl, fun k hk => absurd hk (by omega)⟩
  have L' : m_X7_lagoon_244 gFU (nI 0) μ = some s := L
  rw [show nI 0 = 0 from rfl] at L'
  exact ⟨s, L', q1, q2, q3⟩
