/-! ===== texts: whether a list goes on, in the class ===== -/
theorem q_goesOnF {σ : gMem} {t : Nat} {c : Nat → Nat} {x : Nat} (h : RX σ t c x) {f : Nat} (hf : f < 2 ^ 31) (e : σ 49 3 = nI f) (a : Int32) : m_X3_goesOn a σ = some (0, gst σ 49 2 (nI (sSk c t (t - x)))) := by
  have P := q_peek h
  have f3 : gst σ 49 2 (nI (sSk c t (t - x))) 49 3 = nI f := by rw [gst_eq, pk_un (by decide)]; exact e
  have f0 : (0 : Int32) ≤ nI f := nI_le (a := 0) (b := f) (by omega) hf
  unfold m_X3_goesOn
  rw [P, gb2_s, f3, if_pos f0]
theorem q_goesOn {σ : gMem} {t : Nat} {c : Nat → Nat} {x : Nat} (h : RX σ t c x) (e : σ 49 3 = -1) {k : Nat} (hk : k ≤ 8) (ek : σ 49 5 = nI k) {a : Nat} (ha : a < 1000) : m_X3_goesOn (nI a) σ = if sSk c t (t - x) < t then (if c (sSk c t (t - x)) = a ∧ k < 8 then some (1, gst σ 49 2 (nI (sSk c t (t - x) + 1))) else some (0, gst (gst σ 49 2 (nI (sSk c t (t - x)))) 49 3 (nI (sSk c t (t - x))))) else some (0, gst σ 49 2 (nI (sSk c t (t - x)))) := by
  have P := q_peek h
  have hx := h.2.2.2.2
  obtain ⟨r1, r2⟩ := sSk_r c t (t - x) (by omega)
  have g1 := RX_go h r2
  generalize sSk c t (t - x) = y at *
  have p1 := g1.2.2.2.1
  have f3 : gst σ 49 2 (nI y) 49 3 = -1 := by rw [gst_eq, pk_un (by decide)]; exact e
  have f5 : gst σ 49 2 (nI y) 49 5 = nI k := by rw [gst_eq, pk_un (by decide)]; exact ek
  unfold m_X3_goesOn
  rw [P, gb2_s, f3, if_neg (show ¬ (0 : Int32) ≤ -1 by decide)]
  by_cases k1 : y < t
  · obtain ⟨-, c1, c2⟩ := g1.2.2.1 y k1
    have q0 : (0 : Int32) ≤ nI (c y) := nI_le (a := 0) (b := c y) (by omega) (by omega)
    rw [if_pos k1, if_pos k1, if_pos q0]
    by_cases k2 : c y = a
    · rw [if_pos (show nI (c y) = nI a by rw [k2]), f5]
      by_cases k3 : k < 8
      · have q8 : nI k < (8 : Int32) := nI_lt (b := 8) k3 (by decide)
        rw [if_pos q8, if_pos ⟨k2, k3⟩, p1, nI_1, gst_gst, gnm_s]
      · have q8 : ¬ nI k < (8 : Int32) := fun h2 => k3 ((nI_ltI (b := 8) (by omega) (by decide)).mp h2)
        rw [if_neg q8, if_neg (fun h2 => k3 h2.2), p1, q_faultAt, gb1_s, xF_new f3]
    · have q1 : ¬ nI (c y) = nI a := fun h2 => k2 ((nI_eqI (by omega) (by omega)).mp h2)
      rw [if_neg q1, if_neg (fun h2 => k2 h2.1), p1, q_faultAt, gb1_s, xF_new f3]
  · rw [if_neg k1, if_neg k1, if_neg (show ¬ (0 : Int32) ≤ -1 by decide)]
/-- behind the reference's loop: what is left must be blanks -/
def mEnd (s8 : gMem) : Option gMem := if 0 ≤ (s8 0 5) then some s8 else (gb2 (m_X7_next s8) fun r42 s41 => if r42 = 0 then some s41 else (gb1 (m_X7_cannot (s41 0 4) s41) fun s44 => some s44))
theorem q_endF {μ : gMem} {f : Nat} (hf : f < 2 ^ 31) (e : μ 0 5 = nI f) : mEnd μ = some μ := by
  unfold mEnd
  have f0 : (0 : Int32) ≤ nI f := nI_le (a := 0) (b := f) (by omega) hf
  rw [e, if_pos f0]
theorem q_end {μ : gMem} {t : Nat} {c : Nat → Nat} {x : Nat} (h : RM μ t c x) (e : μ 0 5 = -1) : mEnd μ = some (if sSk c t (t - x) < t then gst (gst μ 0 4 (nI (sSk c t (t - x)))) 0 5 (nI (sSk c t (t - x))) else gst μ 0 4 (nI (sSk c t (t - x)))) := by
  have P := q_next h
  have hx := h.2.2.2.2
  obtain ⟨r1, r2⟩ := sSk_r c t (t - x) (by omega)
  have g1 := RM_go h r2
  generalize sSk c t (t - x) = y at *
  have p1 := g1.2.2.2.1
  have f3 : gst μ 0 4 (nI y) 0 5 = -1 := by rw [gst_eq, pk_un (by decide)]; exact e
  unfold mEnd
  rw [e, if_neg (show ¬ (0 : Int32) ≤ -1 by decide), P, gb2_s]
  by_cases k1 : y < t
  · obtain ⟨-, c1, c2⟩ := g1.2.2.1 y k1
    rw [if_pos k1, if_pos k1, if_neg (nI_ne0 (show 0 < c y by omega) (by omega)), p1, q_cannot, gb1_s, mF_new f3]
  · rw [if_neg k1, if_neg k1, if_pos rfl]
