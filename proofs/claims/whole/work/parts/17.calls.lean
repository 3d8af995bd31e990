/-! ===== the pure part: need, met, clear, image, restore ===== -/
theorem WF_need {p q n y : Nat} {z : Nat → Int32} (w : WF p q n y z) (hl : n < 10) {i a t : Nat} (hi : i < q) (ha : a < p) (ht : t < 24) : WF p q (n + 1) y (upd (upd (upd (upd z (90 + n) (nI i)) (100 + n) (nI a)) (110 + n) (nI t)) 64 (nI (n + 1))) := by
  obtain ⟨⟨a1, a2, a3, a4, hp, hq, hn', hy⟩, b, c, e, f, g, k, m⟩ := w
  have U : ∀ j, j ≠ 90 + n → j ≠ 100 + n → j ≠ 110 + n → j ≠ 64 → upd (upd (upd (upd z (90 + n) (nI i)) (100 + n) (nI a)) (110 + n) (nI t)) 64 (nI (n + 1)) j = z j := fun j h1 h2 h3 h4 => by rw [pk_un h4, pk_un h3, pk_un h2, pk_un h1]
  have U0 : upd (upd (upd (upd z (90 + n) (nI i)) (100 + n) (nI a)) (110 + n) (nI t)) 64 (nI (n + 1)) (90 + n) = nI i := by rw [pk_un (by omega), pk_un (by omega), pk_un (by omega), pk_us]
  have U1 : upd (upd (upd (upd z (90 + n) (nI i)) (100 + n) (nI a)) (110 + n) (nI t)) 64 (nI (n + 1)) (100 + n) = nI a := by rw [pk_un (by omega), pk_un (by omega), pk_us]
  have U2 : upd (upd (upd (upd z (90 + n) (nI i)) (100 + n) (nI a)) (110 + n) (nI t)) 64 (nI (n + 1)) (110 + n) = nI t := by rw [pk_un (by omega), pk_us]
  have U3 : upd (upd (upd (upd z (90 + n) (nI i)) (100 + n) (nI a)) (110 + n) (nI t)) 64 (nI (n + 1)) 64 = nI (n + 1) := pk_us
  generalize upd (upd (upd (upd z (90 + n) (nI i)) (100 + n) (nI a)) (110 + n) (nI t)) 64 (nI (n + 1)) = z' at U U0 U1 U2 U3
  refine ⟨⟨by rw [U 62 (by omega) (by omega) (by omega) (by omega)]; exact a1, by rw [U 63 (by omega) (by omega) (by omega) (by omega)]; exact a2, U3, by rw [U 65 (by omega) (by omega) (by omega) (by omega)]; exact a4, hp, hq, by omega, hy⟩, fun j hj => ?_, ?_, fun j hj => ?_, ?_, fun j hj => ?_, fun j hj => ?_, fun s t hs ht => ?_⟩
  · rw [U j (by omega) (by omega) (by omega) (by omega), U (12 + j) (by omega) (by omega) (by omega) (by omega), U (24 + j) (by omega) (by omega) (by omega) (by omega)]
    exact b j hj
  · rw [npo_congr (z' := z) (fun k hk => U k (by omega) (by omega) (by omega) (by omega)) p hp]; exact c
  · rw [U (36 + j) (by omega) (by omega) (by omega) (by omega)]; exact e j hj
  · rw [U 60 (by omega) (by omega) (by omega) (by omega), U 61 (by omega) (by omega) (by omega) (by omega)]; exact f
  · rw [U (66 + j) (by omega) (by omega) (by omega) (by omega), U (74 + j) (by omega) (by omega) (by omega) (by omega), U (82 + j) (by omega) (by omega) (by omega) (by omega)]
    exact g j hj
  · by_cases e1 : j = n
    · subst e1
      rw [U0, U1, U2]
      exact ⟨⟨i, hi, rfl⟩, ⟨a, ha, rfl⟩, t, ht, rfl⟩
    · rw [U (90 + j) (by omega) (by omega) (by omega) (by omega), U (100 + j) (by omega) (by omega) (by omega) (by omega), U (110 + j) (by omega) (by omega) (by omega) (by omega)]
      exact k j (by omega)
  · rw [U (120 + 12 * s + t) (by omega) (by omega) (by omega) (by omega), U (120 + 12 * t + s) (by omega) (by omega) (by omega) (by omega)]
    exact m s t hs ht
theorem p_need {σ μ : gMem} (h : INV σ μ) (a b c : Int32) : OKu σ μ (m_X6_need a b c σ) (m_X7_need a b c μ) := by
  obtain ⟨hs, p, q, n, y, w⟩ := h
  have hp := w.1.1
  have hq := w.1.2.1
  have hn := w.1.2.2.1
  have hp12 := w.1.2.2.2.2.1
  have hq8 := w.1.2.2.2.2.2.1
  have hn10 := w.1.2.2.2.2.2.2.1
  have I : INV σ μ := ⟨hs, p, q, n, y, w⟩
  rcases wi_c (n := q) (by omega) a with hu | ⟨hu, k, hk, rfl⟩
  · exact ⟨-1, σ, μ, by simp only [m_X6_need, q_hasPerson hs.1 hq, gb1_s, hu, if_true], by simp only [m_X7_need, q_isPerson hq, gb1_s, hu, if_true], I⟩
  rcases wi_c (n := p) (by omega) b with hw | ⟨hw, i, hi, rfl⟩
  · exact ⟨-1, σ, μ, by simp only [m_X6_need, q_hasPerson hs.1 hq, q_hasPlace hs.1 hp, gb1_s, hu, hw, ne10, if_true, if_false], by simp only [m_X7_need, q_isPerson hq, q_isPlace hp, gb1_s, hu, hw, ne10, if_true, if_false], I⟩
  rcases wi_n (m := 23) (by decide) c with hv | ⟨hv, t, ht, rfl⟩
  · replace hv : wi c 0 23 = 0 := hv
    exact ⟨-1, σ, μ, by simp only [m_X6_need, q_hasPerson hs.1 hq, q_hasPlace hs.1 hp, q_isHour, gb1_s, hu, hw, hv, ne10, if_true, if_false], by simp only [m_X7_need, q_isPerson hq, q_isPlace hp, q_isHourM, gb1_s, hu, hw, hv, ne10, if_true, if_false], I⟩
  replace hv : wi (nI t) 0 23 = 1 := hv
  have hσ : σ 1 12 = nI n := (Rg_nee hs.1).trans hn
  by_cases hl : n < 10
  · have t1 : nI n < 10 := nI_lt (b := 10) hl (by decide)
    have t2 : ¬ nI n = 10 := fun e => absurd ((nI_eq (b := 10) (by omega) (by decide)).mp e) (by omega)
    have s1 := SIM_set hs (k := 90 + n) (by omega) (ca_who hl) (nI k)
    have s2 := SIM_set s1 (k := 100 + n) (by omega) (ca_whe hl) (nI i)
    have s3 := SIM_set s2 (k := 110 + n) (by omega) (ca_whn hl) (nI t)
    have s4 := SIM_set s3 (k := 64) (by omega) (c := 1) (s := 12) rfl (nI (n + 1))
    have e1 : (90 : Int32) + nI n = nI (90 + n) := by rw [show (90 : Int32) = nI 90 from rfl, nI_add]
    have e2 : (100 : Int32) + nI n = nI (100 + n) := by rw [show (100 : Int32) = nI 100 from rfl, nI_add]
    have e3 : (110 : Int32) + nI n = nI (110 + n) := by rw [show (110 : Int32) = nI 110 from rfl, nI_add]
    refine ⟨nI n, _, _, ?_, ?_, s4, p, q, n + 1, y, ?_⟩
    · simp only [m_X6_need, q_hasPerson hs.1 hq, q_hasPlace hs.1 hp, q_isHour, gb1_s, hw, hv, hu, ne10, if_false, if_true, hσ, t1, m_X1_addNeed, gst_a, inb_t hl (show 10 < 2 ^ 31 by decide), gck_s, gnm_s, gb2_s, nI_clamp (show n < 2 ^ 31 by omega), nI_1, show ((1 : Nat) = 10) = False from by decide, show ((1 : Nat) = 11) = False from by decide, show ((1 : Nat) = 12) = False from by decide]
    · simp only [m_X7_need, q_isPerson hq, q_isPlace hp, q_isHourM, gb1_s, hw, hv, hu, ne10, if_false, in64, gck_s, l64, hn, t2, gnm_s, e1, e2, e3, inb_t (show 90 + n < 528 by omega) (by decide), inb_t (show 100 + n < 528 by omega) (by decide), inb_t (show 110 + n < 528 by omega) (by decide), nI_clamp (show 90 + n < 2 ^ 31 by omega), nI_clamp (show 100 + n < 2 ^ 31 by omega), nI_clamp (show 110 + n < 2 ^ 31 by omega), gst_eq, pk_un (show 64 ≠ 110 + n by omega), pk_un (show 64 ≠ 100 + n by omega), pk_un (show 64 ≠ 90 + n by omega), nI_1]
    · simp only [gst_eq]
      exact WF_need w hl hk hi (by omega)
  · have e8 : n = 10 := by omega
    subst e8
    refine ⟨-3, σ, μ, ?_, ?_, I⟩
    · simp only [m_X6_need, q_hasPerson hs.1 hq, q_hasPlace hs.1 hp, q_isHour, gb1_s, hw, hv, hu, ne10, if_false, hσ, show ¬ nI 10 < 10 from by decide]
    · simp only [m_X7_need, q_isPerson hq, q_isPlace hp, q_isHourM, gb1_s, hw, hv, hu, ne10, if_false, in64, gck_s, l64, hn, show nI 10 = 10 from rfl, if_true]
/-- NEED i by stilts of a length -/
theorem q_isMet {σ : gMem} {z : Nat → Int32} (h : Rg 1 13 σ z) {j i a t : Nat} (hj : j < 10) (e1 : z (90 + j) = nI i) (hi : i < 8) (e2 : z (100 + j) = nI a) (ha : a < 12) (e3 : z (110 + j) = nI t) (ht : t < 24) {l : Int32} (hl : 0 ≤ l.toInt ∧ l.toInt ≤ 100000) : m_X1_isMet (nI j) l σ = some (sD z i l a t) := by
  simp only [m_X1_isMet, inb_t hj (show 10 < 2 ^ 31 by decide), gck_s, nI_clamp (show j < 2 ^ 31 by omega), Rg_who h hj, Rg_whe h hj, Rg_whn h hj, e1, e2, e3, q_waterAt h ha ht, gb1_s, inb_t hi (show 8 < 2 ^ 31 by decide), nI_clamp (show i < 2 ^ 31 by omega), Rg_kin h hi, Rg_yea h, q_bears h hl, izb_w (sB_01 _ _ _ _ _)]
  rfl
/-- whether NEED j is met, as all numbers stand -/
def sM (z : Nat → Int32) (j : Nat) (l : Int32) : Int32 := sD z (z (90 + j)).toNatClampNeg l (z (100 + j)).toNatClampNeg (z (110 + j)).toNatClampNeg
theorem p_met {σ μ : gMem} (h : INV σ μ) : OKp (m_X6_met σ) (m_X7_met μ) := by
  obtain ⟨hs, p, q, n, y, w⟩ := h
  have hn := w.1.2.2.1
  have hp12 := w.1.2.2.2.2.1
  have hq8 := w.1.2.2.2.2.2.1
  have hn10 := w.1.2.2.2.2.2.2.1
  have hσ : σ 1 12 = nI n := (Rg_nee hs.1).trans hn
  have S : ∀ j, j < n → ∃ r, sM (μ 1) j (μ 1 (74 + (μ 1 (90 + j)).toNatClampNeg)) = r ∧ (r = 0 ∨ r = 1) ∧ inb (σ 10 j) 8 = true ∧ m_X1_isMet (nI j) (σ 8 (σ 10 j).toNatClampNeg) σ = some r ∧ m_X7_does (μ 1 (90 + j)) (μ 1 (100 + j)) (μ 1 (110 + j)) μ = some r := by
    intro j hj
    obtain ⟨⟨i, hi, e1⟩, ⟨a, ha, e2⟩, t, ht, e3⟩ := w.2.2.2.2.2.2.1 j hj
    obtain ⟨-, g1, g2, -⟩ := w.2.2.2.2.2.1 i hi
    refine ⟨_, rfl, sD_01 _ _ _ _ _, ?_, ?_, ?_⟩
    · rw [Rg_who hs.1 (show j < 10 by omega), e1]; exact inb_t (by omega) (by decide)
    · rw [Rg_who hs.1 (show j < 10 by omega), e1, nI_clamp (by omega), Rg_tol hs.1 (show i < 8 by omega), q_isMet hs.1 (show j < 10 by omega) e1 (by omega) e2 (by omega) e3 ht ⟨g1, by omega⟩]
      simp only [sM, e1, e2, e3, nI_clamp (show i < 2 ^ 31 by omega), nI_clamp (show a < 2 ^ 31 by omega), nI_clamp (show t < 2 ^ 31 by omega)]
    · rw [e1, e2, e3, q_does (by omega) (by omega) ht]
      simp only [sM, e1, e2, e3, nI_clamp (show i < 2 ^ 31 by omega), nI_clamp (show a < 2 ^ 31 by omega), nI_clamp (show t < 2 ^ 31 by omega)]
  have L1 : m_X6_met_4 σ gFU 0 0 = some (sBits (fun j => sM (μ 1) j (μ 1 (74 + (μ 1 (90 + j)).toNatClampNeg))) n) := by
    refine for_to (fun m t => m_X6_met_4 σ m (sBits (fun j => sM (μ 1) j (μ 1 (74 + (μ 1 (90 + j)).toNatClampNeg))) t) (nI t)) n _ (fun m t ht => ?_) (fun m => ?_) (by omega)
    · show b_X6_met_4 σ (m_X6_met_4 σ m) _ (nI t) = _
      obtain ⟨r, e0, e1, e2, e3, -⟩ := S t ht
      have c1 : ¬ nI n ≤ nI t := nI_ge ht (by omega)
      simp only [b_X6_met_4, hσ, c1, if_false, inb_t (show t < 10 by omega) (by decide), gck_s, nI_clamp (show t < 2 ^ 31 by omega), e2, e3, gb1_s, gnm_s, nI_1, sBits, e0]
      rcases e1 with f | f <;> simp only [f, if_true, ne10, if_false]
    · show b_X6_met_4 σ (m_X6_met_4 σ m) _ (nI n) = _
      simp only [b_X6_met_4, hσ, nI_le (Nat.le_refl n) (show n < 2 ^ 31 by omega), if_true]
  have L2 : m_X7_met_4 μ gFU 0 0 = some (sBits (fun j => sM (μ 1) j (μ 1 (74 + (μ 1 (90 + j)).toNatClampNeg))) n) := by
    refine for_to (fun m t => m_X7_met_4 μ m (sBits (fun j => sM (μ 1) j (μ 1 (74 + (μ 1 (90 + j)).toNatClampNeg))) t) (nI t)) n _ (fun m t ht => ?_) (fun m => ?_) (by omega)
    · show b_X7_met_4 μ (m_X7_met_4 μ m) _ (nI t) = _
      obtain ⟨r, e0, e1, -, -, e4⟩ := S t ht
      have c1 : ¬ nI n ≤ nI t := nI_ge ht (by omega)
      have f1 : (90 : Int32) + nI t = nI (90 + t) := by rw [show (90 : Int32) = nI 90 from rfl, nI_add]
      have f2 : (100 : Int32) + nI t = nI (100 + t) := by rw [show (100 : Int32) = nI 100 from rfl, nI_add]
      have f3 : (110 : Int32) + nI t = nI (110 + t) := by rw [show (110 : Int32) = nI 110 from rfl, nI_add]
      simp only [b_X7_met_4, in64, gck_s, l64, hn, c1, if_false, f1, f2, f3, inb_t (show 90 + t < 528 by omega) (by decide), inb_t (show 100 + t < 528 by omega) (by decide), inb_t (show 110 + t < 528 by omega) (by decide), nI_clamp (show 90 + t < 2 ^ 31 by omega), nI_clamp (show 100 + t < 2 ^ 31 by omega), nI_clamp (show 110 + t < 2 ^ 31 by omega), e4, gb1_s, gnm_s, nI_1, sBits, e0, or0]
      rcases e1 with f | f <;> simp only [f, if_true, ne10, if_false]
    · show b_X7_met_4 μ (m_X7_met_4 μ m) _ (nI n) = _
      simp only [b_X7_met_4, in64, gck_s, l64, hn, nI_le (Nat.le_refl n) (show n < 2 ^ 31 by omega), if_true]
  exact ⟨sBits (fun j => sM (μ 1) j (μ 1 (74 + (μ 1 (90 + j)).toNatClampNeg))) n, by simp only [m_X6_met, L1, gb1_s], by simp only [m_X7_met, L2, gb1_s]⟩
theorem p_clear {σ μ : gMem} (h : INV σ μ) : OKu σ μ (m_X6_clear σ) (m_X7_clear μ) := by
  obtain ⟨hs, p, q, n, y, w⟩ := h
  have hq := w.1.2.1
  have s1 := SIM_set hs (k := 63) (by omega) (c := 1) (s := 8) rfl 0
  have s2 := SIM_set s1 (k := 64) (by omega) (c := 1) (s := 12) rfl 0
  have hσ : σ 1 8 = μ 1 63 := Rg_peo hs.1
  refine ⟨μ 1 63, _, _, ?_, ?_, s2, p, 0, 0, y, ?_⟩
  · simp only [m_X6_clear, gnm_s, hσ]
  · simp only [m_X7_clear, in63, in64, gck_s, gnm_s, l63, l64]
  · simp only [gst_eq]
    have U : ∀ j, j ≠ 63 → j ≠ 64 → upd (upd (μ 1) 63 0) 64 0 j = μ 1 j := fun j h1 h2 => by rw [pk_un h2, pk_un h1]
    have U1 : upd (upd (μ 1) 63 0) 64 0 63 = nI 0 := by rw [pk_un (by omega), pk_us]; rfl
    have U2 : upd (upd (μ 1) 63 0) 64 0 64 = nI 0 := by rw [pk_us]; rfl
    generalize upd (upd (μ 1) 63 0) 64 0 = z' at U U1 U2
    obtain ⟨⟨a1, a2, a3, a4, hp, hq, hn', hy⟩, b, c, e, f, g, k, m⟩ := w
    refine ⟨⟨by rw [U 62 (by omega) (by omega)]; exact a1, U1, U2, by rw [U 65 (by omega) (by omega)]; exact a4, hp, by omega, by omega, hy⟩, fun j hj => ?_, ?_, fun j hj => ?_, ?_, fun j hj => absurd hj (by omega), fun j hj => absurd hj (by omega), fun s t hs ht => ?_⟩
    · rw [U j (by omega) (by omega), U (12 + j) (by omega) (by omega), U (24 + j) (by omega) (by omega)]; exact b j hj
    · rw [npo_congr (z' := μ 1) (fun k hk => U k (by omega) (by omega)) p hp]; exact c
    · rw [U (36 + j) (by omega) (by omega)]; exact e j hj
    · rw [U 60 (by omega) (by omega), U 61 (by omega) (by omega)]; exact f
    · rw [U (120 + 12 * s + t) (by omega) (by omega), U (120 + 12 * t + s) (by omega) (by omega)]; exact m s t hs ht
