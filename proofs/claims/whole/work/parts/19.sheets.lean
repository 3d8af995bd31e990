/-! ===== the pure part: sheets ===== -/
theorem q_isSheet (a : Int32) (σ : gMem) : m_X6_isSheet a σ = some (wi a 0 3) := by
  simp only [m_X6_isSheet, q_within, gb1_s, izb_wi, gck_s]
theorem q_isSheetM (a : Int32) (σ : gMem) : m_X7_isSheet a σ = some (wi a 0 3) := by
  have e : m_X7_in a.toInt64 0 3 σ = some (wi a 0 3) := q_in a 0 3 σ
  simp only [m_X7_isSheet, e, gb1_s, izb_wi, gck_s]
theorem q_isLane (a : Int32) (σ : gMem) : m_X6_isLane a σ = some (wi a 0 2) := by
  simp only [m_X6_isLane, q_within, gb1_s, izb_wi, gck_s]
theorem q_isLaneM (a : Int32) (σ : gMem) : m_X7_isLane a σ = some (wi a 0 2) := by
  have e : m_X7_in a.toInt64 0 2 σ = some (wi a 0 2) := q_in a 0 2 σ
  simp only [m_X7_isLane, e, gb1_s, izb_wi, gck_s]
theorem INV_sh {σ μ σ' μ' : gMem} (h : INV σ μ) (h1 : ∀ c, c < 205 → σ' c = σ c) (h2 : ∀ c, c < 4 → μ' c = μ c) (h3 : SIMs σ' μ') : INV σ' μ' := by
  obtain ⟨⟨hR, hi, ht, -⟩, hw⟩ := h
  refine ⟨⟨?_, ?_, ?_, h3⟩, ?_⟩
  · rw [h2 1 (by decide)]; exact Rg_fr hR (fun c _ h => h1 c (by omega))
  · exact SIMi_fr hi (by rw [h1 0 (by decide)]) (by rw [h2 0 (by decide)]) (fun c _ h => h1 c (by omega)) (fun k _ => by rw [h2 1 (by decide)])
  · exact SIMt_fr ht (by rw [h1 49 (by decide)]) (by rw [h2 0 (by decide)]) (h1 50 (by decide)) (h2 2 (by decide))
  · rw [h2 1 (by decide)]; exact hw
def SHs (σ μ : gMem) (s : Nat) : Prop := ∃ n : Nat, n ≤ 24 ∧ σ (205 + s) 2 = nI n ∧ μ 6 s = nI n ∧ ((σ (205 + s) 0 = 0 ∧ μ 5 s = -1) ∨ (σ (205 + s) 0 = 1 ∧ ∃ l : Nat, l ≤ 2 ∧ σ (205 + s) 1 = nI l ∧ μ 5 s = nI l)) ∧ ∀ i, i < n → σ (209 + s) i = μ 4 (24 * s + i)
theorem SIMs_at {σ μ σ' μ' : gMem} (h : SIMs σ μ) {s : Nat} (hf : ∀ t, t < 4 → t ≠ s → σ' (205 + t) = σ (205 + t) ∧ σ' (209 + t) = σ (209 + t) ∧ μ' 5 t = μ 5 t ∧ μ' 6 t = μ 6 t ∧ ∀ i, i < 24 → μ' 4 (24 * t + i) = μ 4 (24 * t + i)) (hs : SHs σ' μ' s) : SIMs σ' μ' := by
  intro t ht
  by_cases e : t = s
  · subst e; exact hs
  · obtain ⟨e1, e2, e3, e4, e5⟩ := hf t ht e
    obtain ⟨n, a, b, c, d, f⟩ := h t ht
    rw [e1, e2, e3, e4]
    exact ⟨n, a, b, c, d, fun i hi => by rw [e5 i (by omega)]; exact f i hi⟩
theorem nIm1 (n : Nat) (h : n < 2 ^ 31) : ¬ nI n = -1 := by
  intro e
  have := nI_toInt h
  rw [e] at this
  have : (-1 : Int) = n := this
  omega
theorem p_drop {σ μ : gMem} (h : INV σ μ) (a : Int32) : OKu σ μ (m_X6_drop a σ) (m_X7_drop a μ) := by
  rcases wi_n (m := 3) (by decide) a with hw | ⟨hw, s, hs, rfl⟩
  · replace hw : wi a 0 3 = 0 := hw
    exact ⟨-1, σ, μ, by simp only [m_X6_drop, q_isSheet, gb1_s, hw, if_true], by simp only [m_X7_drop, q_isSheetM, gb1_s, hw, if_true], h⟩
  replace hw : wi (nI s) 0 3 = 1 := hw
  obtain ⟨n, hn, e1, e2, e3, e4⟩ := h.1.2.2.2 s (by omega)
  have b := inb_t (show s < 4 by omega) (show 4 < 2 ^ 31 by decide)
  have c := nI_clamp (show s < 2 ^ 31 by omega)
  rcases e3 with ⟨e3, e5⟩ | ⟨e3, l, hl, e5, e6⟩
  · exact ⟨-11, σ, μ, by simp only [m_X6_drop, q_isSheet, gb1_s, hw, ne10, if_false, b, gck_s, c, e3, if_true], by simp only [m_X7_drop, q_isSheetM, gb1_s, hw, ne10, if_false, b, gck_s, c, e5, show ¬ (0 : Int32) ≤ -1 from by decide], h⟩
  · refine ⟨nI n, gst σ (205 + s) 0 0, gst μ 5 s (-1), ?_, ?_, INV_sh h (fun c hc => gst_ne _ _ (by omega)) (fun c hc => gst_ne _ _ (by omega)) (SIMs_at h.1.2.2.2 (s := s) (fun t ht hts => ⟨gst_ne _ _ (by omega), gst_ne _ _ (by omega), by rw [gst_eq, pk_un hts], by rw [gst_ne _ _ (by decide)], fun i hi => by rw [gst_ne _ _ (by decide)]⟩) ⟨n, hn, ?_, ?_, Or.inl ⟨?_, ?_⟩, fun i hi => ?_⟩)⟩
    · simp only [m_X6_drop, q_isSheet, gb1_s, hw, ne10, if_false, b, gck_s, c, e3, gnm_s, gst_eq, pk_un (show 2 ≠ 0 by decide), e1]
    · simp only [m_X7_drop, q_isSheetM, gb1_s, hw, ne10, if_false, b, gck_s, c, e6, nI_pos' (show l < 2 ^ 31 by omega), if_true, gnm_s, gst_ne _ _ (show (6 : Nat) ≠ 5 by decide), e2]
    · rw [gst_eq, pk_un (by decide)]; exact e1
    · rw [gst_ne _ _ (by decide)]; exact e2
    · rw [gst_eq, pk_us]
    · rw [gst_eq, pk_us]
    · rw [gst_ne _ _ (by omega), gst_ne _ _ (by decide)]; exact e4 i hi
/-- a row from its start, zeros -/
theorem q_hold (s : Nat) (σ : gMem) : m_X2_hold_17 s gFU 0 σ = some (grow σ (209 + s) (fun j => if j < 24 then 0 else σ (209 + s) j)) := by
  have e0 : σ = grow σ (209 + s) (fun j => if j < 0 then 0 else σ (209 + s) j) := by
    funext a; unfold grow
    by_cases ha : a = 209 + s
    · subst ha; rw [if_pos rfl]; funext j; rw [if_neg (by omega)]
    · rw [if_neg ha]
  have := for_to (fun n i => m_X2_hold_17 s n (nI i) (grow σ (209 + s) (fun j => if j < i then 0 else σ (209 + s) j))) 24 (grow σ (209 + s) (fun j => if j < 24 then 0 else σ (209 + s) j)) (fun n i hi => ?_) (fun n => rfl) (by decide)
  · rw [← e0] at this; exact this
  · show b_X2_hold_17 s (m_X2_hold_17 s n) (nI i) _ = _
    have c1 : ¬ (24 : Int32) ≤ nI i := nI_ge (b := 24) hi (by decide)
    simp only [b_X2_hold_17, c1, if_false, inb_t hi (show 24 < 2 ^ 31 by decide), gck_s, gnm_s, nI_clamp (show i < 2 ^ 31 by omega), nI_1]
    congr 1
    funext a; unfold gst grow
    by_cases ha : a = 209 + s
    · subst ha
      simp only [if_true]
      funext j; unfold upd; dsimp only
      by_cases hj : j = i
      · subst hj; rw [if_pos rfl, if_pos (by omega)]
      · rw [if_neg hj]
        by_cases q : j < i
        · rw [if_pos q, if_pos (by omega)]
        · rw [if_neg q, if_neg (by omega)]
    · simp only [ha, if_false]
theorem q_sheetM {μ : gMem} {s n : Nat} (hs : s < 4) (hn : n ≤ 24) : m_X7_sheet_46 (nI s) (nI n) gFU 0 μ = some (grow μ 4 (fun j => if 24 * s ≤ j ∧ j < 24 * s + n then 0 else μ 4 j)) := by
  have e0 : μ = grow μ 4 (fun j => if 24 * s ≤ j ∧ j < 24 * s + 0 then 0 else μ 4 j) := by
    funext a; unfold grow
    by_cases ha : a = 4
    · subst ha; rw [if_pos rfl]; funext j; rw [if_neg (by omega)]
    · rw [if_neg ha]
  have := for_to (fun m i => m_X7_sheet_46 (nI s) (nI n) m (nI i) (grow μ 4 (fun j => if 24 * s ≤ j ∧ j < 24 * s + i then 0 else μ 4 j))) n (grow μ 4 (fun j => if 24 * s ≤ j ∧ j < 24 * s + n then 0 else μ 4 j)) (fun m i hi => ?_) (fun m => ?_) (by omega)
  · rw [← e0] at this; exact this
  · show b_X7_sheet_46 (nI s) (nI n) (m_X7_sheet_46 (nI s) (nI n) m) (nI i) _ = _
    have c1 : ¬ nI n ≤ nI i := nI_ge hi (by omega)
    have e1 : (24 : Int32) * nI s + nI i = nI (24 * s + i) := by rw [show (24 : Int32) = nI 24 from rfl, nI_mul, nI_add]
    simp only [b_X7_sheet_46, c1, if_false, e1, inb_t (show 24 * s + i < 96 by omega) (by decide), gck_s, gnm_s, nI_clamp (show 24 * s + i < 2 ^ 31 by omega), nI_1]
    congr 1
    funext a; unfold gst grow
    by_cases ha : a = 4
    · subst ha
      simp only [if_true]
      funext j; unfold upd; dsimp only
      by_cases hj : j = 24 * s + i
      · subst hj; rw [if_pos rfl, if_pos (by omega)]
      · rw [if_neg hj]
        by_cases q : 24 * s ≤ j ∧ j < 24 * s + i
        · rw [if_pos q, if_pos (by omega)]
        · rw [if_neg q, if_neg (by omega)]
    · simp only [ha, if_false]
  · show b_X7_sheet_46 (nI s) (nI n) (m_X7_sheet_46 (nI s) (nI n) m) (nI n) _ = _
    simp only [b_X7_sheet_46, nI_le (Nat.le_refl n) (show n < 2 ^ 31 by omega), if_true]
theorem p_sheet {σ μ : gMem} (h : INV σ μ) (a b c : Int32) : OKu σ μ (m_X6_sheet a b c σ) (m_X7_sheet a b c μ) := by
  rcases wi_n (m := 3) (by decide) a with hw | ⟨hw, s, hs, rfl⟩
  · replace hw : wi a 0 3 = 0 := hw
    exact ⟨-1, σ, μ, by simp only [m_X6_sheet, q_isSheet, gb1_s, hw, if_true], by simp only [m_X7_sheet, q_isSheetM, gb1_s, hw, if_true], h⟩
  replace hw : wi (nI s) 0 3 = 1 := hw
  rcases wi_n (m := 2) (by decide) b with hv | ⟨hv, l, hl, rfl⟩
  · replace hv : wi b 0 2 = 0 := hv
    exact ⟨-1, σ, μ, by simp only [m_X6_sheet, q_isSheet, q_isLane, gb1_s, hw, hv, ne10, if_false, if_true], by simp only [m_X7_sheet, q_isSheetM, q_isLaneM, gb1_s, hw, hv, ne10, if_false, if_true], h⟩
  replace hv : wi (nI l) 0 2 = 1 := hv
  by_cases c1 : c ≤ 24
  · by_cases c2 : 0 ≤ c
    · obtain ⟨n, hn, rfl⟩ := nat_of (n := 24) (i32_le.mp c2) (i32_le.mp c1) (by decide)
      have b4 := inb_t (show s < 4 by omega) (show 4 < 2 ^ 31 by decide)
      have cs := nI_clamp (show s < 2 ^ 31 by omega)
      refine ⟨nI n, grow (gst (gst (gst σ (205 + s) 0 1) (205 + s) 1 (nI l)) (205 + s) 2 (nI n)) (209 + s) (fun j => if j < 24 then 0 else (gst (gst (gst σ (205 + s) 0 1) (205 + s) 1 (nI l)) (205 + s) 2 (nI n)) (209 + s) j), grow (gst (gst μ 5 s (nI l)) 6 s (nI n)) 4 (fun j => if 24 * s ≤ j ∧ j < 24 * s + n then 0 else (gst (gst μ 5 s (nI l)) 6 s (nI n)) 4 j), by simp only [m_X6_sheet, q_isSheet, q_isLane, gb1_s, hw, hv, ne10, if_false, c1, c2, if_true, b4, gck_s, cs, m_X2_hold, gnm_s, q_hold], by simp only [m_X7_sheet, q_isSheetM, q_isLaneM, gb1_s, hw, hv, ne10, if_false, c1, c2, if_true, b4, gck_s, cs, gnm_s, q_sheetM (show s < 4 by omega) hn], INV_sh h (fun d hd => ?_) (fun d hd => ?_) (SIMs_at h.1.2.2.2 (s := s) (fun t ht hts => ⟨?_, ?_, ?_, ?_, fun i hi => ?_⟩) ⟨n, hn, ?_, ?_, Or.inr ⟨?_, l, hl, ?_, ?_⟩, fun i hi => ?_⟩)⟩
      · unfold grow gst grow; simp only [show ¬ d = 209 + s by omega, show ¬ d = 205 + s by omega, if_false]
      · unfold grow gst grow; simp only [show ¬ d = 4 by omega, show ¬ d = 5 by omega, show ¬ d = 6 by omega, if_false]
      · unfold grow gst grow; simp only [show ¬ 205 + t = 209 + s by omega, show ¬ 205 + t = 205 + s by omega, if_false]
      · unfold grow gst grow; simp only [show ¬ 209 + t = 209 + s by omega, show ¬ 209 + t = 205 + s by omega, if_false]
      · unfold grow gst grow; simp only [show ¬ (5 : Nat) = 4 by decide, show ¬ (5 : Nat) = 6 by decide, if_false, if_true, upd_a, hts]
      · unfold grow gst grow; simp only [show ¬ (6 : Nat) = 4 by decide, show ¬ (6 : Nat) = 5 by decide, if_false, if_true, upd_a, hts]
      · unfold grow gst grow; simp only [show ¬ (4 : Nat) = 5 by decide, show ¬ (4 : Nat) = 6 by decide, if_false, if_true]; rw [if_neg (by omega)]
      · unfold grow gst grow; simp only [show ¬ 205 + s = 209 + s by omega, if_false, if_true, upd_a]
      · unfold grow gst grow; simp only [show ¬ (6 : Nat) = 4 by decide, show ¬ (6 : Nat) = 5 by decide, if_false, if_true, upd_a]
      · unfold grow gst grow; simp only [show ¬ 205 + s = 209 + s by omega, if_false, if_true, upd_a, show ¬ (0 : Nat) = 2 by decide, show ¬ (0 : Nat) = 1 by decide]
      · unfold grow gst grow; simp only [show ¬ 205 + s = 209 + s by omega, if_false, if_true, upd_a, show ¬ (1 : Nat) = 2 by decide]
      · unfold grow gst grow; simp only [show ¬ (5 : Nat) = 4 by decide, show ¬ (5 : Nat) = 6 by decide, if_false, if_true, upd_a]
      · unfold grow gst grow; simp only [if_true]
        rw [if_pos (by omega), if_pos (by omega)]
    · exact ⟨-14, σ, μ, by simp only [m_X6_sheet, q_isSheet, q_isLane, gb1_s, hw, hv, ne10, if_false, c1, c2, if_true], by simp only [m_X7_sheet, q_isSheetM, q_isLaneM, gb1_s, hw, hv, ne10, if_false, c1, c2, if_true], h⟩
  · exact ⟨-1, σ, μ, by simp only [m_X6_sheet, q_isSheet, q_isLane, gb1_s, hw, hv, ne10, if_false, c1], by simp only [m_X7_sheet, q_isSheetM, q_isLaneM, gb1_s, hw, hv, ne10, if_false, c1], h⟩
theorem q_refusal {σ : gMem} {s l : Nat} (hs : s < 4) (hw : wi (nI s) 0 3 = 1) (hv : wi (nI l) 0 2 = 1) : m_X6_refusal (nI s) (nI l) σ = some (if σ (205 + s) 0 = 0 then -11 else if σ (205 + s) 1 = nI l then 0 else -12) := by
  simp only [m_X6_refusal, q_isSheet, q_isLane, gb1_s, hw, hv, ne10, if_false, inb_t hs (show 4 < 2 ^ 31 by decide), gck_s, nI_clamp (show s < 2 ^ 31 by omega)]
  split
  · rfl
  · split <;> rfl
theorem q_put {σ : gMem} {s l i : Nat} (hl : σ (205 + s) 1 = nI l) (hl2 : l ≤ 2) (hi : i < 24) (x : Int32) : m_X2_put s (nI i) x σ = some (gst σ (209 + s) i (if l = 0 then x.toInt8.toInt32 else if l = 1 then x.toInt16.toInt32 else x)) := by
  have b := inb_t hi (show 24 < 2 ^ 31 by decide)
  have c := nI_clamp (show i < 2 ^ 31 by omega)
  rcases (show l = 0 ∨ l = 1 ∨ l = 2 by omega) with rfl | rfl | rfl
  · simp only [m_X2_put, hl, show nI 0 = 0 from rfl, if_true, b, c, gck_s, gnm_s]
  · simp only [m_X2_put, hl, show ¬ nI 1 = 0 from by decide, show nI 1 = 1 from rfl, show ¬ (1 : Nat) = 0 by decide, if_false, if_true, b, c, gck_s, gnm_s, show ¬ (1 : Int32) = 0 from by decide]
  · simp only [m_X2_put, hl, show ¬ nI 2 = 0 from by decide, show ¬ nI 2 = 1 from by decide, show ¬ (2 : Nat) = 0 by decide, show ¬ (2 : Nat) = 1 by decide, if_false, b, c, gck_s, gnm_s]
theorem p_item {σ μ : gMem} (h : INV σ μ) (a b c d : Int32) : OKu σ μ (m_X6_item a b c d σ) (m_X7_item a b c d μ) := by
  rcases wi_n (m := 3) (by decide) a with hw | ⟨hw, s, hs, rfl⟩
  · replace hw : wi a 0 3 = 0 := hw
    exact ⟨-1, σ, μ, by simp only [m_X6_item, m_X6_refusal, q_isSheet, gb1_s, hw, if_true, show ¬ (-1 : Int32) = 0 from by decide, if_false], by simp only [m_X7_item, q_isSheetM, gb1_s, hw, if_true], h⟩
  replace hw : wi (nI s) 0 3 = 1 := hw
  rcases wi_n (m := 2) (by decide) b with hv | ⟨hv, l, hl, rfl⟩
  · replace hv : wi b 0 2 = 0 := hv
    exact ⟨-1, σ, μ, by simp only [m_X6_item, m_X6_refusal, q_isSheet, q_isLane, gb1_s, hw, hv, ne10, if_false, if_true, show ¬ (-1 : Int32) = 0 from by decide], by simp only [m_X7_item, q_isSheetM, q_isLaneM, gb1_s, hw, hv, ne10, if_false, if_true], h⟩
  replace hv : wi (nI l) 0 2 = 1 := hv
  obtain ⟨n, hn, e1, e2, e3, e4⟩ := h.1.2.2.2 s (by omega)
  have b4 := inb_t (show s < 4 by omega) (show 4 < 2 ^ 31 by decide)
  have cs := nI_clamp (show s < 2 ^ 31 by omega)
  rcases e3 with ⟨e3, e5⟩ | ⟨e3, l', hl', e5, e6⟩
  · exact ⟨-11, σ, μ, by simp only [m_X6_item, q_refusal (show s < 4 by omega) hw hv, gb1_s, e3, if_true, show ¬ (-11 : Int32) = 0 from by decide, if_false], by simp only [m_X7_item, q_isSheetM, q_isLaneM, gb1_s, hw, hv, ne10, if_false, b4, gck_s, cs, e5, show (-1 : Int32) < 0 from by decide, if_true, show ¬ (0 : Int32) ≤ -1 from by decide], h⟩
  · by_cases hll : l' = l
    · subst hll
      have e0 : m_X7_in c.toInt64 0 ((nI n - 1).toInt64) μ = some (wi c 0 (nI n - 1)) := q_in c 0 (nI n - 1) μ
      have g0 : ¬ nI l' < 0 := nI_pos (by omega)
      rcases wi_c (n := n) (by omega) c with hu | ⟨hu, i, hi, rfl⟩
      · exact ⟨-13, σ, μ, by simp only [m_X6_item, q_refusal (show s < 4 by omega) hw hv, gb1_s, e3, e5, ne10, if_true, if_false, b4, gck_s, cs, q_within, e1, hu], by simp only [m_X7_item, q_isSheetM, q_isLaneM, gb1_s, hw, hv, ne10, if_false, b4, gck_s, cs, e6, g0, if_true, e2, e0, hu], h⟩
      · have e24 : (24 : Int32) * nI s + nI i = nI (24 * s + i) := by rw [show (24 : Int32) = nI 24 from rfl, nI_mul, nI_add]
        have b96 := inb_t (show 24 * s + i < 96 by omega) (by decide)
        have c96 := nI_clamp (show 24 * s + i < 2 ^ 31 by omega)
        refine ⟨1, gst σ (209 + s) i (if l' = 0 then d.toInt8.toInt32 else if l' = 1 then d.toInt16.toInt32 else d), gst μ 4 (24 * s + i) (if l' = 0 then d.toInt8.toInt32 else if l' = 1 then d.toInt16.toInt32 else d), ?_, ?_, INV_sh h (fun k hk => gst_ne _ _ (by omega)) (fun k hk => gst_ne _ _ (by omega)) (SIMs_at h.1.2.2.2 (s := s) (fun t ht hts => ⟨gst_ne _ _ (by omega), gst_ne _ _ (by omega), by rw [gst_ne _ _ (by decide)], by rw [gst_ne _ _ (by decide)], fun j hj => by rw [gst_eq, pk_un (by omega)]⟩) ⟨n, hn, by rw [gst_ne _ _ (by omega)]; exact e1, by rw [gst_ne _ _ (by decide)]; exact e2, Or.inr ⟨by rw [gst_ne _ _ (by omega)]; exact e3, l', hl', by rw [gst_ne _ _ (by omega)]; exact e5, by rw [gst_ne _ _ (by decide)]; exact e6⟩, fun j hj => ?_⟩)⟩
        · simp only [m_X6_item, q_refusal (show s < 4 by omega) hw hv, gb1_s, e3, e5, ne10, if_true, if_false, b4, gck_s, cs, q_within, e1, hu, q_put e5 hl' (show i < 24 by omega)]
        · rcases (show l' = 0 ∨ l' = 1 ∨ l' = 2 by omega) with rfl | rfl | rfl
          · simp only [m_X7_item, q_isSheetM, q_isLaneM, gb1_s, hw, hv, ne10, if_false, b4, gck_s, cs, e6, g0, if_true, e2, e0, hu, show nI 0 = 0 from rfl, e24, b96, c96, gnm_s, show ¬ (0 : Int32) < 0 from by decide, show wi 0 0 2 = 1 from rfl]
          · simp only [m_X7_item, q_isSheetM, q_isLaneM, gb1_s, hw, hv, ne10, if_false, b4, gck_s, cs, e6, g0, if_true, e2, e0, hu, show nI 1 = 1 from rfl, e24, b96, c96, gnm_s, show ¬ (1 : Int32) < 0 from by decide, show wi 1 0 2 = 1 from rfl, show ¬ (1 : Nat) = 0 by decide]
          · simp only [m_X7_item, q_isSheetM, q_isLaneM, gb1_s, hw, hv, ne10, if_false, b4, gck_s, cs, e6, g0, if_true, e2, e0, hu, show ¬ nI 2 = 0 from by decide, show ¬ nI 2 = 1 from by decide, e24, b96, c96, gnm_s, show ¬ (2 : Nat) = 0 by decide, show ¬ (2 : Nat) = 1 by decide]
        · by_cases q : j = i
          · subst q; rw [gst_eq, pk_us, gst_eq, pk_us]
          · rw [gst_eq, pk_un q, gst_eq, pk_un (by omega)]; exact e4 j hj
    · have hne : ¬ nI l' = nI l := fun q => hll ((nI_eq (by omega) (by omega)).mp q)
      exact ⟨-12, σ, μ, by simp only [m_X6_item, q_refusal (show s < 4 by omega) hw hv, gb1_s, e3, e5, hne, ne10, if_false, show ¬ (-12 : Int32) = 0 from by decide], by simp only [m_X7_item, q_isSheetM, q_isLaneM, gb1_s, hw, hv, ne10, if_false, b4, gck_s, cs, e6, nI_pos (show l' < 2 ^ 31 by omega), hne, nI_pos' (show l' < 2 ^ 31 by omega), if_true], h⟩
