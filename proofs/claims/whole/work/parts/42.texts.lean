/-! ===== texts: a number and a depth, side by side ===== -/
/-- what the reference's reader keeps: all but its place, its fault, the number read -/
def mK (μ μ' : gMem) : Prop := (∀ k, k ≠ 0 → μ' k = μ k) ∧ ∀ j, j ≠ 4 → j ≠ 5 → j ≠ 6 → μ' 0 j = μ 0 j
theorem mK_t {a b d : gMem} (h1 : mK a b) (h2 : mK b d) : mK a d := ⟨fun k hk => (h2.1 k hk).trans (h1.1 k hk), fun j h3 h4 h5 => (h2.2 j h3 h4 h5).trans (h1.2 j h3 h4 h5)⟩
theorem mK_s (μ : gMem) {j : Nat} (hj : j = 4 ∨ j = 5 ∨ j = 6) (x : Int32) : mK μ (gst μ 0 j x) := ⟨fun k hk => gst_ne _ _ hk, fun i h1 h2 h3 => by rw [gst_eq, pk_un (by omega)]⟩
theorem sgn0 (v : Nat) (h : v ≤ 9999) : (sgn 0 v).toInt = (v : Int) := by
  unfold sgn; rw [if_pos rfl, nI_toInt (by omega)]
theorem sgn1 (v : Nat) (h : v ≤ 9999) : (sgn 1 v).toInt = -(v : Int) := by
  unfold sgn
  rw [if_neg (by decide), ← Int32.zero_sub, i32_sub (by rw [nI_toInt (by omega)]; show _ ≤ (0 : Int) - _; omega) (by rw [nI_toInt (by omega)]; show (0 : Int) - _ < _; omega), nI_toInt (by omega)]
  show (0 : Int) - _ = _; omega
theorem q_numJ {σ μ : gMem} {t : Nat} {c : Nat → Nat} {x : Nat} (h1 : RX σ t c x) (h2 : RM μ t c x) (f1 : σ 49 3 = -1) (f2 : μ 0 5 = -1) {lo hi : Nat} (hl : lo ≤ 99) (hh : hi ≤ 99) {a0 a1 a2 : Int32} (hR : ∀ v : Nat, v ≤ 9999 → (a0.toInt ≤ (sgn a2 v).toInt ∧ (sgn a2 v).toInt ≤ a1.toInt ↔ lo ≤ v ∧ v ≤ hi)) : (∃ z v, z ≤ t ∧ lo ≤ v ∧ v ≤ hi ∧ m_X3_readNumber (nI lo) (nI hi) σ = some (nI v, gst σ 49 2 (nI z)) ∧ m_X7_number a0 a1 a2 μ = some (gst (gst μ 0 4 (nI z)) 0 6 (sgn a2 v))) ∨ ∃ z f μ', z ≤ t ∧ f ≤ t ∧ m_X3_readNumber (nI lo) (nI hi) σ = some (nI lo, gst (gst σ 49 2 (nI z)) 49 3 (nI f)) ∧ m_X7_number a0 a1 a2 μ = some μ' ∧ mK μ μ' ∧ μ' 0 5 = nI f ∧ RM μ' t c z := by
  have K : ∀ y, gst σ 49 2 (nI y) 49 3 = -1 := fun y => by rw [gst_eq, pk_un (by decide)]; exact f1
  have M : ∀ y, gst μ 0 4 (nI y) 0 5 = -1 := fun y => by rw [gst_eq, pk_un (by decide)]; exact f2
  have RM6 : ∀ {s : gMem} {z j : Nat} (u : Int32), j = 5 ∨ j = 6 → RM s t c z → RM (gst s 0 j u) t c z := fun {s z j} u hj ⟨a, b, d, e, f⟩ => ⟨by rw [gst_eq, pk_un (by omega)]; exact a, b, fun i hi => by rw [gst_ne _ _ (by decide)]; exact d i hi, by rw [gst_eq, pk_un (by omega)]; exact e, f⟩
  rcases q_num h1 h2 with ⟨y, -, y2, A, B⟩ | ⟨y, z, v, -, yz, z2, v9, A, B⟩
  · refine Or.inr ⟨y, y, gst (gst μ 0 4 (nI y)) 0 5 (nI y), y2, y2, ?_, ?_, mK_t (mK_s μ (Or.inl rfl) _) (mK_s _ (Or.inr (Or.inl rfl)) _), by rw [gst_eq, pk_us], RM6 _ (Or.inl rfl) (RM_go h2 y2)⟩
    · rw [A, xF_new (K y)]
    · rw [B, mF_new (M y)]
  · by_cases k : lo ≤ v ∧ v ≤ hi
    · refine Or.inl ⟨z, v, z2, k.1, k.2, ?_, ?_⟩
      · rw [A lo hi hl hh, if_pos k]
      · rw [B, if_pos ((hR v v9).mpr k)]
    · have M2 : gst (gst μ 0 4 (nI z)) 0 6 (sgn a2 v) 0 5 = -1 := by rw [gst_eq, pk_un (by decide)]; exact M z
      refine Or.inr ⟨z, y, gst (gst (gst μ 0 4 (nI z)) 0 6 (sgn a2 v)) 0 5 (nI y), z2, by omega, ?_, ?_, mK_t (mK_t (mK_s μ (Or.inl rfl) _) (mK_s _ (Or.inr (Or.inr rfl)) _)) (mK_s _ (Or.inr (Or.inl rfl)) _), by rw [gst_eq, pk_us], RM6 _ (Or.inl rfl) (RM6 _ (Or.inr rfl) (RM_go h2 z2))⟩
      · rw [A lo hi hl hh, if_neg k, xF_new (K z)]
      · rw [B, if_neg (fun h => k ((hR v v9).mp h)), mF_new M2]
theorem q_depth {σ μ : gMem} {t : Nat} {c : Nat → Nat} {x : Nat} (h1 : RX σ t c x) (h2 : RM μ t c x) (f1 : σ 49 3 = -1) (f2 : μ 0 5 = -1) : ∃ w μ1, m_X7_takes 45 μ = some (w, μ1) ∧ ((∃ z v, z ≤ t ∧ -20 ≤ v.toInt ∧ v.toInt ≤ 60 ∧ m_X3_readDepth σ = some (v, gst σ 49 2 (nI z)) ∧ m_X7_number (-20) 60 w μ1 = some (gst (gst μ 0 4 (nI z)) 0 6 v)) ∨ ∃ z f v μ', z ≤ t ∧ f ≤ t ∧ m_X3_readDepth σ = some (v, gst (gst σ 49 2 (nI z)) 49 3 (nI f)) ∧ m_X7_number (-20) 60 w μ1 = some μ' ∧ mK μ μ' ∧ μ' 0 5 = nI f ∧ RM μ' t c z) := by
  have hx := h1.2.2.2.2
  obtain ⟨r1, r2⟩ := sSk_r c t (t - x) (by omega)
  have P := q_peek h1
  have N := q_next h2
  have g1 := RX_go h1 r2
  have g2 := RM_go h2 r2
  generalize sSk c t (t - x) = y at *
  have p1 := g1.2.2.2.1
  have p2 := g2.2.2.2.1
  by_cases k : y < t ∧ c y = 45
  · rw [if_pos k.1, k.2] at P N
    have G1 := RX_go h1 (show y + 1 ≤ t from k.1)
    have G2 := RM_go h2 (show y + 1 ≤ t from k.1)
    have F1 : gst σ 49 2 (nI (y + 1)) 49 3 = -1 := by rw [gst_eq, pk_un (by decide)]; exact f1
    have F2 : gst μ 0 4 (nI (y + 1)) 0 5 = -1 := by rw [gst_eq, pk_un (by decide)]; exact f2
    have T : m_X7_takes 45 μ = some (1, gst μ 0 4 (nI (y + 1))) := by
      unfold m_X7_takes
      rw [N, gb2_s, if_pos (show nI 45 = 45 from rfl), gb1_s, if_neg ne10, p2, nI_1, gst_gst, gnm_s]; rfl
    have X : m_X3_readDepth σ = gb2 (m_X3_readNumber 0 20 (gst σ 49 2 (nI (y + 1)))) fun r7 s6 => some (-r7, s6) := by
      unfold m_X3_readDepth
      rw [P, gb2_s, if_pos (show nI 45 = 45 from rfl), p1, nI_1, gst_gst, gnm_s]
    refine ⟨1, gst μ 0 4 (nI (y + 1)), T, ?_⟩
    rcases q_numJ G1 G2 F1 F2 (lo := 0) (hi := 20) (by decide) (by decide) (a0 := -20) (a1 := 60) (a2 := 1) (fun v hv => by rw [sgn1 v hv]; show (-20 : Int) ≤ _ ∧ _ ≤ (60 : Int) ↔ _; omega) with ⟨z, v, z2, -, v2, A, B⟩ | ⟨z, f, μ', z2, z3, A, B, C, D, E⟩
    · replace A : m_X3_readNumber 0 20 (gst σ 49 2 (nI (y + 1))) = some (nI v, _) := A
      rw [gst_gst] at A B
      have e := sgn1 v (by omega)
      refine Or.inl ⟨z, sgn 1 v, z2, by omega, by omega, ?_, B⟩
      rw [X, A, gb2_s]; rfl
    · replace A : m_X3_readNumber 0 20 (gst σ 49 2 (nI (y + 1))) = some (nI 0, _) := A
      rw [gst_gst] at A
      exact Or.inr ⟨z, f, -(nI 0), μ', z2, z3, by rw [X, A, gb2_s], B, mK_t (mK_s μ (Or.inl rfl) _) C, D, E⟩
  · have k1 : ¬ (if y < t then nI (c y) else (-1 : Int32)) = 45 := fun h => by
      by_cases k2 : y < t
      · rw [if_pos k2] at h
        have := (g1.2.2.1 y k2).2.2
        exact k ⟨k2, (nI_eqI (b := 45) (by omega) (by decide)).mp h⟩
      · rw [if_neg k2] at h; exact absurd h (by decide)
    have k3 : ¬ (if y < t then nI (c y) else (0 : Int32)) = 45 := fun h => by
      by_cases k2 : y < t
      · rw [if_pos k2] at h
        have := (g1.2.2.1 y k2).2.2
        exact k ⟨k2, (nI_eqI (b := 45) (by omega) (by decide)).mp h⟩
      · rw [if_neg k2] at h; exact absurd h (by decide)
    have F1 : gst σ 49 2 (nI y) 49 3 = -1 := by rw [gst_eq, pk_un (by decide)]; exact f1
    have F2 : gst μ 0 4 (nI y) 0 5 = -1 := by rw [gst_eq, pk_un (by decide)]; exact f2
    have T : m_X7_takes 45 μ = some (0, gst μ 0 4 (nI y)) := by
      unfold m_X7_takes
      rw [N, gb2_s, if_neg k3, gb1_s, if_pos rfl, p2, show nI y + 0 = nI y from Int32.add_zero _, gst_gst, gnm_s]; rfl
    have X : m_X3_readDepth σ = gb2 (m_X3_readNumber 0 60 (gst σ 49 2 (nI y))) fun r10 s9 => some (r10, s9) := by
      unfold m_X3_readDepth
      rw [P, gb2_s, if_neg k1]
    refine ⟨0, gst μ 0 4 (nI y), T, ?_⟩
    rcases q_numJ g1 g2 F1 F2 (lo := 0) (hi := 60) (by decide) (by decide) (a0 := -20) (a1 := 60) (a2 := 0) (fun v hv => by rw [sgn0 v hv]; show (-20 : Int) ≤ _ ∧ _ ≤ (60 : Int) ↔ _; omega) with ⟨z, v, z2, -, v2, A, B⟩ | ⟨z, f, μ', z2, z3, A, B, C, D, E⟩
    · replace A : m_X3_readNumber 0 60 (gst σ 49 2 (nI y)) = some (nI v, _) := A
      rw [gst_gst] at A B
      have e := sgn0 v (by omega)
      refine Or.inl ⟨z, sgn 0 v, z2, by omega, by omega, ?_, B⟩
      rw [X, A, gb2_s]; rfl
    · replace A : m_X3_readNumber 0 60 (gst σ 49 2 (nI y)) = some (nI 0, _) := A
      rw [gst_gst] at A
      exact Or.inr ⟨z, f, nI 0, μ', z2, z3, by rw [X, A, gb2_s], B, mK_t (mK_s μ (Or.inl rfl) _) C, D, E⟩
