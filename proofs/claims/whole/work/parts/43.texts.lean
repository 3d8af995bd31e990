/-! ===== texts: the posts of a place, side by side ===== -/
/-- what lies beside both readers stays -/
def xJ (σ σ' : gMem) : Prop := (∀ k, k ≠ 49 → k ≠ 51 → k ≠ 52 → k ≠ 53 → σ' k = σ k) ∧ σ' 49 0 = σ 49 0
def mJ (μ μ' : gMem) : Prop := (∀ k, k ≠ 0 → k ≠ 3 → μ' k = μ k) ∧ ∀ j, j ≠ 4 → j ≠ 5 → j ≠ 6 → μ' 0 j = μ 0 j
theorem mK_J {a b : gMem} (h : mK a b) : mJ a b := ⟨fun k h1 _ => h.1 k h1, h.2⟩
theorem mJ_t {a b d : gMem} (h1 : mJ a b) (h2 : mJ b d) : mJ a d := ⟨fun k h3 h4 => (h2.1 k h3 h4).trans (h1.1 k h3 h4), fun j h3 h4 h5 => (h2.2 j h3 h4 h5).trans (h1.2 j h3 h4 h5)⟩
theorem mJ_s (μ : gMem) (j : Nat) (x : Int32) : mJ μ (gst μ 3 j x) := ⟨fun k _ h => gst_ne _ _ h, fun i _ _ _ => by rw [gst_ne _ _ (by decide)]⟩
theorem RM_s {μ : gMem} {t : Nat} {c : Nat → Nat} {x : Nat} (h : RM μ t c x) (j : Nat) (v : Int32) : RM (gst μ 3 j v) t c x := by
  obtain ⟨a, b, d, e, f⟩ := h
  exact ⟨by rw [gst_ne _ _ (by decide)]; exact a, b, fun i hi => by rw [gst_ne _ _ (by decide)]; exact d i hi, by rw [gst_ne _ _ (by decide)]; exact e, f⟩
theorem RM_6 {μ : gMem} {t : Nat} {c : Nat → Nat} {x : Nat} (h : RM μ t c x) (v : Int32) : RM (gst μ 0 6 v) t c x := by
  obtain ⟨a, b, d, e, f⟩ := h
  exact ⟨by rw [gst_eq, pk_un (by decide)]; exact a, b, fun i hi => by rw [gst_ne _ _ (by decide)]; exact d i hi, by rw [gst_eq, pk_un (by decide)]; exact e, f⟩
/-- a store beside the text and the reader -/
theorem RX_s {σ : gMem} {t : Nat} {c : Nat → Nat} {x : Nat} (h : RX σ t c x) {k : Nat} (hk : k = 51 ∨ k = 52 ∨ k = 53) (j : Nat) (v : Int32) : RX (gst σ k j v) t c x := by
  obtain ⟨a, b, d, e, f⟩ := h
  exact ⟨by rw [gst_ne _ _ (by omega)]; exact a, b, fun i hi => by rw [gst_ne _ _ (by omega)]; exact d i hi, by rw [gst_ne _ _ (by omega)]; exact e, f⟩
theorem RX_r {σ : gMem} {t : Nat} {c : Nat → Nat} {x : Nat} (h : RX σ t c x) {j : Nat} (hj : j = 3 ∨ j = 4 ∨ j = 5) (v : Int32) : RX (gst σ 49 j v) t c x := by
  obtain ⟨a, b, d, e, f⟩ := h
  exact ⟨by rw [gst_eq, pk_un (by omega)]; exact a, b, fun i hi => by rw [gst_ne _ _ (by decide)]; exact d i hi, by rw [gst_eq, pk_un (by omega)]; exact e, f⟩
/-- the posts of a place, as the reference reads them -/
def mTail (x1 x2 : Int32) (s17 : gMem) : Option (Int32 × gMem) :=
  gb2 (m_X7_next s17) fun r22 s21 => if r22 = 112 then (if 3 ≤ x2 then some (x2, s21) else (gnm (gst s21 0 4 ((s21 0 4) + 1)) fun s23 => gnm (x2 + 1) fun x2_24 => gb1 (m_X7_number 1 20 0 s23) fun s26 => gck (inb ((2 * x1) + 1) 24) (gnm (gst s26 3 ((2 * x1) + 1).toNatClampNeg (s26 0 6)) fun s28 => some (x2_24, s28)))) else some (x2, s21)
theorem q_tailJ {σ μ : gMem} {t : Nat} {c : Nat → Nat} {x : Nat} (h1 : RX σ t c x) (h2 : RM μ t c x) (f1 : σ 49 3 = -1) (f2 : μ 0 5 = -1) {k u : Nat} (hk : k < 8) (hu : u ≤ 3) (ek : σ 49 5 = nI k) (eu : σ 49 4 = nI u) : (∃ z u' s' μ', z ≤ t ∧ xTail σ = some s' ∧ mTail (nI k) (nI u) μ = some (nI u', μ') ∧ RX s' t c z ∧ RM μ' t c z ∧ s' 49 3 = -1 ∧ μ' 0 5 = -1 ∧ s' 49 5 = nI k ∧ s' 49 4 = nI u' ∧ (∀ j, j ≠ 49 → j ≠ 53 → s' j = σ j) ∧ mJ μ μ' ∧ ((u' = u ∧ s' 53 = σ 53 ∧ μ' 3 = μ 3) ∨ (u' = u + 1 ∧ u < 3 ∧ ∃ v, 1 ≤ v ∧ v ≤ 20 ∧ s' 53 = upd (σ 53) k (nI v) ∧ μ' 3 = upd (μ 3) (2 * k + 1) (nI v)))) ∨ ∃ f z z' w s' μ', f ≤ t ∧ xTail σ = some s' ∧ mTail (nI k) (nI u) μ = some (w, μ') ∧ RX s' t c z ∧ RM μ' t c z' ∧ s' 49 3 = nI f ∧ μ' 0 5 = nI f ∧ s' 49 5 = nI k ∧ (∀ j, j ≠ 49 → j ≠ 53 → s' j = σ j) ∧ mJ μ μ' := by
  have hx := h1.2.2.2.2
  obtain ⟨r1, r2⟩ := sSk_r c t (t - x) (by omega)
  have P := q_peek h1
  have N := q_next h2
  have g1 := RX_go h1 r2
  have g2 := RM_go h2 r2
  generalize sSk c t (t - x) = y at *
  have p1 := g1.2.2.2.1
  have p2 := g2.2.2.2.1
  have S3 : ∀ z, gst σ 49 2 (nI z) 49 3 = -1 := fun z => by rw [gst_eq, pk_un (by decide)]; exact f1
  have S4 : ∀ z, gst σ 49 2 (nI z) 49 4 = nI u := fun z => by rw [gst_eq, pk_un (by decide)]; exact eu
  have S5 : ∀ z, gst σ 49 2 (nI z) 49 5 = nI k := fun z => by rw [gst_eq, pk_un (by decide)]; exact ek
  have M5 : ∀ z, gst μ 0 4 (nI z) 0 5 = -1 := fun z => by rw [gst_eq, pk_un (by decide)]; exact f2
  by_cases c0 : y < t ∧ c y = 112
  · rw [if_pos c0.1, c0.2] at P N
    by_cases u3 : u = 3
    · subst u3
      refine Or.inl ⟨y, 3, gst σ 49 2 (nI y), gst μ 0 4 (nI y), r2, ?_, ?_, g1, g2, S3 y, M5 y, S5 y, S4 y, fun j hj _ => gst_ne _ _ hj, mK_J (mK_s μ (Or.inl rfl) _), Or.inl ⟨rfl, gst_ne _ _ (by decide), gst_ne _ _ (by decide)⟩⟩
      · unfold xTail
        rw [P, gb2_s, if_pos (show nI 112 = 112 from rfl), S4, if_pos (by decide)]
      · unfold mTail
        rw [N, gb2_s, if_pos (show nI 112 = 112 from rfl), if_pos (by decide)]
    have c3 : ¬ (3 : Int32) ≤ nI u := nI_ge (b := 3) (by omega) (by decide)
    have G1 := RX_r (RX_go h1 (show y + 1 ≤ t from c0.1)) (j := 4) (by omega) (nI (u + 1))
    have G2 := RM_go h2 (show y + 1 ≤ t from c0.1)
    have F1 : gst (gst σ 49 2 (nI (y + 1))) 49 4 (nI (u + 1)) 49 3 = -1 := by rw [gst_eq, pk_un (by decide)]; exact S3 _
    have F5 : gst (gst σ 49 2 (nI (y + 1))) 49 4 (nI (u + 1)) 49 5 = nI k := by rw [gst_eq, pk_un (by decide)]; exact S5 _
    have F4 : gst (gst σ 49 2 (nI (y + 1))) 49 4 (nI (u + 1)) 49 4 = nI (u + 1) := by rw [gst_eq, pk_us]
    have Fr : ∀ j, j ≠ 49 → gst (gst σ 49 2 (nI (y + 1))) 49 4 (nI (u + 1)) j = σ j := fun j hj => by rw [gst_ne _ _ hj, gst_ne _ _ hj]
    have X : xTail σ = gb2 (m_X3_readNumber 1 20 (gst (gst σ 49 2 (nI (y + 1))) 49 4 (nI (u + 1)))) fun r15 s14 => some (gst s14 53 k r15) := by
      unfold xTail
      rw [P, gb2_s, if_pos (show nI 112 = 112 from rfl), S4, if_neg c3, gnm_s, gnm_s, p1, nI_1, gst_gst, S4, nI_1, F5, inb_t hk (by decide), nI_clamp (by omega)]
      rfl
    have kk : (2 : Int32) * nI k + 1 = nI (2 * k + 1) := by
      rw [show (2 : Int32) * nI k = nI (2 * k) from nI_mul 2 k, nI_1]
    have Y : mTail (nI k) (nI u) μ = gb1 (m_X7_number 1 20 0 (gst μ 0 4 (nI (y + 1)))) fun s26 => some (nI (u + 1), gst s26 3 (2 * k + 1) (s26 0 6)) := by
      unfold mTail
      rw [N, gb2_s, if_pos (show nI 112 = 112 from rfl), if_neg c3, gnm_s, gnm_s, p2, nI_1, nI_1, gst_gst, kk, inb_t (show 2 * k + 1 < 24 by omega) (by decide), nI_clamp (show 2 * k + 1 < 2 ^ 31 by omega)]
      rfl
    generalize gst (gst σ 49 2 (nI (y + 1))) 49 4 (nI (u + 1)) = s at *
    rcases q_numJ G1 G2 F1 (M5 _) (lo := 1) (hi := 20) (by decide) (by decide) (a0 := 1) (a1 := 20) (a2 := 0) (fun v hv => by rw [sgn0 v hv]; show (1 : Int) ≤ _ ∧ _ ≤ (20 : Int) ↔ _; omega) with ⟨z, v, z2, v1, v2, A, B⟩ | ⟨z, f, μ', z2, z3, A, B, C, D, E⟩
    · replace A : m_X3_readNumber 1 20 s = some (nI v, _) := A
      have sv : sgn 0 v = nI v := rfl
      rw [gst_gst, sv] at B
      rw [A, gb2_s] at X
      rw [B, gb1_s] at Y
      have w6 : gst (gst μ 0 4 (nI z)) 0 6 (nI v) 0 6 = nI v := by rw [gst_eq, pk_us]
      rw [w6] at Y
      refine Or.inl ⟨z, u + 1, _, _, z2, X, Y, RX_s (RX_go G1 z2) (by omega) _ _, RM_s (RM_6 (RM_go h2 z2) _) _ _, ?_, ?_, ?_, ?_, fun j hj hd => ?_, mJ_t (mJ_t (mK_J (mK_s μ (Or.inl rfl) _)) (mK_J (mK_s _ (Or.inr (Or.inr rfl)) _))) (mJ_s _ _ _), Or.inr ⟨rfl, by omega, v, v1, v2, ?_, ?_⟩⟩
      · rw [gst_ne _ _ (by decide), gst_eq, pk_un (by decide)]; exact F1
      · rw [gst_ne _ _ (by decide), gst_eq, pk_un (by decide)]; exact M5 z
      · rw [gst_ne _ _ (by decide), gst_eq, pk_un (by decide)]; exact F5
      · rw [gst_ne _ _ (by decide), gst_eq, pk_un (by decide)]; exact F4
      · rw [gst_ne _ _ hd, gst_ne _ _ hj]; exact Fr j hj
      · rw [gst_eq, gst_ne _ _ (by decide), Fr 53 (by decide)]
      · rw [gst_eq, gst_ne _ _ (by decide), gst_ne _ _ (by decide)]
    · replace A : m_X3_readNumber 1 20 s = some (nI 1, _) := A
      rw [A, gb2_s] at X
      rw [B, gb1_s] at Y
      refine Or.inr ⟨f, z, z, nI (u + 1), _, _, z3, X, Y, RX_s (RX_r (RX_go G1 z2) (by omega) _) (by omega) _ _, RM_s E _ _, ?_, ?_, ?_, fun j hj hd => ?_, mJ_t (mJ_t (mK_J (mK_s μ (Or.inl rfl) _)) (mK_J C)) (mJ_s _ _ _)⟩
      · rw [gst_ne _ _ (by decide), gst_eq, pk_us]
      · rw [gst_ne _ _ (by decide)]; exact D
      · rw [gst_ne _ _ (by decide), gst_eq, pk_un (by decide), gst_eq, pk_un (by decide)]; exact F5
      · rw [gst_ne _ _ hd, gst_ne _ _ hj, gst_ne _ _ hj]; exact Fr j hj
  · have nb : ∀ e : Int32, ¬ e = 112 → ¬ (if y < t then nI (c y) else e) = 112 := fun e he h => by
      by_cases k2 : y < t
      · rw [if_pos k2] at h
        have := (g1.2.2.1 y k2).2.2
        exact c0 ⟨k2, (nI_eqI (b := 112) (by omega) (by decide)).mp h⟩
      · rw [if_neg k2] at h; exact he h
    refine Or.inl ⟨y, u, gst σ 49 2 (nI y), gst μ 0 4 (nI y), r2, ?_, ?_, g1, g2, S3 y, M5 y, S5 y, S4 y, fun j hj _ => gst_ne _ _ hj, mK_J (mK_s μ (Or.inl rfl) _), Or.inl ⟨rfl, gst_ne _ _ (by decide), gst_ne _ _ (by decide)⟩⟩
    · unfold xTail
      rw [P, gb2_s, if_neg (nb (-1) (by decide))]
    · unfold mTail
      rw [N, gb2_s, if_neg (nb 0 (by decide))]
