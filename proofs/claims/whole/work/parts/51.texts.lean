/-! ===== texts: letters, a path ===== -/
theorem q_letter {σ μ : gMem} {t : Nat} {c : Nat → Nat} {x : Nat} (h1 : RX σ t c x) (h2 : RM μ t c x) (f1 : σ 49 3 = -1) (f2 : μ 0 5 = -1) {p : Nat} (hp : p ≤ 12) (e62 : μ 1 62 = nI p) (a : Int32) : (∃ z l, z ≤ t ∧ l < p ∧ ¬ nI l = a ∧ m_X3_readLetter (nI p) a σ = some (nI l, gst σ 49 2 (nI z)) ∧ m_X7_letter a μ = some (nI l, gst μ 0 4 (nI z))) ∨ ∃ z, z ≤ t ∧ m_X3_readLetter (nI p) a σ = some (0, gst (gst σ 49 2 (nI z)) 49 3 (nI z)) ∧ m_X7_letter a μ = some (0, gst (gst μ 0 4 (nI z)) 0 5 (nI z)) := by
  have hx := h1.2.2.2.2
  obtain ⟨r1, r2⟩ := sSk_r c t (t - x) (by omega)
  have P := q_peek h1
  have N := q_next h2
  have g1 := RX_go h1 r2
  have g2 := RM_go h2 r2
  generalize sSk c t (t - x) = y at *
  have p1 := g1.2.2.2.1
  have p2 := g2.2.2.2.1
  have F1 : gst σ 49 2 (nI y) 49 3 = -1 := by rw [gst_eq, pk_un (by decide)]; exact f1
  have F2 : gst μ 0 4 (nI y) 0 5 = -1 := by rw [gst_eq, pk_un (by decide)]; exact f2
  have I : ∀ b, m_X7_isPlace b (gst μ 0 4 (nI y)) = some (wi b 0 (nI p - 1)) := fun b => q_isPlace (by rw [gst_ne _ _ (by decide)]; exact e62) b
  by_cases k : y < t
  · rw [if_pos k] at P N
    rcases wi_c (n := p) (by omega) (nI (c y) - 97) with hw | ⟨hw, l, hl, el⟩
    · refine Or.inr ⟨y, r2, ?_, ?_⟩
      · unfold m_X3_readLetter
        rw [P, gb2_s, gnm_s, q_within, gb1_s, hw, if_pos rfl, p1, q_faultAt, gb1_s, xF_new F1]
      · unfold m_X7_letter
        rw [N, gb2_s, gnm_s, I, gb1_s, hw, if_pos rfl, p2, q_cannot, gb1_s, mF_new F2]
    · by_cases q : nI l = a
      · refine Or.inr ⟨y, r2, ?_, ?_⟩
        · unfold m_X3_readLetter
          rw [P, gb2_s, gnm_s, q_within, gb1_s, hw, if_neg ne10, el, if_pos q, p1, q_faultAt, gb1_s, xF_new F1]
        · unfold m_X7_letter
          rw [N, gb2_s, gnm_s, I, gb1_s, hw, if_neg ne10, el, if_pos q, p2, q_cannot, gb1_s, mF_new F2]
      · refine Or.inl ⟨y + 1, l, k, hl, q, ?_, ?_⟩
        · unfold m_X3_readLetter
          rw [P, gb2_s, gnm_s, q_within, gb1_s, hw, if_neg ne10, el, if_neg q, p1, nI_1, gst_gst, gnm_s]
        · unfold m_X7_letter
          rw [N, gb2_s, gnm_s, I, gb1_s, hw, if_neg ne10, el, if_neg q, p2, nI_1, gst_gst, gnm_s]
  · rw [if_neg k] at P N
    have w1 : wi (-1 - 97) 0 (nI p - 1) = 0 := wi_0.mpr (fun h => absurd h.1 (by decide))
    have w2 : wi (0 - 97) 0 (nI p - 1) = 0 := wi_0.mpr (fun h => absurd h.1 (by decide))
    refine Or.inr ⟨y, r2, ?_, ?_⟩
    · unfold m_X3_readLetter
      rw [P, gb2_s, gnm_s, q_within, gb1_s, w1, if_pos rfl, p1, q_faultAt, gb1_s, xF_new F1]
    · unfold m_X7_letter
      rw [N, gb2_s, gnm_s, I, gb1_s, w2, if_pos rfl, p2, q_cannot, gb1_s, mF_new F2]
theorem q_letterF {σ : gMem} {t : Nat} {c : Nat → Nat} {x : Nat} (h : RX σ t c x) {f : Nat} (hf : f < 2 ^ 31) (e : σ 49 3 = nI f) {p : Nat} (hp : p ≤ 12) (a : Int32) : ∃ v s' x', m_X3_readLetter (nI p) a σ = some (v, s') ∧ RX s' t c x' ∧ s' 49 3 = nI f ∧ xK σ s' := by
  have hx := h.2.2.2.2
  obtain ⟨r1, r2⟩ := sSk_r c t (t - x) (by omega)
  have P := q_peek h
  have g1 := RX_go h r2
  generalize sSk c t (t - x) = y at *
  have p1 := g1.2.2.2.1
  have F : ∀ y, gst σ 49 2 (nI y) 49 3 = nI f := fun y => by rw [gst_eq, pk_un (by decide)]; exact e
  by_cases k : y < t
  · rw [if_pos k] at P
    rcases wi_c (n := p) (by omega) (nI (c y) - 97) with hw | ⟨hw, l, hl, el⟩
    · refine ⟨0, gst σ 49 2 (nI y), y, ?_, g1, F y, xK_p σ _⟩
      unfold m_X3_readLetter
      rw [P, gb2_s, gnm_s, q_within, gb1_s, hw, if_pos rfl, p1, q_faultAt, gb1_s, xF_old hf (F y)]
    · by_cases q : nI l = a
      · refine ⟨0, gst σ 49 2 (nI y), y, ?_, g1, F y, xK_p σ _⟩
        unfold m_X3_readLetter
        rw [P, gb2_s, gnm_s, q_within, gb1_s, hw, if_neg ne10, el, if_pos q, p1, q_faultAt, gb1_s, xF_old hf (F y)]
      · refine ⟨nI l, gst σ 49 2 (nI (y + 1)), y + 1, ?_, RX_go h k, F _, xK_p σ _⟩
        unfold m_X3_readLetter
        rw [P, gb2_s, gnm_s, q_within, gb1_s, hw, if_neg ne10, el, if_neg q, p1, nI_1, gst_gst, gnm_s]
  · rw [if_neg k] at P
    have w1 : wi (-1 - 97) 0 (nI p - 1) = 0 := wi_0.mpr (fun h => absurd h.1 (by decide))
    refine ⟨0, gst σ 49 2 (nI y), y, ?_, g1, F y, xK_p σ _⟩
    unfold m_X3_readLetter
    rw [P, gb2_s, gnm_s, q_within, gb1_s, w1, if_pos rfl, p1, q_faultAt, gb1_s, xF_old hf (F y)]
/-- a path, as the class reads it on behind its first letter, and behind its second -/
def xRest2 (s11 : gMem) : Option gMem :=
  gb2 (m_X3_readNumber 1 60 s11) fun r14 s13 => gck (inb (s11 49 5) 8) (some (gst s13 53 (s11 49 5).toNatClampNeg r14))
def xRest1 (a0 : Int32) (s5 : gMem) : Option gMem :=
  gck (inb (s5 49 5) 8) (gb2 (m_X3_readLetter a0 (s5 51 (s5 49 5).toNatClampNeg) s5) fun r9 s8 => gck (inb (s5 49 5) 8) (xRest2 (gst s8 52 (s5 49 5).toNatClampNeg r9)))
theorem q_readPath (a0 : Int32) (σ : gMem) : m_X3_readPath a0 σ = gb2 (m_X3_readLetter a0 (-1) σ) fun r3 s2 => gck (inb (σ 49 5) 8) (xRest1 a0 (gst s2 51 (σ 49 5).toNatClampNeg r3)) := rfl
theorem q_rest2F {σ : gMem} {t : Nat} {c : Nat → Nat} {x : Nat} (h : RX σ t c x) {f : Nat} (hf : f < 2 ^ 31) (e : σ 49 3 = nI f) {k : Nat} (hk : k < 8) (ek : σ 49 5 = nI k) : ∃ s' x', xRest2 σ = some s' ∧ RX s' t c x' ∧ s' 49 3 = nI f ∧ s' 49 5 = nI k ∧ ∀ j, j ≠ 49 → j ≠ 53 → s' j = σ j := by
  obtain ⟨v, s5, x5, n1, n2, n3, n4⟩ := q_numF h hf e (lo := 1) (hi := 60) (by decide) (by decide)
  replace n1 : m_X3_readNumber 1 60 σ = some (v, s5) := n1
  refine ⟨gst s5 53 k v, x5, ?_, RX_s n2 (by omega) _ _, ?_, ?_, fun j hj hd => ?_⟩
  · unfold xRest2
    rw [n1, gb2_s, ek, inb_t hk (by decide), gck_s, nI_clamp (by omega)]
  · rw [gst_ne _ _ (by decide)]; exact n3
  · rw [gst_ne _ _ (by decide), n4.2.2]; exact ek
  · rw [gst_ne _ _ hd, n4.1 j hj]
theorem q_rest1F {σ : gMem} {t : Nat} {c : Nat → Nat} {x : Nat} (h : RX σ t c x) {f : Nat} (hf : f < 2 ^ 31) (e : σ 49 3 = nI f) {k p : Nat} (hk : k < 8) (hp : p ≤ 12) (ek : σ 49 5 = nI k) : ∃ s' x', xRest1 (nI p) σ = some s' ∧ RX s' t c x' ∧ s' 49 3 = nI f ∧ s' 49 5 = nI k ∧ ∀ j, j ≠ 49 → j ≠ 52 → j ≠ 53 → s' j = σ j := by
  obtain ⟨v, s5, x5, n1, n2, n3, n4⟩ := q_letterF h hf e hp (σ 51 k)
  obtain ⟨s', x', m1, m2, m3, m4, m5⟩ := q_rest2F (RX_s n2 (k := 52) (by omega) k v) hf (by rw [gst_ne _ _ (by decide)]; exact n3) hk (by rw [gst_ne _ _ (by decide), n4.2.2]; exact ek)
  refine ⟨s', x', ?_, m2, m3, m4, fun j h1 h2 h3 => ?_⟩
  · unfold xRest1
    rw [ek, inb_t hk (by decide), gck_s, nI_clamp (by omega), n1, gb2_s, gck_s, m1]
  · rw [m5 j h1 h3, gst_ne _ _ h2, n4.1 j h1]
/-- the reference, when a path is read -/
def mContP (rc : Int32 → Int32 → gMem → Option (Int32 × gMem)) (x1 : Int32) (s24 : gMem) : Option (Int32 × gMem) :=
  if 0 ≤ (s24 0 5) then (gnm (gst s24 0 4 ((s24 0 4) + 0)) fun s26 => rc x1 0 s26) else (if 8 ≤ x1 then (gnm (gst s24 0 4 ((s24 0 4) + 0)) fun s27 => rc x1 0 s27) else (gb2 (m_X7_next s24) fun r30 s29 => if r30 = 44 then (gnm (gst s29 0 4 ((s29 0 4) + 1)) fun s32 => rc x1 1 s32) else (gnm (gst s29 0 4 ((s29 0 4) + 0)) fun s31 => rc x1 0 s31)))
def mNum (s12 : gMem) : Option gMem := if 0 ≤ (s12 0 5) then some s12 else (gb1 (m_X7_number 1 60 0 s12) fun s18 => some s18)
def mLet (r10 : Int32) (s9 : gMem) : Option (Int32 × gMem) := if 0 ≤ (s9 0 5) then some (0, s9) else (gb2 (m_X7_letter r10 s9) fun r15 s14 => some (r15, s14))
theorem q_bPaths (rc : Int32 → Int32 → gMem → Option (Int32 × gMem)) {k : Nat} (hk : k < 8) (μ : gMem) (f2 : μ 0 5 = -1) : b_X7_paths_8 rc (nI k) 1 μ = gb2 (m_X7_letter (-1) μ) fun r10 s9 => gb2 (mLet r10 s9) fun w11 s12 => gb1 (mNum s12) fun s16 => mContP rc (nI (k + 1)) (gst (gst (gst s16 3 (3 * k) r10) 3 (3 * k + 1) w11) 3 (3 * k + 2) (s16 0 6)) := by
  have k3 : (3 : Int32) * nI k = nI (3 * k) := nI_mul 3 k
  have k32 : nI (3 * k) + 2 = nI (3 * k + 2) := nI_add (3 * k) 2
  have j0 := inb_t (show 3 * k < 24 by omega) (show 24 < 2 ^ 31 by decide)
  have j1 := inb_t (show 3 * k + 1 < 24 by omega) (show 24 < 2 ^ 31 by decide)
  have j2 := inb_t (show 3 * k + 2 < 24 by omega) (show 24 < 2 ^ 31 by decide)
  have c0 := nI_clamp (show 3 * k < 2 ^ 31 by omega)
  have c1 := nI_clamp (show 3 * k + 1 < 2 ^ 31 by omega)
  have c2 := nI_clamp (show 3 * k + 2 < 2 ^ 31 by omega)
  have g0 : ∀ (s : gMem) (i : Nat) (v : Int32), gst s 3 i v 0 = s 0 := fun s i v => gst_ne _ _ (by decide)
  unfold b_X7_paths_8
  rw [if_neg ne10, f2, if_neg (show ¬ (0 : Int32) ≤ -1 by decide)]
  simp only [k3, k32, nI_1, j0, j1, j2, c0, c1, c2, gck_s, gnm_s, g0]
  unfold mContP mLet mNum
  simp only [g0, gnm_s]
