/-! ===== walks: a minute in the reference, who leaves ===== -/
theorem q_leaves {μ : gMem} {z : Nat → Int32} {p q n y : Nat} (w : WF p q n y z) (e1 : μ 1 = z) {i st t b τ : Nat} (hi : i < q) (hst : st < 1440) (ht : t ≤ 600) (hb : b < p) (hτ : τ < 8) (hbit : (wS (wZ z p i st) t b).testBit τ = true) {E : Nat → Nat → Nat → Prop} (hC : wCm t E μ) : ∃ s, m_X7_leaves (nI i) (nI b) (nI τ) (nI t) (nI (st + t)) μ = some s ∧ (∀ c, c ≠ 9 → s c = μ c) ∧ wCm t (fun u a τ' => E u a τ' ∨ (τ' = τ ∧ a < p ∧ 0 < kd (wZ z p i st) b a ∧ t + kd (wZ z p i st) b a = u ∧ u ≤ 600 ∧ (wHl (wZ z p i st) a b t u).testBit τ = true)) s := by
  have p12 := w.1.2.2.2.2.1
  have q8 := w.1.2.2.2.2.2.1
  have Fb := wS_F hbit
  obtain ⟨-, τP, Wb⟩ := (wZ_bit z p i st _ _ _).mp Fb
  replace Wb : ¬ wD z i p τ b ((st + t) / 60 % 24) = 0 := Wb
  obtain ⟨s, L, q1, q2⟩ := run_to (G := fun m a s => m_X7_leaves_11 (nI i) (nI b) (nI τ) (nI t) (nI (st + t)) (z (74 + i) + nI (wl z τ p)) m (nI a) s) (Q := fun j s => (∀ c, c ≠ 9 → s c = μ c) ∧ wCm t (fun u a τ' => E u a τ' ∨ (τ' = τ ∧ a < j ∧ 0 < kd (wZ z p i st) b a ∧ t + kd (wZ z p i st) b a = u ∧ u ≤ 600 ∧ (wHl (wZ z p i st) a b t u).testBit τ = true)) s) (N := p) (by omega) (fun m a s ha hq => by
    obtain ⟨q1, q2⟩ := hq
    have s1 : s 1 = z := by rw [q1 1 (by decide)]; exact e1
    have V : m_X7_leaves_11 (nI i) (nI b) (nI τ) (nI t) (nI (st + t)) (z (74 + i) + nI (wl z τ p)) (m + 1) (nI a) s = b_X7_leaves_11 (nI i) (nI b) (nI τ) (nI t) (nI (st + t)) (z (74 + i) + nI (wl z τ p)) (m_X7_leaves_11 (nI i) (nI b) (nI τ) (nI t) (nI (st + t)) (z (74 + i) + nI (wl z τ p)) m) (nI a) s := rfl
    have c1 : ¬ nI p ≤ nI a := nI_ge ha (by omega)
    have f120 : (120 : Int32) + 12 * nI b + nI a = nI (120 + 12 * b + a) := by rw [show (120 : Int32) = nI 120 from rfl, show (12 : Int32) = nI 12 from rfl, nI_mul, nI_add, nI_add]
    obtain ⟨m1, m2, -, -, -⟩ := w.2.2.2.2.2.2.2 b a (by omega) (by omega)
    obtain ⟨v, hv, ev⟩ := nat_of (n := 60) m1 m2 (by decide)
    have dv : kd (wZ z p i st) b a = v := by show (z (120 + 12 * b + a)).toNatClampNeg = v; rw [ev, nI_clamp (by omega)]
    have PO : m_X7_pathOf (nI b) (nI a) s = some (nI v) := by
      unfold m_X7_pathOf
      rw [f120, inb_t (show 120 + 12 * b + a < 528 by omega) (by decide), gck_s, nI_clamp (show 120 + 12 * b + a < 2 ^ 31 by omega), s1, ev]
    have LA := fun (x : Nat) (hx : x < 12) => q_lasts s1 (i := i) (a := x) (m := st + t) (d := v) (by omega) hx (by omega) hv (z (74 + i) + nI (wl z τ p))
    unfold b_X7_leaves_11 at V
    rw [in62, gck_s, l62, s1, w.1.1, if_neg c1, PO, gb1_s, nI_add, nI_add, LA b (by omega), LA a (by omega)] at V
    -- nobody goes this way
    have skip : ¬ (0 < v ∧ t + v ≤ 600 ∧ (wHl (wZ z p i st) a b t (t + v)).testBit τ = true) → m_X7_leaves_11 (nI i) (nI b) (nI τ) (nI t) (nI (st + t)) (z (74 + i) + nI (wl z τ p)) (m + 1) (nI a) s = m_X7_leaves_11 (nI i) (nI b) (nI τ) (nI t) (nI (st + t)) (z (74 + i) + nI (wl z τ p)) m (nI (a + 1)) s → ∃ s', m_X7_leaves_11 (nI i) (nI b) (nI τ) (nI t) (nI (st + t)) (z (74 + i) + nI (wl z τ p)) (m + 1) (nI a) s = m_X7_leaves_11 (nI i) (nI b) (nI τ) (nI t) (nI (st + t)) (z (74 + i) + nI (wl z τ p)) m (nI (a + 1)) s' ∧ (∀ c, c ≠ 9 → s' c = μ c) ∧ wCm t (fun u a' τ' => E u a' τ' ∨ (τ' = τ ∧ a' < a + 1 ∧ 0 < kd (wZ z p i st) b a' ∧ t + kd (wZ z p i st) b a' = u ∧ u ≤ 600 ∧ (wHl (wZ z p i st) a' b t u).testBit τ = true)) s' := fun hn hV => by
      refine ⟨s, hV, q1, wCm_c q2 (fun u a' τ' hu ha' hτ' => ?_)⟩
      constructor
      · rintro (h | ⟨h1, h2, h3⟩)
        · exact Or.inl h
        · exact Or.inr ⟨h1, by omega, h3⟩
      · rintro (h | ⟨h1, h2, h3, h4, h5, h6⟩)
        · exact Or.inl h
        · by_cases e : a' = a
          · subst e
            rw [dv] at h3 h4
            exact absurd ⟨h3, by omega, by rw [h4]; exact h6⟩ hn
          · exact Or.inr ⟨h1, by omega, h3, h4, h5, h6⟩
    by_cases c2 : v = 0
    · rw [if_pos (show nI v ≤ 0 by rw [c2]; decide), gnm_s, nI_1] at V
      exact skip (fun h => by omega) V
    rw [if_neg (nI_nle (by omega) (by omega))] at V
    by_cases c3 : 600 < t + v
    · rw [if_pos (show (600 : Int32) < nI (t + v) from nI_lt (a := 600) c3 (by omega)), gnm_s, nI_1] at V
      exact skip (fun h => by omega) V
    rw [if_neg (show ¬ (600 : Int32) < nI (t + v) from nI_nlt (a := 600) (by omega) (by decide))] at V
    have Hbit : (wHl (wZ z p i st) a b t (t + v)).testBit τ = true ↔ ¬ wD z i p τ a ((st + t) / 60 % 24) = 0 ∧ ¬ wD z i p τ a ((st + t + v) / 60 % 24) = 0 ∧ ¬ wD z i p τ b ((st + t + v) / 60 % 24) = 0 := by
      rw [wHl_bit, wZ_bit, wZ_bit, wZ_bit, wZ_bit]
      have k1 : wh (ks (wZ z p i st)) t = (st + t) / 60 % 24 := rfl
      have k2 : wh (ks (wZ z p i st)) (t + v) = (st + t + v) / 60 % 24 := by show (st + (t + v)) / 60 % 24 = _; rw [Nat.add_assoc]
      rw [k1, k2]
      exact ⟨fun h => ⟨h.1.2.2, h.2.2.1.2.2, h.2.2.2.2.2⟩, fun h => ⟨⟨ha, τP, h.1⟩, ⟨hb, τP, Wb⟩, ⟨ha, τP, h.2.1⟩, ⟨hb, τP, h.2.2⟩⟩⟩
    have k1 : ∀ x h, sD z i (z (74 + i) + nI (wl z τ p)) x h = wD z i p τ x h := fun _ _ => rfl
    simp only [k1] at V
    rw [gb1_s, if_neg Wb] at V
    by_cases c4 : wD z i p τ b ((st + t + v) / 60 % 24) = 0
    · rw [if_pos c4, gnm_s, nI_1] at V
      exact skip (fun h => (Hbit.mp h.2.2).2.2 c4) V
    rw [if_neg c4, gb1_s] at V
    by_cases c5 : wD z i p τ a ((st + t) / 60 % 24) = 0
    · rw [if_pos c5, if_pos rfl, gnm_s, nI_1] at V
      exact skip (fun h => (Hbit.mp h.2.2).1 c5) V
    rw [if_neg c5] at V
    by_cases c6 : wD z i p τ a ((st + t + v) / 60 % 24) = 0
    · rw [if_pos c6, gnm_s, nI_1] at V
      exact skip (fun h => (Hbit.mp h.2.2).2.1 c6) V
    have t61 : (t + v) % 61 < 61 := Nat.mod_lt _ (by decide)
    have r61 : grem (nI (t + v)) 61 = nI ((t + v) % 61) := nI_rem (b := 61) (by omega) (by decide)
    have ix : (96 : Int32) * nI ((t + v) % 61) + 8 * nI a + nI τ = nI (96 * ((t + v) % 61) + 8 * a + τ) := by
      rw [show (96 : Int32) = nI 96 from rfl, show (8 : Int32) = nI 8 from rfl, nI_mul, nI_mul, nI_add, nI_add]
    rw [if_neg c6, r61, ix, inb_t (show 96 * ((t + v) % 61) + 8 * a + τ < 5856 by omega) (by decide), gck_s, gnm_s, gnm_s, nI_1, nI_clamp (show 96 * ((t + v) % 61) + 8 * a + τ < 2 ^ 31 by omega)] at V
    refine ⟨_, V, fun c hc => by rw [gst_ne _ _ hc]; exact q1 c hc, wCm_c (wCm_set q2 (show t < t + v by omega) (by omega) (show a < 12 by omega) hτ) (fun u a' τ' hu ha' hτ' => ?_)⟩
    constructor
    · rintro ((h | ⟨h1, h2, h3⟩) | ⟨h1, h2, h3⟩)
      · exact Or.inl h
      · exact Or.inr ⟨h1, by omega, h3⟩
      · subst h2
        refine Or.inr ⟨h3, by omega, by rw [dv]; omega, by rw [dv]; exact h1.symm, by omega, ?_⟩
        rw [h1]; exact Hbit.mpr ⟨c5, c6, c4⟩
    · rintro (h | ⟨h1, h2, h3, h4, h5, h6⟩)
      · exact Or.inl (Or.inl h)
      · by_cases e : a' = a
        · subst e
          rw [dv] at h4
          exact Or.inr ⟨h4.symm, rfl, h1⟩
        · exact Or.inl (Or.inr ⟨h1, by omega, h3, h4, h5, h6⟩)) (fun m s hq => by
    obtain ⟨q1, -⟩ := hq
    have s1 : s 1 = z := by rw [q1 1 (by decide)]; exact e1
    show b_X7_leaves_11 (nI i) (nI b) (nI τ) (nI t) (nI (st + t)) (z (74 + i) + nI (wl z τ p)) (m_X7_leaves_11 (nI i) (nI b) (nI τ) (nI t) (nI (st + t)) (z (74 + i) + nI (wl z τ p)) m) (nI p) s = _
    unfold b_X7_leaves_11
    rw [in62, gck_s, l62, s1, w.1.1, if_pos (nI_le (Nat.le_refl p) (by omega))]) (s := μ) ⟨fun c _ => rfl, wCm_c hC (fun u a τ' _ _ _ => ⟨Or.inl, fun h => h.elim id (fun h => absurd h.2.1 (by omega))⟩)⟩
  have L' : m_X7_leaves_11 (nI i) (nI b) (nI τ) (nI t) (nI (st + t)) (z (74 + i) + nI (wl z τ p)) gFU (nI 0) μ = some s := L
  rw [show nI 0 = 0 from rfl] at L'
  refine ⟨s, ?_, q1, q2⟩
  unfold m_X7_leaves
  rw [q_lengthWith w e1 hi hτ, gb1_s, L', gb1_s]
/-- who comes to a in minute u, having left ahead of minute T -/
def wDe (k : gWk) (T u a : Nat) : Nat → Nat
  | 0 => wI k u a
  | b + 1 => wDe k T u a b ||| (if 0 < kd k b a ∧ kd k b a ≤ u ∧ u - kd k b a < T ∧ u ≤ 600 then wS k (u - kd k b a) b &&& wHl k a b (u - kd k b a) u else 0)
theorem wDe_bit (k : gWk) (T u a τ : Nat) : ∀ n, (wDe k T u a n).testBit τ = true ↔ (wI k u a).testBit τ = true ∨ ∃ b, b < n ∧ 0 < kd k b a ∧ kd k b a ≤ u ∧ u - kd k b a < T ∧ u ≤ 600 ∧ (wS k (u - kd k b a) b).testBit τ = true ∧ (wHl k a b (u - kd k b a) u).testBit τ = true := by
  intro n
  induction n with
  | zero =>
    constructor
    · intro h; exact Or.inl h
    · rintro (h | ⟨b, hb, -⟩)
      · exact h
      · exact absurd hb (by omega)
  | succ n ih =>
    simp only [wDe]
    rw [Nat.testBit_or, Bool.or_eq_true, ih]
    constructor
    · rintro ((h | ⟨b, hb, h⟩) | h)
      · exact Or.inl h
      · exact Or.inr ⟨b, by omega, h⟩
      · by_cases c : 0 < kd k n a ∧ kd k n a ≤ u ∧ u - kd k n a < T ∧ u ≤ 600
        · rw [if_pos c, Nat.testBit_and, Bool.and_eq_true] at h
          exact Or.inr ⟨n, by omega, c.1, c.2.1, c.2.2.1, c.2.2.2, h.1, h.2⟩
        · rw [if_neg c, Nat.zero_testBit] at h; cases h
    · rintro (h | ⟨b, hb, h1, h2, h3, h4, h5, h6⟩)
      · exact Or.inl (Or.inl h)
      · by_cases e : b = n
        · subst e
          refine Or.inr ?_
          rw [if_pos ⟨h1, h2, h3, h4⟩, Nat.testBit_and, Bool.and_eq_true]; exact ⟨h5, h6⟩
        · exact Or.inl (Or.inr ⟨b, by omega, h1, h2, h3, h4, h5, h6⟩)
theorem wDe_C (k : gWk) {t : Nat} (ht : t ≤ 600) (a : Nat) : ∀ n, wDe k t t a n = wC k (wS k) t a n := by
  intro n
  induction n with
  | zero => rfl
  | succ n ih =>
    simp only [wDe, wC]
    rw [ih]
    by_cases c : 0 < kd k n a ∧ kd k n a ≤ t
    · rw [if_pos c, if_pos ⟨c.1, c.2, by omega, ht⟩]
    · rw [if_neg c, if_neg (fun h => c ⟨h.1, h.2.1⟩)]
theorem q_go255 {μ : gMem} {z : Nat → Int32} {p q n y : Nat} (w : WF p q n y z) (e1 : μ 1 = z) {i st t : Nat} (hi : i < q) (hst : st < 1440) (ht : t ≤ 600) (hS : ∀ x, x < 96 → μ 8 x = wb (wS (wZ z p i st) t (x / 8)) (x % 8)) (hC : wCm t (fun u a τ => (wDe (wZ z p i st) t u a p).testBit τ = true) μ) : ∃ s, m_X7_go_255 (nI i) (nI t) (nI (st + t)) gFU 0 μ = some s ∧ (∀ c, c ≠ 9 → s c = μ c) ∧ wCm t (fun u a τ => (wDe (wZ z p i st) (t + 1) u a p).testBit τ = true) s := by
  have p12 := w.1.2.2.2.2.1
  have g := wZ_good w hi hst
  obtain ⟨s, L, q1, q2⟩ := run_to (G := fun m j s => m_X7_go_255 (nI i) (nI t) (nI (st + t)) m (nI j) s) (Q := fun j s => (∀ c, c ≠ 9 → s c = μ c) ∧ wCm t (fun u a τ => (wDe (wZ z p i st) t u a p).testBit τ = true ∨ ∃ b, 8 * b + τ < j ∧ (wS (wZ z p i st) t b).testBit τ = true ∧ a < p ∧ 0 < kd (wZ z p i st) b a ∧ t + kd (wZ z p i st) b a = u ∧ u ≤ 600 ∧ (wHl (wZ z p i st) a b t u).testBit τ = true) s) (N := 96) (by decide) (fun m j s hj hq => by
    obtain ⟨q1, q2⟩ := hq
    have s1 : s 1 = z := by rw [q1 1 (by decide)]; exact e1
    have V : m_X7_go_255 (nI i) (nI t) (nI (st + t)) (m + 1) (nI j) s = b_X7_go_255 (nI i) (nI t) (nI (st + t)) (m_X7_go_255 (nI i) (nI t) (nI (st + t)) m) (nI j) s := rfl
    have c1 : ¬ (96 : Int32) ≤ nI j := nI_ge (b := 96) hj (by decide)
    unfold b_X7_go_255 at V
    rw [if_neg c1, inb_t hj (by decide), gck_s, nI_clamp (show j < 2 ^ 31 by omega), q1 8 (by decide), hS j hj] at V
    have j8 : j % 8 < 8 := Nat.mod_lt _ (by decide)
    by_cases c : (wS (wZ z p i st) t (j / 8)).testBit (j % 8) = true
    · have v1 : wb (wS (wZ z p i st) t (j / 8)) (j % 8) = 1 := if_pos c
      have hb : j / 8 < p := ((wZ_bit z p i st _ _ _).mp (wS_F c)).1
      obtain ⟨s', A1, A2, A3⟩ := q_leaves w s1 hi hst ht hb j8 c q2
      rw [v1, if_neg ne10, (t96 j hj).1, (t96 j hj).2, A1, gb1_s, gnm_s, nI_1] at V
      refine ⟨s', V, fun c hc => by rw [A2 c hc]; exact q1 c hc, wCm_c A3 (fun u a τ hu ha hτ => ?_)⟩
      constructor
      · rintro ((h | ⟨b, h1, h2⟩) | ⟨h1, h2⟩)
        · exact Or.inl h
        · exact Or.inr ⟨b, by omega, h2⟩
        · subst h1
          exact Or.inr ⟨j / 8, by omega, c, h2⟩
      · rintro (h | ⟨b, h1, h2, h3⟩)
        · exact Or.inl (Or.inl h)
        · by_cases e : 8 * b + τ < j
          · exact Or.inl (Or.inr ⟨b, e, h2, h3⟩)
          · have eb : b = j / 8 := by omega
            have et : τ = j % 8 := by omega
            subst eb; subst et
            exact Or.inr ⟨rfl, h3⟩
    · have v0 : wb (wS (wZ z p i st) t (j / 8)) (j % 8) = 0 := if_neg c
      rw [v0, if_pos rfl, gnm_s, nI_1] at V
      refine ⟨s, V, q1, wCm_c q2 (fun u a τ hu ha hτ => ?_)⟩
      constructor
      · rintro (h | ⟨b, h1, h2⟩)
        · exact Or.inl h
        · exact Or.inr ⟨b, by omega, h2⟩
      · rintro (h | ⟨b, h1, h2, h3⟩)
        · exact Or.inl h
        · by_cases e : 8 * b + τ < j
          · exact Or.inr ⟨b, e, h2, h3⟩
          · have eb : b = j / 8 := by omega
            have et : τ = j % 8 := by omega
            subst eb; subst et
            exact absurd h2 c) (fun m s hq => by
    show b_X7_go_255 (nI i) (nI t) (nI (st + t)) (m_X7_go_255 (nI i) (nI t) (nI (st + t)) m) (nI 96) s = _
    unfold b_X7_go_255
    rw [if_pos (show (96 : Int32) ≤ nI 96 by decide)]) (s := μ) ⟨fun c _ => rfl, wCm_c hC (fun u a τ _ _ _ => ⟨Or.inl, fun h => h.elim id (fun ⟨b, hb, _⟩ => absurd hb (by omega))⟩)⟩
  have L' : m_X7_go_255 (nI i) (nI t) (nI (st + t)) gFU (nI 0) μ = some s := L
  rw [show nI 0 = 0 from rfl] at L'
  refine ⟨s, L', q1, wCm_c q2 (fun u a τ hu ha hτ => ?_)⟩
  rw [wDe_bit, wDe_bit]
  constructor
  · rintro ((h | ⟨b, h1, h2, h3, h4, h5⟩) | ⟨b, h1, h2, h3, h4, h5, h6, h7⟩)
    · exact Or.inl h
    · exact Or.inr ⟨b, h1, h2, h3, by omega, h5⟩
    · have hb : b < p := ((wZ_bit z p i st _ _ _).mp (wS_F h2)).1
      have e : u - kd (wZ z p i st) b a = t := by omega
      exact Or.inr ⟨b, hb, h4, by omega, by omega, h6, by rw [e]; exact h2, by rw [e]; exact h7⟩
  · rintro (h | ⟨b, h1, h2, h3, h4, h5, h6, h7⟩)
    · exact Or.inl (Or.inl h)
    · by_cases e : u - kd (wZ z p i st) b a = t
      · rw [e] at h6 h7
        have ha' := ((wZ_bit z p i st _ _ _).mp ((wHl_bit _ _ _ _ _ _).mp h7).1).1
        exact Or.inr ⟨b, by omega, h6, ha', h2, by omega, h5, h7⟩
      · exact Or.inl (Or.inr ⟨b, h1, h2, h3, by omega, h5, h6, h7⟩)
