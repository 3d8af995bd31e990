/-! ===== walks: a minute in the reference, who stays, who comes ===== -/
def wb (M τ : Nat) : Int32 := if M.testBit τ = true then 1 else 0
theorem wZ_bit (z : Nat → Int32) (p i st a h τ : Nat) : (kF (wZ z p i st) a h).testBit τ = true ↔ a < p ∧ τ < 2 ^ wP z p ∧ ¬ wD z i p τ a h = 0 := by
  by_cases c : a < p
  · rw [wZ_F c, wFk_bit]
    exact ⟨fun h => ⟨c, h.1, h.2⟩, fun h => ⟨h.2.1, h.2.2⟩⟩
  · rw [show kF (wZ z p i st) a h = 0 from if_neg c, Nat.zero_testBit]
    constructor
    · intro h; cases h
    · intro h; exact absurd h.1 c
def wIs (k : gWk) (t a : Nat) : Nat := if t = 0 then 0 else wS k (t - 1) a
theorem wIs_F {k : gWk} {t a τ : Nat} (h : (wIs k t a).testBit τ = true) : ∃ u, (kF k a u).testBit τ = true := by
  unfold wIs at h
  by_cases c : t = 0
  · rw [if_pos c, Nat.zero_testBit] at h; cases h
  · rw [if_neg c] at h; exact ⟨_, wS_F h⟩
theorem t96 : ∀ j, j < 96 → nI j &&& 7 = nI (j % 8) ∧ nI j >>> (3 &&& 31) = nI (j / 8) := by decide +kernel
theorem q_go120 {μ : gMem} {z : Nat → Int32} {p q n y : Nat} (w : WF p q n y z) (e1 : μ 1 = z) {i st t : Nat} (hi : i < q) (hst : st < 1440) (ht : t ≤ 600) (hS : ∀ x, x < 96 → μ 8 x = wb (wIs (wZ z p i st) t (x / 8)) (x % 8)) : ∃ s, m_X7_go_120 (nI i) (nI (st + t)) gFU 0 μ = some s ∧ (∀ c, c ≠ 8 → s c = μ c) ∧ ∀ x, x < 96 → s 8 x = wb (wIs (wZ z p i st) t (x / 8) &&& kF (wZ z p i st) (x / 8) (wh st t)) (x % 8) := by
  have p12 := w.1.2.2.2.2.1
  have q8 := w.1.2.2.2.2.2.1
  obtain ⟨s, L, q1, q2, -⟩ := run_to (G := fun m j s => m_X7_go_120 (nI i) (nI (st + t)) m (nI j) s) (Q := fun j s => (∀ c, c ≠ 8 → s c = μ c) ∧ (∀ x, x < j → s 8 x = wb (wIs (wZ z p i st) t (x / 8) &&& kF (wZ z p i st) (x / 8) (wh st t)) (x % 8)) ∧ ∀ x, j ≤ x → x < 96 → s 8 x = wb (wIs (wZ z p i st) t (x / 8)) (x % 8)) (N := 96) (by decide) (fun m j s hj hq => by
    obtain ⟨q1, q2, q3⟩ := hq
    have s1 : s 1 = z := by rw [q1 1 (by decide)]; exact e1
    have V : m_X7_go_120 (nI i) (nI (st + t)) (m + 1) (nI j) s = b_X7_go_120 (nI i) (nI (st + t)) (m_X7_go_120 (nI i) (nI (st + t)) m) (nI j) s := rfl
    have c1 : ¬ (96 : Int32) ≤ nI j := nI_ge (b := 96) hj (by decide)
    have ij := inb_t hj (show 96 < 2 ^ 31 by decide)
    have cj := nI_clamp (show j < 2 ^ 31 by omega)
    have v := q3 j (Nat.le_refl j) hj
    unfold b_X7_go_120 at V
    rw [if_neg c1, ij, gck_s, cj, v] at V
    have fin : ∀ x : Int32, x = wb (wIs (wZ z p i st) t (j / 8) &&& kF (wZ z p i st) (j / 8) (wh st t)) (j % 8) → m_X7_go_120 (nI i) (nI (st + t)) (m + 1) (nI j) s = m_X7_go_120 (nI i) (nI (st + t)) m (nI (j + 1)) (gst s 8 j x) → ∃ s', m_X7_go_120 (nI i) (nI (st + t)) (m + 1) (nI j) s = m_X7_go_120 (nI i) (nI (st + t)) m (nI (j + 1)) s' ∧ (∀ c, c ≠ 8 → s' c = μ c) ∧ (∀ x, x < j + 1 → s' 8 x = wb (wIs (wZ z p i st) t (x / 8) &&& kF (wZ z p i st) (x / 8) (wh st t)) (x % 8)) ∧ ∀ x, j + 1 ≤ x → x < 96 → s' 8 x = wb (wIs (wZ z p i st) t (x / 8)) (x % 8) := fun x hx hV => by
      refine ⟨_, hV, fun c hc => by rw [gst_ne _ _ hc]; exact q1 c hc, fun u hu => ?_, fun u h1 h2 => ?_⟩
      · rw [gst_eq]
        by_cases e : u = j
        · rw [e, pk_us]; exact hx
        · rw [pk_un e]; exact q2 u (by omega)
      · rw [gst_eq, pk_un (by omega)]; exact q3 u (by omega) h2
    by_cases c : (wIs (wZ z p i st) t (j / 8)).testBit (j % 8) = true
    · have v1 : wb (wIs (wZ z p i st) t (j / 8)) (j % 8) = 1 := if_pos c
      obtain ⟨u, hu⟩ := wIs_F c
      obtain ⟨f1, f2, -⟩ := (wZ_bit z p i st _ _ _).mp hu
      rw [v1, if_neg ne10, (t96 j hj).1, (t96 j hj).2, q_lengthWith w s1 hi (Nat.mod_lt _ (by decide)), gb1_s, q_hourM (by omega), gb1_s, q_wouldZ s1 (by omega) (by omega) (Nat.mod_lt _ (by decide)), gb1_s] at V
      replace V : _ = if wD z i p (j % 8) (j / 8) (wh st t) = 0 then _ else _ := V
      by_cases c2 : wD z i p (j % 8) (j / 8) (wh st t) = 0
      · rw [if_pos c2, gck_s, gnm_s, gnm_s, nI_1] at V
        refine fin 0 ?_ V
        unfold wb
        rw [if_neg]
        rw [Nat.testBit_and, Bool.and_eq_true]
        intro h
        exact ((wZ_bit z p i st _ _ _).mp h.2).2.2 c2
      · rw [if_neg c2, gck_s, gnm_s, gnm_s, nI_1] at V
        refine fin 1 ?_ V
        unfold wb
        rw [if_pos]
        rw [Nat.testBit_and, Bool.and_eq_true]
        exact ⟨c, (wZ_bit z p i st _ _ _).mpr ⟨f1, f2, c2⟩⟩
    · have v0 : wb (wIs (wZ z p i st) t (j / 8)) (j % 8) = 0 := if_neg c
      rw [v0, if_pos rfl, gck_s, gnm_s, gnm_s, nI_1] at V
      refine fin 0 ?_ V
      unfold wb
      rw [if_neg]
      rw [Nat.testBit_and, Bool.and_eq_true]
      exact fun h => c h.1) (fun m s hq => by
    show b_X7_go_120 (nI i) (nI (st + t)) (m_X7_go_120 (nI i) (nI (st + t)) m) (nI 96) s = _
    unfold b_X7_go_120
    rw [if_pos (show (96 : Int32) ≤ nI 96 by decide)]) (s := μ) ⟨fun c _ => rfl, fun x hx => absurd hx (by omega), fun x _ hx => hS x hx⟩
  have L' : m_X7_go_120 (nI i) (nI (st + t)) gFU (nI 0) μ = some s := L
  rw [show nI 0 = 0 from rfl] at L'
  exact ⟨s, L', q1, q2⟩
/-- who is where, behind the first j of those who come -/
def wSp (k : gWk) (t y x : Nat) : Prop := x / 8 = y / 8 ∧ kp k (y / 8) < 3 ∧ (y % 8).testBit (kp k (y / 8)) = false ∧ x % 8 = y % 8 + 2 ^ kp k (y / 8) ∧ (kF k (x / 8) (wh (ks k) t)).testBit (x % 8) = true
def wAr (k : gWk) (t j x : Nat) : Prop := (wIs k t (x / 8) &&& kF k (x / 8) (wh (ks k) t)).testBit (x % 8) = true ∨ ∃ y, y < j ∧ (wC k (wS k) t (y / 8) (kn k)).testBit (y % 8) = true ∧ (x = y ∨ wSp k t y x)
theorem wAr_s {k : gWk} {t j x : Nat} : wAr k t (j + 1) x ↔ wAr k t j x ∨ ((wC k (wS k) t (j / 8) (kn k)).testBit (j % 8) = true ∧ (x = j ∨ wSp k t j x)) := by
  unfold wAr
  constructor
  · rintro (h | ⟨y, hy, h⟩)
    · exact Or.inl (Or.inl h)
    · by_cases e : y = j
      · subst e; exact Or.inr h
      · exact Or.inl (Or.inr ⟨y, by omega, h⟩)
  · rintro ((h | ⟨y, hy, h⟩) | h)
    · exact Or.inl h
    · exact Or.inr ⟨y, by omega, h⟩
    · exact Or.inr ⟨j, by omega, h⟩
theorem dm8 (a r : Nat) (h : r < 8) : (8 * a + r) / 8 = a ∧ (8 * a + r) % 8 = r := by omega
theorem wAr_end {k : gWk} (g : wG k) {t x : Nat} (hx : x < 96) : wAr k t 96 x ↔ (wS k t (x / 8)).testBit (x % 8) = true := by
  have x8 : x % 8 < 8 := Nat.mod_lt _ (by decide)
  have n12 := g.2.2.2.2.1
  have E : (wS k t (x / 8)).testBit (x % 8) = true ↔ ((wIs k t (x / 8)).testBit (x % 8) = true ∨ (wC k (wS k) t (x / 8) (kn k)).testBit (x % 8) = true ∨ (spl (kp k (x / 8)) (wC k (wS k) t (x / 8) (kn k))).testBit (x % 8) = true) ∧ (kF k (x / 8) (wh (ks k) t)).testBit (x % 8) = true := by
    have e : (if t = 0 then 0 else wS k (t - 1) (x / 8)) = wIs k t (x / 8) := rfl
    rw [wS_eq, e, Nat.testBit_and, Nat.testBit_or, Nat.testBit_or, Bool.and_eq_true, Bool.or_eq_true, Bool.or_eq_true, or_assoc]
  rw [E]
  have m256 := wC_lt g t (x / 8) (kn k)
  constructor
  · rintro (h | ⟨y, hy, h1, h2⟩)
    · rw [Nat.testBit_and, Bool.and_eq_true] at h
      exact ⟨Or.inl h.1, h.2⟩
    · rcases h2 with rfl | ⟨a1, a2, a3, a4, a5⟩
      · exact ⟨Or.inr (Or.inl h1), wC_F h1⟩
      · refine ⟨Or.inr (Or.inr ?_), a5⟩
        rw [a1, spl_bit _ (wC_lt g t (y / 8) (kn k)) _ a2 _ x8, Bool.and_eq_true, a4]
        have := (pw_bit (y % 8) (Nat.mod_lt _ (by decide)) _ a2).1 a3
        refine ⟨this.2, ?_⟩
        rw [Nat.add_sub_cancel]; exact h1
  · rintro ⟨h | h | h, hF⟩
    · left; rw [Nat.testBit_and, Bool.and_eq_true]; exact ⟨h, hF⟩
    · exact Or.inr ⟨x, hx, h, Or.inl rfl⟩
    · by_cases c : kp k (x / 8) < 3
      · rw [spl_bit _ m256 _ c _ x8, Bool.and_eq_true] at h
        obtain ⟨b1, b2, b3⟩ := (pw_bit (x % 8) x8 _ c).2 h.1
        have r8 : x % 8 - 2 ^ kp k (x / 8) < 8 := Nat.lt_of_le_of_lt (Nat.sub_le _ _) x8
        obtain ⟨y1, y2⟩ := dm8 (x / 8) _ r8
        have y3 : 8 * (x / 8) + (x % 8 - 2 ^ kp k (x / 8)) < 96 := by
          have : x / 8 < 12 := by omega
          omega
        refine Or.inr ⟨8 * (x / 8) + (x % 8 - 2 ^ kp k (x / 8)), y3, ?_, Or.inr ⟨?_, ?_, ?_, ?_, hF⟩⟩
        · rw [y1, y2]; exact h.2
        · rw [y1]
        · rw [y1]; exact c
        · rw [y1, y2]; exact b2
        · rw [y1, y2]; exact b3.symm
      · by_cases ha : x / 8 < kn k
        · rw [show kp k (x / 8) = 3 by have := g.2.2.2.2.2.2 _ ha; omega, spl_3, Nat.zero_testBit] at h; cases h
        · rw [g.2.1 _ _ (by omega), Nat.zero_testBit] at hF; cases hF
theorem pw_in : ∀ T, T ≤ 3 → ∀ P, P < T → ∀ τ, τ < 2 ^ T → τ.testBit P = false → τ + 2 ^ P < 2 ^ T := by decide +kernel
theorem q_go185 {μ : gMem} {z : Nat → Int32} {p q n y : Nat} (w : WF p q n y z) (e1 : μ 1 = z) {i st t : Nat} (hi : i < q) (hst : st < 1440) (ht : t ≤ 600) (hS : ∀ x, x < 96 → μ 8 x = wb (wIs (wZ z p i st) t (x / 8) &&& kF (wZ z p i st) (x / 8) (wh st t)) (x % 8)) (hC : ∀ x, x < 96 → μ 9 (96 * (t % 61) + x) = wb (wC (wZ z p i st) (wS (wZ z p i st)) t (x / 8) p) (x % 8)) : ∃ s, m_X7_go_185 (nI i) (nI t) (nI (st + t)) gFU 0 μ = some s ∧ (∀ c, c ≠ 8 → c ≠ 9 → s c = μ c) ∧ (∀ x, x < 96 → s 8 x = wb (wS (wZ z p i st) t (x / 8)) (x % 8)) ∧ ∀ x, s 9 x = if 96 * (t % 61) ≤ x ∧ x < 96 * (t % 61) + 96 then 0 else μ 9 x := by
  have p12 := w.1.2.2.2.2.1
  have q8 := w.1.2.2.2.2.2.1
  have g := wZ_good w hi hst
  have t61 : t % 61 < 61 := Nat.mod_lt _ (by decide)
  have r61 : grem (nI t) 61 = nI (t % 61) := nI_rem (b := 61) (by omega) (by decide)
  have ix : ∀ j : Nat, (96 : Int32) * nI (t % 61) + nI j = nI (96 * (t % 61) + j) := fun j => by rw [show (96 : Int32) = nI 96 from rfl, nI_mul, nI_add]
  obtain ⟨s, L, q1, q2, q3⟩ := run_to (G := fun m j s => m_X7_go_185 (nI i) (nI t) (nI (st + t)) m (nI j) s) (Q := fun j s => (∀ c, c ≠ 8 → c ≠ 9 → s c = μ c) ∧ (∀ x, x < 96 → (wAr (wZ z p i st) t j x → s 8 x = 1) ∧ (¬ wAr (wZ z p i st) t j x → s 8 x = 0)) ∧ ∀ x, s 9 x = if 96 * (t % 61) ≤ x ∧ x < 96 * (t % 61) + j then 0 else μ 9 x) (N := 96) (by decide) (fun m j s hj hq => by
    obtain ⟨q1, q2, q3⟩ := hq
    have s1 : s 1 = z := by rw [q1 1 (by decide) (by decide)]; exact e1
    have V : m_X7_go_185 (nI i) (nI t) (nI (st + t)) (m + 1) (nI j) s = b_X7_go_185 (nI i) (nI t) (nI (st + t)) (m_X7_go_185 (nI i) (nI t) (nI (st + t)) m) (nI j) s := rfl
    have c1 : ¬ (96 : Int32) ≤ nI j := nI_ge (b := 96) hj (by decide)
    have i58 := inb_t (show 96 * (t % 61) + j < 5856 by omega) (show 5856 < 2 ^ 31 by decide)
    have c58 := nI_clamp (show 96 * (t % 61) + j < 2 ^ 31 by omega)
    have v : s 9 (96 * (t % 61) + j) = wb (wC (wZ z p i st) (wS (wZ z p i st)) t (j / 8) p) (j % 8) := by
      rw [q3, if_neg (by omega)]; exact hC j hj
    unfold b_X7_go_185 at V
    rw [if_neg c1, r61, ix, gnm_s, i58, gck_s, c58, v] at V
    by_cases c : (wC (wZ z p i st) (wS (wZ z p i st)) t (j / 8) p).testBit (j % 8) = true
    · have v1 : wb (wC (wZ z p i st) (wS (wZ z p i st)) t (j / 8) p) (j % 8) = 1 := if_pos c
      obtain ⟨f1, f2, -⟩ := (wZ_bit z p i st _ _ _).mp (wC_F c)
      obtain ⟨s', A1, A2, A3⟩ := q_arrives w s1 hi f1 (show j % 8 < 8 from Nat.mod_lt _ (by decide)) (m := st + t) (by omega)
      rw [v1, if_neg ne10, (t96 j hj).1, (t96 j hj).2, A1, gb1_s, gck_s, gnm_s, gnm_s, nI_1] at V
      refine ⟨gst s' 9 (96 * (t % 61) + j) 0, V, fun c h1 h2 => by rw [gst_ne _ _ h2, A2 c h1]; exact q1 c h1 h2, fun x hx => ?_, fun x => ?_⟩
      · rw [gst_ne _ _ (by decide), A3 x]
        have dm : 8 * (j / 8) + j % 8 = j := by omega
        have EQ : (x = 8 * (j / 8) + j % 8 ∨ (wpn z (j / 8) < 3 ∧ (j % 8).testBit (wpn z (j / 8)) = false ∧ x = 8 * (j / 8) + (j % 8 + 2 ^ wpn z (j / 8)) ∧ ¬ wD z i p (j % 8 + 2 ^ wpn z (j / 8)) (j / 8) ((st + t) / 60 % 24) = 0)) ↔ (x = j ∨ wSp (wZ z p i st) t j x) := by
          rw [dm]
          constructor
          · rintro (h | ⟨h1, h2, h3, h4⟩)
            · exact Or.inl h
            · refine Or.inr ?_
              obtain ⟨t8, -⟩ := (pw_bit (j % 8) (Nat.mod_lt _ (by decide)) _ h1).1 h2
              have x1 : x / 8 = j / 8 := by rw [h3]; exact (dm8 _ _ t8).1
              have x2 : x % 8 = j % 8 + 2 ^ wpn z (j / 8) := by rw [h3]; exact (dm8 _ _ t8).2
              refine ⟨x1, h1, h2, x2, ?_⟩
              rw [x1, x2]
              refine (wZ_bit z p i st _ _ _).mpr ⟨f1, ?_, h4⟩
              have pp : 0 < (z (12 + j / 8)).toInt := by
                unfold wpn at h1
                by_cases h : 0 < (z (12 + j / 8)).toInt
                · exact h
                · rw [if_neg h] at h1; omega
              have e : wpn z (j / 8) = wP z (j / 8) := if_pos pp
              have lt : wP z (j / 8) < wP z p := by
                have := wP_mono z (show j / 8 + 1 ≤ p from f1)
                rw [wP_s, if_pos pp] at this; omega
              rw [e]
              exact pw_in _ (wP_npo w) _ lt _ f2 (by rw [← e]; exact h2)
          · rintro (h | ⟨h1, h2, h3, h4, h5⟩)
            · exact Or.inl h
            · refine Or.inr ⟨h2, h3, ?_, ?_⟩
              · have h4' : x % 8 = j % 8 + 2 ^ wpn z (j / 8) := h4
                omega
              · have h5' := ((wZ_bit z p i st _ _ _).mp h5).2.2
                rw [h1, h4] at h5'
                exact h5'
        constructor
        · intro h
          rcases wAr_s.mp h with h | ⟨-, h⟩
          · rw [(q2 x hx).1 h]; split <;> rfl
          · rw [if_pos (EQ.mpr h)]
        · intro h
          rw [if_neg (fun h' => h (wAr_s.mpr (Or.inr ⟨c, EQ.mp h'⟩)))]
          exact (q2 x hx).2 (fun h' => h (wAr_s.mpr (Or.inl h')))
      · rw [gst_eq, A2 9 (by decide), upd_a, q3 x]
        by_cases e : x = 96 * (t % 61) + j
        · rw [if_pos e, if_pos (by omega)]
        · rw [if_neg e]
          by_cases e2 : 96 * (t % 61) ≤ x ∧ x < 96 * (t % 61) + j
          · rw [if_pos e2, if_pos (by omega)]
          · rw [if_neg e2, if_neg (by omega)]
    · have v0 : wb (wC (wZ z p i st) (wS (wZ z p i st)) t (j / 8) p) (j % 8) = 0 := if_neg c
      rw [v0, if_pos rfl, gnm_s, nI_1] at V
      have nn : ∀ x, wAr (wZ z p i st) t (j + 1) x ↔ wAr (wZ z p i st) t j x := fun x => by
        rw [wAr_s]
        exact ⟨fun h => h.elim id (fun h => absurd h.1 c), Or.inl⟩
      refine ⟨s, V, q1, fun x hx => by rw [nn x]; exact q2 x hx, fun x => ?_⟩
      rw [q3 x]
      by_cases e : x = 96 * (t % 61) + j
      · rw [if_neg (by omega), if_pos (by omega), e, hC j hj, v0]
      · by_cases e2 : 96 * (t % 61) ≤ x ∧ x < 96 * (t % 61) + j
        · rw [if_pos e2, if_pos (by omega)]
        · rw [if_neg e2, if_neg (by omega)]) (fun m s hq => by
    show b_X7_go_185 (nI i) (nI t) (nI (st + t)) (m_X7_go_185 (nI i) (nI t) (nI (st + t)) m) (nI 96) s = _
    unfold b_X7_go_185
    rw [if_pos (show (96 : Int32) ≤ nI 96 by decide)]) (s := μ) ⟨fun c _ _ => rfl, fun x hx => by
      have e : wAr (wZ z p i st) t 0 x ↔ (wIs (wZ z p i st) t (x / 8) &&& kF (wZ z p i st) (x / 8) (wh st t)).testBit (x % 8) = true :=
        ⟨fun h => h.elim id (fun ⟨y, hy, _⟩ => absurd hy (by omega)), Or.inl⟩
      rw [hS x hx, e]
      unfold wb
      exact ⟨fun h => if_pos h, fun h => if_neg h⟩, fun x => by rw [if_neg (by omega)]⟩
  have L' : m_X7_go_185 (nI i) (nI t) (nI (st + t)) gFU (nI 0) μ = some s := L
  rw [show nI 0 = 0 from rfl] at L'
  refine ⟨s, L', q1, fun x hx => ?_, q3⟩
  have e := wAr_end g (t := t) hx
  unfold wb
  by_cases c : (wS (wZ z p i st) t (x / 8)).testBit (x % 8) = true
  · rw [if_pos c]; exact (q2 x hx).1 (e.mpr c)
  · rw [if_neg c]; exact (q2 x hx).2 (fun h => c (e.mp h))
