/-! ===== walks: the reference, whole ===== -/
theorem q_go15 (μ : gMem) : ∃ s, m_X7_go_15 gFU 0 μ = some s ∧ (∀ c, c ≠ 8 → s c = μ c) ∧ ∀ j, j < 96 → s 8 j = 0 := by
  obtain ⟨s, L, q1, q2⟩ := run_to (G := fun m j s => m_X7_go_15 m (nI j) s) (Q := fun j s => (∀ c, c ≠ 8 → s c = μ c) ∧ ∀ i, i < j → s 8 i = 0) (N := 96) (by decide) (fun m j s hj hq => by
    obtain ⟨q1, q2⟩ := hq
    refine ⟨gst s 8 j 0, ?_, fun c hc => by rw [gst_ne _ _ hc]; exact q1 c hc, fun i hi => ?_⟩
    · show b_X7_go_15 (m_X7_go_15 m) (nI j) s = _
      have c1 : ¬ (96 : Int32) ≤ nI j := nI_ge (b := 96) hj (by decide)
      unfold b_X7_go_15
      rw [if_neg c1, inb_t hj (by decide), gck_s, gnm_s, gnm_s, nI_clamp (show j < 2 ^ 31 by omega), nI_1]
    · rw [gst_eq]
      by_cases e : i = j
      · rw [e]; exact pk_us
      · rw [pk_un e]; exact q2 i (by omega)) (fun m s hq => by
    show b_X7_go_15 (m_X7_go_15 m) (nI 96) s = _
    unfold b_X7_go_15
    rw [if_pos (show (96 : Int32) ≤ nI 96 by decide)]) (s := μ) ⟨fun c _ => rfl, fun j hj => absurd hj (by omega)⟩
  have L' : m_X7_go_15 gFU (nI 0) μ = some s := L
  rw [show nI 0 = 0 from rfl] at L'
  exact ⟨s, L', q1, q2⟩
theorem q_go39 (μ : gMem) : ∃ s, m_X7_go_39 gFU 0 μ = some s ∧ (∀ c, c ≠ 9 → s c = μ c) ∧ ∀ j, j < 5856 → s 9 j = 0 := by
  obtain ⟨s, L, q1, q2⟩ := run_to (G := fun m j s => m_X7_go_39 m (nI j) s) (Q := fun j s => (∀ c, c ≠ 9 → s c = μ c) ∧ ∀ i, i < j → s 9 i = 0) (N := 5856) (Nat.le_of_ble_eq_true rfl) (fun m j s hj hq => by
    obtain ⟨q1, q2⟩ := hq
    refine ⟨gst s 9 j 0, ?_, fun c hc => by rw [gst_ne _ _ hc]; exact q1 c hc, fun i hi => ?_⟩
    · show b_X7_go_39 (m_X7_go_39 m) (nI j) s = _
      have c1 : ¬ (5856 : Int32) ≤ nI j := nI_ge (b := 5856) hj (by decide)
      unfold b_X7_go_39
      rw [if_neg c1, inb_t hj (by decide), gck_s, gnm_s, gnm_s, nI_clamp (show j < 2 ^ 31 by omega), nI_1]
    · rw [gst_eq]
      by_cases e : i = j
      · rw [e]; exact pk_us
      · rw [pk_un e]; exact q2 i (by omega)) (fun m s hq => by
    show b_X7_go_39 (m_X7_go_39 m) (nI 5856) s = _
    unfold b_X7_go_39
    rw [if_pos (show (5856 : Int32) ≤ nI 5856 by decide)]) (s := μ) ⟨fun c _ => rfl, fun j hj => absurd hj (by omega)⟩
  have L' : m_X7_go_39 gFU (nI 0) μ = some s := L
  rw [show nI 0 = 0 from rfl] at L'
  exact ⟨s, L', q1, q2⟩
/-- the first minute so far -/
def wSf (k : gWk) (b t : Nat) (r : Int32) : Prop := (∃ u, u < t ∧ r = nI u ∧ wS k u b ≠ 0 ∧ ∀ v, v < u → wS k v b = 0) ∨ (r = -4 ∧ ∀ u, u < t → wS k u b = 0)
/-- who is on his way, ahead of minute t -/
def wCj (k : gWk) (t : Nat) (s : gMem) : Prop := ∀ u, t ≤ u → u < t + 61 → ∀ a τ, a < 12 → τ < 8 → ((wDe k t u a (kn k)).testBit τ = true → s 9 (96 * (u % 61) + 8 * a + τ) = 1) ∧ (¬ (wDe k t u a (kn k)).testBit τ = true → s 9 (96 * (u % 61) + 8 * a + τ) = 0)
theorem q_go103 {z : Nat → Int32} {p q n y : Nat} (w : WF p q n y z) {i st t b : Nat} (hi : i < q) (hst : st < 1440) (ht : t ≤ 600) (hb : b < p) {s : gMem} (e1 : s 1 = z) (hS : ∀ x, x < 96 → s 8 x = wb (wIs (wZ z p i st) t (x / 8)) (x % 8)) (hC : wCj (wZ z p i st) t s) (h15 : s 0 15 = wLi (wLt (wZ z p i st) b t)) (h14 : wSf (wZ z p i st) b t (s 0 14)) : ∃ s', (∀ m, m_X7_go_103 (nI i) (nI b) (nI st) (m + 1) (nI t) s = m_X7_go_103 (nI i) (nI b) (nI st) m (nI (t + 1)) s') ∧ s' 1 = z ∧ (∀ x, x < 96 → s' 8 x = wb (wIs (wZ z p i st) (t + 1) (x / 8)) (x % 8)) ∧ wCj (wZ z p i st) (t + 1) s' ∧ s' 0 15 = wLi (wLt (wZ z p i st) b (t + 1)) ∧ wSf (wZ z p i st) b (t + 1) (s' 0 14) ∧ (∀ c, c ≠ 0 → c ≠ 8 → c ≠ 9 → s' c = s c) ∧ ∀ j, j ≠ 14 → j ≠ 15 → s' 0 j = s 0 j := by
  have p12 := w.1.2.2.2.2.1
  have g := wZ_good w hi hst
  have t61 : t % 61 < 61 := Nat.mod_lt _ (by decide)
  obtain ⟨s1, A1, A2, A3⟩ := q_go120 w e1 hi hst ht hS
  obtain ⟨s2, B1, B2, B3, B4⟩ := q_go185 w (μ := s1) (by rw [A2 1 (by decide)]; exact e1) hi hst ht A3 (fun x hx => by
    obtain ⟨f1, f2⟩ := hC t (Nat.le_refl t) (by omega) (x / 8) (x % 8) (by omega) (Nat.mod_lt _ (by decide))
    have e : 96 * (t % 61) + 8 * (x / 8) + x % 8 = 96 * (t % 61) + x := by omega
    rw [e, wDe_C _ ht] at f1 f2
    rw [A2 9 (by decide)]
    unfold wb
    by_cases c : (wC (wZ z p i st) (wS (wZ z p i st)) t (x / 8) p).testBit (x % 8) = true
    · rw [if_pos c]; exact f1 c
    · rw [if_neg c]; exact f2 c)
  obtain ⟨s3, C1, C2, C3, C4, C5⟩ := q_look (μ := s2) (b := b) (t := t) (M := wS (wZ z p i st) t b) (f := wLt (wZ z p i st) b t) (r := s 0 14) (by omega) ht (wS_lt g t b) (wLt_le _ _ _) (fun τ hτ => by
    obtain ⟨d1, d2⟩ := dm8 b τ hτ
    rw [B3 _ (by omega), d1, d2]) (by rw [B2 0 (by decide) (by decide), A2 0 (by decide)]) (by rw [B2 0 (by decide) (by decide), A2 0 (by decide)]; exact h15)
  have s39 : s3 9 = s2 9 := C2 9 (by decide)
  obtain ⟨s4, D1, D2, D3⟩ := q_go255 w (μ := s3) (by rw [C2 1 (by decide), B2 1 (by decide) (by decide), A2 1 (by decide)]; exact e1) hi hst ht (fun x hx => by rw [C2 8 (by decide)]; exact B3 x hx) (fun u h1 h2 a τ ha hτ => by
    rw [s39, B4]
    by_cases c : u < t + 61
    · obtain ⟨f1, f2⟩ := hC u (by omega) c a τ ha hτ
      rw [if_neg (by omega), A2 9 (by decide)]
      exact ⟨f1, f2⟩
    · have e : u = t + 61 := by omega
      rw [if_pos (by omega)]
      refine ⟨fun h => ?_, fun _ => rfl⟩
      exfalso
      rcases (wDe_bit _ _ _ _ _ _).mp h with h | ⟨v, hv, g1, g2, g3, -⟩
      · have := ((wI_bit _ _ _ _).mp h).1; omega
      · have := (g.2.2.1 v a (by omega) ha).2.1
        omega)
  have f04 : s4 0 = s3 0 := D2 0 (by decide)
  refine ⟨s4, fun m => ?_, ?_, fun x hx => ?_, fun u h1 h2 a τ ha hτ => D3 u (by omega) (by omega) a τ ha hτ, ?_, ?_, fun c h1 h2 h3 => ?_, fun j h1 h2 => ?_⟩
  · show b_X7_go_103 (nI i) (nI b) (nI st) (m_X7_go_103 (nI i) (nI b) (nI st) m) (nI t) s = _
    have c6 : ¬ (600 : Int32) < nI t := nI_nlt (a := 600) (by omega) (by decide)
    unfold b_X7_go_103
    rw [if_neg c6, nI_add, gnm_s, A1, gb1_s, B1, gb1_s, C1, gb1_s, D1, gb1_s, gnm_s, nI_1]
  · rw [D2 1 (by decide), C2 1 (by decide), B2 1 (by decide) (by decide), A2 1 (by decide)]; exact e1
  · rw [D2 8 (by decide), C2 8 (by decide), B3 x hx]
    have e : wIs (wZ z p i st) (t + 1) (x / 8) = wS (wZ z p i st) t (x / 8) := if_neg (by omega)
    rw [e]
  · rw [f04]; exact C4
  · rw [f04, C5]
    by_cases c : wS (wZ z p i st) t b = 0
    · rw [if_pos c]
      rcases h14 with ⟨u, hu, r1, r2, r3⟩ | ⟨r1, r2⟩
      · exact Or.inl ⟨u, by omega, r1, r2, r3⟩
      · refine Or.inr ⟨r1, fun u hu => ?_⟩
        by_cases e : u = t
        · rw [e]; exact c
        · exact r2 u (by omega)
    · rw [if_neg c]
      rcases h14 with ⟨u, hu, r1, r2, r3⟩ | ⟨r1, r2⟩
      · rw [r1, if_pos (nI_pos' (by omega))]
        exact Or.inl ⟨u, by omega, rfl, r2, r3⟩
      · rw [r1, if_neg (by decide)]
        exact Or.inl ⟨t, by omega, rfl, c, r2⟩
  · rw [D2 c h3, C2 c h1, B2 c h2 h3, A2 c h2]
  · rw [f04, C3 j h1 h2, B2 0 (by decide) (by decide), A2 0 (by decide)]
theorem q_go {μ : gMem} {z : Nat → Int32} {p q n y : Nat} (w : WF p q n y z) (e1 : μ 1 = z) {i st b : Nat} (hi : i < q) (hst : st < 1440) (hb : b < p) : ∃ s, m_X7_go (nI i) (nI b) (nI st) μ = some s ∧ wSo (wZ z p i st) b (s 0 14) ∧ s 0 15 = wLi (wLt (wZ z p i st) b 601) ∧ (∀ c, c ≠ 0 → c ≠ 8 → c ≠ 9 → s c = μ c) ∧ ∀ j, j ≠ 14 → j ≠ 15 → s 0 j = μ 0 j := by
  have p12 := w.1.2.2.2.2.1
  have q8 := w.1.2.2.2.2.2.1
  obtain ⟨h0, hh, eh⟩ := (w.2.2.2.2.2.1 i hi).2.2.2
  have f82 : (82 : Int32) + nI i = nI (82 + i) := nI_add 82 i
  obtain ⟨s5, A1, A2, A3⟩ := q_go15 (gst (gst μ 0 14 (-4)) 0 15 (-4))
  obtain ⟨s12, B1, B2, B3⟩ := q_go39 s5
  have s121 : s12 1 = z := by rw [B2 1 (by decide), A2 1 (by decide), gst_ne _ _ (by decide), gst_ne _ _ (by decide)]; exact e1
  have f0 : s12 0 = gst (gst μ 0 14 (-4)) 0 15 (-4) 0 := by rw [B2 0 (by decide), A2 0 (by decide)]
  have DO : m_X7_does (nI i) (nI h0) (nI (st / 60 % 24)) s12 = some (sD z i (z (74 + i)) h0 (st / 60 % 24)) := by
    have := q_does (μ := s12) (i := i) (a := h0) (t := st / 60 % 24) (by omega) (by omega) (Nat.mod_lt _ (by decide))
    rw [s121] at this; exact this
  have k0e : k0 (wZ z p i st) = h0 := by show (z (82 + i)).toNatClampNeg = h0; rw [eh, nI_clamp (by omega)]
  have w0 : wh st 0 = st / 60 % 24 := rfl
  have d0 : wD z i p 0 h0 (st / 60 % 24) = sD z i (z (74 + i)) h0 (st / 60 % 24) := by
    unfold wD
    have : ∀ a, wl z 0 a = 0 := by
      intro a
      induction a with
      | zero => rfl
      | succ a ih => simp only [wl]; rw [ih, if_neg (fun h => by rw [Nat.zero_testBit] at h; exact absurd h.2 (by decide))]
    rw [this, show z (74 + i) + nI 0 = z (74 + i) from Int32.add_zero _]
  have P1 := (pw3 _ (wP_npo w)).1
  have bit0 : (kF (wZ z p i st) h0 (wh st 0)).testBit 0 = true ↔ ¬ sD z i (z (74 + i)) h0 (st / 60 % 24) = 0 := by
    rw [wZ_bit, w0, d0]
    exact ⟨fun h => h.2.2, fun h => ⟨hh, by omega, h⟩⟩
  have i96 : (8 : Int32) * nI h0 = nI (8 * h0) := nI_mul 8 h0
  -- the start
  have ST : ∃ s22, ((if sD z i (z (74 + i)) h0 (st / 60 % 24) = 0 then some s12 else (gck (inb (nI (82 + i)) 528) (gck (inb (nI (8 * h0)) 5856) (gnm (gst s12 9 (nI (8 * h0)).toNatClampNeg 1) fun s25 => some s25)))) : Option gMem) = some s22 ∧ (∀ c, c ≠ 9 → s22 c = s12 c) ∧ wCj (wZ z p i st) 0 s22 := by
    have NI : ∀ u a τ, (wDe (wZ z p i st) 0 u a (kn (wZ z p i st))).testBit τ = true ↔ u = 0 ∧ a = h0 ∧ τ = 0 ∧ ¬ sD z i (z (74 + i)) h0 (st / 60 % 24) = 0 := fun u a τ => by
      rw [wDe_bit, wI_bit, k0e]
      constructor
      · rintro (⟨h1, h2, h3, h4⟩ | ⟨v, -, -, -, h, -⟩)
        · rw [h2] at h4; exact ⟨h1, h2, h3, bit0.mp h4⟩
        · omega
      · rintro ⟨h1, h2, h3, h4⟩
        exact Or.inl ⟨h1, h2, h3, by rw [h2]; exact bit0.mpr h4⟩
    by_cases c : sD z i (z (74 + i)) h0 (st / 60 % 24) = 0
    · refine ⟨s12, if_pos c, fun _ _ => rfl, fun u h1 h2 a τ ha hτ => ?_⟩
      have := Nat.mod_lt u (show 0 < 61 by decide)
      rw [NI, B3 _ (by omega)]
      exact ⟨fun h => absurd c h.2.2.2, fun _ => rfl⟩
    · refine ⟨gst s12 9 (8 * h0) 1, ?_, fun d hd => gst_ne _ _ hd, fun u h1 h2 a τ ha hτ => ?_⟩
      · rw [if_neg c, inb_t (show 82 + i < 528 by omega) (by decide), gck_s, inb_t (show 8 * h0 < 5856 by omega) (by decide), gck_s, gnm_s, nI_clamp (show 8 * h0 < 2 ^ 31 by omega)]
      · have um := Nat.mod_lt u (show 0 < 61 by decide)
        have ue : u % 61 = u := Nat.mod_eq_of_lt (by omega)
        rw [NI, gst_eq, upd_a, ue]
        by_cases e : 96 * u + 8 * a + τ = 8 * h0
        · rw [if_pos e]
          refine ⟨fun _ => rfl, fun h => ?_⟩
          exact absurd ⟨by omega, by omega, by omega, c⟩ h
        · rw [if_neg e, B3 _ (by omega)]
          refine ⟨fun h => ?_, fun _ => rfl⟩
          exfalso
          apply e
          rw [h.1, h.2.1, h.2.2.1]
          omega
  obtain ⟨s22, S1, S2, S3⟩ := ST
  -- the minutes
  obtain ⟨s, L, r1, r2, r3, r4, r5, r6, r7⟩ := run_to (G := fun m t s => m_X7_go_103 (nI i) (nI b) (nI st) m (nI t) s) (Q := fun t s => s 1 = z ∧ (∀ x, x < 96 → s 8 x = wb (wIs (wZ z p i st) t (x / 8)) (x % 8)) ∧ wCj (wZ z p i st) t s ∧ s 0 15 = wLi (wLt (wZ z p i st) b t) ∧ wSf (wZ z p i st) b t (s 0 14) ∧ (∀ c, c ≠ 0 → c ≠ 8 → c ≠ 9 → s c = μ c) ∧ ∀ j, j ≠ 14 → j ≠ 15 → s 0 j = μ 0 j) (N := 601) (Nat.le_of_ble_eq_true rfl) (fun m t s ht hq => by
    obtain ⟨q1, q2, q3, q4, q5, q6, q7⟩ := hq
    obtain ⟨s', T0, T1, T2, T3, T4, T5, T6, T7⟩ := q_go103 w hi hst (show t ≤ 600 by omega) hb q1 q2 q3 q4 q5
    exact ⟨s', T0 m, T1, T2, T3, T4, T5, fun c h1 h2 h3 => by rw [T6 c h1 h2 h3]; exact q6 c h1 h2 h3, fun j h1 h2 => by rw [T7 j h1 h2]; exact q7 j h1 h2⟩) (fun m s hq => by
    show b_X7_go_103 (nI i) (nI b) (nI st) (m_X7_go_103 (nI i) (nI b) (nI st) m) (nI 601) s = _
    unfold b_X7_go_103
    rw [if_pos (show (600 : Int32) < nI 601 by decide)]) (s := s22) ⟨by rw [S2 1 (by decide)]; exact s121, fun x hx => by
      rw [S2 8 (by decide), B2 8 (by decide), A3 x hx]
      unfold wb
      rw [if_neg]
      rw [show wIs (wZ z p i st) 0 (x / 8) = 0 from if_pos rfl, Nat.zero_testBit]; decide, S3, by
      rw [S2 0 (by decide), f0, gst_eq, pk_us]; rfl, Or.inr ⟨by rw [S2 0 (by decide), f0, gst_eq, pk_un (by decide), gst_eq, pk_us], fun u hu => absurd hu (by omega)⟩, fun c h1 h2 h3 => by
      rw [S2 c h3, B2 c h3, A2 c h2, gst_ne _ _ h1, gst_ne _ _ h1], fun j h1 h2 => by
      rw [S2 0 (by decide), f0, gst_eq, pk_un h2, gst_eq, pk_un h1]⟩
  have L' : m_X7_go_103 (nI i) (nI b) (nI st) gFU (nI 0) s22 = some s := L
  rw [show nI 0 = 0 from rfl] at L'
  refine ⟨s, ?_, ?_, r4, r6, r7⟩
  · unfold m_X7_go
    rw [gnm_s, gnm_s, A1, gb1_s, B1, gb1_s, f82, inb_t (show 82 + i < 528 by omega) (by decide), gck_s, q_hourM (by omega), gb1_s, nI_clamp (show 82 + i < 2 ^ 31 by omega), s121, eh, DO, gb1_s, i96, gck_s]
    rw [inb_t (show 82 + i < 528 by omega) (by decide), gck_s] at S1
    rw [S1, gb1_s, L', gb1_s]
  · rcases r5 with ⟨u, hu, k1, k2, k3⟩ | ⟨k1, k2⟩
    · exact Or.inl ⟨u, by omega, k1, k2, k3⟩
    · exact Or.inr ⟨k1, fun u hu => k2 u (by omega)⟩
