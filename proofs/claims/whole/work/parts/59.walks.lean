/-! ===== walks: a minute, whole; soon and light in the class ===== -/
def wAn (k : gWk) (t : Nat) : Nat → Int32
  | 0 => 0
  | a + 1 => if wS k t a = 0 then wAn k t a else 1
theorem wAn_01 (k : gWk) (t : Nat) : ∀ a, wAn k t a = 0 ∨ wAn k t a = 1 := by
  intro a
  induction a with
  | zero => exact Or.inl rfl
  | succ a ih =>
    simp only [wAn]
    split
    · exact ih
    · exact Or.inr rfl
theorem wAn_0 (k : gWk) (t : Nat) : ∀ a, wAn k t a = 0 ↔ ∀ b, b < a → wS k t b = 0 := by
  intro a
  induction a with
  | zero => exact ⟨fun _ b hb => absurd hb (by omega), fun _ => rfl⟩
  | succ a ih =>
    simp only [wAn]
    by_cases c : wS k t a = 0
    · rw [if_pos c, ih]
      constructor
      · intro h b hb
        by_cases e : b = a
        · rw [e]; exact c
        · exact h b (by omega)
      · intro h b hb; exact h b (by omega)
    · rw [if_neg c]
      constructor
      · intro h; exact absurd h ne10
      · intro h; exact absurd (h a (by omega)) c
theorem q_withSplice {k : gWk} {s : gMem} (g : wG k) (hX : wX k s) {a m : Nat} (ha : a < kn k) (hm : m < 256) : m_X5_withSplice (nI a) (nI m) s = some (nI (spl (kp k a) m)) := by
  have n12 := g.2.2.2.2.1
  have p3 := g.2.2.2.2.2.2 a ha
  have e := hX.2.2.2.1 a ha
  unfold m_X5_withSplice
  rw [inb_t (show a < 12 by omega) (by decide), gck_s, nI_clamp (show a < 2 ^ 31 by omega), e, gnm_s, q_within, gb1_s]
  by_cases c : kp k a < 3
  · have w1 : ¬ wi (nI (kp k a)) 0 2 = 0 := wi_1.mpr (by rw [nI_toInt (by omega)]; show (0 : Int) ≤ _ ∧ _ ≤ (2 : Int); omega)
    rw [if_pos c, if_neg w1, inb_t c (by decide), gck_s, nI_clamp (show kp k a < 2 ^ 31 by omega), spl_I m hm _ c]
  · have w0 : wi (-1) 0 2 = 0 := by decide
    rw [if_neg c, if_pos w0, show kp k a = 3 by omega]; rfl
theorem or01 : (0 : Int32) ||| 0 = 0 ∧ (1 : Int32) ||| 0 = 1 ∧ (0 : Int32) ||| 1 = 1 ∧ (1 : Int32) ||| 1 = 1 := by decide
theorem q_step {k : gWk} {σ : gMem} {t : Nat} (g : wG k) (hX : wX k σ) (hH : wHist k t σ) (ht : t ≤ 600) : ∃ s, m_X5_step (nI t) σ = some (wAn k t (kn k), s) ∧ wX k s ∧ wHist k (t + 1) s ∧ ∀ c, c < 54 ∨ 204 ≤ c → s c = σ c := by
  have n12 := g.2.2.2.2.1
  have s14 := g.2.2.2.2.2.1
  have w2 := wh_lt (ks k) t
  have t61 : t % 61 < 61 := Nat.mod_lt _ (by decide)
  have H1 : m_X5_hourOf (nI t) σ = some (nI (wh (ks k) t)) := by
    unfold m_X5_hourOf
    rw [hX.2.2.1, wh_I (by omega)]
  obtain ⟨s1, A1, A2, A3⟩ := q_arrive g hX hH ht
  have X1 : wX k s1 := wX_fr g hX (fun c h1 _ => A2 c h1)
  have r61 : grem (nI t) 61 = nI (t % 61) := nI_rem (b := 61) (by omega) (by decide)
  obtain ⟨⟨x, s⟩, L, q1, q2, q3⟩ := runS_to (G := fun m a (o : Int32 × gMem) => m_X5_step_28 (nI t) (nI (wh (ks k) t)) m o.1 (nI a) o.2) (Q := fun a o => o.1 = wAn k t a ∧ (∀ c, c ≠ 75 + t % 61 → o.2 c = s1 c) ∧ ∀ b, b < a → o.2 (75 + t % 61) b = nI (wS k t b)) (out := fun o => o) (N := kn k) (by omega) (fun m a o ha hq => by
    obtain ⟨x, s⟩ := o
    obtain ⟨q1, q2, q3⟩ := hq
    replace q1 : x = wAn k t a := q1
    replace q2 : ∀ c, c ≠ 75 + t % 61 → s c = s1 c := q2
    replace q3 : ∀ b, b < a → s (75 + t % 61) b = nI (wS k t b) := q3
    have Xs : wX k s := by
      refine wX_fr g X1 (fun c _ h2 => q2 c (by omega))
    have c1 : ¬ nI (kn k) ≤ nI a := nI_ge ha (by omega)
    have ia := inb_t (show a < 12 by omega) (show 12 < 2 ^ 31 by decide)
    have ca := nI_clamp (show a < 2 ^ 31 by omega)
    have c61 := nI_clamp (show t % 61 < 2 ^ 31 by omega)
    -- who stayed
    have ST : ((if nI t ≤ 0 then some 0 else (gck (inb (grem (nI t - 1) 61) 61) (gck (inb (nI a) 12) (some (s (75 + (grem (nI t - 1) 61).toNatClampNeg) (nI a).toNatClampNeg))))) : Option Int32) = some (nI (if t = 0 then 0 else wS k (t - 1) a)) := by
      by_cases c : t = 0
      · rw [if_pos c, c, if_pos (show nI 0 ≤ 0 by decide)]; rfl
      · rw [if_neg c, if_neg (nI_nle (by omega) (by omega))]
        have e1 : nI t - 1 = nI (t - 1) := nI_sub (b := 1) (by omega)
        have e2 : grem (nI (t - 1)) 61 = nI ((t - 1) % 61) := nI_rem (b := 61) (by omega) (by decide)
        have m61 : (t - 1) % 61 < 61 := Nat.mod_lt _ (by decide)
        rw [e1, e2, inb_t m61 (by decide), gck_s, ia, gck_s, nI_clamp (by omega), ca, q2 _ (by omega), A2 _ (by omega), hH (t - 1) (by omega) (by omega) a ha]
    have C59 : s 59 a = nI (wC k (wS k) t a (kn k)) := by rw [q2 59 (by omega)]; exact A3 a ha
    have SP := q_withSplice g Xs ha (wC_lt g t a (kn k))
    have F := Xs.2.2.2.2.2 a (wh (ks k) t) ha w2
    refine ⟨(wAn k t (a + 1), gst s (75 + t % 61) a (nI (wS k t a))), ?_, rfl, fun c hc => by show gst s _ _ _ c = _; rw [gst_ne _ _ hc]; exact q2 c hc, fun b hb => ?_⟩
    · show b_X5_step_28 (nI t) (nI (wh (ks k) t)) (m_X5_step_28 (nI t) (nI (wh (ks k) t)) m) x (nI a) s = m_X5_step_28 (nI t) (nI (wh (ks k) t)) m (wAn k t (a + 1)) (nI (a + 1)) (gst s (75 + t % 61) a (nI (wS k t a)))
      have E := wS_eq k t a
      have U : gst s (75 + t % 61) a (nI (wS k t a)) (75 + t % 61) a = nI (wS k t a) := by rw [gst_eq, pk_us]
      unfold b_X5_step_28
      rw [Xs.1, if_neg c1, ST, gb1_s, ia, gck_s, gck_s, ca, C59, SP, gb1_s, gck_s, inb_t w2 (by decide), gck_s, gck_s, nI_clamp (show wh (ks k) t < 2 ^ 31 by omega), F, r61, c61, nI_or, nI_or, nI_and, ← E, gnm_s, gck_s, U]
      by_cases c : wS k t a = 0
      · have y0 : nI (wS k t a) = 0 := by rw [c]; rfl
        have o0 : x ||| 0 = wAn k t (a + 1) := by
          simp only [wAn]
          rw [if_pos c, q1]
          rcases wAn_01 k t a with e | e <;> rw [e] <;> rfl
        rw [if_pos y0, gnm_s, gnm_s, nI_1, o0]
      · have n0 : ¬ nI (wS k t a) = 0 := nI_ne0 (by omega) (by have := wS_lt g t a; omega)
        have o1 : x ||| 1 = wAn k t (a + 1) := by
          simp only [wAn]
          rw [if_neg c, q1]
          rcases wAn_01 k t a with e | e <;> rw [e] <;> rfl
        rw [if_neg n0, gnm_s, gnm_s, nI_1, o1]
    · show gst s (75 + t % 61) a _ (75 + t % 61) b = _
      rw [gst_eq]
      by_cases e : b = a
      · rw [e]; exact pk_us
      · rw [pk_un e]; exact q3 b (by omega)) (fun m o hq => by
    obtain ⟨x, s⟩ := o
    obtain ⟨q1, q2, q3⟩ := hq
    replace q2 : ∀ c, c ≠ 75 + t % 61 → s c = s1 c := q2
    show b_X5_step_28 (nI t) (nI (wh (ks k) t)) (m_X5_step_28 (nI t) (nI (wh (ks k) t)) m) x (nI (kn k)) s = some (x, s)
    unfold b_X5_step_28
    rw [q2 54 (by omega), X1.1, if_pos (nI_le (Nat.le_refl _) (by omega))]) (s := ((0 : Int32), s1)) ⟨rfl, fun c _ => rfl, fun b hb => absurd hb (by omega)⟩
  replace q1 : x = wAn k t (kn k) := q1
  replace q2 : ∀ c, c ≠ 75 + t % 61 → s c = s1 c := q2
  replace q3 : ∀ b, b < kn k → s (75 + t % 61) b = nI (wS k t b) := q3
  have L' : m_X5_step_28 (nI t) (nI (wh (ks k) t)) gFU 0 (nI 0) s1 = some (x, s) := L
  rw [show nI 0 = 0 from rfl] at L'
  refine ⟨s, ?_, wX_fr g X1 (fun c _ h2 => q2 c (by omega)), fun u h1 h2 a ha => ?_, fun c hc => by rw [q2 c (by omega), A2 c (by omega)]⟩
  · unfold m_X5_step
    rw [H1, gb1_s, A1, gb1_s, r61, inb_t t61 (by decide), gck_s, L', gb2_s, q1, izb_w (wAn_01 k t _), gck_s]
  · by_cases e : u = t
    · rw [e]; exact q3 a ha
    · rw [q2 _ (by omega), A2 _ (by omega)]; exact hH u (by omega) (by omega) a ha
theorem wAn_gone {k : gWk} (g : wG k) {t : Nat} (h : wAn k t (kn k) = 0) (u : Nat) (hu : t ≤ u) (a : Nat) : wS k u a = 0 := by
  have h0 : ∀ b, wS k t b = 0 := fun b => by
    by_cases c : b < kn k
    · exact (wAn_0 k t _).mp h b c
    · exact wS_out g (by omega) t
  have := wS_gone g h0 (u - t) a
  rw [show t + (u - t) = u by omega] at this; exact this
/-- the first minute of some in which one can be at b; -4: none -/
def wSo (k : gWk) (b : Nat) (r : Int32) : Prop := (∃ t, t ≤ 600 ∧ r = nI t ∧ wS k t b ≠ 0 ∧ ∀ u, u < t → wS k u b = 0) ∨ (r = -4 ∧ ∀ u, u ≤ 600 → wS k u b = 0)
theorem wSo_u {k : gWk} {b : Nat} {r r' : Int32} (h : wSo k b r) (h' : wSo k b r') : r = r' := by
  rcases h with ⟨t, t6, e, h1, h2⟩ | ⟨e, h1⟩ <;> rcases h' with ⟨u, u6, e', g1, g2⟩ | ⟨e', g1⟩
  · have : t = u := by
      by_cases c : t < u
      · exact absurd (g2 t c) h1
      · by_cases c2 : u < t
        · exact absurd (h2 u c2) g1
        · omega
    rw [e, e', this]
  · exact absurd (g1 t t6) h1
  · exact absurd (h1 u u6) g1
  · rw [e, e']
theorem q_soonest {k : gWk} {σ : gMem} {b : Nat} (g : wG k) (hX : wX k σ) (hb : b < kn k) : ∃ r s, m_X5_soonest (nI b) σ = some (r, s) ∧ wSo k b r ∧ ∀ c, c < 54 ∨ 204 ≤ c → s c = σ c := by
  have n12 := g.2.2.2.2.1
  have L : ∀ d t n (s : gMem), t + d = 601 → d < n → wX k s → wHist k t s → (∀ u, u < t → wS k u b = 0) → ∃ f x s', m_X5_soonest_2 (nI b) n (nI t) s = some (f, x, s') ∧ wSo k b (if f = 0 then x else -4) ∧ ∀ c, c < 54 ∨ 204 ≤ c → s' c = s c := by
    intro d
    induction d with
    | zero =>
      intro t n s ht hn h1 h2 h3
      obtain ⟨m, rfl⟩ : ∃ m, n = m + 1 := ⟨n - 1, by omega⟩
      refine ⟨1, nI t, s, ?_, ?_, fun c _ => rfl⟩
      · show b_X5_soonest_2 (nI b) (m_X5_soonest_2 (nI b) m) (nI t) s = _
        have c6 : (600 : Int32) < nI t := nI_lt (a := 600) (by omega) (by omega)
        unfold b_X5_soonest_2
        rw [if_pos c6]
      · rw [if_neg (by decide)]
        exact Or.inr ⟨rfl, fun u hu => h3 u (by omega)⟩
    | succ d ih =>
      intro t n s ht hn h1 h2 h3
      obtain ⟨m, rfl⟩ : ∃ m, n = m + 1 := ⟨n - 1, by omega⟩
      obtain ⟨s', S1, S2, S3, S4⟩ := q_step g h1 h2 (show t ≤ 600 by omega)
      have c6 : ¬ (600 : Int32) < nI t := nI_nlt (a := 600) (by omega) (by decide)
      have r61 : grem (nI t) 61 = nI (t % 61) := nI_rem (b := 61) (by omega) (by decide)
      have t61 : t % 61 < 61 := Nat.mod_lt _ (by decide)
      have V : m_X5_soonest_2 (nI b) (m + 1) (nI t) s = b_X5_soonest_2 (nI b) (m_X5_soonest_2 (nI b) m) (nI t) s := rfl
      unfold b_X5_soonest_2 at V
      rw [if_neg c6, S1, gb2_s] at V
      by_cases c : wAn k t (kn k) = 0
      · rw [if_pos c] at V
        refine ⟨1, nI t, s', V, ?_, S4⟩
        rw [if_neg (by decide)]
        refine Or.inr ⟨rfl, fun u hu => ?_⟩
        by_cases h : u < t
        · exact h3 u h
        · exact wAn_gone g c u (by omega) b
      · rw [if_neg c, r61, inb_t t61 (by decide), gck_s, inb_t (show b < 12 by omega) (by decide), gck_s, nI_clamp (show t % 61 < 2 ^ 31 by omega), nI_clamp (show b < 2 ^ 31 by omega), S3 t (by omega) (by omega) b hb] at V
        by_cases c2 : wS k t b = 0
        · rw [if_pos (show nI (wS k t b) = 0 by rw [c2]; rfl), gnm_s, nI_1] at V
          obtain ⟨f, x, s2, T1, T2, T3⟩ := ih (t + 1) m s' (by omega) (by omega) S2 S3 (fun u hu => by
            by_cases e : u = t
            · rw [e]; exact c2
            · exact h3 u (by omega))
          exact ⟨f, x, s2, V.trans T1, T2, fun c hc => by rw [T3 c hc]; exact S4 c hc⟩
        · rw [if_neg (nI_ne0 (by omega) (by have := wS_lt g t b; omega))] at V
          refine ⟨0, nI t, s', V, ?_, S4⟩
          rw [if_pos rfl]
          exact Or.inl ⟨t, by omega, rfl, c2, h3⟩
  obtain ⟨f, x, s', T1, T2, T3⟩ := L 601 0 100000 σ (by omega) (by decide) hX (fun u hu => absurd hu (by omega)) (fun u hu => absurd hu (by omega))
  have T1' : m_X5_soonest_2 (nI b) gFU 0 σ = some (f, x, s') := T1
  refine ⟨if f = 0 then x else -4, s', ?_, T2, T3⟩
  unfold m_X5_soonest
  rw [T1', gb3_s]
  by_cases c : f = 0
  · rw [if_pos c, if_pos c]
  · rw [if_neg c, if_neg c]
