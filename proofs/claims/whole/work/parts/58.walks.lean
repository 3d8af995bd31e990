/-! ===== walks: a minute, in the class ===== -/
theorem nI_div {a b : Nat} (ha : a < 2 ^ 31) (hb : b < 2 ^ 31) : nI a / nI b = nI (a / b) := by
  apply Int32.toInt_inj.mp
  have h := Nat.div_le_self a b
  rw [Int32.toInt_div_of_ne_right _ _ (nIm1 b hb), nI_toInt ha, nI_toInt hb, nI_toInt (by omega)]
  rfl
theorem nI_rem {a b : Nat} (ha : a < 2 ^ 31) (hb : b < 2 ^ 31) : grem (nI a) (nI b) = nI (a % b) := by
  unfold grem
  have h := Nat.div_add_mod a b
  rw [Nat.mul_comm] at h
  rw [nI_div ha hb, nI_mul, nI_sub (by omega)]
  congr 1
  omega
theorem wh_I {s t : Nat} (h : s + t < 2 ^ 31) : grem ((nI s + nI t) / 60) 24 = nI (wh s t) := by
  have e : (nI s + nI t) / 60 = nI ((s + t) / 60) := by rw [nI_add]; exact nI_div h (by decide)
  rw [e]
  exact nI_rem (b := 24) (by have := Nat.div_le_self (s + t) 60; omega) (by decide)
theorem runS_up {S R : Type} (G : Nat → Nat → S → Option R) (Q : Nat → S → Prop) (out : S → R) (N : Nat) (hs : ∀ n i s, i < N → Q i s → ∃ s', G (n + 1) i s = G n (i + 1) s' ∧ Q (i + 1) s') (hf : ∀ n s, Q N s → G (n + 1) N s = some (out s)) : ∀ d i n s, i + d = N → d < n → Q i s → ∃ s', G n i s = some (out s') ∧ Q N s' := by
  intro d
  induction d with
  | zero =>
    intro i n s hi hn hq
    obtain ⟨m, rfl⟩ : ∃ m, n = m + 1 := ⟨n - 1, by omega⟩
    rw [show i = N by omega] at hq ⊢
    exact ⟨s, hf m s hq, hq⟩
  | succ d ih =>
    intro i n s hi hn hq
    obtain ⟨m, rfl⟩ : ∃ m, n = m + 1 := ⟨n - 1, by omega⟩
    obtain ⟨s', e, hq'⟩ := hs m i s (by omega) hq
    obtain ⟨s2, e2, hq2⟩ := ih (i + 1) m s' (by omega) (by omega) hq'
    exact ⟨s2, e.trans e2, hq2⟩
theorem runS_to {S R : Type} {G : Nat → Nat → S → Option R} {Q : Nat → S → Prop} {out : S → R} {N : Nat} (hN : N < 100000) (hs : ∀ n i s, i < N → Q i s → ∃ s', G (n + 1) i s = G n (i + 1) s' ∧ Q (i + 1) s') (hf : ∀ n s, Q N s → G (n + 1) N s = some (out s)) {s : S} (h : Q 0 s) : ∃ s', G gFU 0 s = some (out s') ∧ Q N s' :=
  runS_up G Q out N hs hf N 0 gFU s (by omega) hN h
/-- who comes to a in minute t, by the first paths of a list -/
def wKe (eu ev : Nat → Nat) (k : gWk) (t a e : Nat) : Nat := if kd k (eu e) (ev e) ≤ t then (if a = eu e then wS k (t - kd k (eu e) (ev e)) (ev e) &&& wHl k (eu e) (ev e) (t - kd k (eu e) (ev e)) t else if a = ev e then wS k (t - kd k (eu e) (ev e)) (eu e) &&& wHl k (eu e) (ev e) (t - kd k (eu e) (ev e)) t else 0) else 0
def wK (eu ev : Nat → Nat) (k : gWk) (t a : Nat) : Nat → Nat
  | 0 => wI k t a
  | e + 1 => wK eu ev k t a e ||| wKe eu ev k t a e
theorem wK_bit (eu ev : Nat → Nat) (k : gWk) (t a τ : Nat) : ∀ n, (wK eu ev k t a n).testBit τ = true ↔ (wI k t a).testBit τ = true ∨ ∃ e, e < n ∧ (wKe eu ev k t a e).testBit τ = true := by
  intro n
  induction n with
  | zero =>
    constructor
    · intro h; exact Or.inl h
    · rintro (h | ⟨b, hb, -⟩)
      · exact h
      · exact absurd hb (by omega)
  | succ n ih =>
    simp only [wK]
    rw [Nat.testBit_or, Bool.or_eq_true, ih]
    constructor
    · rintro ((h | ⟨b, hb, h⟩) | h)
      · exact Or.inl h
      · exact Or.inr ⟨b, by omega, h⟩
      · exact Or.inr ⟨n, by omega, h⟩
    · rintro (h | ⟨b, hb, h⟩)
      · exact Or.inl (Or.inl h)
      · by_cases e : b = n
        · subst e; exact Or.inr h
        · exact Or.inl (Or.inr ⟨b, by omega, h⟩)
theorem wK_C {k : gWk} (g : wG k) {s : gMem} {N : Nat} (h1 : wEd (kd k) (kn k) N s) (h2 : wEa (kd k) N (fun u v => v < u ∧ u < kn k) s) (t : Nat) {a : Nat} (ha : a < kn k) : wK (fun e => (s 60 e).toNatClampNeg) (fun e => (s 61 e).toNatClampNeg) k t a N = wC k (wS k) t a (kn k) := by
  have n12 := g.2.2.2.2.1
  have D := g.2.2.1
  apply Nat.eq_of_testBit_eq
  intro τ
  rw [Bool.eq_iff_iff, wK_bit, wC_bit]
  constructor
  · rintro (h | ⟨e, he, h⟩)
    · exact Or.inl h
    · refine Or.inr ?_
      obtain ⟨u, v, uv, un, d0, e1, e2, -⟩ := h1 e he
      have k1 : (s 60 e).toNatClampNeg = u := by rw [e1, nI_clamp (by omega)]
      have k2 : (s 61 e).toNatClampNeg = v := by rw [e2, nI_clamp (by omega)]
      have dc := (D u v (by omega) (by omega)).1
      unfold wKe at h
      simp only [k1, k2] at h
      by_cases c : kd k u v ≤ t
      · rw [if_pos c] at h
        by_cases c1 : a = u
        · subst c1
          rw [if_pos rfl, Nat.testBit_and, Bool.and_eq_true] at h
          refine ⟨v, by omega, ?_, ?_, ?_, ?_⟩
          · rw [← dc]; exact d0
          · rw [← dc]; exact c
          · rw [← dc]; exact h.1
          · rw [← dc]; exact h.2
        · rw [if_neg c1] at h
          by_cases c2 : a = v
          · subst c2
            rw [if_pos rfl, Nat.testBit_and, Bool.and_eq_true] at h
            exact ⟨u, by omega, d0, c, h.1, by rw [wHl_c]; exact h.2⟩
          · rw [if_neg c2, Nat.zero_testBit] at h; cases h
      · rw [if_neg c, Nat.zero_testBit] at h; cases h
  · rintro (h | ⟨b, hb, d0, c, h3, h4⟩)
    · exact Or.inl h
    · refine Or.inr ?_
      have dc := (D b a (by omega) (by omega)).1
      have ab : a ≠ b := fun e => by have := (D b a (by omega) (by omega)).2.2.1 e.symm; omega
      by_cases c1 : b < a
      · obtain ⟨e, he, e1, e2⟩ := h2 a b ⟨c1, ha⟩ (by rw [← dc]; exact d0)
        refine ⟨e, he, ?_⟩
        have k1 : (s 60 e).toNatClampNeg = a := by rw [e1, nI_clamp (by omega)]
        have k2 : (s 61 e).toNatClampNeg = b := by rw [e2, nI_clamp (by omega)]
        unfold wKe
        simp only [k1, k2]
        rw [← dc, if_pos c, if_pos trivial, Nat.testBit_and, h3, h4]; rfl
      · obtain ⟨e, he, e1, e2⟩ := h2 b a ⟨by omega, hb⟩ d0
        refine ⟨e, he, ?_⟩
        have k1 : (s 60 e).toNatClampNeg = b := by rw [e1, nI_clamp (by omega)]
        have k2 : (s 61 e).toNatClampNeg = a := by rw [e2, nI_clamp (by omega)]
        unfold wKe
        simp only [k1, k2]
        rw [if_pos c, if_neg ab, if_pos trivial, Nat.testBit_and, h3, wHl_c, h4]; rfl
/-- what the class has kept ahead of minute t -/
def wHist (k : gWk) (t : Nat) (σ : gMem) : Prop := ∀ u, u < t → t < u + 61 → ∀ a, a < kn k → σ (75 + u % 61) a = nI (wS k u a)
theorem wX_fr {k : gWk} {σ σ' : gMem} (g : wG k) (h : wX k σ) (e : ∀ c, c ≠ 59 → c < 75 → σ' c = σ c) : wX k σ' := by
  have n12 := g.2.2.2.2.1
  obtain ⟨a, b, c, d, ⟨N, f1, f2, f3, f4⟩, f⟩ := h
  have e54 := e 54 (by decide) (by decide)
  refine ⟨by rw [e54]; exact a, by rw [e54]; exact b, by rw [e54]; exact c, fun x hx => by rw [e 55 (by decide) (by decide)]; exact d x hx, ⟨N, f1, by rw [e54]; exact f2, fun i hi => ?_, fun u v hu hd => ?_⟩, fun x hh hx h24 => by rw [e _ (by omega) (by omega)]; exact f x hh hx h24⟩
  · rw [e 60 (by decide) (by decide), e 61 (by decide) (by decide), e 62 (by decide) (by decide)]; exact f3 i hi
  · rw [e 60 (by decide) (by decide), e 61 (by decide) (by decide)]; exact f4 u v hu hd
theorem q_walkAlong {k : gWk} {σ : gMem} {t u v : Nat} (g : wG k) (hX : wX k σ) (hH : wHist k t σ) (ht : t ≤ 600) (hu : u < kn k) (hv : v < kn k) (huv : u ≠ v) (d0 : 0 < kd k u v) (dt : kd k u v ≤ t) {x y : Nat} (ex : σ 59 u = nI x) (ey : σ 59 v = nI y) : m_X5_walkAlong (nI u) (nI v) (nI (t - kd k u v)) (nI (wh (ks k) t)) σ = some (gst (gst σ 59 u (nI (x ||| (wS k (t - kd k u v) v &&& wHl k u v (t - kd k u v) t)))) 59 v (nI (y ||| (wS k (t - kd k u v) u &&& wHl k u v (t - kd k u v) t)))) := by
  have n12 := g.2.2.2.2.1
  have s14 := g.2.2.2.2.2.1
  have d60 := (g.2.2.1 u v (by omega) (by omega)).2.1
  generalize eL : t - kd k u v = L at *
  have iu := inb_t (show u < 12 by omega) (show 12 < 2 ^ 31 by decide)
  have iv := inb_t (show v < 12 by omega) (show 12 < 2 ^ 31 by decide)
  have cu := nI_clamp (show u < 2 ^ 31 by omega)
  have cv := nI_clamp (show v < 2 ^ 31 by omega)
  have w1 := wh_lt (ks k) L
  have w2 := wh_lt (ks k) t
  have i1 := inb_t w1 (show 24 < 2 ^ 31 by decide)
  have i2 := inb_t w2 (show 24 < 2 ^ 31 by decide)
  have c1 := nI_clamp (show wh (ks k) L < 2 ^ 31 by omega)
  have c2 := nI_clamp (show wh (ks k) t < 2 ^ 31 by omega)
  have H1 : m_X5_hourOf (nI L) σ = some (nI (wh (ks k) L)) := by
    unfold m_X5_hourOf
    rw [hX.2.2.1, wh_I (by omega)]
  have F := hX.2.2.2.2.2
  have r61 : grem (nI L) 61 = nI (L % 61) := nI_rem (b := 61) (by omega) (by decide)
  have L61 : L % 61 < 61 := Nat.mod_lt _ (by decide)
  have i61 := inb_t L61 (show 61 < 2 ^ 31 by decide)
  have c61 := nI_clamp (show L % 61 < 2 ^ 31 by omega)
  have Hv := hH L (by omega) (by omega) v hv
  have Hu := hH L (by omega) (by omega) u hu
  have g75 : ∀ x : Int32, gst σ 59 u x (75 + L % 61) = σ (75 + L % 61) := fun x => gst_ne _ _ (by omega)
  have gv : ∀ x : Int32, gst σ 59 u x 59 v = nI y := fun x => by rw [gst_eq, pk_un (fun e => huv e.symm)]; exact ey
  unfold m_X5_walkAlong
  simp only [H1, gb1_s, iu, iv, i1, i2, gck_s, gnm_s, cu, cv, c1, c2, r61, i61, c61, F u _ hu w1, F v _ hv w1, F u _ hu w2, F v _ hv w2, nI_and, nI_or, ex, Hv, Hu, g75, gv]
  rfl
theorem q_arrive {k : gWk} {σ : gMem} {t : Nat} (g : wG k) (hX : wX k σ) (hH : wHist k t σ) (ht : t ≤ 600) : ∃ s, m_X5_arrive (nI t) (nI (wh (ks k) t)) σ = some s ∧ (∀ c, c ≠ 59 → s c = σ c) ∧ ∀ a, a < kn k → s 59 a = nI (wC k (wS k) t a (kn k)) := by
  have n12 := g.2.2.2.2.1
  have h0n := g.2.2.2.1
  have w2 := wh_lt (ks k) t
  -- nobody yet
  obtain ⟨s1, L1, q1, q2⟩ := run_to (G := fun m a s => m_X5_arrive_2 m (nI a) s) (Q := fun a s => (∀ c, c ≠ 59 → s c = σ c) ∧ ∀ b, b < a → s 59 b = 0) (N := kn k) (by omega) (fun m a s ha hq => by
    obtain ⟨q1, q2⟩ := hq
    refine ⟨gst s 59 a 0, ?_, fun c hc => by rw [gst_ne _ _ hc]; exact q1 c hc, fun b hb => ?_⟩
    · show b_X5_arrive_2 (m_X5_arrive_2 m) (nI a) s = _
      unfold b_X5_arrive_2
      rw [q1 54 (by decide), hX.1, if_neg (nI_ge ha (by omega)), inb_t (show a < 12 by omega) (by decide), gck_s, gnm_s, gnm_s, nI_clamp (show a < 2 ^ 31 by omega), nI_1]
    · rw [gst_eq]
      by_cases e : b = a
      · rw [e]; exact pk_us
      · rw [pk_un e]; exact q2 b (by omega)) (fun m s hq => by
    obtain ⟨q1, q2⟩ := hq
    show b_X5_arrive_2 (m_X5_arrive_2 m) (nI (kn k)) s = _
    unfold b_X5_arrive_2
    rw [q1 54 (by decide), hX.1, if_pos (nI_le (Nat.le_refl _) (by omega))]) (s := σ) ⟨fun c _ => rfl, fun b hb => absurd hb (by omega)⟩
  have L1' : m_X5_arrive_2 gFU (nI 0) σ = some s1 := L1
  rw [show nI 0 = 0 from rfl] at L1'
  -- the one who begins
  have B : ∃ s2, ((if nI t = 0 then (gck (inb (s1 54 1) 12) (gck (inb (nI (wh (ks k) t)) 24) (gck (inb (s1 54 1) 12) (gnm (gst s1 59 (s1 54 1).toNatClampNeg (1 &&& (s1 (63 + (s1 54 1).toNatClampNeg) (nI (wh (ks k) t)).toNatClampNeg))) fun s12 => some s12)))) else some s1) : Option gMem) = some s2 ∧ (∀ c, c ≠ 59 → s2 c = σ c) ∧ ∀ a, a < kn k → s2 59 a = nI (wI k t a) := by
    by_cases c : t = 0
    · subst c
      have e1 : s1 54 1 = nI (k0 k) := by rw [q1 54 (by decide)]; exact hX.2.1
      have F := hX.2.2.2.2.2 (k0 k) _ h0n w2
      refine ⟨gst s1 59 (k0 k) (nI (1 &&& kF k (k0 k) (wh (ks k) 0))), ?_, fun c hc => by rw [gst_ne _ _ hc]; exact q1 c hc, fun a ha => ?_⟩
      · rw [if_pos (show nI 0 = 0 from rfl), e1, inb_t (show k0 k < 12 by omega) (by decide), gck_s, inb_t w2 (by decide), gck_s, gck_s, nI_clamp (show k0 k < 2 ^ 31 by omega), nI_clamp (show wh (ks k) 0 < 2 ^ 31 by omega), q1 _ (by omega), F, show (1 : Int32) = nI 1 from rfl, nI_and, gnm_s]
      · rw [gst_eq]
        unfold wI
        by_cases e : a = k0 k
        · rw [e, if_pos ⟨rfl, rfl⟩]; exact pk_us
        · rw [pk_un e, if_neg (fun h => e h.2)]; exact q2 a ha
    · refine ⟨s1, if_neg (nI_ne0 (by omega) (by omega)), q1, fun a ha => ?_⟩
      unfold wI
      rw [if_neg (fun h => c h.1)]; exact q2 a ha
  obtain ⟨s2, B1, B2, B3⟩ := B
  -- those who come
  have X2 : wX k s2 := wX_fr g hX (fun c h1 h2 => B2 c h1)
  obtain ⟨N, N1, N2, N3, N4⟩ := X2.2.2.2.2.1
  obtain ⟨s3, L3, r1, r2⟩ := run_to (G := fun m e s => m_X5_arrive_51 (nI t) (nI (wh (ks k) t)) m (nI e) s) (Q := fun e s => (∀ c, c ≠ 59 → s c = s2 c) ∧ ∀ a, a < kn k → s 59 a = nI (wK (fun e => (s2 60 e).toNatClampNeg) (fun e => (s2 61 e).toNatClampNeg) k t a e)) (N := N) (by omega) (fun m e s he hq => by
    obtain ⟨q1, q2⟩ := hq
    obtain ⟨u, v, uv, un, d0, e1, e2, e3⟩ := N3 e he
    have k1 : (s2 60 e).toNatClampNeg = u := by rw [e1, nI_clamp (by omega)]
    have k2 : (s2 61 e).toNatClampNeg = v := by rw [e2, nI_clamp (by omega)]
    have dd := (g.2.2.1 u v (by omega) (by omega)).2.1
    have V : m_X5_arrive_51 (nI t) (nI (wh (ks k) t)) (m + 1) (nI e) s = b_X5_arrive_51 (nI t) (nI (wh (ks k) t)) (m_X5_arrive_51 (nI t) (nI (wh (ks k) t)) m) (nI e) s := rfl
    have i144 := inb_t (show e < 144 by omega) (show 144 < 2 ^ 31 by decide)
    have ce := nI_clamp (show e < 2 ^ 31 by omega)
    have c1 : ¬ nI N ≤ nI e := nI_ge he (by omega)
    have s60 : s 60 e = nI u := by rw [q1 60 (by decide)]; exact e1
    have s61 : s 61 e = nI v := by rw [q1 61 (by decide)]; exact e2
    have s62 : s 62 e = nI (kd k u v) := by rw [q1 62 (by decide)]; exact e3
    have s9 : s 54 9 = nI N := by rw [q1 54 (by decide)]; exact N2
    by_cases c : kd k u v ≤ t
    · have nl : ¬ nI t < nI (kd k u v) := nI_nlt c (by omega)
      have W := q_walkAlong g (wX_fr g X2 (fun c h1 h2 => q1 c h1)) (σ := s) (t := t) (fun w h1 h2 a ha => by rw [q1 _ (by omega), B2 _ (by omega)]; exact hH w h1 h2 a ha) ht un (show v < kn k by omega) (by omega) d0 c (q2 u un) (q2 v (by omega))
      refine ⟨gst (gst s 59 u (nI (wK (fun e => (s2 60 e).toNatClampNeg) (fun e => (s2 61 e).toNatClampNeg) k t u e ||| (wS k (t - kd k u v) v &&& wHl k u v (t - kd k u v) t)))) 59 v (nI (wK (fun e => (s2 60 e).toNatClampNeg) (fun e => (s2 61 e).toNatClampNeg) k t v e ||| (wS k (t - kd k u v) u &&& wHl k u v (t - kd k u v) t))), ?_, fun c h1 => ?_, fun a ha => ?_⟩
      · rw [V]
        unfold b_X5_arrive_51
        rw [s9, if_neg c1, i144, gck_s, ce, s62, if_neg nl, gck_s, gck_s, gck_s, s60, s61, nI_sub c, W, gb1_s, gnm_s, nI_1]
      · rw [gst_ne _ _ h1, gst_ne _ _ h1]; exact q1 c h1
      · rw [gst_eq, gst_eq]
        simp only [wK, wKe, k1, k2]
        rw [if_pos c]
        by_cases h1 : a = v
        · subst h1
          rw [pk_us, if_neg (by omega), if_pos rfl]
        · rw [pk_un h1]
          by_cases h2 : a = u
          · subst h2
            rw [pk_us, if_pos rfl]
          · rw [pk_un h2, if_neg h2, if_neg h1, Nat.or_zero]; exact q2 a ha
    · have nl : nI t < nI (kd k u v) := nI_lt (by omega) (by omega)
      refine ⟨s, ?_, q1, fun a ha => ?_⟩
      · rw [V]
        unfold b_X5_arrive_51
        rw [s9, if_neg c1, i144, gck_s, ce, s62, if_pos nl, gnm_s, nI_1]
      · simp only [wK, wKe, k1, k2]
        rw [if_neg c, Nat.or_zero]; exact q2 a ha) (fun m s hq => by
    obtain ⟨q1, q2⟩ := hq
    have s9 : s 54 9 = nI N := by rw [q1 54 (by decide)]; exact N2
    show b_X5_arrive_51 (nI t) (nI (wh (ks k) t)) (m_X5_arrive_51 (nI t) (nI (wh (ks k) t)) m) (nI N) s = _
    unfold b_X5_arrive_51
    rw [s9, if_pos (nI_le (Nat.le_refl _) (by omega))]) (s := s2) ⟨fun c _ => rfl, B3⟩
  have L3' : m_X5_arrive_51 (nI t) (nI (wh (ks k) t)) gFU (nI 0) s2 = some s3 := L3
  rw [show nI 0 = 0 from rfl] at L3'
  refine ⟨s3, ?_, fun c hc => by rw [r1 c hc]; exact B2 c hc, fun a ha => ?_⟩
  · unfold m_X5_arrive
    rw [L1', gb1_s, B1, gb1_s, L3', gb1_s]
  · rw [r2 a ha, wK_C g N3 N4 t ha]
