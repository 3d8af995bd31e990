/-! ===== walks: of one of people in a lagoon ===== -/
/-- posts among the first a places -/
def wP (z : Nat → Int32) (a : Nat) : Nat := cP (fun k => z (12 + k)) a
/-- what the splices of a set of posts make, of the first k places -/
def wl (z : Nat → Int32) (τ : Nat) : Nat → Nat
  | 0 => 0
  | k + 1 => wl z τ k + if 0 < (z (12 + k)).toInt ∧ τ.testBit (wP z k) = true then (z (12 + k)).toNatClampNeg else 0
def wD (z : Nat → Int32) (i p τ a h : Nat) : Int32 := sD z i (z (74 + i) + nI (wl z τ p)) a h
def wFk (z : Nat → Int32) (i p a h : Nat) : Nat → Nat
  | 0 => 0
  | τ + 1 => if wD z i p τ a h = 0 then wFk z i p a h τ else wFk z i p a h τ ||| 2 ^ τ
def wpn (z : Nat → Int32) (a : Nat) : Nat := if 0 < (z (12 + a)).toInt then wP z a else 3
def wZ (z : Nat → Int32) (p i s : Nat) : gWk := (fun a h => if a < p then wFk z i p a h (2 ^ wP z p) else 0, fun a b => (z (120 + 12 * a + b)).toNatClampNeg, wpn z, (z (82 + i)).toNatClampNeg, s, p)
theorem wP_s (z : Nat → Int32) (a : Nat) : wP z (a + 1) = wP z a + if 0 < (z (12 + a)).toInt then 1 else 0 := rfl
theorem wP_mono (z : Nat → Int32) {a b : Nat} (h : a ≤ b) : wP z a ≤ wP z b := by
  have := cP_mono (fun k => z (12 + k)) (b - a) a
  rw [show a + (b - a) = b by omega] at this; exact this
theorem wP_npo {p q n y : Nat} {z : Nat → Int32} (w : WF p q n y z) : wP z p ≤ 3 := by
  have := w.2.2.1
  rw [npo_cP p w.1.2.2.2.2.1 (f := fun k => z (12 + k)) (fun i _ => rfl)] at this; exact this
theorem wP_post {p q n y : Nat} {z : Nat → Int32} (w : WF p q n y z) {a : Nat} (ha : a < p) (h : 0 < (z (12 + a)).toInt) : wP z a < 3 := by
  have h1 := wP_mono z (show a + 1 ≤ p from ha)
  have h2 := wP_npo w
  rw [wP_s, if_pos h] at h1
  omega
theorem pw3 : ∀ P, P ≤ 3 → 1 ≤ 2 ^ P ∧ 2 ^ P ≤ 8 := by decide
theorem pw2 : ∀ P, P < 3 → 2 ^ P ≤ 4 := by decide
theorem wl_low {z : Nat → Int32} {P : Nat} (j : Nat) : ∀ a, wP z a ≤ P → wl z (2 ^ P + j) a = wl z j a := by
  intro a
  induction a with
  | zero => intro _; rfl
  | succ a ih =>
    intro h
    rw [wP_s] at h
    simp only [wl]
    rw [ih (by omega)]
    by_cases c : 0 < (z (12 + a)).toInt
    · rw [if_pos c] at h
      rw [Nat.testBit_two_pow_add_gt (by omega)]
    · rw [if_neg (fun h => c h.1), if_neg (fun h => c h.1)]
theorem wl_le {p q n y : Nat} {z : Nat → Int32} (w : WF p q n y z) (τ : Nat) : ∀ a, a ≤ p → wl z τ a ≤ 20 * a := by
  intro a
  induction a with
  | zero => intro _; exact Nat.zero_le _
  | succ a ih =>
    intro h
    have h1 := ih (by omega)
    obtain ⟨-, -, b0, b1, -⟩ := w.2.1 a (by omega)
    obtain ⟨v, hv, e⟩ := nat_of (n := 20) b0 b1 (by decide)
    simp only [wl]
    have : (z (12 + a)).toNatClampNeg ≤ 20 := by rw [e, nI_clamp (by omega)]; exact hv
    split <;> omega
theorem wFk_bit (z : Nat → Int32) (i p a h τ : Nat) : ∀ T, (wFk z i p a h T).testBit τ = true ↔ τ < T ∧ ¬ wD z i p τ a h = 0 := by
  intro T
  induction T with
  | zero =>
    constructor
    · intro h; simp only [wFk] at h; rw [Nat.zero_testBit] at h; cases h
    · intro h; omega
  | succ T ih =>
    simp only [wFk]
    by_cases c : wD z i p T a h = 0
    · rw [if_pos c, ih]
      constructor
      · rintro ⟨h1, h2⟩; exact ⟨by omega, h2⟩
      · rintro ⟨h1, h2⟩
        have : τ ≠ T := fun e => by subst e; exact h2 c
        exact ⟨by omega, h2⟩
    · rw [if_neg c, Nat.testBit_or, Bool.or_eq_true, ih, Nat.testBit_two_pow, decide_eq_true_eq]
      constructor
      · rintro (⟨h1, h2⟩ | e)
        · exact ⟨by omega, h2⟩
        · subst e; exact ⟨by omega, c⟩
      · rintro ⟨h1, h2⟩
        by_cases e : T = τ
        · exact Or.inr e
        · exact Or.inl ⟨by omega, h2⟩
theorem wFk_lt (z : Nat → Int32) (i p a h : Nat) {T : Nat} (hT : T ≤ 8) : wFk z i p a h T < 256 := by
  refine Nat.lt_pow_two_of_testBit (n := 8) _ (fun j hj => ?_)
  cases q : (wFk z i p a h T).testBit j with
  | false => rfl
  | true => have := ((wFk_bit z i p a h j T).mp q).1; omega
theorem wZ_F {z : Nat → Int32} {p i s a h : Nat} (ha : a < p) : kF (wZ z p i s) a h = wFk z i p a h (2 ^ wP z p) := if_pos ha
theorem wZ_good {p q n y : Nat} {z : Nat → Int32} (w : WF p q n y z) {i s : Nat} (hi : i < q) (hs : s < 1440) : wG (wZ z p i s) := by
  have P3 := wP_npo w
  have p8 := (pw3 _ P3).2
  have p12 := w.1.2.2.2.2.1
  refine ⟨fun a h => ?_, fun a h ha => if_neg (by show ¬ a < p; exact Nat.not_lt.mpr ha), fun a b ha hb => ?_, ?_, p12, hs, fun a ha => ?_⟩
  · show (if a < p then _ else 0) < 256
    split
    · exact wFk_lt z i p a h p8
    · decide
  · obtain ⟨m1, m2, m3, m4, m5⟩ := w.2.2.2.2.2.2.2 a b ha hb
    obtain ⟨v, hv, e⟩ := nat_of (n := 60) m1 m2 (by decide)
    show (z (120 + 12 * a + b)).toNatClampNeg = (z (120 + 12 * b + a)).toNatClampNeg ∧ (z (120 + 12 * a + b)).toNatClampNeg ≤ 60 ∧ (a = b → (z (120 + 12 * a + b)).toNatClampNeg = 0) ∧ (p ≤ a → (z (120 + 12 * a + b)).toNatClampNeg = 0)
    refine ⟨by rw [m3], by rw [e, nI_clamp (by omega)]; exact hv, fun h => by rw [m4 h]; rfl, fun h => by rw [m5 h]; rfl⟩
  · obtain ⟨h, hh, e⟩ := (w.2.2.2.2.2.1 i hi).2.2.2
    show (z (82 + i)).toNatClampNeg < p
    rw [e, nI_clamp (by omega)]; exact hh
  · show wpn z a ≤ 3
    unfold wpn
    split
    · rename_i c
      exact Nat.le_of_lt (wP_post w ha c)
    · exact Nat.le_refl _
/-! ===== walks: the class lists posts ===== -/
theorem q_posts66 {σ : gMem} {a P : Nat} {v : Int32} {f : Nat → Int32} (ha : a < 12) (hP : P < 3) (e3 : σ 3 a = v) (hf : ∀ j, j < 2 ^ P → σ 56 j = f j) : ∃ s, m_X5_listPosts_66 (nI a) (nI (2 ^ P)) gFU 0 σ = some s ∧ (∀ c, c ≠ 56 → s c = σ c) ∧ (∀ j, j < 2 ^ P → s 56 j = f j) ∧ ∀ j, j < 2 ^ P → s 56 (2 ^ P + j) = f j + v := by
  have p4 := pw2 P hP
  generalize 2 ^ P = T at *
  obtain ⟨s, L, q⟩ := run_to (G := fun m j s => m_X5_listPosts_66 (nI a) (nI T) m (nI j) s) (Q := fun τ s => (∀ c, c ≠ 56 → s c = σ c) ∧ (∀ j, j < T → s 56 j = f j) ∧ ∀ j, j < τ → s 56 (T + j) = f j + v) (N := T) (by omega) (fun m j s hj hq => by
    obtain ⟨q1, q2, q3⟩ := hq
    have s3 : s 3 a = v := by rw [q1 3 (by decide)]; exact e3
    refine ⟨gst s 56 (T + j) (f j + v), ?_, fun c hc => by rw [gst_ne _ _ hc]; exact q1 c hc, fun i hi => ?_, fun i hi => ?_⟩
    · show b_X5_listPosts_66 (nI a) (nI T) (m_X5_listPosts_66 (nI a) (nI T) m) (nI j) s = _
      have c1 : ¬ nI T ≤ nI j := nI_ge hj (by omega)
      unfold b_X5_listPosts_66
      rw [if_neg c1, nI_add, inb_t (show j < 8 by omega) (by decide), gck_s, inb_t ha (by decide), gck_s, inb_t (show T + j < 8 by omega) (by decide), gck_s, gnm_s, nI_clamp (show T + j < 2 ^ 31 by omega), nI_clamp (show j < 2 ^ 31 by omega), nI_clamp (show a < 2 ^ 31 by omega), q2 j hj, s3, gnm_s, nI_1]
    · rw [gst_eq, pk_un (by omega)]; exact q2 i hi
    · rw [gst_eq]
      by_cases e : i = j
      · rw [e]; exact pk_us
      · rw [pk_un (by omega)]; exact q3 i (by omega)) (fun m s hq => by
    show b_X5_listPosts_66 (nI a) (nI T) (m_X5_listPosts_66 (nI a) (nI T) m) (nI T) s = _
    unfold b_X5_listPosts_66
    rw [if_pos (nI_le (Nat.le_refl T) (by omega))]) (s := σ) ⟨fun c _ => rfl, hf, fun j hj => absurd hj (by omega)⟩
  have L' : m_X5_listPosts_66 (nI a) (nI T) gFU (nI 0) σ = some s := L
  rw [show nI 0 = 0 from rfl] at L'
  exact ⟨s, L', q⟩
def wpv (z : Nat → Int32) (a : Nat) : Int32 := if 0 < (z (12 + a)).toInt then nI (wP z a) else -1
theorem q_listPosts {σ : gMem} {p q n y : Nat} {z : Nat → Int32} (w : WF p q n y z) (hR : ∀ a, a < 12 → σ 3 a = z (12 + a)) (e0 : σ 54 0 = nI p) : ∃ s, m_X5_listPosts σ = some s ∧ (∀ c, c ≠ 54 → c ≠ 55 → c ≠ 56 → s c = σ c) ∧ (∀ j, j ≠ 3 → s 54 j = σ 54 j) ∧ s 54 3 = nI (wP z p) ∧ (∀ a, a < p → s 55 a = wpv z a) ∧ ∀ τ, τ < 2 ^ wP z p → s 56 τ = nI (wl z τ p) := by
  have p12 := w.1.2.2.2.2.1
  have P3 := wP_npo w
  obtain ⟨s, L, q1, q2, q3, q4, q5⟩ := run_to (G := fun m a s => m_X5_listPosts_14 m (nI a) s) (Q := fun a s => (∀ c, c ≠ 54 → c ≠ 55 → c ≠ 56 → s c = σ c) ∧ (∀ j, j ≠ 3 → s 54 j = σ 54 j) ∧ s 54 3 = nI (wP z a) ∧ (∀ b, b < a → s 55 b = wpv z b) ∧ ∀ τ, τ < 2 ^ wP z a → s 56 τ = nI (wl z τ a)) (N := p) (by omega) (fun m a s ha hq => by
    obtain ⟨q1, q2, q3, q4, q5⟩ := hq
    have c1 : ¬ nI p ≤ nI a := nI_ge ha (by omega)
    have s0 : s 54 0 = nI p := by rw [q2 0 (by decide)]; exact e0
    have s3 : s 3 a = z (12 + a) := by rw [q1 3 (by decide) (by decide) (by decide)]; exact hR a (by omega)
    have i12 := inb_t (show a < 12 by omega) (show 12 < 2 ^ 31 by decide)
    have ca := nI_clamp (show a < 2 ^ 31 by omega)
    have t3 : gst s 55 a (-1) 3 a = z (12 + a) := by rw [gst_ne _ _ (by decide)]; exact s3
    have t54 : gst s 55 a (-1) 54 3 = nI (wP z a) := by rw [gst_ne _ _ (by decide)]; exact q3
    have V : m_X5_listPosts_14 (m + 1) (nI a) s = b_X5_listPosts_14 (m_X5_listPosts_14 m) (nI a) s := rfl
    by_cases c : 0 < (z (12 + a)).toInt
    · have P2 := wP_post w ha c
      have n0 : ¬ z (12 + a) ≤ 0 := fun h => i32_le0.mp h c
      have n3 : ¬ (3 : Int32) ≤ nI (wP z a) := nI_ge (b := 3) P2 (by decide)
      have g55 : gst (gst s 55 a (-1)) 55 a (nI (wP z a)) = gst s 55 a (nI (wP z a)) := gst_gst _ _ _ _ _
      have g54 : gst s 55 a (nI (wP z a)) 54 = s 54 := gst_ne _ _ (by decide)
      obtain ⟨u, U1, U2, U3, U4⟩ := q_posts66 (σ := gst s 55 a (nI (wP z a))) (a := a) (P := wP z a) (v := z (12 + a)) (f := fun τ => nI (wl z τ a)) (by omega) P2 (by rw [gst_ne _ _ (by decide)]; exact s3) (fun j hj => by rw [gst_ne _ _ (by decide)]; exact q5 j hj)
      have u54 : u 54 = s 54 := by rw [U2 54 (by decide)]; exact g54
      refine ⟨gst u 54 3 (nI (wP z a + 1)), ?_, fun c h1 h2 h3 => ?_, fun j hj => ?_, ?_, fun b hb => ?_, fun τ hτ => ?_⟩
      · rw [V]
        unfold b_X5_listPosts_14
        rw [s0, if_neg c1, i12, gck_s, gnm_s, gck_s, ca, t3, if_neg n0, t54, if_neg n3, gck_s, gnm_s, g55, gnm_s, g54, q3, fb6 _ (by omega), U1, gb1_s, gnm_s, u54, q3, nI_1, gnm_s, nI_1]
      · rw [gst_ne _ _ h1, U2 c h3, gst_ne _ _ h2]; exact q1 c h1 h2 h3
      · rw [gst_eq, pk_un hj, u54]; exact q2 j hj
      · rw [gst_eq, pk_us, wP_s, if_pos c]
      · rw [gst_ne _ _ (by decide), U2 55 (by decide), gst_eq]
        by_cases e : b = a
        · rw [e, pk_us]; unfold wpv; rw [if_pos c]
        · rw [pk_un e]; exact q4 b (by omega)
      · rw [gst_ne _ _ (by decide)]
        rw [wP_s, if_pos c, Nat.pow_succ] at hτ
        simp only [wl]
        by_cases e : τ < 2 ^ wP z a
        · rw [U3 τ e, Nat.testBit_lt_two_pow e, if_neg (fun h => absurd h.2 (by decide)), Nat.add_zero]
        · obtain ⟨j, rfl⟩ : ∃ j, τ = 2 ^ wP z a + j := ⟨τ - 2 ^ wP z a, by omega⟩
          have hj : j < 2 ^ wP z a := by omega
          obtain ⟨-, -, b0, b1, -⟩ := w.2.1 a ha
          obtain ⟨v, hv, e⟩ := nat_of (n := 20) b0 b1 (by decide)
          rw [U4 j hj, wl_low j a (Nat.le_refl _), Nat.testBit_two_pow_add_eq, Nat.testBit_lt_two_pow hj, if_pos ⟨c, rfl⟩, e, nI_clamp (by omega), nI_add]
    · have y0 : z (12 + a) ≤ 0 := i32_le0.mpr c
      refine ⟨gst s 55 a (-1), ?_, fun c h1 h2 h3 => ?_, fun j hj => ?_, ?_, fun b hb => ?_, fun τ hτ => ?_⟩
      · rw [V]
        unfold b_X5_listPosts_14
        rw [s0, if_neg c1, i12, gck_s, gnm_s, gck_s, ca, t3, if_pos y0, gnm_s, nI_1]
      · rw [gst_ne _ _ h2]; exact q1 c h1 h2 h3
      · rw [gst_ne _ _ (by decide)]; exact q2 j hj
      · rw [t54, wP_s, if_neg c, Nat.add_zero]
      · rw [gst_eq]
        by_cases e : b = a
        · rw [e, pk_us]; unfold wpv; rw [if_neg c]
        · rw [pk_un e]; exact q4 b (by omega)
      · rw [wP_s, if_neg c] at hτ
        rw [gst_ne _ _ (by decide)]
        simp only [wl]
        rw [if_neg (fun h => c h.1)]
        exact q5 τ hτ) (fun m s hq => by
    obtain ⟨q1, q2, q3, q4, q5⟩ := hq
    have s0 : s 54 0 = nI p := by rw [q2 0 (by decide)]; exact e0
    show b_X5_listPosts_14 (m_X5_listPosts_14 m) (nI p) s = _
    unfold b_X5_listPosts_14
    rw [s0, if_pos (nI_le (Nat.le_refl p) (by omega))]) (s := gst (gst σ 54 3 0) 56 0 0) ⟨fun c h1 h2 h3 => by rw [gst_ne _ _ h3, gst_ne _ _ h1], fun j hj => by rw [gst_ne _ _ (by decide), gst_eq, pk_un hj], by rw [gst_ne _ _ (by decide), gst_eq, pk_us]; rfl, fun b hb => absurd hb (by omega), fun τ hτ => by
    have : τ = 0 := by have : (2 : Nat) ^ wP z 0 = 1 := rfl; omega
    rw [this, gst_eq, pk_us]; rfl⟩
  have L' : m_X5_listPosts_14 gFU (nI 0) (gst (gst σ 54 3 0) 56 0 0) = some s := L
  rw [show nI 0 = 0 from rfl] at L'
  refine ⟨s, ?_, q1, q2, q3, q4, q5⟩
  unfold m_X5_listPosts
  rw [gnm_s, show inb 0 8 = true from rfl, gck_s, gnm_s, l0, L', gb1_s]
