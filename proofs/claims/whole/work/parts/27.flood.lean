/-- the fewest who drown, by the set that is given away -/
def FSp (q : Nat) (d : Nat → Nat → Nat) (F : Nat → Nat) (a : Nat) : Prop := F (2 ^ q - 1) = 0 ∧ (∀ g, F g ≤ 100) ∧ (∀ g, g < 2 ^ q → a ≤ g → F g + pc g ≤ q) ∧ ∀ g, a ≤ g → g < 2 ^ q → g ≠ 2 ^ q - 1 → ∃ b, isFB q d F g b ∧ F g = (1 - d (pc g) b) + F (so g b)
theorem isFB_ext {q : Nat} {d : Nat → Nat → Nat} {F F' : Nat → Nat} {g b : Nat} (hq : q ≤ 8) (hg : g < 2 ^ q) (h : ∀ x, g < x → F' x = F x) (hb : isFB q d F g b) : isFB q d F' g b := by
  have p1 := pow_r q hq
  have gt : ∀ j, j < q → tb g j = 0 → F' (so g j) = F (so g j) := by
    intro j hj t0
    have := (so_r g (by omega) j (by omega)).2.2 t0
    have := pow_r2 j (by omega)
    exact h _ (by omega)
  obtain ⟨b1, b2, b3, b4⟩ := hb
  refine ⟨b1, b2, fun j hj tj => ?_, fun j hj tj => ?_⟩
  · rw [gt b b1 b2, gt j hj tj]; exact b3 j hj tj
  · rw [gt b b1 b2, gt j (by omega) tj]; exact b4 j hj tj
theorem q_weigh3 {q : Nat} {d : Nat → Nat → Nat} (hq : q ≤ 8) (hd : ∀ k j, d k j ≤ 1) : ∀ a (F : Nat → Nat) (σ : gMem) n, a < n → a ≤ 2 ^ q - 1 → exX σ q d F a → FSp q d F a → ∃ F' σ', m_X0_weigh_99 n (Int32.ofInt ((a : Int) - 1)) σ = some σ' ∧ exX σ' q d F' 0 ∧ FSp q d F' 0 ∧ ∀ c, c ≠ 203 → σ' c = σ c := by
  have p1 := pow_r q hq
  intro a
  induction a with
  | zero =>
    intro F σ n hn _ hX hF
    obtain ⟨m, rfl⟩ : ∃ m, n = m + 1 := ⟨n - 1, by omega⟩
    exact ⟨F, σ, rfl, hX, hF, fun c _ => rfl⟩
  | succ a ih =>
    intro F σ n hn ha hX hF
    obtain ⟨m, rfl⟩ : ∃ m, n = m + 1 := ⟨n - 1, by omega⟩
    have ea : Int32.ofInt (((a + 1 : Nat) : Int) - 1) = nI a := by
      unfold nI; rw [show ((a + 1 : Nat) : Int) - 1 = (a : Int) by omega]; rfl
    obtain ⟨b, hb, fb⟩ := q_first hq hX hF.2.1 (show a < 2 ^ q by omega) (show a ≠ 2 ^ q - 1 by omega) (by omega)
    obtain ⟨b1, b2, b3, b4⟩ := id hb
    have sr := (so_r a (by omega) b (by omega)).2.2 b2
    have s2 := pow_r2 b (by omega)
    have sh := so_hi q hq a (by omega) b b1
    have B := q_behind hq hX (show a < 2 ^ q by omega) b1 b2 (show a + 1 ≤ so a b by omega)
    have bd := hF.2.2.1 (so a b) sh (by omega)
    obtain ⟨F', hF'⟩ : ∃ F' : Nat → Nat, F' = fun x => if x = a then (1 - d (pc a) b) + F (so a b) else F x := ⟨_, rfl⟩
    have Fn : ∀ x, x ≠ a → F' x = F x := fun x hx => by rw [hF']; exact if_neg hx
    have Fa : F' a = (1 - d (pc a) b) + F (so a b) := by rw [hF']; exact if_pos rfl
    have X' : exX (gst σ 203 a (nI (F' a))) q d F' a := by
      obtain ⟨x1, x2, x3⟩ := hX
      refine ⟨by rw [gst_ne _ _ (by decide)]; exact x1, fun k hk => by rw [gst_ne _ _ (by decide)]; exact x2 k hk, fun g h1 h2 => ?_⟩
      rw [gst_eq]
      by_cases e : g = a
      · subst e; rw [pk_us]
      · rw [pk_un e, Fn g e]; exact x3 g (by omega) h2
    have S' : FSp q d F' a := by
      obtain ⟨f1, f2, f3, f4⟩ := hF
      refine ⟨by rw [Fn _ (by omega)]; exact f1, fun g => ?_, fun g h1 h2 => ?_, fun g h1 h2 h3 => ?_⟩
      · by_cases e : g = a
        · subst e; rw [Fa]; have := f2 (so g b); omega
        · rw [Fn g e]; exact f2 g
      · by_cases e : g = a
        · subst e; rw [Fa]; omega
        · rw [Fn g e]; exact f3 g h1 (by omega)
      · by_cases e : g = a
        · subst e
          exact ⟨b, isFB_ext hq h2 (fun x hx => Fn x (by omega)) hb, by rw [Fa, Fn (so g b) (by omega)]⟩
        · obtain ⟨c, c1, c2⟩ := f4 g (by omega) h2 h3
          have cr := (so_r g (by omega) c (by have := c1.1; omega)).2.2 c1.2.1
          have c3 := pow_r2 c (by have := c1.1; omega)
          exact ⟨c, isFB_ext hq h2 (fun x hx => Fn x (by omega)) c1, by rw [Fn g e, Fn (so g c) (by omega)]; exact c2⟩
    obtain ⟨F2, σ2, r1, r2, r3, r4⟩ := ih F' _ m (by omega) (by omega) X' S'
    refine ⟨F2, σ2, ?_, r2, r3, fun c hc => by rw [r4 c hc, gst_ne _ _ hc]⟩
    rw [← r1, ea]
    show b_X0_weigh_99 (m_X0_weigh_99 m) (nI a) σ = _
    have ep : nI a + (-1) = Int32.ofInt ((a : Int) - 1) := by
      unfold nI
      rw [show (-1 : Int32) = Int32.ofInt (-1) from rfl, show Int32.ofNat a = Int32.ofInt (a : Int) from rfl, ← Int32.ofInt_add]; rfl
    simp only [b_X0_weigh_99, nI_pos (show a < 2 ^ 31 by omega), if_false, fb, gb1_s, B, inb_t (show a < 256 by omega) (show 256 < 2 ^ 31 by decide), gck_s, gnm_s, nI_clamp (show a < 2 ^ 31 by omega), ep, Fa]
theorem q_weigh {σ : gMem} {z : Nat → Int32} (hR : Rg 1 13 σ z) {p q n' y : Nat} (w : WF p q n' y z) (f : Int32) : ∃ F σ', m_X0_weigh f σ = some σ' ∧ exX σ' q (sDr z f) F 0 ∧ FSp q (sDr z f) F 0 ∧ ∀ c, c < 201 ∨ 204 ≤ c → σ' c = σ c := by
  have hq := w.1.2.1
  have hq8 := w.1.2.2.2.2.2.1
  have p1 := pow_r q hq8
  have hσ : σ 1 8 = nI q := (Rg_peo hR).trans hq
  have R1 : Rg 1 13 (gst σ 201 0 (nI q)) z := Rg_fr hR (fun c _ hc => gst_ne _ _ (by omega))
  have W2 := q_weigh2 R1 w (by rw [gst_eq, pk_us]) f
  have d1 : ∀ k j, sDr z f k j ≤ 1 := fun k j => by rcases sDr_01 z f k j with e | e <;> omega
  obtain ⟨s4, es4⟩ : ∃ s4, s4 = grow (gst σ 201 0 (nI q)) 202 (fun k => if k < q then nI (sMk (sDr z f k) q) else gst σ 201 0 (nI q) 202 k) := ⟨_, rfl⟩
  rw [← es4] at W2
  have s201 : s4 201 0 = nI q := by rw [es4]; show gst σ 201 0 (nI q) 201 0 = _; rw [gst_eq, pk_us]
  have X0 : exX (gst s4 203 (2 ^ q - 1) 0) q (sDr z f) (fun _ => 0) (2 ^ q - 1) := by
    refine ⟨by rw [gst_ne _ _ (by decide)]; exact s201, fun k hk => ⟨sMk (sDr z f k) q, ?_, ?_, fun j hj => sMk_tb _ (d1 k) q j hj⟩, fun g h1 h2 => ?_⟩
    · have := sMk_lt (sDr z f k) q; omega
    · rw [gst_ne _ _ (by decide), es4]
      show (if k < q then _ else _) = _
      rw [if_pos hk]
    · have : g = 2 ^ q - 1 := by omega
      subst this
      rw [gst_eq, pk_us]; rfl
  have F0 : FSp q (sDr z f) (fun _ => 0) (2 ^ q - 1) := by
    refine ⟨rfl, fun _ => Nat.zero_le _, fun g h1 h2 => ?_, fun g h1 h2 h3 => absurd (show g = 2 ^ q - 1 by omega) h3⟩
    have : g = 2 ^ q - 1 := by omega
    subst this
    rw [pc_all q hq8]; exact Nat.le_of_eq (Nat.zero_add q)
  obtain ⟨F, σ', r1, r2, r3, r4⟩ := q_weigh3 hq8 d1 (2 ^ q - 1) _ _ gFU (by show _ < 100000; omega) (Nat.le_refl _) X0 F0
  refine ⟨F, σ', ?_, r2, r3, fun c hc => ?_⟩
  · have e1 : nI (2 ^ q) - 1 = nI (2 ^ q - 1) := by rw [show (1 : Int32) = nI 1 from rfl, nI_sub (by omega)]
    have e2 : nI (2 ^ q - 1) - 1 = Int32.ofInt (((2 ^ q - 1 : Nat) : Int) - 1) := by
      unfold nI
      rw [show (1 : Int32) = Int32.ofInt 1 from rfl, show Int32.ofNat (2 ^ q - 1) = Int32.ofInt ((2 ^ q - 1 : Nat) : Int) from rfl, ← Int32.ofInt_sub]
    simp only [m_X0_weigh, gnm_s, hσ, W2, gb1_s, s201, fb6 q hq8, e1, inb_t (show 2 ^ q - 1 < 256 by omega) (show 256 < 2 ^ 31 by decide), gck_s, nI_clamp (show 2 ^ q - 1 < 2 ^ 31 by omega), e2, r1]
  · rw [r4 c (by omega), gst_ne _ _ (by omega), es4]
    show (if c = 202 then _ else _) = _
    rw [if_neg (by omega), gst_ne _ _ (by omega)]
