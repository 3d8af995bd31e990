/-! ===== the pure part: walks, what they are ===== -/
theorem nI_and (a b : Nat) : nI a &&& nI b = nI (a &&& b) := by
  apply Int32.toBitVec_inj.mp
  show BitVec.ofNat 32 a &&& BitVec.ofNat 32 b = BitVec.ofNat 32 (a &&& b)
  exact BitVec.ofNat_and.symm
theorem nI_or (a b : Nat) : nI a ||| nI b = nI (a ||| b) := by
  apply Int32.toBitVec_inj.mp
  show BitVec.ofNat 32 a ||| BitVec.ofNat 32 b = BitVec.ofNat 32 (a ||| b)
  exact BitVec.ofNat_or.symm
/-- the hour of a minute of a walk that begins at s -/
def wh (s t : Nat) : Nat := (s + t) / 60 % 24
theorem wh_lt (s t : Nat) : wh s t < 24 := Nat.mod_lt _ (by decide)
/-- a walk: by place and hour, with which splices one stands; by two places, the path's minutes; by place, which post it has; home, start, places -/
abbrev gWk : Type := (Nat → Nat → Nat) × (Nat → Nat → Nat) × (Nat → Nat) × Nat × Nat × Nat
abbrev kF (k : gWk) : Nat → Nat → Nat := k.1
abbrev kd (k : gWk) : Nat → Nat → Nat := k.2.1
abbrev kp (k : gWk) : Nat → Nat := k.2.2.1
abbrev k0 (k : gWk) : Nat := k.2.2.2.1
abbrev ks (k : gWk) : Nat := k.2.2.2.2.1
abbrev kn (k : gWk) : Nat := k.2.2.2.2.2
/-- what holds of one -/
def wG (k : gWk) : Prop := (∀ a h, kF k a h < 256) ∧ (∀ a h, kn k ≤ a → kF k a h = 0) ∧ (∀ a b, a < 12 → b < 12 → kd k a b = kd k b a ∧ kd k a b ≤ 60 ∧ (a = b → kd k a b = 0) ∧ (kn k ≤ a → kd k a b = 0)) ∧ k0 k < kn k ∧ kn k ≤ 12 ∧ ks k < 1440 ∧ ∀ a, a < kn k → kp k a ≤ 3
/-- with which splices one stands at two places, at two minutes -/
def wHl (k : gWk) (a b u t : Nat) : Nat := kF k a (wh (ks k) u) &&& kF k b (wh (ks k) u) &&& kF k a (wh (ks k) t) &&& kF k b (wh (ks k) t)
theorem wHl_lt {k : gWk} (g : wG k) (a b u t : Nat) : wHl k a b u t < 256 := Nat.and_lt_two_pow (n := 8) _ (g.1 b _)
theorem wHl_c (k : gWk) (a b u t : Nat) : wHl k a b u t = wHl k b a u t := by
  unfold wHl
  apply Nat.eq_of_testBit_eq
  intro i
  simp only [Nat.testBit_and]
  cases (kF k a (wh (ks k) u)).testBit i <;> cases (kF k b (wh (ks k) u)).testBit i <;> cases (kF k a (wh (ks k) t)).testBit i <;> cases (kF k b (wh (ks k) t)).testBit i <;> rfl
/-- who comes to a in minute t, from the first places; H: who was where ahead of it -/
def wI (k : gWk) (t a : Nat) : Nat := if t = 0 ∧ a = k0 k then 1 &&& kF k a (wh (ks k) 0) else 0
def wC (k : gWk) (H : Nat → Nat → Nat) (t a : Nat) : Nat → Nat
  | 0 => wI k t a
  | b + 1 => wC k H t a b ||| (if 0 < kd k b a ∧ kd k b a ≤ t then H (t - kd k b a) b &&& wHl k a b (t - kd k b a) t else 0)
/-- one splice more -/
def spl (j m : Nat) : Nat := if j = 0 then (m &&& 85) <<< 1 else if j = 1 then (m &&& 51) <<< 2 else if j = 2 then (m &&& 15) <<< 4 else 0
def wN (k : gWk) (H : Nat → Nat → Nat) (t a : Nat) : Nat := ((if t = 0 then 0 else H (t - 1) a) ||| wC k H t a (kn k) ||| spl (kp k a) (wC k H t a (kn k))) &&& kF k a (wh (ks k) t)
def wH (k : gWk) : Nat → Nat → Nat → Nat
  | 0 => fun _ _ => 0
  | t + 1 => fun u a => if u = t then wN k (wH k t) t a else wH k t u a
/-- with which splices one can be at a in minute t -/
def wS (k : gWk) (t a : Nat) : Nat := wN k (wH k t) t a
theorem wH_S (k : gWk) {u : Nat} (a : Nat) : ∀ t, u < t → wH k t u a = wS k u a := by
  intro t
  induction t with
  | zero => intro h; omega
  | succ t ih =>
    intro h
    simp only [wH]
    by_cases e : u = t
    · rw [if_pos e, e]; rfl
    · rw [if_neg e]; exact ih (by omega)
theorem wC_congr (k : gWk) {H H' : Nat → Nat → Nat} {t : Nat} (h : ∀ u a, u < t → H u a = H' u a) (a : Nat) : ∀ b, wC k H t a b = wC k H' t a b := by
  intro b
  induction b with
  | zero => rfl
  | succ b ih =>
    simp only [wC]
    rw [ih]
    by_cases c : 0 < kd k b a ∧ kd k b a ≤ t
    · rw [if_pos c, if_pos c, h _ b (by omega)]
    · rw [if_neg c, if_neg c]
theorem wS_eq (k : gWk) (t a : Nat) : wS k t a = ((if t = 0 then 0 else wS k (t - 1) a) ||| wC k (wS k) t a (kn k) ||| spl (kp k a) (wC k (wS k) t a (kn k))) &&& kF k a (wh (ks k) t) := by
  have e : wC k (wH k t) t a (kn k) = wC k (wS k) t a (kn k) := wC_congr k (fun u a h => wH_S k a t h) a (kn k)
  show wN k (wH k t) t a = _
  unfold wN
  rw [e]
  by_cases c : t = 0
  · rw [if_pos c, if_pos c]
  · rw [if_neg c, if_neg c, wH_S k a t (by omega)]
theorem wS_lt {k : gWk} (g : wG k) (t a : Nat) : wS k t a < 256 := by
  rw [wS_eq]; exact Nat.and_lt_two_pow (n := 8) _ (g.1 a _)
theorem wS_F {k : gWk} {t a τ : Nat} (h : (wS k t a).testBit τ = true) : (kF k a (wh (ks k) t)).testBit τ = true := by
  rw [wS_eq, Nat.testBit_and, Bool.and_eq_true] at h; exact h.2
theorem wS_out {k : gWk} (g : wG k) {a : Nat} (h : kn k ≤ a) (t : Nat) : wS k t a = 0 := by
  rw [wS_eq, g.2.1 a _ h, Nat.and_zero]
theorem wI_bit (k : gWk) (t a τ : Nat) : (wI k t a).testBit τ = true ↔ t = 0 ∧ a = k0 k ∧ τ = 0 ∧ (kF k a (wh (ks k) 0)).testBit 0 = true := by
  unfold wI
  by_cases c : t = 0 ∧ a = k0 k
  · rw [if_pos c, Nat.testBit_and, Bool.and_eq_true, show (1 : Nat) = 2 ^ 0 from rfl, Nat.testBit_two_pow, decide_eq_true_eq]
    constructor
    · rintro ⟨e, h⟩; subst e; exact ⟨c.1, c.2, rfl, h⟩
    · rintro ⟨-, -, e, h⟩; subst e; exact ⟨rfl, h⟩
  · rw [if_neg c, Nat.zero_testBit]
    constructor
    · intro h; cases h
    · rintro ⟨h1, h2, -⟩; exact absurd ⟨h1, h2⟩ c
theorem wC_bit (k : gWk) (H : Nat → Nat → Nat) (t a τ : Nat) : ∀ n, (wC k H t a n).testBit τ = true ↔ (wI k t a).testBit τ = true ∨ ∃ b, b < n ∧ 0 < kd k b a ∧ kd k b a ≤ t ∧ (H (t - kd k b a) b).testBit τ = true ∧ (wHl k a b (t - kd k b a) t).testBit τ = true := by
  intro n
  induction n with
  | zero =>
    constructor
    · intro h; exact Or.inl h
    · rintro (h | ⟨b, hb, -⟩)
      · exact h
      · exact absurd hb (by omega)
  | succ n ih =>
    simp only [wC]
    rw [Nat.testBit_or, Bool.or_eq_true, ih]
    constructor
    · rintro ((h | ⟨b, hb, h⟩) | h)
      · exact Or.inl h
      · exact Or.inr ⟨b, by omega, h⟩
      · by_cases c : 0 < kd k n a ∧ kd k n a ≤ t
        · rw [if_pos c, Nat.testBit_and, Bool.and_eq_true] at h
          exact Or.inr ⟨n, by omega, c.1, c.2, h.1, h.2⟩
        · rw [if_neg c, Nat.zero_testBit] at h; cases h
    · rintro (h | ⟨b, hb, h1, h2, h3, h4⟩)
      · exact Or.inl (Or.inl h)
      · by_cases e : b = n
        · subst e
          refine Or.inr ?_
          rw [if_pos ⟨h1, h2⟩, Nat.testBit_and, Bool.and_eq_true]; exact ⟨h3, h4⟩
        · exact Or.inl (Or.inr ⟨b, by omega, h1, h2, h3, h4⟩)
theorem wHl_bit (k : gWk) (a b u t τ : Nat) : (wHl k a b u t).testBit τ = true ↔ (kF k a (wh (ks k) u)).testBit τ = true ∧ (kF k b (wh (ks k) u)).testBit τ = true ∧ (kF k a (wh (ks k) t)).testBit τ = true ∧ (kF k b (wh (ks k) t)).testBit τ = true := by
  unfold wHl
  simp only [Nat.testBit_and, Bool.and_eq_true, and_assoc]
theorem bit_hi {m τ : Nat} (hm : m < 256) (h : m.testBit τ = true) : τ < 8 := by
  by_cases c : τ < 8
  · exact c
  · rw [Nat.testBit_lt_two_pow (Nat.lt_of_lt_of_le (show m < 2 ^ 8 from hm) (Nat.pow_le_pow_right (by decide) (by omega)))] at h; cases h
theorem wC_lt {k : gWk} (g : wG k) (t a n : Nat) : wC k (wS k) t a n < 256 := by
  refine Nat.lt_pow_two_of_testBit (n := 8) _ (fun i hi => ?_)
  cases q : (wC k (wS k) t a n).testBit i with
  | false => rfl
  | true =>
    exfalso
    rcases (wC_bit k (wS k) t a i n).mp q with h | ⟨b, -, -, -, h, -⟩
    · have := ((wI_bit k t a i).mp h).2.2.1; omega
    · have := bit_hi (wS_lt g _ _) h; omega
/-- who comes stands -/
theorem wC_F {k : gWk} {t a n τ : Nat} (h : (wC k (wS k) t a n).testBit τ = true) : (kF k a (wh (ks k) t)).testBit τ = true := by
  rcases (wC_bit k (wS k) t a τ n).mp h with h | ⟨b, -, -, -, -, h⟩
  · obtain ⟨h1, -, h3, h4⟩ := (wI_bit k t a τ).mp h
    rw [h1, h3]; exact h4
  · exact ((wHl_bit k a b _ t τ).mp h).2.2.1
theorem spl_lt : ∀ m, m < 256 → ∀ j, j ≤ 3 → spl j m < 256 := by decide +kernel
theorem spl_bit : ∀ m, m < 256 → ∀ j, j < 3 → ∀ τ, τ < 8 → (spl j m).testBit τ = (τ.testBit j && m.testBit (τ - 2 ^ j)) := by decide +kernel
theorem spl_I : ∀ m, m < 256 → ∀ j, j < 3 → (nI m &&& gLk j) <<< (((1 : Int32) <<< (nI j &&& 31)) &&& 31) = nI (spl j m) := by decide +kernel
theorem spl_3 (m : Nat) : spl 3 m = 0 := rfl
/-- one stays where he stands -/
theorem wS_stay {k : gWk} {t a τ : Nat} (h : (wS k t a).testBit τ = true) (hF : (kF k a (wh (ks k) (t + 1))).testBit τ = true) : (wS k (t + 1) a).testBit τ = true := by
  rw [wS_eq, Nat.testBit_and, Nat.testBit_or, Nat.testBit_or, if_neg (by omega), Nat.add_sub_cancel, h, hF]; rfl
theorem wS_stays {k : gWk} {a τ : Nat} : ∀ d t, (wS k t a).testBit τ = true → (∀ v, t < v → v ≤ t + d → (kF k a (wh (ks k) v)).testBit τ = true) → (wS k (t + d) a).testBit τ = true := by
  intro d
  induction d with
  | zero => intro t h _; exact h
  | succ d ih =>
    intro t h hF
    have := ih t h (fun v h1 h2 => hF v h1 (by omega))
    exact wS_stay this (hF (t + d + 1) (by omega) (by omega))
/-- the hours of at most an hour's minutes -/
theorem wh_mid (s u v m : Nat) (h1 : u ≤ v) (h2 : v ≤ u + m) (hm : m ≤ 60) : wh s v = wh s u ∨ wh s v = wh s (u + m) := by
  unfold wh
  have a1 : (s + u) / 60 ≤ (s + v) / 60 := Nat.div_le_div_right (by omega)
  have a2 : (s + v) / 60 ≤ (s + (u + m)) / 60 := Nat.div_le_div_right (by omega)
  have a3 : (s + (u + m)) / 60 ≤ (s + u) / 60 + 1 := by omega
  by_cases c : (s + v) / 60 = (s + u) / 60
  · left; rw [c]
  · right
    have : (s + v) / 60 = (s + (u + m)) / 60 := by omega
    rw [this]
/-- who can be nowhere comes nowhere any more -/
theorem wS_gone {k : gWk} (g : wG k) {t : Nat} (h : ∀ a, wS k t a = 0) : ∀ d a, wS k (t + d) a = 0 := by
  intro d
  induction d using Nat.strongRecOn with
  | _ d ih =>
    intro a
    by_cases d0 : d = 0
    · rw [d0]; exact h a
    have nb : ∀ τ, (wC k (wS k) (t + d) a (kn k)).testBit τ = false := fun τ => by
      cases q : (wC k (wS k) (t + d) a (kn k)).testBit τ with
      | false => rfl
      | true =>
        exfalso
        rcases (wC_bit k (wS k) (t + d) a τ (kn k)).mp q with h1 | ⟨b, hb, h1, h2, h3, h4⟩
        · have := ((wI_bit k (t + d) a τ).mp h1).1; omega
        · by_cases ha : a < 12
          · have hd := (g.2.2.1 b a (by have := g.2.2.2.2.1; omega) ha).2.1
            obtain ⟨e1, e2, e3, e4⟩ := (wHl_bit k a b _ _ τ).mp h4
            by_cases c : t ≤ t + d - kd k b a
            · have := ih (t + d - kd k b a - t) (by omega) b
              rw [show t + (t + d - kd k b a - t) = t + d - kd k b a by omega] at this
              rw [this, Nat.zero_testBit] at h3; cases h3
            · have S := wS_stays (t - (t + d - kd k b a)) (t + d - kd k b a) h3 (fun v v1 v2 => by
                rcases wh_mid (ks k) (t + d - kd k b a) v (kd k b a) (by omega) (by omega) hd with e | e
                · rw [e]; exact e2
                · rw [e, show t + d - kd k b a + kd k b a = t + d by omega]; exact e4)
              rw [show t + d - kd k b a + (t - (t + d - kd k b a)) = t by omega, h b, Nat.zero_testBit] at S
              cases S
          · have e3 := ((wHl_bit k a b _ _ τ).mp h4).1
            rw [g.2.1 a _ (by have := g.2.2.2.2.1; omega), Nat.zero_testBit] at e3; cases e3
    have c0 : wC k (wS k) (t + d) a (kn k) = 0 := Nat.eq_of_testBit_eq (fun i => by rw [nb i, Nat.zero_testBit])
    have z0 : ∀ j, spl j 0 = 0 := fun j => by
      unfold spl
      split
      · rfl
      · split
        · rfl
        · split <;> rfl
    rw [wS_eq, if_neg (by omega), c0, z0]
    have := ih (d - 1) (by omega) a
    rw [show t + (d - 1) = t + d - 1 by omega] at this
    rw [this]
    simp
