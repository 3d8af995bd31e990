/-! ===== walks: a minute in the reference, who is seen, who leaves ===== -/
theorem pc8 : ∀ τ, τ < 8 → pc τ ≤ 3 := by decide +kernel
theorem q_look {μ : gMem} {b t M f : Nat} {r : Int32} (hb : b < 12) (ht : t ≤ 600) (hM : M < 256) (hf : f ≤ 4) (hS : ∀ τ, τ < 8 → μ 8 (8 * b + τ) = wb M τ) (h14 : μ 0 14 = r) (h15 : μ 0 15 = wLi f) : ∃ s, m_X7_look (nI b) (nI t) μ = some s ∧ (∀ c, c ≠ 0 → s c = μ c) ∧ (∀ j, j ≠ 14 → j ≠ 15 → s 0 j = μ 0 j) ∧ s 0 15 = wLi (min f (ftk M 8)) ∧ s 0 14 = if M = 0 then r else if 0 ≤ r then r else nI t := by
  have x8 : ∀ τ : Nat, (8 : Int32) * nI b + nI τ = nI (8 * b + τ) := fun τ => by rw [show (8 : Int32) = nI 8 from rfl, nI_mul, nI_add]
  have tn : (0 : Int32) ≤ nI t := nI_pos' (by omega)
  obtain ⟨s, L, q1, q2, q3, q4, q5⟩ := run_to (G := fun m τ s => m_X7_look_2 (nI b) (nI t) m (nI τ) s) (Q := fun τ s => (∀ c, c ≠ 0 → s c = μ c) ∧ (∀ j, j ≠ 14 → j ≠ 15 → s 0 j = μ 0 j) ∧ s 0 15 = wLi (min f (ftk M τ)) ∧ ((∀ i, i < τ → M.testBit i = false) → s 0 14 = r) ∧ ∀ i, i < τ → M.testBit i = true → s 0 14 = if 0 ≤ r then r else nI t) (N := 8) (by decide) (fun m τ s hτ hq => by
    obtain ⟨q1, q2, q3, q4, q5⟩ := hq
    have V : m_X7_look_2 (nI b) (nI t) (m + 1) (nI τ) s = b_X7_look_2 (nI b) (nI t) (m_X7_look_2 (nI b) (nI t) m) (nI τ) s := rfl
    have c1 : ¬ (8 : Int32) ≤ nI τ := nI_ge (b := 8) hτ (by decide)
    unfold b_X7_look_2 at V
    rw [if_neg c1, x8, inb_t (show 8 * b + τ < 96 by omega) (by decide), gck_s, nI_clamp (show 8 * b + τ < 2 ^ 31 by omega), q1 8 (by decide), hS τ hτ] at V
    have p3 := pc8 τ hτ
    by_cases c : M.testBit τ = true
    · have v1 : wb M τ = 1 := if_pos c
      -- the first time
      have W : ((if 0 ≤ s 0 14 then some (s 0 14) else some (nI t)) : Option Int32) = some (if 0 ≤ r then r else nI t) := by
        by_cases c4 : ∀ i, i < τ → M.testBit i = false
        · rw [q4 c4]; split <;> rfl
        · have : ∃ i, i < τ ∧ M.testBit i = true := by
            apply Classical.byContradiction
            intro h
            apply c4
            intro i hi
            cases hh : M.testBit i with
            | false => rfl
            | true => exact absurd ⟨i, hi, hh⟩ h
          obtain ⟨i, hi, hh⟩ := this
          have e := q5 i hi hh
          have k0 : (0 : Int32) ≤ s 0 14 := by
            rw [e]
            by_cases c5 : 0 ≤ r
            · rw [if_pos c5]; exact c5
            · rw [if_neg c5]; exact tn
          rw [if_pos k0, e]
      rw [v1, if_neg ne10, W, gb1_s, gnm_s] at V
      have k15 : gst s 0 14 (if 0 ≤ r then r else nI t) 0 15 = wLi (min f (ftk M τ)) := by rw [gst_eq, pk_un (by decide)]; exact q3
      have fk : ftk M (τ + 1) = min (ftk M τ) (pc τ) := if_pos c
      have fin : ∀ v : Int32, v = wLi (min f (ftk M (τ + 1))) → m_X7_look_2 (nI b) (nI t) (m + 1) (nI τ) s = m_X7_look_2 (nI b) (nI t) m (nI (τ + 1)) (gst (gst s 0 14 (if 0 ≤ r then r else nI t)) 0 15 v) → ∃ s', m_X7_look_2 (nI b) (nI t) (m + 1) (nI τ) s = m_X7_look_2 (nI b) (nI t) m (nI (τ + 1)) s' ∧ (∀ c, c ≠ 0 → s' c = μ c) ∧ (∀ j, j ≠ 14 → j ≠ 15 → s' 0 j = μ 0 j) ∧ s' 0 15 = wLi (min f (ftk M (τ + 1))) ∧ ((∀ i, i < τ + 1 → M.testBit i = false) → s' 0 14 = r) ∧ ∀ i, i < τ + 1 → M.testBit i = true → s' 0 14 = if 0 ≤ r then r else nI t := fun v hv hV => by
        refine ⟨_, hV, fun c hc => by rw [gst_ne _ _ hc, gst_ne _ _ hc]; exact q1 c hc, fun j h1 h2 => by rw [gst_eq, pk_un h2, gst_eq, pk_un h1]; exact q2 j h1 h2, by rw [gst_eq, pk_us]; exact hv, fun h => ?_, fun i hi hh => ?_⟩
        · rw [h τ (by omega)] at c; cases c
        · rw [gst_eq, pk_un (by decide), gst_eq, pk_us]
      have B : ∀ s, m_X7_bits (nI τ) s = some (nI (pc τ)) := fun s => q_bits (by omega) s
      rw [k15, B, gb1_s] at V
      have l4 := ftk_le M τ
      by_cases c4 : min f (ftk M τ) = 4
      · have e4 : wLi (min f (ftk M τ)) = -4 := by rw [c4]; rfl
        rw [e4, if_pos (show (-4 : Int32) < 0 by decide), gnm_s, gnm_s, nI_1] at V
        refine fin _ ?_ V
        rw [fk, show min f (min (ftk M τ) (pc τ)) = pc τ by omega]
        exact (if_pos p3).symm
      · have e4 : wLi (min f (ftk M τ)) = nI (min f (ftk M τ)) := if_pos (by omega)
        rw [e4, if_neg (nI_pos (by omega)), gb1_s] at V
        by_cases c5 : min f (ftk M τ) ≤ pc τ
        · rw [if_pos (nI_le c5 (by omega)), gnm_s, gnm_s, nI_1] at V
          refine fin _ ?_ V
          rw [fk, show min f (min (ftk M τ) (pc τ)) = min f (ftk M τ) by omega]
          exact e4.symm
        · rw [if_neg (nI_ge (by omega) (by omega)), gnm_s, gnm_s, nI_1] at V
          refine fin _ ?_ V
          rw [fk, show min f (min (ftk M τ) (pc τ)) = pc τ by omega]
          exact (if_pos p3).symm
    · have v0 : wb M τ = 0 := if_neg c
      have fk : ftk M (τ + 1) = ftk M τ := if_neg c
      rw [v0, if_pos rfl, gnm_s, nI_1] at V
      refine ⟨s, V, q1, q2, by rw [fk]; exact q3, fun h => q4 (fun i hi => h i (by omega)), fun i hi hh => ?_⟩
      by_cases e : i = τ
      · subst e; exact absurd hh c
      · exact q5 i (by omega) hh) (fun m s hq => by
    show b_X7_look_2 (nI b) (nI t) (m_X7_look_2 (nI b) (nI t) m) (nI 8) s = _
    unfold b_X7_look_2
    rw [if_pos (show (8 : Int32) ≤ nI 8 by decide)]) (s := μ) ⟨fun c _ => rfl, fun j _ _ => rfl, by rw [h15, show ftk M 0 = 4 from rfl, show min f 4 = f by omega], fun _ => h14, fun i hi => absurd hi (by omega)⟩
  have L' : m_X7_look_2 (nI b) (nI t) gFU (nI 0) μ = some s := L
  rw [show nI 0 = 0 from rfl] at L'
  refine ⟨s, ?_, q1, q2, q3, ?_⟩
  · unfold m_X7_look
    rw [L', gb1_s]
  · by_cases c : M = 0
    · rw [if_pos c]
      exact q4 (fun i _ => by rw [c, Nat.zero_testBit])
    · rw [if_neg c]
      obtain ⟨i, hi, hh⟩ := ex_bit M hM c
      refine q5 i hi ?_
      rw [tb_testBit] at hh
      by_cases c2 : M.testBit i = true
      · exact c2
      · rw [if_neg c2] at hh; exact absurd hh (by decide)
/-- who is on his way: E by minute, place, set -/
def wCm (t : Nat) (E : Nat → Nat → Nat → Prop) (s : gMem) : Prop := ∀ u, t < u → u < t + 62 → ∀ a τ, a < 12 → τ < 8 → (E u a τ → s 9 (96 * (u % 61) + 8 * a + τ) = 1) ∧ (¬ E u a τ → s 9 (96 * (u % 61) + 8 * a + τ) = 0)
theorem wCm_c {t : Nat} {E E' : Nat → Nat → Nat → Prop} {s : gMem} (h : wCm t E s) (he : ∀ u a τ, t < u → a < 12 → τ < 8 → (E u a τ ↔ E' u a τ)) : wCm t E' s := by
  intro u h1 h2 a τ ha hτ
  rw [← he u a τ h1 ha hτ]
  exact h u h1 h2 a τ ha hτ
theorem wCm_set {t : Nat} {E : Nat → Nat → Nat → Prop} {s : gMem} (h : wCm t E s) {u0 a0 τ0 : Nat} (h1 : t < u0) (h2 : u0 < t + 62) (h3 : a0 < 12) (h4 : τ0 < 8) : wCm t (fun u a τ => E u a τ ∨ (u = u0 ∧ a = a0 ∧ τ = τ0)) (gst s 9 (96 * (u0 % 61) + 8 * a0 + τ0) 1) := by
  intro u g1 g2 a τ ha hτ
  rw [gst_eq, upd_a]
  obtain ⟨f1, f2⟩ := h u g1 g2 a τ ha hτ
  by_cases e : u = u0 ∧ a = a0 ∧ τ = τ0
  · rw [if_pos (by rw [e.1, e.2.1, e.2.2])]
    exact ⟨fun _ => rfl, fun hn => absurd (Or.inr e) hn⟩
  · by_cases e2 : 96 * (u % 61) + 8 * a + τ = 96 * (u0 % 61) + 8 * a0 + τ0
    · have m1 := Nat.mod_lt u (show 0 < 61 by decide)
      have m2 := Nat.mod_lt u0 (show 0 < 61 by decide)
      have k1 : u % 61 = u0 % 61 := by omega
      have k2 : a = a0 := by omega
      have k3 : τ = τ0 := by omega
      have k4 : u = u0 := by omega
      exact absurd ⟨k4, k2, k3⟩ e
    · rw [if_neg e2]
      exact ⟨fun h => h.elim f1 (fun h => absurd h e), fun hn => f2 (fun h => hn (Or.inl h))⟩
