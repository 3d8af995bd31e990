/-! ===== walks: light in the class ===== -/
theorem tb_testBit (m k : Nat) : tb m k = if m.testBit k = true then 1 else 0 := by
  unfold tb
  by_cases c : m.testBit k = true
  · rw [if_pos c]
    rw [Nat.testBit_eq_decide_div_mod_eq, decide_eq_true_eq] at c
    exact c
  · rw [if_neg c]
    rw [Nat.testBit_eq_decide_div_mod_eq, decide_eq_true_eq] at c
    have := Nat.mod_lt (m / 2 ^ k) (show 0 < 2 by decide)
    omega
/-- the fewest posts of some of the first sets -/
def ftk (M : Nat) : Nat → Nat
  | 0 => 4
  | τ + 1 => if M.testBit τ = true then min (ftk M τ) (pc τ) else ftk M τ
theorem ftk_le (M : Nat) : ∀ τ, ftk M τ ≤ 4 := by
  intro τ
  induction τ with
  | zero => exact Nat.le_refl _
  | succ τ ih =>
    simp only [ftk]
    split <;> omega
theorem ftk_0 : ∀ τ, ftk 0 τ = 4 := by
  intro τ
  induction τ with
  | zero => rfl
  | succ τ ih =>
    simp only [ftk]
    rw [if_neg (by rw [Nat.zero_testBit]; decide)]; exact ih
theorem q_fewestTaken {M : Nat} (hM : M < 256) (σ : gMem) : m_X5_fewestTaken (nI M) σ = some (nI (ftk M 8)) := by
  have L : m_X5_fewestTaken_4 (nI M) σ gFU (nI (ftk M 0)) (nI 0) = some (nI (ftk M 8)) := by
    refine for_to (fun m τ => m_X5_fewestTaken_4 (nI M) σ m (nI (ftk M τ)) (nI τ)) 8 _ (fun m τ hτ => ?_) (fun m => ?_) (by decide)
    · show b_X5_fewestTaken_4 (nI M) σ (m_X5_fewestTaken_4 (nI M) σ m) (nI (ftk M τ)) (nI τ) = m_X5_fewestTaken_4 (nI M) σ m (nI (ftk M (τ + 1))) (nI (τ + 1))
      have c1 : ¬ (8 : Int32) ≤ nI τ := nI_ge (b := 8) hτ (by decide)
      unfold b_X5_fewestTaken_4
      rw [if_neg c1, q_holds, gb1_s, fb1 M hM τ hτ, tb_testBit]
      simp only [ftk]
      by_cases c : M.testBit τ = true
      · rw [if_pos c, if_pos c, if_neg (show ¬ nI 1 = 0 by decide), q_bitCount (show τ < 256 by omega), gb1_s, gnm_s, gnm_s, nI_1, gmin_nI (by have := ftk_le M τ; omega) (by have := pc_r τ (by omega); omega)]
      · rw [if_neg c, if_neg c, if_pos (show nI 0 = 0 from rfl), gnm_s, nI_1]
    · show b_X5_fewestTaken_4 (nI M) σ (m_X5_fewestTaken_4 (nI M) σ m) (nI (ftk M 8)) (nI 8) = _
      unfold b_X5_fewestTaken_4
      rw [if_pos (show (8 : Int32) ≤ nI 8 by decide)]
  have L' : m_X5_fewestTaken_4 (nI M) σ gFU 4 0 = some (nI (ftk M 8)) := L
  unfold m_X5_fewestTaken
  rw [L', gb1_s]
/-- the fewest posts in the first minutes; 4: none -/
def wLt (k : gWk) (b : Nat) : Nat → Nat
  | 0 => 4
  | t + 1 => min (wLt k b t) (ftk (wS k t b) 8)
theorem wLt_le (k : gWk) (b : Nat) : ∀ t, wLt k b t ≤ 4 := by
  intro t
  induction t with
  | zero => exact Nat.le_refl _
  | succ t ih => simp only [wLt]; omega
theorem wLt_mono (k : gWk) (b t : Nat) : ∀ d, wLt k b (t + d) ≤ wLt k b t := by
  intro d
  induction d with
  | zero => exact Nat.le_refl _
  | succ d ih =>
    show min (wLt k b (t + d)) _ ≤ _
    omega
theorem wLt_gone {k : gWk} {b t : Nat} (h : ∀ u, t ≤ u → wS k u b = 0) : ∀ d, wLt k b (t + d) = wLt k b t := by
  intro d
  induction d with
  | zero => rfl
  | succ d ih =>
    show min (wLt k b (t + d)) (ftk (wS k (t + d) b) 8) = _
    rw [h (t + d) (by omega), ftk_0, ih]
    have := wLt_le k b t
    omega
def wLi (n : Nat) : Int32 := if n ≤ 3 then nI n else -4
theorem q_lightest {k : gWk} {σ : gMem} {b : Nat} (g : wG k) (hX : wX k σ) (hb : b < kn k) : ∃ s, m_X5_lightest (nI b) σ = some (wLi (wLt k b 601), s) ∧ ∀ c, c < 54 ∨ 204 ≤ c → s c = σ c := by
  have n12 := g.2.2.2.2.1
  have L : ∀ d t n (s : gMem), t + d = 601 → d < n → wX k s → wHist k t s → ∃ s', m_X5_lightest_4 (nI b) n (nI (wLt k b t)) (nI t) s = some (nI (wLt k b 601), s') ∧ ∀ c, c < 54 ∨ 204 ≤ c → s' c = s c := by
    intro d
    induction d with
    | zero =>
      intro t n s ht hn h1 h2
      obtain ⟨m, rfl⟩ : ∃ m, n = m + 1 := ⟨n - 1, by omega⟩
      refine ⟨s, ?_, fun c _ => rfl⟩
      show b_X5_lightest_4 (nI b) (m_X5_lightest_4 (nI b) m) (nI (wLt k b t)) (nI t) s = _
      have c6 : (600 : Int32) < nI t := nI_lt (a := 600) (by omega) (by omega)
      unfold b_X5_lightest_4
      rw [if_pos c6, show t = 601 by omega]
    | succ d ih =>
      intro t n s ht hn h1 h2
      obtain ⟨m, rfl⟩ : ∃ m, n = m + 1 := ⟨n - 1, by omega⟩
      obtain ⟨s', S1, S2, S3, S4⟩ := q_step g h1 h2 (show t ≤ 600 by omega)
      have c6 : ¬ (600 : Int32) < nI t := nI_nlt (a := 600) (by omega) (by decide)
      have r61 : grem (nI t) 61 = nI (t % 61) := nI_rem (b := 61) (by omega) (by decide)
      have t61 : t % 61 < 61 := Nat.mod_lt _ (by decide)
      have l4 := wLt_le k b t
      have V : m_X5_lightest_4 (nI b) (m + 1) (nI (wLt k b t)) (nI t) s = b_X5_lightest_4 (nI b) (m_X5_lightest_4 (nI b) m) (nI (wLt k b t)) (nI t) s := rfl
      unfold b_X5_lightest_4 at V
      rw [if_neg c6] at V
      by_cases c0 : wLt k b t = 0
      · rw [if_pos (show nI (wLt k b t) ≤ 0 by rw [c0]; decide)] at V
        refine ⟨s, V.trans ?_, fun c _ => rfl⟩
        have := wLt_mono k b t (d + 1)
        rw [ht] at this
        rw [show wLt k b t = wLt k b 601 by omega]
      · rw [if_neg (nI_nle (by omega) (by omega)), S1, gb2_s] at V
        by_cases c : wAn k t (kn k) = 0
        · rw [if_pos c] at V
          refine ⟨s', V.trans ?_, S4⟩
          have := wLt_gone (b := b) (t := t) (fun u hu => wAn_gone g c u hu b) (d + 1)
          rw [ht] at this
          rw [this]
        · rw [if_neg c, r61, inb_t t61 (by decide), gck_s, inb_t (show b < 12 by omega) (by decide), gck_s, nI_clamp (show t % 61 < 2 ^ 31 by omega), nI_clamp (show b < 2 ^ 31 by omega), S3 t (by omega) (by omega) b hb, q_fewestTaken (wS_lt g t b), gb1_s, gnm_s, gnm_s, nI_1, gmin_nI (by omega) (by have := ftk_le (wS k t b) 8; omega)] at V
          obtain ⟨s2, T1, T3⟩ := ih (t + 1) m s' (by omega) (by omega) S2 S3
          exact ⟨s2, V.trans T1, fun c hc => by rw [T3 c hc]; exact S4 c hc⟩
  obtain ⟨s', T1, T3⟩ := L 601 0 100000 σ (by omega) (by decide) hX (fun u hu => absurd hu (by omega))
  have T1' : m_X5_lightest_4 (nI b) gFU 4 0 σ = some (nI (wLt k b 601), s') := T1
  refine ⟨s', ?_, T3⟩
  have l4 := wLt_le k b 601
  unfold m_X5_lightest wLi
  rw [T1', gb2_s]
  by_cases c : wLt k b 601 ≤ 3
  · have y3 : nI (wLt k b 601) ≤ 3 := nI_le (b := 3) c (by decide)
    rw [if_pos y3, if_pos c]
  · have n3 : ¬ nI (wLt k b 601) ≤ 3 := nI_ge (a := 3) (by omega) (by omega)
    rw [if_neg n3, if_neg c]
