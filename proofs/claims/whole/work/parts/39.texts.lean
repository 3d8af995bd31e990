/-! ===== texts: what both readers do ===== -/
/-- a text of t bytes c, read up to x, in the class -/
def RX (σ : gMem) (t : Nat) (c : Nat → Nat) (x : Nat) : Prop := σ 49 0 = nI t ∧ t ≤ 80 ∧ (∀ i, i < t → σ 50 i = nI (c i) ∧ 32 ≤ c i ∧ c i ≤ 126) ∧ σ 49 2 = nI x ∧ x ≤ t
def RM (μ : gMem) (t : Nat) (c : Nat → Nat) (x : Nat) : Prop := μ 0 3 = nI t ∧ t ≤ 80 ∧ (∀ i, i < t → μ 2 i = nI (c i) ∧ 32 ≤ c i ∧ c i ≤ 126) ∧ μ 0 4 = nI x ∧ x ≤ t
theorem RX_go {σ : gMem} {t : Nat} {c : Nat → Nat} {x : Nat} (h : RX σ t c x) {y : Nat} (hy : y ≤ t) : RX (gst σ 49 2 (nI y)) t c y := by
  obtain ⟨a, b, d, -, -⟩ := h
  refine ⟨?_, b, fun i hi => ?_, ?_, hy⟩
  · rw [gst_eq, pk_un (by decide)]; exact a
  · rw [gst_ne _ _ (by decide)]; exact d i hi
  · rw [gst_eq, pk_us]
theorem RM_go {μ : gMem} {t : Nat} {c : Nat → Nat} {x : Nat} (h : RM μ t c x) {y : Nat} (hy : y ≤ t) : RM (gst μ 0 4 (nI y)) t c y := by
  obtain ⟨a, b, d, -, -⟩ := h
  refine ⟨?_, b, fun i hi => ?_, ?_, hy⟩
  · rw [gst_eq, pk_un (by decide)]; exact a
  · rw [gst_ne _ _ (by decide)]; exact d i hi
  · rw [gst_eq, pk_us]
/-- behind blanks, of the last d bytes -/
def sSk (c : Nat → Nat) (t : Nat) : Nat → Nat
  | 0 => t
  | d + 1 => if c (t - (d + 1)) = 32 then sSk c t d else t - (d + 1)
theorem sSk_r (c : Nat → Nat) (t : Nat) : ∀ d, d ≤ t → t - d ≤ sSk c t d ∧ sSk c t d ≤ t := by
  intro d
  induction d with
  | zero => intro _; exact ⟨Nat.sub_le _ _, Nat.le_refl _⟩
  | succ d ih =>
    intro h
    have := ih (by omega)
    simp only [sSk]
    split <;> omega
theorem q_peek0 {t : Nat} {c : Nat → Nat} : ∀ d x n σ, x + d = t → d < n → RX σ t c x → m_X3_peek_0 n σ = some (gst σ 49 2 (nI (sSk c t d))) := by
  intro d
  induction d with
  | zero =>
    intro x n σ hx hn h
    obtain ⟨m, rfl⟩ : ∃ m, n = m + 1 := ⟨n - 1, by omega⟩
    obtain ⟨a, b, e, f, g⟩ := h
    obtain rfl : x = t := by omega
    show b_X3_peek_0 (m_X3_peek_0 m) σ = _
    simp only [b_X3_peek_0, a, f, nI_le (Nat.le_refl x) (show x < 2 ^ 31 by omega), if_true, sSk, gst_self f]
  | succ d ih =>
    intro x n σ hx hn h
    obtain ⟨m, rfl⟩ : ∃ m, n = m + 1 := ⟨n - 1, by omega⟩
    have h' := h
    obtain ⟨a, b, e, f, g⟩ := h
    have xt : x < t := by omega
    have c1 : ¬ nI t ≤ nI x := nI_ge xt (by omega)
    have i80 := inb_t (show x < 80 by omega) (show 80 < 2 ^ 31 by decide)
    obtain ⟨e1, e2, e3⟩ := e x xt
    have ex : t - (d + 1) = x := by omega
    show b_X3_peek_0 (m_X3_peek_0 m) σ = _
    by_cases k : c x = 32
    · have I := ih (x + 1) m (gst σ 49 2 (nI (x + 1))) (by omega) (by omega) (RX_go h' (by omega))
      rw [gst_gst] at I
      simp only [b_X3_peek_0, a, f, c1, if_false, i80, gck_s, nI_clamp (show x < 2 ^ 31 by omega), e1, k, show nI 32 = 32 from rfl, if_true, gnm_s, nI_1, I, sSk, ex]
    · have k' : ¬ nI (c x) = 32 := fun h2 => k ((nI_eqI (b := 32) (show c x < 2 ^ 31 by omega) (by decide)).mp h2)
      simp only [b_X3_peek_0, a, f, c1, if_false, i80, gck_s, nI_clamp (show x < 2 ^ 31 by omega), e1, k', sSk, ex, k, gst_self f]
theorem q_next0 {t : Nat} {c : Nat → Nat} : ∀ d x n σ, x + d = t → d < n → RM σ t c x → m_X7_next_0 n σ = some (gst σ 0 4 (nI (sSk c t d))) := by
  intro d
  induction d with
  | zero =>
    intro x n σ hx hn h
    obtain ⟨m, rfl⟩ : ∃ m, n = m + 1 := ⟨n - 1, by omega⟩
    obtain ⟨a, b, e, f, g⟩ := h
    obtain rfl : x = t := by omega
    show b_X7_next_0 (m_X7_next_0 m) σ = _
    simp only [b_X7_next_0, a, f, nI_le (Nat.le_refl x) (show x < 2 ^ 31 by omega), if_true, sSk, gst_self f]
  | succ d ih =>
    intro x n σ hx hn h
    obtain ⟨m, rfl⟩ : ∃ m, n = m + 1 := ⟨n - 1, by omega⟩
    have h' := h
    obtain ⟨a, b, e, f, g⟩ := h
    have xt : x < t := by omega
    have c1 : ¬ nI t ≤ nI x := nI_ge xt (by omega)
    have i80 := inb_t (show x < 80 by omega) (show 80 < 2 ^ 31 by decide)
    obtain ⟨e1, e2, e3⟩ := e x xt
    have ex : t - (d + 1) = x := by omega
    show b_X7_next_0 (m_X7_next_0 m) σ = _
    by_cases k : c x = 32
    · have I := ih (x + 1) m (gst σ 0 4 (nI (x + 1))) (by omega) (by omega) (RM_go h' (by omega))
      rw [gst_gst] at I
      simp only [b_X7_next_0, a, f, c1, if_false, i80, gck_s, nI_clamp (show x < 2 ^ 31 by omega), e1, k, show nI 32 = 32 from rfl, if_true, gnm_s, nI_1, I, sSk, ex]
    · have k' : ¬ nI (c x) = 32 := fun h2 => k ((nI_eqI (b := 32) (show c x < 2 ^ 31 by omega) (by decide)).mp h2)
      simp only [b_X7_next_0, a, f, c1, if_false, i80, gck_s, nI_clamp (show x < 2 ^ 31 by omega), e1, k', sSk, ex, k, gst_self f]
/-- the next byte behind blanks; none at the end -/
theorem q_peek {σ : gMem} {t : Nat} {c : Nat → Nat} {x : Nat} (h : RX σ t c x) : m_X3_peek σ = some (if sSk c t (t - x) < t then nI (c (sSk c t (t - x))) else -1, gst σ 49 2 (nI (sSk c t (t - x)))) := by
  have L := q_peek0 (t - x) x 100000 σ (by have := h.2.2.2.2; omega) (by have := h.2.1; omega) h
  have r := (sSk_r c t (t - x) (by omega)).2
  have h' := RX_go h r
  generalize sSk c t (t - x) = y at *
  generalize eσ : gst σ 49 2 (nI y) = s at *
  obtain ⟨a, b, e, f, -⟩ := h'
  have L' : m_X3_peek_0 gFU σ = some s := L
  unfold m_X3_peek
  rw [L', gb1_s, a, f]
  by_cases k : y < t
  · rw [if_neg (nI_ge k (by omega)), inb_t (show y < 80 by omega) (by decide), gck_s, nI_clamp (by omega), (e y k).1, if_pos k]
  · rw [if_pos (nI_le (by omega) (by omega)), if_neg k]
theorem q_next {σ : gMem} {t : Nat} {c : Nat → Nat} {x : Nat} (h : RM σ t c x) : m_X7_next σ = some (if sSk c t (t - x) < t then nI (c (sSk c t (t - x))) else 0, gst σ 0 4 (nI (sSk c t (t - x)))) := by
  have L := q_next0 (t - x) x 100000 σ (by have := h.2.2.2.2; omega) (by have := h.2.1; omega) h
  have r := (sSk_r c t (t - x) (by omega)).2
  have h' := RM_go h r
  generalize sSk c t (t - x) = y at *
  generalize eσ : gst σ 0 4 (nI y) = s at *
  obtain ⟨a, b, e, f, -⟩ := h'
  have L' : m_X7_next_0 gFU σ = some s := L
  unfold m_X7_next
  rw [L', gb1_s, a, f]
  by_cases k : y < t
  · rw [if_neg (nI_ge k (by omega)), inb_t (show y < 80 by omega) (by decide), gck_s, nI_clamp (by omega), (e y k).1, if_pos k]
  · rw [if_pos (nI_le (by omega) (by omega)), if_neg k]
/-- the figures of a number: where they end, what the reference makes of them; the class stops at 100 -/
theorem q_figures {t : Nat} {c : Nat → Nat} : ∀ d x n v σ μ, x + d = t → d < n → v ≤ 9999 → RX σ t c x → RM μ t c x → ∃ e v', x ≤ e ∧ e ≤ t ∧ v' ≤ 9999 ∧ m_X3_readNumber_32 n (nI (min 100 v)) σ = some (nI (min 100 v'), gst σ 49 2 (nI e)) ∧ m_X7_number_37 n (nI v) μ = some (nI v', gst μ 0 4 (nI e)) := by
  intro d
  induction d with
  | zero =>
    intro x n v σ μ hx hn hv h1 h2
    obtain ⟨m, rfl⟩ : ∃ m, n = m + 1 := ⟨n - 1, by omega⟩
    obtain ⟨a, b, e, f, g⟩ := h1
    obtain ⟨a', b', e', f', g'⟩ := h2
    obtain rfl : x = t := by omega
    refine ⟨x, v, Nat.le_refl _, Nat.le_refl _, hv, ?_, ?_⟩
    · show b_X3_readNumber_32 (m_X3_readNumber_32 m) _ σ = _
      simp only [b_X3_readNumber_32, a, f, nI_le (Nat.le_refl x) (show x < 2 ^ 31 by omega), if_true, gst_self f]
    · show b_X7_number_37 (m_X7_number_37 m) _ μ = _
      simp only [b_X7_number_37, a', f', nI_le (Nat.le_refl x) (show x < 2 ^ 31 by omega), if_true, gst_self f']
  | succ d ih =>
    intro x n v σ μ hx hn hv h1 h2
    obtain ⟨m, rfl⟩ : ∃ m, n = m + 1 := ⟨n - 1, by omega⟩
    have h1' := h1
    have h2' := h2
    obtain ⟨a, b, e, f, g⟩ := h1
    obtain ⟨a', b', e', f', g'⟩ := h2
    have xt : x < t := by omega
    have c1 : ¬ nI t ≤ nI x := nI_ge xt (by omega)
    have i80 := inb_t (show x < 80 by omega) (show 80 < 2 ^ 31 by decide)
    obtain ⟨e1, e2, e3⟩ := e x xt
    have e4 := (e' x xt).1
    have kx := nI_clamp (show x < 2 ^ 31 by omega)
    have W : m_X6_within (nI (c x)) 48 57 σ = some (wi (nI (c x)) 48 57) := q_within _ _ _ _
    have W' : m_X7_in (nI (c x)).toInt64 48 57 μ = some (wi (nI (c x)) 48 57) := q_in (nI (c x)) 48 57 μ
    rcases wi_r (nI (c x)) 48 57 with hw | ⟨hw, r1, r2⟩
    · refine ⟨x, v, Nat.le_refl _, g, hv, ?_, ?_⟩
      · show b_X3_readNumber_32 (m_X3_readNumber_32 m) _ σ = _
        simp only [b_X3_readNumber_32, a, f, c1, if_false, i80, gck_s, kx, e1, W, gb1_s, hw, if_true, gst_self f]
      · show b_X7_number_37 (m_X7_number_37 m) _ μ = _
        simp only [b_X7_number_37, a', f', c1, if_false, i80, gck_s, kx, e4, W', gb1_s, hw, if_true, gst_self f']
    · rw [nI_toInt (by omega)] at r1 r2
      have r1' : (48 : Int) ≤ (c x : Int) := r1
      have r2' : (c x : Int) ≤ (57 : Int) := r2
      have S : ∀ u w : Nat, u ≤ 9999 → 48 ≤ w → w ≤ 57 → nI u * 10 + nI w - 48 = nI (10 * u + w - 48) := fun u w h1 h2 h3 => by
        have e1 : nI u * 10 = nI (u * 10) := nI_mul u 10
        rw [e1, nI_add, show (48 : Int32) = nI 48 from rfl, nI_sub (by omega)]; congr 1; omega
      have S2 : (10 : Int32) * nI v = nI v * 10 := Int32.mul_comm _ _
      have A := S (min 100 v) (c x) (by omega) (by omega) (by omega)
      have B := S v (c x) hv (by omega) (by omega)
      have C : gmin 100 (nI (10 * min 100 v + c x - 48)) = nI (min 100 (10 * min 100 v + c x - 48)) := gmin_nI (a := 100) (by decide) (by omega)
      obtain ⟨w, hw1, hw2, hw3⟩ : ∃ w, w ≤ 9999 ∧ min 100 w = min 100 (10 * min 100 v + c x - 48) ∧ (v ≤ 999 → w = 10 * v + c x - 48) ∧ (¬ v ≤ 999 → w = v) := by
        by_cases k : v ≤ 999
        · exact ⟨10 * v + c x - 48, by omega, by omega, fun _ => rfl, fun h => absurd k h⟩
        · exact ⟨v, hv, by omega, fun h => absurd h k, fun _ => rfl⟩
      obtain ⟨e', v', g1, g2, g3, g4, g5⟩ := ih (x + 1) m w (gst σ 49 2 (nI (x + 1))) (gst μ 0 4 (nI (x + 1))) (by omega) (by omega) hw1 (RX_go h1' (by omega)) (RM_go h2' (by omega))
      rw [gst_gst] at g4 g5
      refine ⟨e', v', by omega, g2, g3, ?_, ?_⟩
      · show b_X3_readNumber_32 (m_X3_readNumber_32 m) _ σ = _
        simp only [b_X3_readNumber_32, a, f, c1, if_false, i80, gck_s, kx, e1, W, gb1_s, hw, ne10, gnm_s, A, C, nI_1, ← hw2, g4]
      · show b_X7_number_37 (m_X7_number_37 m) _ μ = _
        by_cases k : v ≤ 999
        · have k' : nI v ≤ 999 := nI_le (b := 999) k (by decide)
          rw [hw3.1 k] at g5
          simp only [b_X7_number_37, a', f', c1, if_false, i80, gck_s, kx, e4, W', gb1_s, hw, ne10, k', if_true, gnm_s, S2, B, nI_1, g5]
        · have k' : ¬ nI v ≤ 999 := fun h => k ((nI_leI (b := 999) (by omega) (by decide)).mp h)
          rw [hw3.2 k] at g5
          simp only [b_X7_number_37, a', f', c1, if_false, i80, gck_s, kx, e4, W', gb1_s, hw, ne10, k', gnm_s, nI_1, g5]
