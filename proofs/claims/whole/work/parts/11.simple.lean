/-! ===== the pure part: the simple calls ===== -/
def OKu (σ μ : gMem) (fx fm : Option (Int32 × gMem)) : Prop := ∃ (r : Int32) (σ' μ' : gMem), fx = some (r, σ') ∧ fm = some (r, μ') ∧ INV σ' μ'
def OKp (fx fm : Option Int32) : Prop := ∃ r : Int32, fx = some r ∧ fm = some r
theorem l62 : (62 : Int32).toNatClampNeg = 62 := rfl
theorem l63 : (63 : Int32).toNatClampNeg = 63 := rfl
theorem l64 : (64 : Int32).toNatClampNeg = 64 := rfl
theorem l65 : (65 : Int32).toNatClampNeg = 65 := rfl
theorem l60 : (60 : Int32).toNatClampNeg = 60 := rfl
theorem l61 : (61 : Int32).toNatClampNeg = 61 := rfl
theorem in62 : inb 62 528 = true := rfl
theorem in63 : inb 63 528 = true := rfl
theorem in64 : inb 64 528 = true := rfl
theorem in65 : inb 65 528 = true := rfl
theorem in60 : inb 60 528 = true := rfl
theorem in61 : inb 61 528 = true := rfl
theorem izb_w {x : Int32} (h : x = 0 ∨ x = 1) : izb x = true := by rcases h with rfl | rfl <;> rfl
/-- a place, a person: not there, or the number of one that is -/
theorem wi_c {n : Nat} (hn : n ≤ 1000) (a : Int32) : wi a 0 (nI n - 1) = 0 ∨ (wi a 0 (nI n - 1) = 1 ∧ ∃ i, i < n ∧ a = nI i) := by
  by_cases h : wi a 0 (nI n - 1) = 0
  · exact Or.inl h
  · refine Or.inr ⟨?_, ?_⟩
    · have := izb_wi a 0 (nI n - 1); simp [izb, h] at this; exact this
    · have h2 := wi_1.mp h
      have e : (nI n - 1).toInt = (n : Int) - 1 := by
        rw [i32_sub (by rw [nI_toInt (by omega)]; show _ ≤ _ - (1 : Int); omega) (by rw [nI_toInt (by omega)]; show _ - (1 : Int) < _; omega), nI_toInt (by omega)]; rfl
      rw [e, show (0 : Int32).toInt = 0 from rfl] at h2
      obtain ⟨j, hj, rfl⟩ := nat_of (n := n - 1) h2.1 (by omega) (by omega)
      rw [nI_toInt (by omega)] at h2
      exact ⟨j, by omega, rfl⟩
theorem wi_r (a b c : Int32) : wi a b c = 0 ∨ (wi a b c = 1 ∧ b.toInt ≤ a.toInt ∧ a.toInt ≤ c.toInt) := by
  by_cases h : wi a b c = 0
  · exact Or.inl h
  · refine Or.inr ⟨?_, wi_1.mp h⟩
    have := izb_wi a b c; simp [izb, h] at this; exact this
theorem wi_n {m : Nat} (hm : m ≤ 100000) (a : Int32) : wi a 0 (nI m) = 0 ∨ (wi a 0 (nI m) = 1 ∧ ∃ i, i ≤ m ∧ a = nI i) := by
  rcases wi_r a 0 (nI m) with h | ⟨h, h1, h2⟩
  · exact Or.inl h
  · rw [nI_toInt (by omega)] at h2
    obtain ⟨j, hj, rfl⟩ := nat_of (n := m) h1 (by omega) (by omega)
    exact Or.inr ⟨h, j, hj, rfl⟩
theorem q_hasPlace {σ : gMem} {z : Nat → Int32} (h : Rg 1 13 σ z) {p : Nat} (hp : z 62 = nI p) (a : Int32) : m_X1_hasPlace a σ = some (wi a 0 (nI p - 1)) := by
  simp only [m_X1_hasPlace, q_within, gb1_s, Rg_pla h, hp, izb_wi, gck_s]
theorem q_hasPerson {σ : gMem} {z : Nat → Int32} (h : Rg 1 13 σ z) {q : Nat} (hq : z 63 = nI q) (a : Int32) : m_X1_hasPerson a σ = some (wi a 0 (nI q - 1)) := by
  simp only [m_X1_hasPerson, q_within, gb1_s, Rg_peo h, hq, izb_wi, gck_s]
theorem q_isPlace {μ : gMem} {p : Nat} (hp : μ 1 62 = nI p) (a : Int32) : m_X7_isPlace a μ = some (wi a 0 (nI p - 1)) := by
  have e : (0 : Int64) = (0 : Int32).toInt64 := rfl
  simp only [m_X7_isPlace, in62, gck_s, l62, hp, e, q_in, gb1_s, izb_wi]
theorem q_isPerson {μ : gMem} {q : Nat} (hq : μ 1 63 = nI q) (a : Int32) : m_X7_isPerson a μ = some (wi a 0 (nI q - 1)) := by
  have e : (0 : Int64) = (0 : Int32).toInt64 := rfl
  simp only [m_X7_isPerson, in63, gck_s, l63, hq, e, q_in, gb1_s, izb_wi]
theorem q_isHour (a : Int32) (σ : gMem) : m_X6_isHour a σ = some (wi a 0 23) := by
  simp only [m_X6_isHour, q_within, gb1_s, izb_wi, gck_s]
theorem q_isHourM (a : Int32) (σ : gMem) : m_X7_isHour a σ = some (wi a 0 23) := by
  have e : m_X7_in a.toInt64 0 23 σ = some (wi a 0 23) := q_in a 0 23 σ
  simp only [m_X7_isHour, e, gb1_s, izb_wi, gck_s]
/-- a new place -/
theorem q_addPlace {σ μ : gMem} (h : SIM σ μ) {p : Nat} (hp : μ 1 62 = nI p) (hl : p < 12) (d s : Int32) : ∃ σ' μ', m_X1_addPlace d s σ = some (nI p, σ') ∧ m_X7_put d s μ = some μ' ∧ SIM σ' μ' ∧ μ' 1 = upd (upd (upd (upd (μ 1) p d) (12 + p) s) (24 + p) 0) 62 (nI (p + 1)) ∧ (∀ c, c ≠ 1 → μ' c = μ c) ∧ ∀ c, 49 ≤ c → σ' c = σ c := by
  have hσ : σ 1 0 = nI p := (Rg_pla h.1).trans hp
  have i12 : inb (nI p) 12 = true := inb_t hl (by decide)
  have e0 : (0 : Int32) + nI p = nI p := by rw [show (0 : Int32) = nI 0 from rfl, nI_add, Nat.zero_add]
  have e1 : (12 : Int32) + nI p = nI (12 + p) := by rw [show (12 : Int32) = nI 12 from rfl, nI_add]
  have e2 : (24 : Int32) + nI p = nI (24 + p) := by rw [show (24 : Int32) = nI 24 from rfl, nI_add]
  have c0 : (nI p).toNatClampNeg = p := nI_clamp (by omega)
  have c1 : (nI (12 + p)).toNatClampNeg = 12 + p := nI_clamp (by omega)
  have c2 : (nI (24 + p)).toNatClampNeg = 24 + p := nI_clamp (by omega)
  have s1 := SIM_set h (k := p) (by omega) (ca_dep hl) d
  have s2 := SIM_set s1 (k := 12 + p) (by omega) (ca_spl hl) s
  have s3 := SIM_set s2 (k := 24 + p) (by omega) (ca_sil hl) 0
  have s4 := SIM_set s3 (k := 62) (by omega) (c := 1) (s := 0) rfl (nI (p + 1))
  refine ⟨_, _, ?_, ?_, s4, ?_, ?_, ?_⟩
  · simp only [m_X1_addPlace, gst_a, hσ, i12, gck_s, gnm_s, c0, nI_1, show ((1 : Nat) = 2) = False from by decide, show ((1 : Nat) = 3) = False from by decide, show ((1 : Nat) = 4) = False from by decide, if_false]
  · simp only [m_X7_put, in62, gck_s, l62, gnm_s, hp, e0, e1, e2, c0, c1, c2, inb_t (show p < 528 by omega) (by decide), inb_t (show 12 + p < 528 by omega) (by decide), inb_t (show 24 + p < 528 by omega) (by decide), gst_eq, pk_un (show 62 ≠ 24 + p by omega), pk_un (show 62 ≠ 12 + p by omega), pk_un (show 62 ≠ p by omega), nI_1]
  · simp only [gst_eq]
  · intro c hc; simp only [gst_ne _ _ hc]
  · intro c hc; simp only [gst_a, show ¬ c = 1 by omega, show ¬ c = 1 + 1 by omega, show ¬ c = 1 + 2 by omega, show ¬ c = 1 + 3 by omega, if_false]
