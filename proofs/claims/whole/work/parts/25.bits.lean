/-! ===== the pure part: small sets as numbers; what does not count for the answers ===== -/
theorem INV_scr {σ μ σ' μ' : gMem} (h : INV σ μ) (h1 : ∀ c, c < 54 ∨ 204 ≤ c → σ' c = σ c) (h2 : ∀ c, c = 1 ∨ c = 2 ∨ c = 4 ∨ c = 5 ∨ c = 6 → μ' c = μ c) (h3 : μ' 0 1 = μ 0 1) (h4 : μ' 0 3 = μ 0 3) : INV σ' μ' := by
  obtain ⟨⟨hR, hi, ht, hs⟩, hw⟩ := h
  have e1 : μ' 1 = μ 1 := h2 1 (by omega)
  refine ⟨⟨?_, ?_, ?_, ?_⟩, ?_⟩
  · rw [e1]; exact Rg_fr hR (fun c _ h => h1 c (by omega))
  · exact SIMi_fr hi (by rw [h1 0 (by omega)]) h3 (fun c _ h => h1 c (by omega)) (fun k _ => by rw [e1])
  · exact SIMt_fr ht (by rw [h1 49 (by omega)]) h4 (h1 50 (by omega)) (h2 2 (by omega))
  · exact SIMs_fr hs (fun c h _ => h1 c (by omega)) (h2 6 (by omega)) (h2 5 (by omega)) (h2 4 (by omega))
  · rw [e1]; exact hw
def tb (m k : Nat) : Nat := m / 2 ^ k % 2
def so (m k : Nat) : Nat := if tb m k = 1 then m else m + 2 ^ k
def cl (m k : Nat) : Nat := if tb m k = 1 then m - 2 ^ k else m
def pc (m : Nat) : Nat := tb m 0 + tb m 1 + tb m 2 + tb m 3 + tb m 4 + tb m 5 + tb m 6 + tb m 7
theorem tb_01 (m k : Nat) : tb m k = 0 ∨ tb m k = 1 := by unfold tb; omega
theorem fb1 : ∀ m, m < 256 → ∀ k, k < 8 → bt (nI m) k = nI (tb m k) := by decide +kernel
theorem fb2 : ∀ m, m < 256 → ∀ k, k < 8 → nI m ||| ((1 : Int32) <<< (nI k &&& 31)) = nI (so m k) := by decide +kernel
theorem fb3 : ∀ m, m < 256 → ∀ k, k < 8 → nI m &&& (((1 : Int32) <<< (nI k &&& 31)) ^^^ (-1)) = nI (cl m k) := by decide +kernel
theorem fb4 : ∀ m, m < 256 → m_X7_bits_4 (nI m) gFU 0 0 = some (nI (pc m)) := by decide +kernel
theorem fb5 : ∀ m, m < 256 → m_J6_bitCount_0f7a4 (nI m) (fun _ _ => 0) = some (nI (pc m)) := by decide +kernel
theorem fb6 : ∀ n, n ≤ 8 → (1 : Int32) <<< (nI n &&& 31) = nI (2 ^ n) := by decide +kernel
theorem pow_r : ∀ n, n ≤ 8 → 1 ≤ 2 ^ n ∧ 2 ^ n ≤ 256 := by decide +kernel
theorem pow_r2 : ∀ k, k < 8 → 1 ≤ 2 ^ k ∧ 2 ^ k ≤ 128 := by decide +kernel
theorem cl_r : ∀ m, m < 256 → ∀ k, k < 8 → cl m k ≤ m ∧ (tb m k = 1 → cl m k < m ∧ cl m k + 2 ^ k = m ∧ pc (cl m k) + 1 = pc m) := by decide +kernel
theorem so_r : ∀ m, m < 256 → ∀ k, k < 8 → m ≤ so m k ∧ so m k < 256 ∧ (tb m k = 0 → so m k = m + 2 ^ k ∧ pc (so m k) = pc m + 1) := by decide +kernel
theorem pc_r : ∀ m, m < 256 → pc m ≤ 8 := by decide +kernel
theorem q_bits {m : Nat} (hm : m < 256) (σ : gMem) : m_X7_bits (nI m) σ = some (nI (pc m)) := by
  simp only [m_X7_bits, fb4 m hm, gb1_s]
theorem q_bitCount {m : Nat} (hm : m < 256) (σ : gMem) : m_J6_bitCount_0f7a4 (nI m) σ = some (nI (pc m)) := fb5 m hm
/-- within all = 2 ^ n - 1: the others -/
theorem cpl : ∀ n, n ≤ 8 → ∀ m, m < 2 ^ n → pc (2 ^ n - 1 - m) + pc m = n ∧ ∀ k, k < n → tb (2 ^ n - 1 - m) k + tb m k = 1 ∧ (tb m k = 1 → so (2 ^ n - 1 - m) k = 2 ^ n - 1 - cl m k) := by decide +kernel
theorem pc_all : ∀ n, n ≤ 8 → pc (2 ^ n - 1) = n := by decide +kernel
theorem tb_hi : ∀ n, n ≤ 8 → ∀ m, m < 2 ^ n → ∀ k, k < 8 → n ≤ k → tb m k = 0 := by decide +kernel
theorem so_hi : ∀ n, n ≤ 8 → ∀ m, m < 2 ^ n → ∀ k, k < n → so m k < 2 ^ n := by decide +kernel
theorem ex_bit : ∀ m, m < 256 → m ≠ 0 → ∃ k, k < 8 ∧ tb m k = 1 := by decide +kernel
