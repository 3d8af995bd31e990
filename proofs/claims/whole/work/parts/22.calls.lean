/-! ===== the pure part: type, years, wrong ===== -/
def by8 (w : Int64) (k : Int32) : Int64 := (w >>> ((8 * k).toInt64 &&& 63)) &&& 255
theorem by8_r (w : Int64) (k : Int32) : 0 ≤ (by8 w k).toInt ∧ (by8 w k).toInt ≤ 255 := by
  have e : (by8 w k).toBitVec = (w >>> ((8 * k).toInt64 &&& 63)).toBitVec &&& 255#64 := rfl
  have h : (by8 w k).toBitVec.toNat ≤ 255 := by
    rw [e, BitVec.toNat_and]; exact Nat.and_le_right
  have e2 : (by8 w k).toInt = (by8 w k).toBitVec.toNat := by
    show (by8 w k).toBitVec.toInt = _
    rw [BitVec.toInt_eq_toNat_of_lt (by omega)]
  omega
theorem by8_32 (w : Int64) (k : Int32) : (by8 w k).toInt32.toInt64 = by8 w k := by
  have h := by8_r w k
  apply Int64.toInt.inj
  rw [Int32.toInt_toInt64, Int64.toInt_toInt32]
  exact Int.bmod_eq_of_le (by omega) (by omega)
theorem q_byteOf (w : Int64) (k : Int32) (σ : gMem) : m_X6_byteOf w k σ = some (by8 w k).toInt32 := rfl
theorem INV_tape {σ μ σ' μ' : gMem} (h : INV σ μ) (h1 : ∀ c, c < 49 ∨ 205 ≤ c → σ' c = σ c) (h2 : ∀ c, c ≠ 0 → c ≠ 2 → c ≠ 3 → μ' c = μ c) (h4 : μ' 0 1 = μ 0 1) (h3 : SIMt σ' μ') : INV σ' μ' := by
  obtain ⟨⟨hR, hi, -, hs⟩, hw⟩ := h
  have e1 : μ' 1 = μ 1 := h2 1 (by decide) (by decide) (by decide)
  refine ⟨⟨?_, ?_, h3, ?_⟩, ?_⟩
  · rw [e1]; exact Rg_fr hR (fun c _ h => h1 c (by omega))
  · exact SIMi_fr hi (by rw [h1 0 (by omega)]) h4 (fun c _ h => h1 c (by omega)) (fun k _ => by rw [e1])
  · exact SIMs_fr hs (fun c h _ => h1 c (by omega)) (h2 6 (by decide) (by decide) (by decide)) (h2 5 (by decide) (by decide) (by decide)) (h2 4 (by decide) (by decide) (by decide))
  · rw [e1]; exact hw
/-- one sign more on both tapes -/
theorem q_append {σ μ : gMem} (h : INV σ μ) {t c : Nat} (ht : σ 49 0 = nI t) (hm : μ 0 3 = nI t) (ht8 : t < 80) (hc : 32 ≤ c ∧ c ≤ 126) : INV (gst (gst σ 50 t (nI c)) 49 0 (nI (t + 1))) (gst (gst μ 2 t (nI c)) 0 3 (nI (t + 1))) := by
  refine INV_tape h (fun d hd => by rw [gst_ne _ _ (by omega), gst_ne _ _ (by omega)]) (fun d h0 h2 h3 => by rw [gst_ne _ _ h0, gst_ne _ _ h2]) (by rw [gst_eq, pk_un (by decide), gst_ne _ _ (by decide)]) ⟨t + 1, by omega, by rw [gst_eq, pk_us], by rw [gst_eq, pk_us], fun i hi => ?_⟩
  rw [gst_ne _ _ (show (50 : Nat) ≠ 49 by decide), gst_ne _ _ (show (2 : Nat) ≠ 0 by decide), gst_eq, gst_eq]
  by_cases e : i = t
  · subst e; rw [pk_us, pk_us]; exact ⟨rfl, c, hc.1, hc.2, rfl⟩
  · obtain ⟨t', a', e1, -, e3⟩ := h.1.2.2.1
    have : t' = t := (nI_eq (by omega) (by omega)).mp (e1.symm.trans ht)
    subst this
    rw [pk_un e, pk_un e]; exact e3 i (by omega)
/-- the turns of a count down from n - 1: n - 1 - i -/
def dn (n i : Nat) : Int32 := Int32.ofInt ((n : Int) - 1 - i)
theorem dn_lt {n i : Nat} (h : i < n) : dn n i = nI (n - 1 - i) := by
  unfold dn nI
  rw [show (n : Int) - 1 - i = ((n - 1 - i : Nat) : Int) by omega]; rfl
theorem dn_end (n : Nat) : dn n n = -1 := by
  unfold dn
  rw [show (n : Int) - 1 - n = -1 by omega]; rfl
theorem dn_s (n i : Nat) : dn n i + (-1) = dn n (i + 1) := by
  unfold dn
  rw [show (-1 : Int32) = Int32.ofInt (-1) from rfl, ← Int32.ofInt_add]
  congr 1; omega
/-- what both tapes become -/
theorem q_type {w : Int64} {n t : Nat} (hn : n ≤ 8) (hb : ∀ k, k < n → ∃ c : Nat, 32 ≤ c ∧ c ≤ 126 ∧ (by8 w (nI k)).toInt32 = nI c) : ∀ d i (σ μ : gMem) f, i + d = n → d < f → INV σ μ → σ 49 0 = nI t → μ 0 3 = nI t → t + d ≤ 80 → ∃ σ' μ', m_X6_type_67 w f (dn n i) σ = some σ' ∧ m_X7_type_73 w f (dn n i) μ = some μ' ∧ INV σ' μ' ∧ σ' 49 0 = nI (t + d) ∧ μ' 0 3 = nI (t + d) := by
  intro d
  induction d generalizing t with
  | zero =>
    intro i σ μ f hi hf I h1 h2 h3
    obtain ⟨m, rfl⟩ : ∃ m, f = m + 1 := ⟨f - 1, by omega⟩
    have e : i = n := by omega
    subst e
    refine ⟨σ, μ, ?_, ?_, I, h1, h2⟩
    · show b_X6_type_67 w (m_X6_type_67 w m) (dn i i) σ = _
      rw [dn_end]; rfl
    · show b_X7_type_73 w (m_X7_type_73 w m) (dn i i) μ = _
      rw [dn_end]; rfl
  | succ d ih =>
    intro i σ μ f hi hf I h1 h2 h3
    obtain ⟨m, rfl⟩ : ∃ m, f = m + 1 := ⟨f - 1, by omega⟩
    obtain ⟨c, hc1, hc2, hc⟩ := hb (n - 1 - i) (by omega)
    have A := q_append I h1 h2 (by omega) ⟨hc1, hc2⟩
    have e1 : (gst (gst σ 50 t (nI c)) 49 0 (nI (t + 1))) 49 0 = nI (t + 1) := by rw [gst_eq, pk_us]
    have e2 : (gst (gst μ 2 t (nI c)) 0 3 (nI (t + 1))) 0 3 = nI (t + 1) := by rw [gst_eq, pk_us]
    obtain ⟨σ', μ', g1, g2, g3, g4, g5⟩ := ih (t := t + 1) (i + 1) _ _ m (by omega) (by omega) A e1 e2 (by omega)
    refine ⟨σ', μ', ?_, ?_, g3, by rw [g4]; congr 1; omega, by rw [g5]; congr 1; omega⟩
    · show b_X6_type_67 w (m_X6_type_67 w m) (dn n i) σ = _
      rw [← g1]
      have c0 : ¬ dn n i < 0 := by rw [dn_lt (by omega)]; exact nI_pos (by omega)
      have c8 : ¬ (80 : Int32) ≤ nI t := nI_ge (b := 80) (by omega) (by decide)
      have c9 : (by8 w (dn n i)).toInt32 = nI c := by rw [dn_lt (by omega)]; exact hc
      simp only [b_X6_type_67, c0, if_false, q_byteOf, c9, gb1_s, m_X3_append, h1, c8, inb_t (show t < 80 by omega) (by decide), gck_s, gnm_s, nI_clamp (show t < 2 ^ 31 by omega), gst_ne _ _ (show (49 : Nat) ≠ 50 by decide), nI_1, dn_s]
    · show b_X7_type_73 w (m_X7_type_73 w m) (dn n i) μ = _
      rw [← g2]
      have c0 : ¬ dn n i < 0 := by rw [dn_lt (by omega)]; exact nI_pos (by omega)
      have c9 : (((w >>> ((8 * dn n i).toInt64 &&& 63)) &&& 255).toInt32) = nI c := by
        show (by8 w (dn n i)).toInt32 = nI c
        rw [dn_lt (by omega)]; exact hc
      simp only [b_X7_type_73, c0, if_false, c9, gck_s, h2, inb_t (show t < 80 by omega) (by decide), gnm_s, nI_clamp (show t < 2 ^ 31 by omega), gst_ne _ _ (show (0 : Nat) ≠ 2 by decide), nI_1, dn_s]
theorem p_type {σ μ : gMem} (h : INV σ μ) (a : Int64) (b : Int32) : OKu σ μ (m_X6_type a b σ) (m_X7_type a b μ) := by
  have eb : m_X7_in b.toInt64 1 8 μ = some (wi b 1 8) := q_in b 1 8 μ
  rcases wi_r b 1 8 with hv | ⟨hv, h1, h2⟩
  · exact ⟨-1, σ, μ, by simp only [m_X6_type, q_within, gb1_s, hv, if_true], by simp only [m_X7_type, eb, gb1_s, hv, if_true], h⟩
  have h1 : (1 : Int) ≤ b.toInt := h1
  have h2 : b.toInt ≤ 8 := h2
  obtain ⟨n, hn, rfl⟩ := nat_of (n := 8) (by omega) h2 (by decide)
  rw [nI_toInt (by omega)] at h1
  obtain ⟨f, hf⟩ : ∃ f : Nat → Int32, f = fun k => wi (by8 a (nI k)).toInt32 32 126 := ⟨_, rfl⟩
  have L1 : m_X6_type_15 a (nI n) σ gFU 0 = some (sAll f n n) := by
    have := for_back0 (fun m i => m_X6_type_15 a (nI n) σ m (nI i)) n (fun i => sAll f n (n - i)) (fun m i hi h => ?_) (fun m => ?_) (by omega)
    · exact this
    · show b_X6_type_15 a (nI n) σ (m_X6_type_15 a (nI n) σ m) (nI i) = _
      have c1 : ¬ nI n ≤ nI i := nI_ge hi (by omega)
      have e : n - i = (n - (i + 1)) + 1 := by omega
      have e2 : n - (n - (i + 1) + 1) = i := by omega
      have ef : f i = wi (by8 a (nI i)).toInt32 32 126 := by rw [hf]
      rw [e]
      simp only [b_X6_type_15, c1, if_false, q_byteOf, q_within, gb1_s, gnm_s, nI_1, sAll, e2, ef]
      split
      · rfl
      · exact h
    · show b_X6_type_15 a (nI n) σ (m_X6_type_15 a (nI n) σ m) (nI n) = _
      simp only [b_X6_type_15, nI_le (Nat.le_refl n) (show n < 2 ^ 31 by omega), if_true, Nat.sub_self, sAll]
  have L2 : m_X7_type_17 a (nI n) μ gFU 0 = some (sAll f n n) := by
    have := for_back0 (fun m i => m_X7_type_17 a (nI n) μ m (nI i)) n (fun i => sAll f n (n - i)) (fun m i hi h => ?_) (fun m => ?_) (by omega)
    · exact this
    · show b_X7_type_17 a (nI n) μ (m_X7_type_17 a (nI n) μ m) (nI i) = _
      have c1 : ¬ nI n ≤ nI i := nI_ge hi (by omega)
      have e : n - i = (n - (i + 1)) + 1 := by omega
      have e2 : n - (n - (i + 1) + 1) = i := by omega
      have ef : f i = wi (by8 a (nI i)).toInt32 32 126 := by rw [hf]
      have eq : m_X7_in ((a >>> ((8 * nI i).toInt64 &&& 63)) &&& 255) 32 126 μ = some (wi (by8 a (nI i)).toInt32 32 126) := by
        have := q_in (by8 a (nI i)).toInt32 32 126 μ
        rw [by8_32] at this; exact this
      rw [e]
      simp only [b_X7_type_17, c1, if_false, eq, gb1_s, gnm_s, nI_1, sAll, e2, ef]
      split
      · rfl
      · exact h
    · show b_X7_type_17 a (nI n) μ (m_X7_type_17 a (nI n) μ m) (nI n) = _
      simp only [b_X7_type_17, nI_le (Nat.le_refl n) (show n < 2 ^ 31 by omega), if_true, Nat.sub_self, sAll]
  rcases sAll_01 f n n with A | A
  · exact ⟨-1, σ, μ, by simp only [m_X6_type, q_within, gb1_s, hv, ne10, if_false, L1, A, if_true], by simp only [m_X7_type, eb, gb1_s, hv, ne10, if_false, L2, A, if_true], h⟩
  have T := sAll_1 n (Nat.le_refl _) A
  have nn : ¬ (1 : Nat) = 0 := by decide
  obtain ⟨t, ht, e1, e2, -⟩ := h.1.2.2.1
  have l1 : nI t + nI n ≤ 80 ↔ t + n ≤ 80 := by rw [nI_add]; exact nI_leI (b := 80) (by omega) (by decide)
  have l2 : nI t ≤ 80 - nI n ↔ t + n ≤ 80 := by
    rw [show (80 : Int32) = nI 80 from rfl, nI_sub (by omega), nI_leI (by omega) (by omega)]; omega
  by_cases full : t + n ≤ 80
  · have hb : ∀ k, k < n → ∃ c : Nat, 32 ≤ c ∧ c ≤ 126 ∧ (by8 a (nI k)).toInt32 = nI c := by
      intro k hk
      have := T k (by omega) hk
      rw [hf] at this
      have := wi_1.mp this
      have r1 : (32 : Int) ≤ (by8 a (nI k)).toInt32.toInt := this.1
      have r2 : (by8 a (nI k)).toInt32.toInt ≤ (126 : Int) := this.2
      obtain ⟨c, hc, e⟩ := nat_of (n := 126) (by omega) r2 (by decide)
      rw [e, nI_toInt (by omega)] at r1
      exact ⟨c, by omega, hc, e⟩
    obtain ⟨σ', μ', g1, g2, g3, g4, g5⟩ := q_type hn hb n 0 σ μ gFU (by omega) (by show n < 100000; omega) h e1 e2 full
    have ed : nI n - 1 = dn n 0 := by
      rw [dn_lt (by omega), show (1 : Int32) = nI 1 from rfl, nI_sub (by omega)]; congr 1
    refine ⟨nI (t + n), σ', μ', ?_, ?_, g3⟩
    · simp only [m_X6_type, q_within, gb1_s, hv, ne10, if_false, L1, A, nn, e1, l2, full, if_true, gnm_s, ed, g1, g4]
    · simp only [m_X7_type, eb, gb1_s, hv, ne10, if_false, L2, A, nn, e2, l1, full, if_true, gnm_s, ed, g2, g5]
  · refine ⟨-3, σ, μ, ?_, ?_, h⟩
    · simp only [m_X6_type, q_within, gb1_s, hv, ne10, if_false, L1, A, nn, e1, l2, full]
    · simp only [m_X7_type, eb, gb1_s, hv, ne10, if_false, L2, A, nn, e2, l1, full]
