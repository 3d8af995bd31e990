/-! ===== the pure part: lengths, the numbers ===== -/
def an (s S : Nat) : Nat := s &&& (255 ^^^ S)
theorem an_le (s S : Nat) : an s S ≤ s := Nat.and_le_left
theorem an_I {s S : Nat} (hs : s < 256) (hS : S < 256) : nI s &&& (nI S ^^^ (-1)) = nI (an s S) := by
  apply Int32.toBitVec_inj.mp
  show BitVec.ofNat 32 s &&& (BitVec.ofNat 32 S ^^^ BitVec.allOnes 32) = BitVec.ofNat 32 (an s S)
  apply BitVec.eq_of_getLsbD_eq
  intro i hi
  have a1 : (255 : Nat).testBit i = decide (i < 8) := Nat.testBit_two_pow_sub_one 8 i
  simp only [BitVec.getLsbD_and, BitVec.getLsbD_xor, BitVec.getLsbD_ofNat, BitVec.getLsbD_allOnes, an, Nat.testBit_and, Nat.testBit_xor, a1, hi, decide_true, Bool.true_and]
  by_cases c : i < 8
  · rw [decide_eq_true c]; cases s.testBit i <;> cases S.testBit i <;> rfl
  · have : s.testBit i = false := Nat.testBit_lt_two_pow (Nat.lt_of_lt_of_le (show s < 2 ^ 8 from hs) (Nat.pow_le_pow_right (by decide) (by omega)))
    rw [this]; rfl
/-- the fewest, by how many lengths are free to take and whose needs are left; M stands for none -/
def sV (M : Nat) (S : Nat → Nat) : Nat → Nat → Nat
  | 0, s => if s = 0 then 0 else M
  | k + 1, s => min (sV M S k s) (1 + sV M S k (an s (S (60 - k))))
theorem sV_r (S : Nat → Nat) : ∀ k, k ≤ 61 → ∀ s, (sV 99 S k s ≤ k ∧ sV 100 S k s = sV 99 S k s) ∨ (sV 99 S k s = 99 ∧ sV 100 S k s = 100) := by
  intro k
  induction k with
  | zero =>
    intro _ s
    by_cases c : s = 0
    · left; simp only [sV, c, if_true]; exact ⟨Nat.le_refl _, trivial⟩
    · right; simp only [sV, c, if_false]; exact ⟨trivial, trivial⟩
  | succ k ih =>
    intro hk s
    simp only [sV]
    have h1 := ih (by omega) s
    have h2 := ih (by omega) (an s (S (60 - k)))
    omega
/-- the choice is the same, whatever stands for none -/
theorem sV_eq (S : Nat → Nat) {k : Nat} (hk : k < 61) (s : Nat) : (sV 100 S (k + 1) s = 1 + sV 100 S k (an s (S (60 - k)))) ↔ (sV 99 S (k + 1) s = 1 + sV 99 S k (an s (S (60 - k)))) := by
  simp only [sV]
  have h1 := sV_r S k (by omega) s
  have h2 := sV_r S k (by omega) (an s (S (60 - k)))
  omega
theorem sV_b (S : Nat → Nat) {k : Nat} (hk : k ≤ 61) (s : Nat) : sV 99 S k s ≤ 99 ∧ sV 100 S k s ≤ 100 := by
  have h1 := sV_r S k hk s; omega
/-- a loop over memories that counts up -/
theorem run_up (G : Nat → Nat → gMem → Option gMem) (Q : Nat → gMem → Prop) (N : Nat) (hs : ∀ n i s, i < N → Q i s → ∃ s', G (n + 1) i s = G n (i + 1) s' ∧ Q (i + 1) s') (hf : ∀ n s, Q N s → G (n + 1) N s = some s) : ∀ d i n s, i + d = N → d < n → Q i s → ∃ s', G n i s = some s' ∧ Q N s' := by
  intro d
  induction d with
  | zero =>
    intro i n s hi hn hq
    obtain ⟨m, rfl⟩ : ∃ m, n = m + 1 := ⟨n - 1, by omega⟩
    rw [show i = N by omega] at hq ⊢
    exact ⟨s, hf m s hq, hq⟩
  | succ d ih =>
    intro i n s hi hn hq
    obtain ⟨m, rfl⟩ : ∃ m, n = m + 1 := ⟨n - 1, by omega⟩
    obtain ⟨s', e, hq'⟩ := hs m i s (by omega) hq
    obtain ⟨s2, e2, hq2⟩ := ih (i + 1) m s' (by omega) (by omega) hq'
    exact ⟨s2, e.trans e2, hq2⟩
theorem run_to {G : Nat → Nat → gMem → Option gMem} {Q : Nat → gMem → Prop} {N : Nat} (hN : N < 100000) (hs : ∀ n i s, i < N → Q i s → ∃ s', G (n + 1) i s = G n (i + 1) s' ∧ Q (i + 1) s') (hf : ∀ n s, Q N s → G (n + 1) N s = some s) {s : gMem} (h : Q 0 s) : ∃ s', G gFU 0 s = some s' ∧ Q N s' :=
  run_up G Q N hs hf N 0 gFU s (by omega) hN h
/-- whose needs, among the first -/
def sN (z : Nat → Int32) : Nat → Nat
  | 0 => 0
  | j + 1 => so (sN z j) (z (90 + j)).toNatClampNeg
/-- whose needs a length meets, among the first -/
def sS (z : Nat → Int32) (N l : Nat) : Nat → Nat
  | 0 => N
  | j + 1 => if sM z j (nI l) = 0 then cl (sS z N l j) (z (90 + j)).toNatClampNeg else sS z N l j
theorem wf_need {p q n y : Nat} {z : Nat → Int32} (w : WF p q n y z) {j : Nat} (hj : j < n) : ∃ i a t, i < q ∧ a < p ∧ t < 24 ∧ z (90 + j) = nI i ∧ z (100 + j) = nI a ∧ z (110 + j) = nI t := by
  obtain ⟨⟨i, hi, e1⟩, ⟨a, ha, e2⟩, t, ht, e3⟩ := w.2.2.2.2.2.2.1 j hj
  exact ⟨i, a, t, hi, ha, ht, e1, e2, e3⟩
theorem sN_r {p q n y : Nat} {z : Nat → Int32} (w : WF p q n y z) : ∀ j, j ≤ n → sN z j < 256 := by
  intro j
  induction j with
  | zero => intro _; show 0 < 256; decide
  | succ j ih =>
    intro hj
    obtain ⟨i, a, t, hi, -, -, e, -, -⟩ := wf_need w (show j < n by omega)
    have q8 := w.1.2.2.2.2.2.1
    simp only [sN, e, nI_clamp (show i < 2 ^ 31 by omega)]
    exact (so_r _ (ih (by omega)) i (by omega)).2.1
theorem sS_r {p q n y : Nat} {z : Nat → Int32} (w : WF p q n y z) {N : Nat} (hN : N < 256) (l : Nat) : ∀ j, j ≤ n → sS z N l j < 256 := by
  intro j
  induction j with
  | zero => intro _; exact hN
  | succ j ih =>
    intro hj
    obtain ⟨i, a, t, hi, -, -, e, -, -⟩ := wf_need w (show j < n by omega)
    have q8 := w.1.2.2.2.2.2.1
    have h := ih (by omega)
    simp only [sS, e, nI_clamp (show i < 2 ^ 31 by omega)]
    split
    · have := (cl_r _ h i (by omega)).1; omega
    · exact h
theorem q_metBy {σ : gMem} {z : Nat → Int32} (hR : Rg 1 13 σ z) {p q n y : Nat} (w : WF p q n y z) {j l : Nat} (hj : j < n) (hl : l ≤ 60) : m_X1_isMet (nI j) (nI l) σ = some (sM z j (nI l)) := by
  obtain ⟨i, a, t, hi, ha, ht, e1, e2, e3⟩ := wf_need w hj
  have p12 := w.1.2.2.2.2.1
  have q8 := w.1.2.2.2.2.2.1
  have n10 := w.1.2.2.2.2.2.2.1
  rw [q_isMet hR (show j < 10 by omega) e1 (by omega) e2 (by omega) e3 ht (by rw [nI_toInt (by omega)]; omega)]
  simp only [sM, e1, e2, e3, nI_clamp (show i < 2 ^ 31 by omega), nI_clamp (show a < 2 ^ 31 by omega), nI_clamp (show t < 2 ^ 31 by omega)]
theorem q_suited {σ : gMem} {z : Nat → Int32} (hR : Rg 1 13 σ z) {p q n y : Nat} (w : WF p q n y z) {N l : Nat} (hN : N < 256) (e : σ 136 0 = nI N) (hl : l ≤ 60) : m_X4_suitedBy (nI l) σ = some (nI (sS z N l n)) := by
  have n10 := w.1.2.2.2.2.2.2.1
  have q8 := w.1.2.2.2.2.2.1
  have hn : σ 1 12 = nI n := (Rg_nee hR).trans w.1.2.2.1
  have L : m_X4_suitedBy_8 (nI l) σ gFU (nI N) 0 = some (nI (sS z N l n)) := by
    refine for_to (fun m j => m_X4_suitedBy_8 (nI l) σ m (nI (sS z N l j)) (nI j)) n _ (fun m j hj => ?_) (fun m => ?_) (by omega)
    · show b_X4_suitedBy_8 (nI l) σ (m_X4_suitedBy_8 (nI l) σ m) _ (nI j) = _
      have c1 : ¬ nI n ≤ nI j := nI_ge hj (by omega)
      obtain ⟨i, a, t, hi, ha, ht, e1, e2, e3⟩ := wf_need w hj
      simp only [b_X4_suitedBy_8, hn, c1, if_false, q_metBy hR w hj hl, gb1_s, inb_t (show j < 10 by omega) (show 10 < 2 ^ 31 by decide), gck_s, gnm_s, nI_clamp (show j < 2 ^ 31 by omega), Rg_who hR (show j < 10 by omega), e1, fb3 _ (sS_r w hN l j (by omega)) i (by omega), nI_1, sS, nI_clamp (show i < 2 ^ 31 by omega)]
      split <;> rfl
    · show b_X4_suitedBy_8 (nI l) σ (m_X4_suitedBy_8 (nI l) σ m) _ (nI n) = _
      simp only [b_X4_suitedBy_8, hn, nI_le (Nat.le_refl n) (show n < 2 ^ 31 by omega), if_true]
  simp only [m_X4_suitedBy, gnm_s, e, L, gb1_s]
theorem q_needyX {σ : gMem} {z : Nat → Int32} (hR : Rg 1 13 σ z) {p q n y : Nat} (w : WF p q n y z) : m_X4_weigh_7 gFU 0 (gst σ 136 0 0) = some (gst σ 136 0 (nI (sN z n))) := by
  have n10 := w.1.2.2.2.2.2.2.1
  have q8 := w.1.2.2.2.2.2.1
  refine for_to (fun m j => m_X4_weigh_7 m (nI j) (gst σ 136 0 (nI (sN z j)))) n _ (fun m j hj => ?_) (fun m => ?_) (by omega)
  · show b_X4_weigh_7 (m_X4_weigh_7 m) (nI j) _ = _
    have hn : gst σ 136 0 (nI (sN z j)) 1 12 = nI n := by rw [gst_ne _ _ (by decide)]; exact (Rg_nee hR).trans w.1.2.2.1
    have hw : gst σ 136 0 (nI (sN z j)) 10 j = z (90 + j) := by rw [gst_ne _ _ (by decide)]; exact Rg_who hR (by omega)
    have h0 : gst σ 136 0 (nI (sN z j)) 136 0 = nI (sN z j) := by rw [gst_eq]; exact pk_us
    have c1 : ¬ nI n ≤ nI j := nI_ge hj (by omega)
    obtain ⟨i, a, t, hi, ha, ht, e1, e2, e3⟩ := wf_need w hj
    simp only [b_X4_weigh_7, hn, c1, if_false, inb_t (show j < 10 by omega) (show 10 < 2 ^ 31 by decide), gck_s, gnm_s, nI_clamp (show j < 2 ^ 31 by omega), hw, h0, e1, fb2 _ (sN_r w j (by omega)) i (by omega), nI_1, gst_gst, sN, nI_clamp (show i < 2 ^ 31 by omega)]
  · show b_X4_weigh_7 (m_X4_weigh_7 m) (nI n) _ = _
    have hn : gst σ 136 0 (nI (sN z n)) 1 12 = nI n := by rw [gst_ne _ _ (by decide)]; exact (Rg_nee hR).trans w.1.2.2.1
    simp only [b_X4_weigh_7, hn, nI_le (Nat.le_refl n) (show n < 2 ^ 31 by omega), if_true]
