/-! ===== lengths, the reference's side; the choice ===== -/
theorem tb_sum : ∀ m, m < 256 → m = tb m 0 + 2 * tb m 1 + 4 * tb m 2 + 8 * tb m 3 + 16 * tb m 4 + 32 * tb m 5 + 64 * tb m 6 + 128 * tb m 7 := by decide +kernel
theorem tb_an (s S k : Nat) : tb (an s S) k ≤ tb s k := by
  have h := Nat.testBit_and s (255 ^^^ S) k
  rw [Nat.testBit_eq_decide_div_mod_eq, Nat.testBit_eq_decide_div_mod_eq] at h
  rcases tb_01 (an s S) k with e | e
  · omega
  · have e' : (s &&& (255 ^^^ S)) / 2 ^ k % 2 = 1 := e
    rw [decide_eq_true e'] at h
    have : s / 2 ^ k % 2 = 1 := by
      by_cases c : s / 2 ^ k % 2 = 1
      · exact c
      · rw [decide_eq_false c] at h; cases h
    rw [e]; show 1 ≤ s / 2 ^ k % 2; omega
theorem pc_an {s : Nat} (hs : s < 256) (S : Nat) : an s S = s ∨ pc (an s S) < pc s := by
  have h1 := tb_sum s hs
  have h2 := tb_sum (an s S) (Nat.lt_of_le_of_lt (an_le s S) hs)
  have a0 := tb_an s S 0
  have a1 := tb_an s S 1
  have a2 := tb_an s S 2
  have a3 := tb_an s S 3
  have a4 := tb_an s S 4
  have a5 := tb_an s S 5
  have a6 := tb_an s S 6
  have a7 := tb_an s S 7
  unfold pc
  omega
theorem sV_p (S : Nat → Nat) : ∀ k, k ≤ 61 → ∀ s, s < 256 → sV 99 S k s ≤ pc s ∨ sV 99 S k s = 99 := by
  intro k
  induction k with
  | zero =>
    intro _ s _
    by_cases c : s = 0
    · left; simp only [sV, c, if_true]; omega
    · right; simp only [sV, c, if_false]
  | succ k ih =>
    intro hk s hs
    simp only [sV]
    have h1 := ih (by omega) s hs
    have h2 := ih (by omega) (an s (S (60 - k))) (Nat.lt_of_le_of_lt (an_le _ _) hs)
    have h3 := pc_r s hs
    rcases pc_an hs (S (60 - k)) with e | e
    · rw [e]; omega
    · omega
theorem nI_eqI {a b : Nat} (ha : a < 2 ^ 31) (hb : b < 2 ^ 31) : nI a = nI b ↔ a = b := by
  rw [i32_eq, nI_toInt ha, nI_toInt hb]; omega
theorem q_wouldBy {μ : gMem} {p q n y : Nat} (w : WF p q n y (μ 1)) {j : Nat} (hj : j < n) (l : Int32) : m_X7_would (μ 1 (90 + j)) l (μ 1 (100 + j)) (μ 1 (110 + j)) μ = some (sM (μ 1) j l) := by
  obtain ⟨i, a, t, hi, ha, ht, e1, e2, e3⟩ := wf_need w hj
  have p12 := w.1.2.2.2.2.1
  have q8 := w.1.2.2.2.2.2.1
  rw [e1, e2, e3, q_would (by omega) (by omega) ht]
  simp only [sM, e1, e2, e3, nI_clamp (show i < 2 ^ 31 by omega), nI_clamp (show a < 2 ^ 31 by omega), nI_clamp (show t < 2 ^ 31 by omega)]
theorem q_needyM {μ : gMem} {p q n y : Nat} (w : WF p q n y (μ 1)) : m_X7_needy μ = some (nI (sN (μ 1) n)) := by
  have n10 := w.1.2.2.2.2.2.2.1
  have q8 := w.1.2.2.2.2.2.1
  have hn := w.1.2.2.1
  have L : m_X7_needy_4 μ gFU 0 0 = some (nI (sN (μ 1) n)) := by
    refine for_to (fun m j => m_X7_needy_4 μ m (nI (sN (μ 1) j)) (nI j)) n _ (fun m j hj => ?_) (fun m => ?_) (by omega)
    · show b_X7_needy_4 μ (m_X7_needy_4 μ m) _ (nI j) = _
      have c1 : ¬ nI n ≤ nI j := nI_ge hj (by omega)
      have f1 : (90 : Int32) + nI j = nI (90 + j) := by rw [show (90 : Int32) = nI 90 from rfl, nI_add]
      obtain ⟨i, a, t, hi, ha, ht, e1, e2, e3⟩ := wf_need w hj
      simp only [b_X7_needy_4, in64, gck_s, l64, hn, c1, if_false, f1, inb_t (show 90 + j < 528 by omega) (by decide), nI_clamp (show 90 + j < 2 ^ 31 by omega), e1, fb2 _ (sN_r w j (by omega)) i (by omega), gnm_s, nI_1, sN, nI_clamp (show i < 2 ^ 31 by omega)]
    · show b_X7_needy_4 μ (m_X7_needy_4 μ m) _ (nI n) = _
      simp only [b_X7_needy_4, in64, gck_s, l64, hn, nI_le (Nat.le_refl n) (show n < 2 ^ 31 by omega), if_true]
  simp only [m_X7_needy, L, gb1_s]
theorem q_doesFor {μ : gMem} {p q n y : Nat} (w : WF p q n y (μ 1)) (l : Nat) : m_X7_doesFor (nI l) μ = some (nI (sS (μ 1) (sN (μ 1) n) l n)) := by
  have n10 := w.1.2.2.2.2.2.2.1
  have q8 := w.1.2.2.2.2.2.1
  have hn := w.1.2.2.1
  have hN := sN_r w n (Nat.le_refl _)
  have L : m_X7_doesFor_7 (nI l) μ gFU (nI (sN (μ 1) n)) 0 = some (nI (sS (μ 1) (sN (μ 1) n) l n)) := by
    refine for_to (fun m j => m_X7_doesFor_7 (nI l) μ m (nI (sS (μ 1) (sN (μ 1) n) l j)) (nI j)) n _ (fun m j hj => ?_) (fun m => ?_) (by omega)
    · show b_X7_doesFor_7 (nI l) μ (m_X7_doesFor_7 (nI l) μ m) _ (nI j) = _
      have c1 : ¬ nI n ≤ nI j := nI_ge hj (by omega)
      have f1 : (90 : Int32) + nI j = nI (90 + j) := by rw [show (90 : Int32) = nI 90 from rfl, nI_add]
      have f2 : (100 : Int32) + nI j = nI (100 + j) := by rw [show (100 : Int32) = nI 100 from rfl, nI_add]
      have f3 : (110 : Int32) + nI j = nI (110 + j) := by rw [show (110 : Int32) = nI 110 from rfl, nI_add]
      obtain ⟨i, a, t, hi, ha, ht, e1, e2, e3⟩ := wf_need w hj
      have W := q_wouldBy w hj (nI l)
      have e4 := fb3 _ (sS_r w hN l j (by omega)) i (show i < 8 by omega)
      rw [← e1] at e4
      have e5 : (μ 1 (90 + j)).toNatClampNeg = i := by rw [e1]; exact nI_clamp (by omega)
      simp only [b_X7_doesFor_7, in64, gck_s, l64, hn, c1, if_false, f1, f2, f3, inb_t (show 90 + j < 528 by omega) (by decide), inb_t (show 100 + j < 528 by omega) (by decide), inb_t (show 110 + j < 528 by omega) (by decide), nI_clamp (show 90 + j < 2 ^ 31 by omega), nI_clamp (show 100 + j < 2 ^ 31 by omega), nI_clamp (show 110 + j < 2 ^ 31 by omega), W, gb1_s, e4, gnm_s, nI_1, sS, e5]
      split <;> rfl
    · show b_X7_doesFor_7 (nI l) μ (m_X7_doesFor_7 (nI l) μ m) _ (nI n) = _
      simp only [b_X7_doesFor_7, in64, gck_s, l64, hn, nI_le (Nat.le_refl n) (show n < 2 ^ 31 by omega), if_true]
  simp only [m_X7_doesFor, q_needyM w, L, gb1_s]
/-- the reference's row by one more length -/
theorem q_fewRow {σ : gMem} {S : Nat → Nat} {k : Nat} (hk : k < 61) (hS : ∀ l, S l < 256) (e2 : σ 11 (60 - k) = nI (S (60 - k))) (e3 : ∀ t, t < 256 → σ 10 (256 * (61 - k) + t) = nI (sV 99 S k t)) : ∃ s', m_X7_fewest_55 (nI (60 - k)) gFU 0 σ = some s' ∧ (∀ c, c ≠ 10 → s' c = σ c) ∧ (∀ x, 256 * (61 - k) ≤ x → s' 10 x = σ 10 x) ∧ ∀ t, t < 256 → s' 10 (256 * (60 - k) + t) = nI (sV 99 S (k + 1) t) := by
  have c0 : nI (60 - k) + 1 = nI (61 - k) := by rw [nI_1, show 60 - k + 1 = 61 - k by omega]
  have m0 : (256 : Int32) * nI (60 - k) = nI (256 * (60 - k)) := nI_mul 256 _
  have m1 : (256 : Int32) * nI (61 - k) = nI (256 * (61 - k)) := nI_mul 256 _
  have a61 := inb_t (show 60 - k < 61 by omega) (show 61 < 2 ^ 31 by decide)
  have k1 := nI_clamp (show 60 - k < 2 ^ 31 by omega)
  obtain ⟨s', L, q1, q2, q3⟩ := run_to (G := fun m t s => m_X7_fewest_55 (nI (60 - k)) m (nI t) s) (Q := fun i s => (∀ c, c ≠ 10 → s c = σ c) ∧ (∀ x, 256 * (61 - k) ≤ x → s 10 x = σ 10 x) ∧ ∀ t, t < i → s 10 (256 * (60 - k) + t) = nI (sV 99 S (k + 1) t)) (N := 256) (by decide) (fun m i s hi hq => by
    obtain ⟨q1, q2, q3⟩ := hq
    have f2 : s 11 (60 - k) = nI (S (60 - k)) := by rw [q1 11 (by decide)]; exact e2
    have f3 : ∀ t, t < 256 → s 10 (256 * (61 - k) + t) = nI (sV 99 S k t) := fun t ht => by rw [q2 _ (by omega)]; exact e3 t ht
    have c1 : ¬ 256 ≤ nI i := nI_ge (b := 256) hi (by decide)
    have al := an_le i (S (60 - k))
    have b1 := (sV_b S (show k ≤ 61 by omega) i).1
    have b2 := (sV_b S (show k ≤ 61 by omega) (an i (S (60 - k)))).1
    have lq := nI_leI (show sV 99 S k i < 2 ^ 31 by omega) (show 1 + sV 99 S k (an i (S (60 - k))) < 2 ^ 31 by omega)
    have o1 : (1 : Int32) + nI (sV 99 S k (an i (S (60 - k)))) = nI (1 + sV 99 S k (an i (S (60 - k)))) := nI_add 1 _
    have d1 : inb (nI (256 * (61 - k) + an i (S (60 - k)))) 15872 = true := inb_t (by omega) (by decide)
    have d2 : inb (nI (256 * (61 - k) + i)) 15872 = true := inb_t (by omega) (by decide)
    have d3 : inb (nI (256 * (60 - k) + i)) 15872 = true := inb_t (by omega) (by decide)
    refine ⟨gst s 10 (256 * (60 - k) + i) (nI (sV 99 S (k + 1) i)), ?_, fun c hc => by rw [gst_ne _ _ hc]; exact q1 c hc, fun x hx => by rw [gst_eq, pk_un (by omega)]; exact q2 x hx, fun t ht => ?_⟩
    · show b_X7_fewest_55 (nI (60 - k)) (m_X7_fewest_55 (nI (60 - k)) m) (nI i) s = _
      simp only [b_X7_fewest_55, c1, if_false, a61, gck_s, gnm_s, k1, f2, an_I (show i < 256 by omega) (hS (60 - k)), c0, m0, m1, nI_add, d1, d2, d3, nI_clamp (show 256 * (61 - k) + an i (S (60 - k)) < 2 ^ 31 by omega), nI_clamp (show 256 * (61 - k) + i < 2 ^ 31 by omega), nI_clamp (show 256 * (60 - k) + i < 2 ^ 31 by omega), f3 i hi, f3 _ (show an i (S (60 - k)) < 256 by omega), o1, lq, nI_1, sV]
      by_cases e : sV 99 S k i ≤ 1 + sV 99 S k (an i (S (60 - k)))
      · rw [if_pos e, Nat.min_eq_left e]
      · rw [if_neg e, Nat.min_eq_right (by omega)]
    · rw [gst_eq]
      by_cases e : t = i
      · rw [e]; exact pk_us
      · rw [pk_un (by omega)]; exact q3 t (by omega)) (fun m s hq => by
    show b_X7_fewest_55 (nI (60 - k)) (m_X7_fewest_55 (nI (60 - k)) m) (nI 256) s = _
    simp only [b_X7_fewest_55, show (256 : Int32) ≤ nI 256 from by decide, if_true]) (s := σ) ⟨fun c _ => rfl, fun x _ => rfl, fun t ht => absurd ht (by omega)⟩
  have L' : m_X7_fewest_55 (nI (60 - k)) gFU (nI 0) σ = some s' := L
  rw [show nI 0 = 0 from rfl] at L'
  exact ⟨s', L', q1, q2, q3⟩
/-- the reference's table -/
theorem q_fewestM {μ : gMem} {p q n y : Nat} (w : WF p q n y (μ 1)) : ∃ s', m_X7_fewest μ = some s' ∧ (∀ c, c ≠ 10 → c ≠ 11 → s' c = μ c) ∧ (∀ l, l < 61 → s' 11 l = nI (sS (μ 1) (sN (μ 1) n) l n)) ∧ ∀ k, k ≤ 61 → ∀ t, t < 256 → s' 10 (256 * (61 - k) + t) = nI (sV 99 (fun l => sS (μ 1) (sN (μ 1) n) l n) k t) := by
  have hN : sN (μ 1) n < 256 := sN_r w n (Nat.le_refl _)
  have hS : ∀ l, sS (μ 1) (sN (μ 1) n) l n < 256 := fun l => sS_r w hN l n (Nat.le_refl _)
  obtain ⟨s4, L4, p1, p2⟩ := run_to (G := fun m t s => m_X7_fewest_2 m (nI t) s) (Q := fun i s => (∀ c, c ≠ 10 → s c = μ c) ∧ ∀ t, t < i → s 10 (15616 + t) = nI (sV 99 (fun l => sS (μ 1) (sN (μ 1) n) l n) 0 t)) (N := 256) (by decide) (fun m i s hi hq => by
    obtain ⟨q1, q2⟩ := hq
    refine ⟨gst s 10 (15616 + i) (nI (sV 99 (fun l => sS (μ 1) (sN (μ 1) n) l n) 0 i)), ?_, fun c hc => by rw [gst_ne _ _ hc]; exact q1 c hc, fun t ht => ?_⟩
    · show b_X7_fewest_2 (m_X7_fewest_2 m) (nI i) s = _
      have c1 : ¬ 256 ≤ nI i := nI_ge (b := 256) hi (by decide)
      have f1 : (15616 : Int32) + nI i = nI (15616 + i) := nI_add 15616 i
      have d3 : inb (nI (15616 + i)) 15872 = true := inb_t (by omega) (by decide)
      simp only [b_X7_fewest_2, c1, if_false, f1, d3, gck_s, gnm_s, nI_clamp (show 15616 + i < 2 ^ 31 by omega), nI_1, sV]
      by_cases e : i = 0
      · rw [if_pos (show nI i = 0 by rw [e]; rfl), if_pos e]; rfl
      · rw [if_neg (nI_ne0 (by omega) (by omega)), if_neg e]; rfl
    · rw [gst_eq]
      by_cases e : t = i
      · rw [e]; exact pk_us
      · rw [pk_un (by omega)]; exact q2 t (by omega)) (fun m s hq => by
    show b_X7_fewest_2 (m_X7_fewest_2 m) (nI 256) s = _
    simp only [b_X7_fewest_2, show (256 : Int32) ≤ nI 256 from by decide, if_true]) (s := μ) ⟨fun c _ => rfl, fun t ht => absurd ht (by omega)⟩
  have L4' : m_X7_fewest_2 gFU (nI 0) μ = some s4 := L4
  rw [show nI 0 = 0 from rfl] at L4'
  obtain ⟨s7, L7, r1, r3, r4⟩ := run_to (G := fun m i s => m_X7_fewest_38 m (dI i) s) (Q := fun i s => (∀ c, c ≠ 10 → c ≠ 11 → s c = μ c) ∧ (∀ l, l < 61 → 60 - l < i → s 11 l = nI (sS (μ 1) (sN (μ 1) n) l n)) ∧ ∀ k, k ≤ i → ∀ t, t < 256 → s 10 (256 * (61 - k) + t) = nI (sV 99 (fun l => sS (μ 1) (sN (μ 1) n) l n) k t)) (N := 61) (by decide) (fun m i s hi hq => by
    obtain ⟨q1, q3, q4⟩ := hq
    have ed : dI i = nI (60 - i) := if_pos hi
    have c1 : ¬ nI (60 - i) < 0 := nI_pos (by omega)
    have es : s 1 = μ 1 := q1 1 (by decide) (by decide)
    have A := q_doesFor (μ := s) (by rw [es]; exact w) (60 - i)
    rw [es] at A
    have n1 : ∀ c, c ≠ 11 → gst s 11 (60 - i) (nI (sS (μ 1) (sN (μ 1) n) (60 - i) n)) c = s c := fun c hc => gst_ne _ _ hc
    obtain ⟨s', w1, w2, w4, w3⟩ := q_fewRow (σ := gst s 11 (60 - i) (nI (sS (μ 1) (sN (μ 1) n) (60 - i) n))) (S := fun l => sS (μ 1) (sN (μ 1) n) l n) (k := i) hi hS (by rw [gst_eq]; exact pk_us) (fun t ht => by rw [n1 _ (by decide)]; exact q4 i (Nat.le_refl _) t ht)
    refine ⟨s', ?_, fun c hc hd => by rw [w2 c hc, n1 c hd]; exact q1 c hc hd, fun l hl h => ?_, fun k hk t ht => ?_⟩
    · show b_X7_fewest_38 (m_X7_fewest_38 m) (dI i) s = m_X7_fewest_38 m (dI (i + 1)) s'
      rw [ed]
      simp only [b_X7_fewest_38, c1, if_false, A, gb1_s, inb_t (show 60 - i < 61 by omega) (show 61 < 2 ^ 31 by decide), gck_s, gnm_s, nI_clamp (show 60 - i < 2 ^ 31 by omega), w1, dI_s hi]
    · rw [w2 11 (by decide), gst_eq]
      by_cases e : l = 60 - i
      · rw [e]; exact pk_us
      · rw [pk_un e]; exact q3 l hl (by omega)
    · by_cases e : k = i + 1
      · subst e
        rw [show 61 - (i + 1) = 60 - i by omega]; exact w3 t ht
      · rw [w4 _ (by omega), n1 _ (by decide)]; exact q4 k (by omega) t ht) (fun m s hq => by
    show b_X7_fewest_38 (m_X7_fewest_38 m) (dI 61) s = _
    rw [show dI 61 = -1 from rfl]
    simp only [b_X7_fewest_38, show (-1 : Int32) < 0 from by decide, if_true]) (s := s4) ⟨fun c hc _ => p1 c hc, fun l _ h => absurd h (by omega), fun k hk t ht => by
        rw [show k = 0 by omega]; exact p2 t ht⟩
  have L7' : m_X7_fewest_38 gFU (dI 0) s4 = some s7 := L7
  rw [show dI 0 = 60 from rfl] at L7'
  have F : m_X7_fewest μ = gb1 (m_X7_fewest_2 gFU 0 μ) fun s3 => gb1 (m_X7_fewest_38 gFU 60 s3) fun s13 => some s13 := rfl
  exact ⟨s7, by rw [F, L4', gb1_s, L7', gb1_s], r1, fun l hl => r3 l hl (by omega), r4⟩
