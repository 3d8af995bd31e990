/-! ===== the pure part: count, carried, type ===== -/
def rC (z : Nat → Int32) (a : Nat) : Nat → Nat
  | 0 => 0
  | b + 1 => rC z a b + if 0 < (z (120 + 12 * a + b)).toInt then 1 else 0
def cC (z : Nat → Int32) : Nat → Nat
  | 0 => 0
  | a + 1 => cC z a + rC z a a
theorem add0 (x : Int32) : x + 0 = x := by simp
theorem q_row {σ : gMem} {z : Nat → Int32} (h : Rg 1 13 σ z) {a : Nat} (ha : a < 12) (c : Nat) : m_X1_countPaths_14 (nI a) σ gFU (nI c) 0 = some (nI (c + rC z a a)) := by
  refine for_to (fun n b => m_X1_countPaths_14 (nI a) σ n (nI (c + rC z a b)) (nI b)) a _ (fun n b hb => ?_) (fun n => ?_) (by omega)
  · show b_X1_countPaths_14 (nI a) σ (m_X1_countPaths_14 (nI a) σ n) _ (nI b) = _
    have c1 : ¬ nI a ≤ nI b := nI_ge hb (by omega)
    simp only [b_X1_countPaths_14, c1, if_false, inb_t ha (show 12 < 2 ^ 31 by decide), inb_t (show b < 12 by omega) (show 12 < 2 ^ 31 by decide), gck_s, gnm_s, nI_clamp (show a < 2 ^ 31 by omega), nI_clamp (show b < 2 ^ 31 by omega), Rg_min h ha (show b < 12 by omega), i32_le0, nI_1, rC]
    by_cases q : 0 < (z (120 + 12 * a + b)).toInt
    · simp only [q, not_true_eq_false, if_false, if_true, Nat.add_assoc c]
    · simp only [q, not_false_eq_true, if_true, if_false, Nat.add_zero]
  · show b_X1_countPaths_14 (nI a) σ (m_X1_countPaths_14 (nI a) σ n) _ (nI a) = _
    simp only [b_X1_countPaths_14, nI_le (Nat.le_refl a) (show a < 2 ^ 31 by omega), if_true]
theorem q_pathOf {μ : gMem} {a b : Nat} (ha : a < 12) (hb : b < 12) : m_X7_pathOf (nI a) (nI b) μ = some (μ 1 (120 + 12 * a + b)) := by
  have e1 : (120 : Int32) + 12 * nI a + nI b = nI (120 + 12 * a + b) := by rw [show (120 : Int32) = nI 120 from rfl, show (12 : Int32) = nI 12 from rfl, nI_mul, nI_add, nI_add]
  simp only [m_X7_pathOf, e1, inb_t (show 120 + 12 * a + b < 528 by omega) (by decide), gck_s, nI_clamp (show 120 + 12 * a + b < 2 ^ 31 by omega)]
theorem q_rowM {μ : gMem} {a : Nat} (ha : a < 12) (c : Nat) : m_X7_count_32 (nI a) μ gFU (nI c) 0 = some (nI (c + rC (μ 1) a a)) := by
  refine for_to (fun n b => m_X7_count_32 (nI a) μ n (nI (c + rC (μ 1) a b)) (nI b)) a _ (fun n b hb => ?_) (fun n => ?_) (by omega)
  · show b_X7_count_32 (nI a) μ (m_X7_count_32 (nI a) μ n) _ (nI b) = _
    have c1 : ¬ nI a ≤ nI b := nI_ge hb (by omega)
    simp only [b_X7_count_32, c1, if_false, q_pathOf ha (show b < 12 by omega), gb1_s, gnm_s, i32_le0, nI_1, rC, add0]
    by_cases q : 0 < (μ 1 (120 + 12 * a + b)).toInt
    · simp only [q, not_true_eq_false, if_false, if_true, Nat.add_assoc c]
    · simp only [q, not_false_eq_true, if_true, if_false, Nat.add_zero]
  · show b_X7_count_32 (nI a) μ (m_X7_count_32 (nI a) μ n) _ (nI a) = _
    simp only [b_X7_count_32, nI_le (Nat.le_refl a) (show a < 2 ^ 31 by omega), if_true]
theorem cC_p {p q n y : Nat} {z : Nat → Int32} (w : WF p q n y z) : ∀ a, p ≤ a → a ≤ 12 → cC z a = cC z p := by
  intro a
  induction a with
  | zero => intro h _; rw [show p = 0 by omega]
  | succ a ih =>
    intro h1 h2
    by_cases e : p = a + 1
    · rw [e]
    · have r0 : ∀ b, b ≤ a → rC z a b = 0 := by
        intro b
        induction b with
        | zero => intro _; rfl
        | succ b ihb =>
          intro hb
          have := (w.2.2.2.2.2.2.2 a b (by omega) (by omega)).2.2.2.2 (by omega)
          simp only [rC, ihb (by omega), this, show ¬ 0 < (0 : Int32).toInt from by decide, if_false]
      show cC z a + rC z a a = _
      rw [r0 a (Nat.le_refl _), ih (by omega) (by omega), Nat.add_zero]
theorem p_count {σ μ : gMem} (h : INV σ μ) (a : Int32) : OKp (m_X6_count a σ) (m_X7_count a μ) := by
  obtain ⟨hs, p, q, n, y, w⟩ := h
  have hp := w.1.1
  have hp12 := w.1.2.2.2.2.1
  have ea : m_X7_in a.toInt64 0 4 μ = some (wi a 0 4) := q_in a 0 4 μ
  have hσ : σ 1 0 = nI p := (Rg_pla hs.1).trans hp
  rcases wi_n (m := 4) (by decide) a with hv | ⟨hv, j, hj, rfl⟩
  · replace hv : wi a 0 4 = 0 := hv
    refine ⟨-1, ?_, by simp only [m_X7_count, ea, gb1_s, hv, if_true]⟩
    have d : ∀ v : Nat, v ≤ 4 → ¬ a = nI v := by
      intro v hv2 e
      subst e
      rw [wi_0] at hv
      exact hv ⟨by rw [nI_toInt (by omega)]; show (0 : Int) ≤ _; omega, by rw [nI_toInt (by omega)]; show _ ≤ (4 : Int); omega⟩
    have d0 : ¬ a = 0 := d 0 (by decide)
    have d1 : ¬ a = 1 := d 1 (by decide)
    have d2 : ¬ a = 2 := d 2 (by decide)
    have d3 : ¬ a = 3 := d 3 (by decide)
    have d4 : ¬ a = 4 := d 4 (by decide)
    simp only [m_X6_count, d0, d1, d2, d3, d4, if_false]
  rcases (show j = 0 ∨ j = 1 ∨ j = 2 ∨ j = 3 ∨ j = 4 by omega) with rfl | rfl | rfl | rfl | rfl
  · show OKp (m_X6_count 0 σ) (m_X7_count 0 μ)
    have eb : m_X7_in (0 : Int32).toInt64 0 4 μ = some 1 := q_in 0 0 4 μ
    exact ⟨nI p, by simp only [m_X6_count, if_true, hσ], by simp only [m_X7_count, eb, gb1_s, ne10, if_false, show ¬ (0 : Int32) = 1 from by decide, if_true, in62, gck_s, l62, hp]⟩
  · show OKp (m_X6_count 1 σ) (m_X7_count 1 μ)
    have eb : m_X7_in (1 : Int32).toInt64 0 4 μ = some 1 := q_in 1 0 4 μ
    have L1 : m_X1_countPaths_4 σ gFU 0 0 = some (nI (cC (μ 1) p)) := by
      refine for_to (fun n a => m_X1_countPaths_4 σ n (nI (cC (μ 1) a)) (nI a)) p _ (fun n a ha => ?_) (fun n => ?_) (by omega)
      · show b_X1_countPaths_4 σ (m_X1_countPaths_4 σ n) _ (nI a) = _
        have c1 : ¬ nI p ≤ nI a := nI_ge ha (by omega)
        simp only [b_X1_countPaths_4, hσ, c1, if_false, q_row hs.1 (show a < 12 by omega), gb1_s, gnm_s, nI_1, cC]
      · show b_X1_countPaths_4 σ (m_X1_countPaths_4 σ n) _ (nI p) = _
        simp only [b_X1_countPaths_4, hσ, nI_le (Nat.le_refl p) (show p < 2 ^ 31 by omega), if_true]
    have L2 : m_X7_count_23 μ gFU 0 0 = some (nI (cC (μ 1) 12)) := by
      refine for_to (fun n a => m_X7_count_23 μ n (nI (cC (μ 1) a)) (nI a)) 12 _ (fun n a ha => ?_) (fun n => rfl) (by omega)
      · show b_X7_count_23 μ (m_X7_count_23 μ n) _ (nI a) = _
        have c1 : ¬ (12 : Int32) ≤ nI a := nI_ge (b := 12) ha (by decide)
        simp only [b_X7_count_23, c1, if_false, q_rowM ha, gb1_s, gnm_s, nI_1, cC]
    rw [cC_p w 12 hp12 (Nat.le_refl _)] at L2
    exact ⟨nI (cC (μ 1) p), by simp only [m_X6_count, m_X1_countPaths, show ¬ (1 : Int32) = 0 from by decide, if_true, if_false, L1, gb1_s], by simp only [m_X7_count, eb, gb1_s, ne10, if_false, if_true, L2]⟩
  · show OKp (m_X6_count 2 σ) (m_X7_count 2 μ)
    have eb : m_X7_in (2 : Int32).toInt64 0 4 μ = some 1 := q_in 2 0 4 μ
    exact ⟨μ 1 63, by simp only [m_X6_count, show ¬ (2 : Int32) = 0 from by decide, show ¬ (2 : Int32) = 1 from by decide, if_false, if_true, Rg_peo hs.1], by simp only [m_X7_count, eb, gb1_s, ne10, if_false, show ¬ (2 : Int32) = 1 from by decide, show ¬ (2 : Int32) = 0 from by decide, if_true, in63, gck_s, l63]⟩
  · show OKp (m_X6_count 3 σ) (m_X7_count 3 μ)
    have eb : m_X7_in (3 : Int32).toInt64 0 4 μ = some 1 := q_in 3 0 4 μ
    exact ⟨μ 1 64, by simp only [m_X6_count, show ¬ (3 : Int32) = 0 from by decide, show ¬ (3 : Int32) = 1 from by decide, show ¬ (3 : Int32) = 2 from by decide, if_false, if_true, Rg_nee hs.1], by simp only [m_X7_count, eb, gb1_s, ne10, if_false, show ¬ (3 : Int32) = 1 from by decide, show ¬ (3 : Int32) = 0 from by decide, show ¬ (3 : Int32) = 2 from by decide, if_true, in64, gck_s, l64]⟩
  · show OKp (m_X6_count 4 σ) (m_X7_count 4 μ)
    have eb : m_X7_in (4 : Int32).toInt64 0 4 μ = some 1 := q_in 4 0 4 μ
    exact ⟨μ 1 65, by simp only [m_X6_count, show ¬ (4 : Int32) = 0 from by decide, show ¬ (4 : Int32) = 1 from by decide, show ¬ (4 : Int32) = 2 from by decide, show ¬ (4 : Int32) = 3 from by decide, if_false, if_true, Rg_yea hs.1], by simp only [m_X7_count, eb, gb1_s, ne10, if_false, show ¬ (4 : Int32) = 1 from by decide, show ¬ (4 : Int32) = 0 from by decide, show ¬ (4 : Int32) = 2 from by decide, show ¬ (4 : Int32) = 3 from by decide, in65, gck_s, l65]⟩
theorem and1 (x : Int32) : x &&& 1 = 0 ∨ x &&& 1 = 1 := by
  have e : (x &&& 1).toBitVec = x.toBitVec &&& 1#32 := rfl
  rw [BitVec.and_one_eq_setWidth_ofBool_getLsbD] at e
  cases q : x.toBitVec.getLsbD 0
  · rw [q] at e; exact Or.inl (Int32.toBitVec_inj.mp e)
  · rw [q] at e; exact Or.inr (Int32.toBitVec_inj.mp e)
/-- bit k of a set, 0 or 1 -/
def bt (a : Int32) (k : Nat) : Int32 := (a >>> (nI k &&& 31)) &&& 1
theorem bt_01 (a : Int32) (k : Nat) : bt a k = 0 ∨ bt a k = 1 := and1 _
theorem q_holds (a : Int32) (k : Nat) (σ : gMem) : m_X6_holds a (nI k) σ = some (bt a k) := by
  show (if bt a k = 0 then some 0 else some 1) = _
  rcases bt_01 a k with h | h <;> rw [h] <;> rfl
/-- who carries, who is carried, of the first k people -/
def sCa (f : Nat → Int32) (a : Int32) : Nat → Nat
  | 0 => 0
  | k + 1 => sCa f a k + if bt a k = 0 then 0 else if f k = 0 then 0 else 1
def sCb (f : Nat → Int32) (a : Int32) : Nat → Nat
  | 0 => 0
  | k + 1 => sCb f a k + if bt a k = 0 then 0 else if f k = 0 then 1 else 0
theorem sCa_le (f : Nat → Int32) (a : Int32) : ∀ k, sCa f a k ≤ k ∧ sCb f a k ≤ k := by
  intro k
  induction k with
  | zero => exact ⟨Nat.le_refl _, Nat.le_refl _⟩
  | succ k ih =>
    unfold sCa sCb
    constructor <;> (repeat' split) <;> omega
def sWy (c : Nat) : Nat → Int32
  | 0 => 1
  | k + 1 => sWy c k * (if c ≤ k then 0 else nI (c - k))
theorem q_ways {c b : Nat} (hc : c ≤ 8) (hb : b ≤ 8) : m_X6_carried_99 (nI c) (nI b) gFU 1 0 = some (sWy c b) ∧ m_X7_carried_110 (nI c) (nI b) gFU 1 0 = some (sWy c b) := by
  constructor
  · refine for_to (fun n k => m_X6_carried_99 (nI c) (nI b) n (sWy c k) (nI k)) b _ (fun n k hk => ?_) (fun n => ?_) (by omega)
    · show b_X6_carried_99 (nI c) (nI b) (m_X6_carried_99 (nI c) (nI b) n) _ (nI k) = _
      have c1 : ¬ nI b ≤ nI k := nI_ge hk (by omega)
      have g : gmax 0 (nI c - nI k) = if c ≤ k then 0 else nI (c - k) := by
        unfold gmax
        by_cases q : c ≤ k
        · rw [if_pos q]
          have e : (nI c - nI k).toInt = (c : Int) - k := by rw [i32_sub (by rw [nI_toInt (by omega), nI_toInt (by omega)]; omega) (by rw [nI_toInt (by omega), nI_toInt (by omega)]; omega), nI_toInt (by omega), nI_toInt (by omega)]
          rw [if_neg (by rw [i32_lt, e]; show ¬ (0 : Int) < _; omega)]
        · have lt : (0 : Int32) < nI (c - k) := nI_lt (a := 0) (b := c - k) (by omega) (by omega)
          rw [if_neg q, nI_sub (by omega), if_pos lt]
      simp only [b_X6_carried_99, c1, if_false, gnm_s, g, nI_1, sWy]
    · show b_X6_carried_99 (nI c) (nI b) (m_X6_carried_99 (nI c) (nI b) n) _ (nI b) = _
      simp only [b_X6_carried_99, nI_le (Nat.le_refl b) (show b < 2 ^ 31 by omega), if_true]
  · refine for_to (fun n k => m_X7_carried_110 (nI c) (nI b) n (sWy c k) (nI k)) b _ (fun n k hk => ?_) (fun n => ?_) (by omega)
    · show b_X7_carried_110 (nI c) (nI b) (m_X7_carried_110 (nI c) (nI b) n) _ (nI k) = _
      have c1 : ¬ nI b ≤ nI k := nI_ge hk (by omega)
      by_cases q : c ≤ k
      · simp only [b_X7_carried_110, c1, if_false, nI_le q (show k < 2 ^ 31 by omega), if_true, gnm_s, nI_1, sWy, q]
      · simp only [b_X7_carried_110, c1, if_false, nI_ge (show k < c by omega) (show c < 2 ^ 31 by omega), gnm_s, nI_sub (show k ≤ c by omega), nI_1, sWy, q]
    · show b_X7_carried_110 (nI c) (nI b) (m_X7_carried_110 (nI c) (nI b) n) _ (nI b) = _
      simp only [b_X7_carried_110, nI_le (Nat.le_refl b) (show b < 2 ^ 31 by omega), if_true]
theorem q_hasPeople {σ : gMem} {z : Nat → Int32} (h : Rg 1 13 σ z) (a : Int32) : m_X1_hasPeople a σ = some (wi a 1 (((1 : Int32) <<< (z 63 &&& 31)) - 1)) := by
  simp only [m_X1_hasPeople, q_within, gb1_s, Rg_peo h, izb_wi, gck_s]
theorem q_isSet {μ : gMem} (a : Int32) : m_X7_isSet a μ = some (wi a 1 (((1 : Int32) <<< (μ 1 63 &&& 31)) - 1)) := by
  have e : (1 : Int64) = (1 : Int32).toInt64 := rfl
  simp only [m_X7_isSet, in63, gck_s, l63, e, q_in, gb1_s, izb_wi]
theorem p_carried {σ μ : gMem} (h : INV σ μ) (a b c : Int32) : OKp (m_X6_carried a b c σ) (m_X7_carried a b c μ) := by
  obtain ⟨hs, p, q, n, y, w⟩ := h
  have hp := w.1.1
  have hq := w.1.2.1
  have hp12 := w.1.2.2.2.2.1
  have hq8 := w.1.2.2.2.2.2.1
  have hσ : σ 1 8 = nI q := (Rg_peo hs.1).trans hq
  rcases wi_r a 1 (((1 : Int32) <<< (μ 1 63 &&& 31)) - 1) with hu | ⟨hu, -⟩
  · exact ⟨-1, by simp only [m_X6_carried, q_hasPeople hs.1, gb1_s, hu, if_true], by simp only [m_X7_carried, q_isSet, gb1_s, hu, if_true]⟩
  rcases wi_c (n := p) (by omega) b with hw | ⟨hw, i, hi, rfl⟩
  · exact ⟨-1, by simp only [m_X6_carried, q_hasPeople hs.1, q_hasPlace hs.1 hp, gb1_s, hu, hw, ne10, if_true, if_false], by simp only [m_X7_carried, q_isSet, q_isPlace hp, gb1_s, hu, hw, ne10, if_true, if_false]⟩
  rcases wi_n (m := 23) (by decide) c with hv | ⟨hv, t, ht, rfl⟩
  · replace hv : wi c 0 23 = 0 := hv
    exact ⟨-1, by simp only [m_X6_carried, q_hasPeople hs.1, q_hasPlace hs.1 hp, q_isHour, gb1_s, hu, hw, hv, ne10, if_true, if_false], by simp only [m_X7_carried, q_isSet, q_isPlace hp, q_isHourM, gb1_s, hu, hw, hv, ne10, if_true, if_false]⟩
  replace hv : wi (nI t) 0 23 = 1 := hv
  obtain ⟨f, hf⟩ : ∃ f : Nat → Int32, f = fun k => sD (μ 1) k (μ 1 (74 + k)) i t := ⟨_, rfl⟩
  have F : ∀ k, k < q → m_X1_standsAt (nI k) (nI i) (nI t) σ = some (f k) ∧ m_X7_does (nI k) (nI i) (nI t) μ = some (f k) ∧ (f k = 0 ∨ f k = 1) := by
    intro k hk
    obtain ⟨-, g1, g2, -⟩ := w.2.2.2.2.2.1 k hk
    subst hf
    exact ⟨q_standsAt hs.1 (by omega) (by omega) (by omega) ⟨g1, by omega⟩, q_does (by omega) (by omega) (by omega), sD_01 _ _ _ _ _⟩
  clear hf
  have L1 : m_X6_carried_40 a (nI i) (nI t) σ gFU 0 0 0 = some (nI (sCa f a q), nI (sCb f a q)) := by
    refine for_to (fun m k => m_X6_carried_40 a (nI i) (nI t) σ m (nI (sCa f a k)) (nI (sCb f a k)) (nI k)) q _ (fun m k hk => ?_) (fun m => ?_) (by omega)
    · show b_X6_carried_40 a (nI i) (nI t) σ (m_X6_carried_40 a (nI i) (nI t) σ m) _ _ (nI k) = _
      have c1 : ¬ nI q ≤ nI k := nI_ge hk (by omega)
      obtain ⟨F1, -, F3⟩ := F k hk
      simp only [b_X6_carried_40, hσ, c1, if_false, q_holds, gb1_s, F1, gnm_s, nI_1, sCa, sCb]
      rcases bt_01 a k with b0 | b0
      · simp only [b0, if_true, Nat.add_zero]
      · rcases F3 with f0 | f0 <;> simp only [b0, f0, ne10, if_true, if_false, Nat.add_zero]
    · show b_X6_carried_40 a (nI i) (nI t) σ (m_X6_carried_40 a (nI i) (nI t) σ m) _ _ (nI q) = _
      simp only [b_X6_carried_40, hσ, nI_le (Nat.le_refl q) (show q < 2 ^ 31 by omega), if_true]
  have L2 : m_X7_carried_34 a (nI i) (nI t) μ gFU 0 0 0 = some (nI (sCa f a q), nI (sCb f a q)) := by
    refine for_to (fun m k => m_X7_carried_34 a (nI i) (nI t) μ m (nI (sCa f a k)) (nI (sCb f a k)) (nI k)) q _ (fun m k hk => ?_) (fun m => ?_) (by omega)
    · show b_X7_carried_34 a (nI i) (nI t) μ (m_X7_carried_34 a (nI i) (nI t) μ m) _ _ (nI k) = _
      have c1 : ¬ nI q ≤ nI k := nI_ge hk (by omega)
      obtain ⟨-, F2, F3⟩ := F k hk
      have e1 : ∀ x : Int32, x + 0 = x := add0
      have eb : (a >>> (nI k &&& 31)) &&& 1 = bt a k := rfl
      simp only [b_X7_carried_34, in63, gck_s, l63, hq, c1, if_false, gb1_s, F2, gnm_s, nI_1, sCa, sCb, eb]
      rcases bt_01 a k with b0 | b0 <;> rcases F3 with f0 | f0 <;> simp only [b0, f0, ne10, if_true, if_false, Nat.add_zero, gb1_s, add0, nI_1]
    · show b_X7_carried_34 a (nI i) (nI t) μ (m_X7_carried_34 a (nI i) (nI t) μ m) _ _ (nI q) = _
      simp only [b_X7_carried_34, in63, gck_s, l63, hq, nI_le (Nat.le_refl q) (show q < 2 ^ 31 by omega), if_true]
  obtain ⟨u1, u2⟩ := sCa_le f a q
  obtain ⟨W1, W2⟩ := q_ways (c := sCa f a q) (b := sCb f a q) (by omega) (by omega)
  exact ⟨sWy (sCa f a q) (sCb f a q), by simp only [m_X6_carried, q_hasPeople hs.1, q_hasPlace hs.1 hp, q_isHour, gb1_s, hu, hw, hv, ne10, if_false, L1, gb2_s, W1], by simp only [m_X7_carried, q_isSet, q_isPlace hp, q_isHourM, gb1_s, hu, hw, hv, ne10, if_false, L2, gb2_s, W2]⟩
