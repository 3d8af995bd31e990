/-! ===== the pure part: water, who stands ===== -/
def sW (z : Nat → Int32) (d : Int32) (h : Nat) (f : Int32) : Int32 := if 0 ≤ d + z (36 + h) + f then d + z (36 + h) + f else 0
def sF (z : Nat → Int32) (l w : Int32) : Int32 := if l < w then 0 else if z 61 < l - w then 0 else 1
def sB (z : Nat → Int32) (k l y w : Int32) : Int32 := if sF z (sK k l y) w = 0 then (if k = 1 then sF z (l / 2) w else 0) else 1
/-- one of people, on stilts of a length as told, at a place, an hour -/
def sD (z : Nat → Int32) (i : Nat) (l : Int32) (a h : Nat) : Int32 := sB z (z (66 + i)) l (z 65) (sW z (z a) h (z 60))
theorem sF_01 (z : Nat → Int32) (l w : Int32) : sF z l w = 0 ∨ sF z l w = 1 := by
  unfold sF; split
  · exact Or.inl rfl
  · split
    · exact Or.inl rfl
    · exact Or.inr rfl
theorem sB_01 (z : Nat → Int32) (k l y w : Int32) : sB z k l y w = 0 ∨ sB z k l y w = 1 := by
  unfold sB; split
  · split
    · exact sF_01 _ _ _
    · exact Or.inl rfl
  · exact Or.inr rfl
theorem sD_01 (z : Nat → Int32) (i : Nat) (l : Int32) (a h : Nat) : sD z i l a h = 0 ∨ sD z i l a h = 1 := sB_01 _ _ _ _ _
theorem q_waterOver {σ : gMem} {z : Nat → Int32} (h : Rg 1 13 σ z) {t : Nat} (ht : t < 24) (d f : Int32) : m_X1_waterOver d (nI t) f σ = some (sW z d t f) := by
  simp only [m_X1_waterOver, inb_t ht (show 24 < 2 ^ 31 by decide), gck_s, nI_clamp (show t < 2 ^ 31 by omega), Rg_tid h ht, sW, gmax]
  congr 1
  generalize d + z (36 + t) + f = x
  simp only [i32_lt, i32_le, show (0 : Int32).toInt = 0 from rfl]
  by_cases c : 0 < x.toInt
  · rw [if_pos c, if_pos (by omega)]
  · rw [if_neg c]
    by_cases c2 : 0 ≤ x.toInt
    · rw [if_pos c2, i32_eq]; show (0 : Int) = _; omega
    · rw [if_neg c2]
theorem q_waterAt {σ : gMem} {z : Nat → Int32} (h : Rg 1 13 σ z) {a t : Nat} (ha : a < 12) (ht : t < 24) : m_X1_waterAt (nI a) (nI t) σ = some (sW z (z a) t (z 60)) := by
  simp only [m_X1_waterAt, inb_t ha (show 12 < 2 ^ 31 by decide), gck_s, nI_clamp (show a < 2 ^ 31 by omega), Rg_dep h ha, Rg_flo h, q_waterOver h ht, gb1_s]
theorem q_waterBy {μ : gMem} {t : Nat} (ht : t < 24) (d f : Int32) : m_X7_waterBy d (nI t) f μ = some (sW (μ 1) d t f) := by
  have e : (36 : Int32) + nI t = nI (36 + t) := by rw [show (36 : Int32) = nI 36 from rfl, nI_add]
  simp only [m_X7_waterBy, e, inb_t (show 36 + t < 528 by omega) (by decide), gck_s, gnm_s, nI_clamp (show 36 + t < 2 ^ 31 by omega), sW]
  split <;> rfl
theorem q_fits {σ : gMem} {z : Nat → Int32} (h : Rg 1 13 σ z) (l w : Int32) : m_X1_fits l w σ = some (sF z l w) := by
  simp only [m_X1_fits, sF, Rg_rea h]
  split
  · rfl
  · split <;> rfl
theorem q_reaches {μ : gMem} (l w : Int32) : m_X7_reaches l w μ = some (sF (μ 1) l w) := by
  simp only [m_X7_reaches, sF, in61, gck_s, l61]
  split
  · rfl
  · split <;> rfl
theorem q_bears {σ : gMem} {z : Nat → Int32} (h : Rg 1 13 σ z) {k l y w : Int32} (hl : 0 ≤ l.toInt ∧ l.toInt ≤ 100000) : m_X1_bears k l y w σ = some (sB z k l y w) := by
  unfold m_X1_bears sB
  by_cases k1 : k = 1
  · subst k1
    have e : sK 1 l y = l := by unfold sK; rw [if_neg (by decide), if_neg (by decide)]
    simp only [if_true, q_fits h, q_byKind hl, gb1_s, e]
    rcases sF_01 z (l / 2) w with f1 | f1 <;> rcases sF_01 z l w with f2 | f2 <;> simp only [f1, f2, if_true, ne10, if_false] <;> rfl
  · simp only [k1, if_false, q_fits h, q_byKind hl, gb1_s]
    rcases sF_01 z (sK k l y) w with f2 | f2 <;> simp only [f2, if_true, ne10, if_false] <;> rfl
theorem q_standsBy {μ : gMem} {k l y w : Int32} : m_X7_standsBy k l y w μ = some (sB (μ 1) k l y w) := by
  simp only [m_X7_standsBy, sB, q_byKindM, q_reaches, gb1_s]
  rcases sF_01 (μ 1) (sK k l y) w with f2 | f2
  · rcases sF_01 (μ 1) (l / 2) w with f1 | f1
    · simp only [f1, f2, if_true]
      split <;> rfl
    · simp only [f1, f2, if_true, ne10, if_false]
      split <;> rfl
  · simp only [f2, ne10, if_false]
theorem q_would {μ : gMem} {i a t : Nat} (hi : i < 8) (ha : a < 12) (ht : t < 24) (l : Int32) : m_X7_would (nI i) l (nI a) (nI t) μ = some (sD (μ 1) i l a t) := by
  have e1 : (66 : Int32) + nI i = nI (66 + i) := by rw [show (66 : Int32) = nI 66 from rfl, nI_add]
  have e2 : (0 : Int32) + nI a = nI a := by rw [show (0 : Int32) = nI 0 from rfl, nI_add, Nat.zero_add]
  simp only [m_X7_would, e1, e2, inb_t (show 66 + i < 528 by omega) (by decide), inb_t (show a < 528 by omega) (by decide), in65, in60, l65, l60, gck_s, gb1_s, nI_clamp (show 66 + i < 2 ^ 31 by omega), nI_clamp (show a < 2 ^ 31 by omega), q_waterBy ht, q_standsBy, izb_w (sB_01 _ _ _ _ _)]
  rfl
theorem q_does {μ : gMem} {i a t : Nat} (hi : i < 8) (ha : a < 12) (ht : t < 24) : m_X7_does (nI i) (nI a) (nI t) μ = some (sD (μ 1) i (μ 1 (74 + i)) a t) := by
  have e1 : (74 : Int32) + nI i = nI (74 + i) := by rw [show (74 : Int32) = nI 74 from rfl, nI_add]
  simp only [m_X7_does, e1, inb_t (show 74 + i < 528 by omega) (by decide), gck_s, gb1_s, nI_clamp (show 74 + i < 2 ^ 31 by omega), q_would hi ha ht, izb_w (sD_01 _ _ _ _ _)]
theorem q_standsAt {σ : gMem} {z : Nat → Int32} (h : Rg 1 13 σ z) {i a t : Nat} (hi : i < 8) (ha : a < 12) (ht : t < 24) (hl : 0 ≤ (z (74 + i)).toInt ∧ (z (74 + i)).toInt ≤ 100000) : m_X1_standsAt (nI i) (nI a) (nI t) σ = some (sD z i (z (74 + i)) a t) := by
  simp only [m_X1_standsAt, inb_t hi (show 8 < 2 ^ 31 by decide), gck_s, q_waterAt h ha ht, gb1_s, nI_clamp (show i < 2 ^ 31 by omega), Rg_kin h hi, Rg_tol h hi, Rg_yea h, q_bears h hl, izb_w (sB_01 _ _ _ _ _)]
  rfl
theorem p_water {σ μ : gMem} (h : INV σ μ) (a b : Int32) : OKp (m_X6_water a b σ) (m_X7_water a b μ) := by
  obtain ⟨hs, p, q, n, y, w⟩ := h
  have hp := w.1.1
  have hp12 := w.1.2.2.2.2.1
  rcases wi_c (n := p) (by omega) a with hw | ⟨hw, i, hi, rfl⟩
  · exact ⟨-1, by simp only [m_X6_water, q_hasPlace hs.1 hp, gb1_s, hw, if_true], by simp only [m_X7_water, q_isPlace hp, gb1_s, hw, if_true]⟩
  rcases wi_n (m := 23) (by decide) b with hv | ⟨hv, t, ht, rfl⟩
  · replace hv : wi b 0 23 = 0 := hv
    exact ⟨-1, by simp only [m_X6_water, q_hasPlace hs.1 hp, q_isHour, gb1_s, hw, hv, ne10, if_true, if_false], by simp only [m_X7_water, q_isPlace hp, q_isHourM, gb1_s, hw, hv, ne10, if_true, if_false]⟩
  replace hv : wi (nI t) 0 23 = 1 := hv
  have e2 : (0 : Int32) + nI i = nI i := by rw [show (0 : Int32) = nI 0 from rfl, nI_add, Nat.zero_add]
  refine ⟨sW (μ 1) (μ 1 i) t (μ 1 60), ?_, ?_⟩
  · simp only [m_X6_water, q_hasPlace hs.1 hp, q_isHour, gb1_s, hw, hv, ne10, if_false, q_waterAt hs.1 (show i < 12 by omega) (show t < 24 by omega)]
  · simp only [m_X7_water, q_isPlace hp, q_isHourM, gb1_s, hw, hv, ne10, if_false, e2, inb_t (show i < 528 by omega) (by decide), in60, l60, gck_s, nI_clamp (show i < 2 ^ 31 by omega), q_waterBy (show t < 24 by omega)]
theorem p_stands {σ μ : gMem} (h : INV σ μ) (a b c : Int32) : OKp (m_X6_stands a b c σ) (m_X7_stands a b c μ) := by
  obtain ⟨hs, p, q, n, y, w⟩ := h
  have hp := w.1.1
  have hq := w.1.2.1
  have hp12 := w.1.2.2.2.2.1
  have hq8 := w.1.2.2.2.2.2.1
  rcases wi_c (n := q) (by omega) a with hu | ⟨hu, k, hk, rfl⟩
  · exact ⟨-1, by simp only [m_X6_stands, q_hasPerson hs.1 hq, gb1_s, hu, if_true], by simp only [m_X7_stands, q_isPerson hq, gb1_s, hu, if_true]⟩
  rcases wi_c (n := p) (by omega) b with hw | ⟨hw, i, hi, rfl⟩
  · exact ⟨-1, by simp only [m_X6_stands, q_hasPerson hs.1 hq, q_hasPlace hs.1 hp, gb1_s, hu, hw, ne10, if_true, if_false], by simp only [m_X7_stands, q_isPerson hq, q_isPlace hp, gb1_s, hu, hw, ne10, if_true, if_false]⟩
  rcases wi_n (m := 23) (by decide) c with hv | ⟨hv, t, ht, rfl⟩
  · replace hv : wi c 0 23 = 0 := hv
    exact ⟨-1, by simp only [m_X6_stands, q_hasPerson hs.1 hq, q_hasPlace hs.1 hp, q_isHour, gb1_s, hu, hw, hv, ne10, if_true, if_false], by simp only [m_X7_stands, q_isPerson hq, q_isPlace hp, q_isHourM, gb1_s, hu, hw, hv, ne10, if_true, if_false]⟩
  replace hv : wi (nI t) 0 23 = 1 := hv
  obtain ⟨-, g1, g2, -⟩ := w.2.2.2.2.2.1 k hk
  refine ⟨sD (μ 1) k (μ 1 (74 + k)) i t, ?_, ?_⟩
  · simp only [m_X6_stands, q_hasPerson hs.1 hq, q_hasPlace hs.1 hp, q_isHour, gb1_s, hu, hw, hv, ne10, if_false, q_standsAt hs.1 (show k < 8 by omega) (show i < 12 by omega) (show t < 24 by omega) ⟨g1, by omega⟩]
    rcases sD_01 (μ 1) k (μ 1 (74 + k)) i t with f | f <;> simp only [f, if_true, ne10, if_false]
  · simp only [m_X7_stands, q_isPerson hq, q_isPlace hp, q_isHourM, gb1_s, hu, hw, hv, ne10, if_false, q_does (show k < 8 by omega) (show i < 12 by omega) (show t < 24 by omega)]
    rcases sD_01 (μ 1) k (μ 1 (74 + k)) i t with f | f <;> simp only [f, if_true, ne10, if_false]
/-- a set, bit by bit -/
def sBits (f : Nat → Int32) : Nat → Int32
  | 0 => 0
  | k + 1 => if f k = 0 then sBits f k else sBits f k ||| ((1 : Int32) <<< (nI k &&& 31))
theorem or0 (x : Int32) : x ||| 0 = x := by simp
theorem p_hours {σ μ : gMem} (h : INV σ μ) (a b : Int32) : OKp (m_X6_hours a b σ) (m_X7_hours a b μ) := by
  obtain ⟨hs, p, q, n, y, w⟩ := h
  have hp := w.1.1
  have hq := w.1.2.1
  have hp12 := w.1.2.2.2.2.1
  have hq8 := w.1.2.2.2.2.2.1
  rcases wi_c (n := q) (by omega) a with hu | ⟨hu, k, hk, rfl⟩
  · exact ⟨-1, by simp only [m_X6_hours, q_hasPerson hs.1 hq, gb1_s, hu, if_true], by simp only [m_X7_hours, q_isPerson hq, gb1_s, hu, if_true]⟩
  rcases wi_c (n := p) (by omega) b with hw | ⟨hw, i, hi, rfl⟩
  · exact ⟨-1, by simp only [m_X6_hours, q_hasPerson hs.1 hq, q_hasPlace hs.1 hp, gb1_s, hu, hw, ne10, if_true, if_false], by simp only [m_X7_hours, q_isPerson hq, q_isPlace hp, gb1_s, hu, hw, ne10, if_true, if_false]⟩
  obtain ⟨-, g1, g2, -⟩ := w.2.2.2.2.2.1 k hk
  have L1 : m_X6_hours_29 (nI k) (nI i) σ gFU 0 0 = some (sBits (fun t => sD (μ 1) k (μ 1 (74 + k)) i t) 24) := by
    refine for_to (fun n t => m_X6_hours_29 (nI k) (nI i) σ n (sBits (fun t => sD (μ 1) k (μ 1 (74 + k)) i t) t) (nI t)) 24 _ (fun n t ht => ?_) (fun n => ?_) (by decide)
    · show b_X6_hours_29 (nI k) (nI i) σ (m_X6_hours_29 (nI k) (nI i) σ n) _ (nI t) = _
      have c1 : ¬ (24 : Int32) ≤ nI t := nI_ge (b := 24) ht (by decide)
      simp only [b_X6_hours_29, c1, if_false, q_standsAt hs.1 (show k < 8 by omega) (show i < 12 by omega) ht ⟨g1, by omega⟩, gb1_s, gnm_s, nI_1, sBits]
      rcases sD_01 (μ 1) k (μ 1 (74 + k)) i t with f | f <;> simp only [f, if_true, ne10, if_false]
    · rfl
  have L2 : m_X7_hours_23 (nI k) (nI i) μ gFU 0 0 = some (sBits (fun t => sD (μ 1) k (μ 1 (74 + k)) i t) 24) := by
    refine for_to (fun n t => m_X7_hours_23 (nI k) (nI i) μ n (sBits (fun t => sD (μ 1) k (μ 1 (74 + k)) i t) t) (nI t)) 24 _ (fun n t ht => ?_) (fun n => ?_) (by decide)
    · show b_X7_hours_23 (nI k) (nI i) μ (m_X7_hours_23 (nI k) (nI i) μ n) _ (nI t) = _
      have c1 : ¬ (24 : Int32) ≤ nI t := nI_ge (b := 24) ht (by decide)
      simp only [b_X7_hours_23, c1, if_false, q_does (show k < 8 by omega) (show i < 12 by omega) ht, gb1_s, gnm_s, nI_1, sBits, or0]
      rcases sD_01 (μ 1) k (μ 1 (74 + k)) i t with f | f <;> simp only [f, if_true, ne10, if_false]
    · rfl
  refine ⟨sBits (fun t => sD (μ 1) k (μ 1 (74 + k)) i t) 24, ?_, ?_⟩
  · simp only [m_X6_hours, q_hasPerson hs.1 hq, q_hasPlace hs.1 hp, gb1_s, hu, hw, ne10, if_false, L1]
  · simp only [m_X7_hours, q_isPerson hq, q_isPlace hp, gb1_s, hu, hw, ne10, if_false, L2]
