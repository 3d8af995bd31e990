/-! ===== the pure part: people, readings of the lagoon ===== -/
theorem WF_person {p q n y : Nat} {z : Nat → Int32} (w : WF p q n y z) (hl : q < 8) {k a : Nat} (hk : k ≤ 3) {x : Int32} (hx : 0 ≤ x.toInt ∧ x.toInt ≤ 60) (ha : a < p) : WF p (q + 1) n y (upd (upd (upd (upd z (66 + q) (nI k)) (74 + q) x) (82 + q) (nI a)) 63 (nI (q + 1))) := by
  obtain ⟨⟨a1, a2, a3, a4, hp, hq, hn', hy⟩, b, c, e, f, g, i, m⟩ := w
  have U : ∀ j, j ≠ 66 + q → j ≠ 74 + q → j ≠ 82 + q → j ≠ 63 → upd (upd (upd (upd z (66 + q) (nI k)) (74 + q) x) (82 + q) (nI a)) 63 (nI (q + 1)) j = z j := fun j h1 h2 h3 h4 => by rw [pk_un h4, pk_un h3, pk_un h2, pk_un h1]
  have U0 : upd (upd (upd (upd z (66 + q) (nI k)) (74 + q) x) (82 + q) (nI a)) 63 (nI (q + 1)) (66 + q) = nI k := by rw [pk_un (by omega), pk_un (by omega), pk_un (by omega), pk_us]
  have U1 : upd (upd (upd (upd z (66 + q) (nI k)) (74 + q) x) (82 + q) (nI a)) 63 (nI (q + 1)) (74 + q) = x := by rw [pk_un (by omega), pk_un (by omega), pk_us]
  have U2 : upd (upd (upd (upd z (66 + q) (nI k)) (74 + q) x) (82 + q) (nI a)) 63 (nI (q + 1)) (82 + q) = nI a := by rw [pk_un (by omega), pk_us]
  have U3 : upd (upd (upd (upd z (66 + q) (nI k)) (74 + q) x) (82 + q) (nI a)) 63 (nI (q + 1)) 63 = nI (q + 1) := pk_us
  generalize upd (upd (upd (upd z (66 + q) (nI k)) (74 + q) x) (82 + q) (nI a)) 63 (nI (q + 1)) = z' at U U0 U1 U2 U3
  refine ⟨⟨by rw [U 62 (by omega) (by omega) (by omega) (by omega)]; exact a1, U3, by rw [U 64 (by omega) (by omega) (by omega) (by omega)]; exact a3, by rw [U 65 (by omega) (by omega) (by omega) (by omega)]; exact a4, hp, by omega, hn', hy⟩, fun j hj => ?_, ?_, fun j hj => ?_, ?_, fun j hj => ?_, fun j hj => ?_, fun s t hs ht => ?_⟩
  · rw [U j (by omega) (by omega) (by omega) (by omega), U (12 + j) (by omega) (by omega) (by omega) (by omega), U (24 + j) (by omega) (by omega) (by omega) (by omega)]
    exact b j hj
  · rw [npo_congr (z' := z) (fun k hk => U k (by omega) (by omega) (by omega) (by omega)) p hp]; exact c
  · rw [U (36 + j) (by omega) (by omega) (by omega) (by omega)]; exact e j hj
  · rw [U 60 (by omega) (by omega) (by omega) (by omega), U 61 (by omega) (by omega) (by omega) (by omega)]; exact f
  · by_cases e1 : j = q
    · subst e1
      rw [U0, U1, U2]
      exact ⟨⟨k, hk, rfl⟩, hx.1, hx.2, a, ha, rfl⟩
    · rw [U (66 + j) (by omega) (by omega) (by omega) (by omega), U (74 + j) (by omega) (by omega) (by omega) (by omega), U (82 + j) (by omega) (by omega) (by omega) (by omega)]
      exact g j (by omega)
  · rw [U (90 + j) (by omega) (by omega) (by omega) (by omega), U (100 + j) (by omega) (by omega) (by omega) (by omega), U (110 + j) (by omega) (by omega) (by omega) (by omega)]
    obtain ⟨⟨o, g1, g2⟩, g3⟩ := i j hj
    exact ⟨⟨o, by omega, g2⟩, g3⟩
  · rw [U (120 + 12 * s + t) (by omega) (by omega) (by omega) (by omega), U (120 + 12 * t + s) (by omega) (by omega) (by omega) (by omega)]
    exact m s t hs ht
theorem p_person {σ μ : gMem} (h : INV σ μ) (a b c : Int32) : OKu σ μ (m_X6_person a b c σ) (m_X7_person a b c μ) := by
  obtain ⟨hs, p, q, n, y, w⟩ := h
  have hp := w.1.1
  have hq := w.1.2.1
  have hp12 := w.1.2.2.2.2.1
  have hq8 := w.1.2.2.2.2.2.1
  have I : INV σ μ := ⟨hs, p, q, n, y, w⟩
  have ea : m_X7_in a.toInt64 0 3 μ = some (wi a 0 3) := q_in a 0 3 μ
  have eb : m_X7_in b.toInt64 0 60 μ = some (wi b 0 60) := q_in b 0 60 μ
  rcases wi_n (m := 3) (by decide) a with hw | ⟨hw, k, hk, rfl⟩
  · replace hw : wi a 0 3 = 0 := hw
    exact ⟨-1, σ, μ, by simp only [m_X6_person, q_within, gb1_s, hw, if_true], by simp only [m_X7_person, ea, gb1_s, hw, if_true], I⟩
  replace hw : wi (nI k) 0 3 = 1 := hw
  rcases wi_r b 0 60 with hv | ⟨hv, h1, h2⟩
  · exact ⟨-1, σ, μ, by simp only [m_X6_person, q_within, gb1_s, hw, hv, ne10, if_false, if_true], by simp only [m_X7_person, ea, eb, gb1_s, hw, hv, ne10, if_false, if_true], I⟩
  rcases wi_c (n := p) (by omega) c with hu | ⟨hu, i, hi, rfl⟩
  · exact ⟨-1, σ, μ, by simp only [m_X6_person, q_within, q_hasPlace hs.1 hp, gb1_s, hw, hv, hu, ne10, if_false, if_true], by simp only [m_X7_person, ea, eb, q_isPlace hp, gb1_s, hw, hv, hu, ne10, if_false, if_true], I⟩
  have hσ : σ 1 8 = nI q := (Rg_peo hs.1).trans hq
  by_cases hl : q < 8
  · have t1 : nI q < 8 := nI_lt (b := 8) hl (by decide)
    have t2 : ¬ nI q = 8 := fun e => absurd ((nI_eq (b := 8) (by omega) (by decide)).mp e) (by omega)
    have s1 := SIM_set hs (k := 66 + q) (by omega) (ca_kin hl) (nI k)
    have s2 := SIM_set s1 (k := 74 + q) (by omega) (ca_tol hl) b
    have s3 := SIM_set s2 (k := 82 + q) (by omega) (ca_hom hl) (nI i)
    have s4 := SIM_set s3 (k := 63) (by omega) (c := 1) (s := 8) rfl (nI (q + 1))
    have e1 : (66 : Int32) + nI q = nI (66 + q) := by rw [show (66 : Int32) = nI 66 from rfl, nI_add]
    have e2 : (74 : Int32) + nI q = nI (74 + q) := by rw [show (74 : Int32) = nI 74 from rfl, nI_add]
    have e3 : (82 : Int32) + nI q = nI (82 + q) := by rw [show (82 : Int32) = nI 82 from rfl, nI_add]
    refine ⟨nI q, _, _, ?_, ?_, s4, p, q + 1, n, y, ?_⟩
    · simp only [m_X6_person, q_within, q_hasPlace hs.1 hp, gb1_s, hw, hv, hu, ne10, if_false, if_true, hσ, t1, m_X1_addPerson, gst_a, inb_t hl (show 8 < 2 ^ 31 by decide), gck_s, gnm_s, gb2_s, nI_clamp (show q < 2 ^ 31 by omega), nI_1, show ((1 : Nat) = 7) = False from by decide, show ((1 : Nat) = 8) = False from by decide, show ((1 : Nat) = 9) = False from by decide]
    · simp only [m_X7_person, ea, eb, q_isPlace hp, gb1_s, hw, hv, hu, ne10, if_false, in63, gck_s, l63, hq, t2, gnm_s, e1, e2, e3, inb_t (show 66 + q < 528 by omega) (by decide), inb_t (show 74 + q < 528 by omega) (by decide), inb_t (show 82 + q < 528 by omega) (by decide), nI_clamp (show 66 + q < 2 ^ 31 by omega), nI_clamp (show 74 + q < 2 ^ 31 by omega), nI_clamp (show 82 + q < 2 ^ 31 by omega), gst_eq, pk_un (show 63 ≠ 82 + q by omega), pk_un (show 63 ≠ 74 + q by omega), pk_un (show 63 ≠ 66 + q by omega), nI_1]
    · simp only [gst_eq]
      exact WF_person w hl hk ⟨h1, h2⟩ hi
  · have e8 : q = 8 := by omega
    subst e8
    refine ⟨-3, σ, μ, ?_, ?_, I⟩
    · simp only [m_X6_person, q_within, q_hasPlace hs.1 hp, gb1_s, hw, hv, hu, ne10, if_false, if_true, hσ, show ¬ nI 8 < 8 from by decide]
    · simp only [m_X7_person, ea, eb, q_isPlace hp, gb1_s, hw, hv, hu, ne10, if_false, in63, gck_s, l63, hq, show nI 8 = 8 from rfl, if_true]
/-- LENGTH as by KIND -/
def sK (k l y : Int32) : Int32 := if k = 2 then (if l ≤ 2 then 0 else l - 2) else if k = 3 then l + y else l
theorem q_byKind {k l y : Int32} {σ : gMem} (hl : 0 ≤ l.toInt ∧ l.toInt ≤ 100000) : m_X1_lengthByKind k l y σ = some (sK k l y) := by
  unfold m_X1_lengthByKind sK
  by_cases h2 : k = 2
  · simp only [h2, if_true]
    congr 1
    have e : (l - 2).toInt = l.toInt - 2 := i32_sub (by show _ ≤ _ - (2 : Int); omega) (by show _ - (2 : Int) < _; omega)
    unfold gmax
    simp only [i32_lt, i32_le, e, show (0 : Int32).toInt = 0 from rfl, show (2 : Int32).toInt = 2 from rfl]
    by_cases c : l.toInt ≤ 2
    · rw [if_pos c, if_neg (by omega)]
    · rw [if_neg c, if_pos (by omega)]
  · simp only [h2, if_false]
    by_cases h3 : k = 3
    · simp only [h3, if_true]
    · simp only [h3, if_false]
theorem q_byKindM {k l y : Int32} {σ : gMem} : m_X7_byKind k l y σ = some (sK k l y) := by
  unfold m_X7_byKind sK
  by_cases h2 : k = 2
  · simp only [h2, if_true]; split <;> rfl
  · simp only [h2, if_false]; split <;> rfl
theorem p_of {σ μ : gMem} (h : INV σ μ) (a b : Int32) : OKp (m_X6_of a b σ) (m_X7_of a b μ) := by
  obtain ⟨hs, p, q, n, y, w⟩ := h
  have hq := w.1.2.1
  have hq8 := w.1.2.2.2.2.2.1
  have eb : m_X7_in b.toInt64 0 3 μ = some (wi b 0 3) := q_in b 0 3 μ
  rcases wi_c (n := q) (by omega) a with hw | ⟨hw, i, hi, rfl⟩
  · exact ⟨-1, by simp only [m_X6_of, q_hasPerson hs.1 hq, gb1_s, hw, if_true], by simp only [m_X7_of, q_isPerson hq, gb1_s, hw, if_true]⟩
  have i8 : i < 8 := by omega
  have e1 : (66 : Int32) + nI i = nI (66 + i) := by rw [show (66 : Int32) = nI 66 from rfl, nI_add]
  have e2 : (74 : Int32) + nI i = nI (74 + i) := by rw [show (74 : Int32) = nI 74 from rfl, nI_add]
  have e3 : (82 : Int32) + nI i = nI (82 + i) := by rw [show (82 : Int32) = nI 82 from rfl, nI_add]
  have b1 := inb_t (show 66 + i < 528 by omega) (by decide)
  have b2 := inb_t (show 74 + i < 528 by omega) (by decide)
  have b3 := inb_t (show 82 + i < 528 by omega) (by decide)
  have c1 := nI_clamp (show 66 + i < 2 ^ 31 by omega)
  have c2 := nI_clamp (show 74 + i < 2 ^ 31 by omega)
  have c3 := nI_clamp (show 82 + i < 2 ^ 31 by omega)
  have c0 := nI_clamp (show i < 2 ^ 31 by omega)
  have b0 := inb_t i8 (show 8 < 2 ^ 31 by decide)
  have k1 := Rg_kin hs.1 i8
  have k2 := Rg_tol hs.1 i8
  have k3 := Rg_hom hs.1 i8
  rcases wi_n (m := 3) (by decide) b with hv | ⟨hv, j, hj, rfl⟩
  · replace hv : wi b 0 3 = 0 := hv
    refine ⟨-1, ?_, by simp only [m_X7_of, q_isPerson hq, eb, gb1_s, hw, hv, ne10, if_false, if_true]⟩
    have d : ∀ v : Nat, v ≤ 3 → ¬ b = nI v := by
      intro v hv2 e
      subst e
      rw [wi_0] at hv
      exact hv ⟨by rw [nI_toInt (by omega)]; show (0 : Int) ≤ _; omega, by rw [nI_toInt (by omega)]; show _ ≤ (3 : Int); omega⟩
    have d0 : ¬ b = 0 := d 0 (by decide)
    have d1 : ¬ b = 1 := d 1 (by decide)
    have d2 : ¬ b = 2 := d 2 (by decide)
    have d3 : ¬ b = 3 := d 3 (by decide)
    simp only [m_X6_of, q_hasPerson hs.1 hq, gb1_s, hw, ne10, if_false, d0, d1, d2, d3]
  replace hv : wi (nI j) 0 3 = 1 := hv
  rcases (show j = 0 ∨ j = 1 ∨ j = 2 ∨ j = 3 by omega) with rfl | rfl | rfl | rfl
  · show OKp (m_X6_of (nI i) 0 σ) (m_X7_of (nI i) 0 μ)
    have eb : m_X7_in (0 : Int32).toInt64 0 3 μ = some 1 := q_in 0 0 3 μ
    refine ⟨μ 1 (66 + i), ?_, ?_⟩
    · simp only [m_X6_of, q_hasPerson hs.1 hq, gb1_s, hw, ne10, if_false, if_true, b0, gck_s, c0, k1]
    · simp only [m_X7_of, q_isPerson hq, eb, gb1_s, hw, ne10, if_false, show ¬ (0 : Int32) = 2 from by decide, if_true, e1, b1, gck_s, c1]
  · show OKp (m_X6_of (nI i) 1 σ) (m_X7_of (nI i) 1 μ)
    have eb : m_X7_in (1 : Int32).toInt64 0 3 μ = some 1 := q_in 1 0 3 μ
    refine ⟨μ 1 (74 + i), ?_, ?_⟩
    · simp only [m_X6_of, q_hasPerson hs.1 hq, gb1_s, hw, ne10, if_false, if_true, b0, gck_s, c0, k2]
    · simp only [m_X7_of, q_isPerson hq, eb, gb1_s, hw, ne10, if_false, show ¬ (1 : Int32) = 2 from by decide, if_true, e2, b2, gck_s, c2]
  · show OKp (m_X6_of (nI i) 2 σ) (m_X7_of (nI i) 2 μ)
    have eb : m_X7_in (2 : Int32).toInt64 0 3 μ = some 1 := q_in 2 0 3 μ
    have g := (w.2.2.2.2.2.1 i hi).2
    refine ⟨sK (μ 1 (66 + i)) (μ 1 (74 + i)) (μ 1 65), ?_, ?_⟩
    · simp only [m_X6_of, q_hasPerson hs.1 hq, gb1_s, hw, ne10, if_false, show ¬ (2 : Int32) = 0 from by decide, show ¬ (2 : Int32) = 1 from by decide, if_true, m_X1_lengthOf, b0, gck_s, c0, k1, k2, Rg_yea hs.1, q_byKind (show 0 ≤ (μ 1 (74 + i)).toInt ∧ (μ 1 (74 + i)).toInt ≤ 100000 from ⟨g.1, by omega⟩)]
    · simp only [m_X7_of, q_isPerson hq, eb, gb1_s, hw, ne10, if_false, if_true, e1, e2, b1, b2, in65, l65, gck_s, c1, c2, q_byKindM]
  · show OKp (m_X6_of (nI i) 3 σ) (m_X7_of (nI i) 3 μ)
    have eb : m_X7_in (3 : Int32).toInt64 0 3 μ = some 1 := q_in 3 0 3 μ
    refine ⟨μ 1 (82 + i), ?_, ?_⟩
    · simp only [m_X6_of, q_hasPerson hs.1 hq, gb1_s, hw, ne10, if_false, show ¬ (3 : Int32) = 0 from by decide, show ¬ (3 : Int32) = 1 from by decide, show ¬ (3 : Int32) = 2 from by decide, if_true, b0, gck_s, c0, k3]
    · simp only [m_X7_of, q_isPerson hq, eb, gb1_s, hw, ne10, if_false, show ¬ (3 : Int32) = 2 from by decide, show ¬ (3 : Int32) = 0 from by decide, show ¬ (3 : Int32) = 1 from by decide, e3, b3, gck_s, c3]
