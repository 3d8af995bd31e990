/-! ===== the pure part: place, make, path, tide, set, person, of ===== -/
theorem npo_upd {z : Nat → Int32} {b k : Nat} {x : Int32} (hk : k < 12 ∨ 24 ≤ k) : ∀ p, p ≤ 12 → npo (upd z k x) b p = npo z b p := by
  intro p
  induction p with
  | zero => intro _; rfl
  | succ p ih => intro hp; simp only [npo, ih (by omega), pk_un (f := z) (x := x) (show 12 + p ≠ k by omega)]
theorem WF_place {p q n y : Nat} {z : Nat → Int32} (w : WF p q n y z) (hl : p < 12) {d s : Int32} (hd : -20 ≤ d.toInt ∧ d.toInt ≤ 60) (hs : 0 ≤ s.toInt ∧ s.toInt ≤ 20) (hn : npo z 99 p + (if 0 < s.toInt then 1 else 0) ≤ 3) : WF (p + 1) q n y (upd (upd (upd (upd z p d) (12 + p) s) (24 + p) 0) 62 (nI (p + 1))) := by
  obtain ⟨⟨a1, a2, a3, a4, hp, hq, hn', hy⟩, b, c, e, f, g, i, m⟩ := w
  have U : ∀ k, k ≠ p → k ≠ 12 + p → k ≠ 24 + p → k ≠ 62 → upd (upd (upd (upd z p d) (12 + p) s) (24 + p) 0) 62 (nI (p + 1)) k = z k := fun k h1 h2 h3 h4 => by rw [pk_un h4, pk_un h3, pk_un h2, pk_un h1]
  have U0 : upd (upd (upd (upd z p d) (12 + p) s) (24 + p) 0) 62 (nI (p + 1)) p = d := by rw [pk_un (by omega), pk_un (by omega), pk_un (by omega), pk_us]
  have U1 : upd (upd (upd (upd z p d) (12 + p) s) (24 + p) 0) 62 (nI (p + 1)) (12 + p) = s := by rw [pk_un (by omega), pk_un (by omega), pk_us]
  have U2 : upd (upd (upd (upd z p d) (12 + p) s) (24 + p) 0) 62 (nI (p + 1)) (24 + p) = 0 := by rw [pk_un (by omega), pk_us]
  have U3 : upd (upd (upd (upd z p d) (12 + p) s) (24 + p) 0) 62 (nI (p + 1)) 62 = nI (p + 1) := pk_us
  generalize upd (upd (upd (upd z p d) (12 + p) s) (24 + p) 0) 62 (nI (p + 1)) = z' at U U0 U1 U2 U3
  refine ⟨⟨U3, by rw [U 63 (by omega) (by omega) (by omega) (by omega)]; exact a2, by rw [U 64 (by omega) (by omega) (by omega) (by omega)]; exact a3, by rw [U 65 (by omega) (by omega) (by omega) (by omega)]; exact a4, by omega, hq, hn', hy⟩, fun k hk => ?_, ?_, fun k hk => ?_, ?_, fun k hk => ?_, fun k hk => ?_, fun j k hj hk => ?_⟩
  · by_cases e1 : k = p
    · subst e1
      rw [U0, U1, U2]
      exact ⟨hd.1, hd.2, hs.1, hs.2, by decide, by decide⟩
    · rw [U k (by omega) (by omega) (by omega) (by omega), U (12 + k) (by omega) (by omega) (by omega) (by omega), U (24 + k) (by omega) (by omega) (by omega) (by omega)]
      exact b k (by omega)
  · have : ∀ r, r ≤ p → npo z' 99 r = npo z 99 r := by
      intro r
      induction r with
      | zero => intro _; rfl
      | succ r ih => intro hr; simp only [npo, ih (by omega), U (12 + r) (by omega) (by omega) (by omega) (by omega)]
    show npo z' 99 p + _ ≤ 3
    rw [this p (Nat.le_refl _), U1]
    by_cases q0 : 0 < s.toInt
    · rw [if_pos q0] at hn; rw [if_pos ⟨by omega, q0⟩]; exact hn
    · rw [if_neg q0] at hn; rw [if_neg (fun h => q0 h.2)]; exact hn
  · rw [U (36 + k) (by omega) (by omega) (by omega) (by omega)]; exact e k hk
  · rw [U 60 (by omega) (by omega) (by omega) (by omega), U 61 (by omega) (by omega) (by omega) (by omega)]; exact f
  · rw [U (66 + k) (by omega) (by omega) (by omega) (by omega), U (74 + k) (by omega) (by omega) (by omega) (by omega), U (82 + k) (by omega) (by omega) (by omega) (by omega)]
    obtain ⟨g1, g2, g3, h, g4, g5⟩ := g k hk
    exact ⟨g1, g2, g3, h, by omega, g5⟩
  · rw [U (90 + k) (by omega) (by omega) (by omega) (by omega), U (100 + k) (by omega) (by omega) (by omega) (by omega), U (110 + k) (by omega) (by omega) (by omega) (by omega)]
    obtain ⟨g1, ⟨h, g2, g3⟩, g4⟩ := i k hk
    exact ⟨g1, ⟨h, by omega, g3⟩, g4⟩
  · rw [U (120 + 12 * j + k) (by omega) (by omega) (by omega) (by omega), U (120 + 12 * k + j) (by omega) (by omega) (by omega) (by omega)]
    obtain ⟨g1, g2, g3, g4, g5⟩ := m j k hj hk
    exact ⟨g1, g2, g3, g4, fun h => g5 (by omega)⟩
theorem p_place {σ μ : gMem} (h : INV σ μ) (a : Int32) : OKu σ μ (m_X6_place a σ) (m_X7_place a μ) := by
  obtain ⟨hs, p, q, n, y, w⟩ := h
  have hp := w.1.1
  have e : m_X7_in a.toInt64 (-20) 60 μ = some (wi a (-20) 60) := q_in a (-20) 60 μ
  rcases wi_r a (-20) 60 with hw | ⟨hw, h1, h2⟩
  · refine ⟨-1, σ, μ, ?_, ?_, hs, p, q, n, y, w⟩
    · simp only [m_X6_place, q_within, gb1_s, hw, if_true]
    · simp only [m_X7_place, e, gb1_s, hw, if_true]
  · have hne : ¬ (1 : Int32) = 0 := by decide
    have hσ : σ 1 0 = nI p := (Rg_pla hs.1).trans hp
    have hp12 := w.1.2.2.2.2.1
    by_cases hl : p < 12
    · obtain ⟨σ', μ', f1, f2, f3, f4, -, -⟩ := q_addPlace hs hp hl a 0
      have t1 : nI p < 12 := nI_lt (b := 12) hl (by decide)
      have t2 : ¬ nI p = 12 := fun q => absurd ((nI_eq (b := 12) (by omega) (by decide)).mp q) (by omega)
      refine ⟨nI p, σ', μ', ?_, ?_, f3, p + 1, q, n, y, ?_⟩
      · simp only [m_X6_place, q_within, gb1_s, hw, hne, if_false, hσ, t1, if_true, f1, gb2_s]
      · simp only [m_X7_place, e, gb1_s, hw, hne, if_false, in62, gck_s, l62, hp, t2, f2, f4, pk_us]
        rw [show nI (p + 1) - 1 = nI p from nI_pred p]
      · rw [f4]
        exact WF_place w hl ⟨h1, h2⟩ ⟨by decide, by decide⟩ (by rw [if_neg (by decide)]; exact w.2.2.1)
    · have e12 : p = 12 := by omega
      subst e12
      refine ⟨-3, σ, μ, ?_, ?_, hs, 12, q, n, y, w⟩
      · simp only [m_X6_place, q_within, gb1_s, hw, hne, if_false, hσ, show ¬ nI 12 < 12 from by decide]
      · simp only [m_X7_place, e, gb1_s, hw, hne, if_false, in62, gck_s, l62, hp, show nI 12 = 12 from rfl, if_true]
theorem WF_one {p q n y : Nat} {z z' : Nat → Int32} {k : Nat} {x : Int32} (w : WF p q n y z) (U : ∀ j, j ≠ k → z' j = z j) (U0 : z' k = x) (hk : k < 62) (hx : (k < 12 → -20 ≤ x.toInt ∧ x.toInt ≤ 60) ∧ (12 ≤ k → k < 24 → 0 ≤ x.toInt ∧ x.toInt ≤ 20 ∧ npo z' 99 p ≤ 3) ∧ (24 ≤ k → k < 36 → -5 ≤ x.toInt ∧ x.toInt ≤ 5) ∧ (36 ≤ k → k < 60 → -20 ≤ x.toInt ∧ x.toInt ≤ 20) ∧ (k = 60 → 0 ≤ x.toInt ∧ x.toInt ≤ 40) ∧ (k = 61 → 0 ≤ x.toInt ∧ x.toInt ≤ 60)) : WF p q n y z' := by
  obtain ⟨⟨a1, a2, a3, a4, hp, hq, hn', hy⟩, b, c, e, f, g, i, m⟩ := w
  obtain ⟨x1, x2, x3, x4, x5, x6⟩ := hx
  refine ⟨⟨by rw [U 62 (by omega)]; exact a1, by rw [U 63 (by omega)]; exact a2, by rw [U 64 (by omega)]; exact a3, by rw [U 65 (by omega)]; exact a4, hp, hq, hn', hy⟩, fun j hj => ?_, ?_, fun j hj => ?_, ?_, fun j hj => ?_, fun j hj => ?_, fun j l hj hl => ?_⟩
  · obtain ⟨b1, b2, b3, b4, b5, b6⟩ := b j hj
    have c1 : -20 ≤ (z' j).toInt ∧ (z' j).toInt ≤ 60 := by
      by_cases e1 : j = k
      · subst e1; rw [U0]; exact x1 (by omega)
      · rw [U j e1]; exact ⟨b1, b2⟩
    have c2 : 0 ≤ (z' (12 + j)).toInt ∧ (z' (12 + j)).toInt ≤ 20 := by
      by_cases e1 : 12 + j = k
      · rw [e1, U0]; exact ⟨(x2 (by omega) (by omega)).1, (x2 (by omega) (by omega)).2.1⟩
      · rw [U _ e1]; exact ⟨b3, b4⟩
    have c3 : -5 ≤ (z' (24 + j)).toInt ∧ (z' (24 + j)).toInt ≤ 5 := by
      by_cases e1 : 24 + j = k
      · rw [e1, U0]; exact x3 (by omega) (by omega)
      · rw [U _ e1]; exact ⟨b5, b6⟩
    exact ⟨c1.1, c1.2, c2.1, c2.2, c3.1, c3.2⟩
  · by_cases e1 : 12 ≤ k ∧ k < 24
    · exact (x2 e1.1 e1.2).2.2
    · have : ∀ r, r ≤ p → npo z' 99 r = npo z 99 r := by
        intro r
        induction r with
        | zero => intro _; rfl
        | succ r ih => intro hr; simp only [npo, ih (by omega), U (12 + r) (by omega)]
      rw [this p (Nat.le_refl _)]; exact c
  · by_cases e1 : 36 + j = k
    · rw [e1, U0]; exact x4 (by omega) (by omega)
    · rw [U _ e1]; exact e j hj
  · obtain ⟨f1, f2, f3, f4⟩ := f
    have c1 : 0 ≤ (z' 60).toInt ∧ (z' 60).toInt ≤ 40 := by
      by_cases e1 : 60 = k
      · rw [e1, U0]; exact x5 e1.symm
      · rw [U _ e1]; exact ⟨f1, f2⟩
    have c2 : 0 ≤ (z' 61).toInt ∧ (z' 61).toInt ≤ 60 := by
      by_cases e1 : 61 = k
      · rw [e1, U0]; exact x6 e1.symm
      · rw [U _ e1]; exact ⟨f3, f4⟩
    exact ⟨c1.1, c1.2, c2.1, c2.2⟩
  · rw [U (66 + j) (by omega), U (74 + j) (by omega), U (82 + j) (by omega)]; exact g j hj
  · rw [U (90 + j) (by omega), U (100 + j) (by omega), U (110 + j) (by omega)]; exact i j hj
  · rw [U (120 + 12 * j + l) (by omega), U (120 + 12 * l + j) (by omega)]; exact m j l hj hl
theorem ne10 : ¬ (1 : Int32) = 0 := by decide
/-- a number of both lagoons is written, the one that stood there is the answer -/
theorem q_chg {σ μ : gMem} (h : SIM σ μ) {k : Nat} (hk : k < 264) {c s : Nat} (hc : ca 1 13 k = (c, s)) (x : Int32) : σ c s = μ 1 k ∧ SIM (gst σ c s x) (gst μ 1 k x) ∧ (gst μ 1 k x) 1 = upd (μ 1) k x := by
  refine ⟨?_, SIM_set h hk hc x, gst_eq _ _ _ _⟩
  have := h.1 k hk
  rw [hc] at this; exact this
theorem p_tide {σ μ : gMem} (h : INV σ μ) (a b : Int32) : OKu σ μ (m_X6_tide a b σ) (m_X7_tide a b μ) := by
  have e : m_X7_in b.toInt64 (-20) 20 μ = some (wi b (-20) 20) := q_in b (-20) 20 μ
  rcases wi_n (m := 23) (by decide) a with hw | ⟨hw, i, hi, rfl⟩
  · replace hw : wi a 0 23 = 0 := hw
    exact ⟨-100001, σ, μ, by simp only [m_X6_tide, q_isHour, gb1_s, hw, if_true], by simp only [m_X7_tide, q_isHourM, gb1_s, hw, if_true], h⟩
  · replace hw : wi (nI i) 0 23 = 1 := hw
    rcases wi_r b (-20) 20 with hv | ⟨hv, h1, h2⟩
    · exact ⟨-100001, σ, μ, by simp only [m_X6_tide, q_isHour, q_within, gb1_s, hw, hv, if_true, ne10, if_false], by simp only [m_X7_tide, q_isHourM, e, gb1_s, hw, hv, if_true, ne10, if_false], h⟩
    · obtain ⟨hs, p, q, n, y, w⟩ := h
      obtain ⟨c1, c2, c3⟩ := q_chg hs (k := 36 + i) (by omega) (ca_tid (by omega)) b
      have e1 : (36 : Int32) + nI i = nI (36 + i) := by rw [show (36 : Int32) = nI 36 from rfl, nI_add]
      refine ⟨μ 1 (36 + i), _, _, ?_, ?_, c2, p, q, n, y, ?_⟩
      · simp only [m_X6_tide, q_isHour, q_within, gb1_s, hw, hv, ne10, if_false, m_X6_changed_6, inb_t (show i < 24 by omega) (by decide), gck_s, gnm_s, nI_clamp (show i < 2 ^ 31 by omega), gb2_s, c1]
      · simp only [m_X7_tide, q_isHourM, e, gb1_s, hw, hv, ne10, if_false, e1, inb_t (show 36 + i < 528 by omega) (by decide), gck_s, gnm_s, nI_clamp (show 36 + i < 2 ^ 31 by omega)]
      · rw [c3]
        exact WF_one w (fun j hj => pk_un hj) pk_us (by omega) ⟨fun q => absurd q (by omega), fun _ q => absurd q (by omega), fun _ q => absurd q (by omega), fun _ _ => ⟨h1, h2⟩, fun q => absurd q (by omega), fun q => absurd q (by omega)⟩
