theorem WF_spl {p q n y : Nat} {z : Nat → Int32} (w : WF p q n y z) {i : Nat} (hi : i < p) {x : Int32} (hx : 0 ≤ x.toInt ∧ x.toInt ≤ 20) (hn : npo z i p + (if 0 < x.toInt then 1 else 0) ≤ 3) : WF p q n y (upd z (12 + i) x) := by
  have hp := w.1.2.2.2.2.1
  refine WF_one w (fun j hj => pk_un hj) pk_us (by omega) ⟨fun q => absurd q (by omega), fun _ _ => ⟨hx.1, hx.2, ?_⟩, fun q => absurd q (by omega), fun q => absurd q (by omega), fun q => absurd q (by omega), fun q => absurd q (by omega)⟩
  have e : npo (upd z (12 + i) x) i p = npo z i p := by
    have : ∀ r, r ≤ p → npo (upd z (12 + i) x) i r = npo z i r := by
      intro r
      induction r with
      | zero => intro _; rfl
      | succ r ih =>
        intro hr
        by_cases e : r = i
        · have t := ih (by omega)
          subst e
          simp only [npo, t, ne_eq, not_true_eq_false, false_and]
        · simp only [npo, ih (by omega), pk_un (f := z) (x := x) (show 12 + r ≠ 12 + i by omega)]
    exact this p (Nat.le_refl _)
  rw [(npo_sp (z := upd z (12 + i) x) (i := i) p hp).1 hi, e, pk_us]; exact hn
theorem p_make {σ μ : gMem} (h : INV σ μ) (a b c : Int32) : OKu σ μ (m_X6_make a b c σ) (m_X7_make a b c μ) := by
  obtain ⟨hs, p, q, n, y, w⟩ := h
  have hp := w.1.1
  have hp12 := w.1.2.2.2.2.1
  have I : INV σ μ := ⟨hs, p, q, n, y, w⟩
  have e0 : m_X7_in c.toInt64 (-20) 60 μ = some (wi c (-20) 60) := q_in c (-20) 60 μ
  have e1 : m_X7_in c.toInt64 0 20 μ = some (wi c 0 20) := q_in c 0 20 μ
  have e2 : m_X7_in c.toInt64 (-5) 5 μ = some (wi c (-5) 5) := q_in c (-5) 5 μ
  have n10 : ¬ (1 : Int32) = 0 := by decide
  have n20 : ¬ (2 : Int32) = 0 := by decide
  have n21 : ¬ (2 : Int32) = 1 := by decide
  have m0 : ∀ i : Nat, 12 * (0 : Int32) + nI i = nI i := fun i => by rw [show (12 : Int32) * 0 = nI 0 from rfl, nI_add, Nat.zero_add]
  have m1 : ∀ i : Nat, 12 * (1 : Int32) + nI i = nI (12 + i) := fun i => by rw [show (12 : Int32) * 1 = nI 12 from rfl, nI_add]
  have m2 : ∀ i : Nat, 12 * (2 : Int32) + nI i = nI (24 + i) := fun i => by rw [show (12 : Int32) * 2 = nI 24 from rfl, nI_add]
  rcases wi_c (n := p) (by omega) a with hw | ⟨hw, i, hi, rfl⟩
  · refine ⟨-100001, σ, μ, by simp only [m_X6_make, q_hasPlace hs.1 hp, gb1_s, hw, if_true], ?_, I⟩
    by_cases b0 : b = 0
    · simp only [m_X7_make, b0, if_true, e0, gb1_s, q_isPlace hp, hw]
    · by_cases b1 : b = 1
      · simp only [m_X7_make, b1, n10, if_true, if_false, e1, gb1_s, q_isPlace hp, hw]
      · by_cases b2 : b = 2
        · rcases wi_r c (-5) 5 with hv | ⟨hv, -⟩
          · simp only [m_X7_make, b2, n20, n21, if_true, if_false, e2, gb1_s, q_isPlace hp, hw, hv]
          · simp only [m_X7_make, b2, n20, n21, if_true, if_false, e2, gb1_s, q_isPlace hp, hw, hv, n10]
        · simp only [m_X7_make, b0, b1, b2, if_false, gb1_s, q_isPlace hp, hw, if_true]
  · by_cases b0 : b = 0
    · subst b0
      rcases wi_r c (-20) 60 with hv | ⟨hv, h1, h2⟩
      · exact ⟨-100001, σ, μ, by simp only [m_X6_make, q_hasPlace hs.1 hp, q_within, gb1_s, hw, hv, n10, if_true, if_false], by simp only [m_X7_make, e0, gb1_s, q_isPlace hp, hw, hv, n10, if_true, if_false], I⟩
      · obtain ⟨c1, c2, c3⟩ := q_chg hs (k := i) (by omega) (ca_dep (by omega)) c
        refine ⟨μ 1 i, _, _, ?_, ?_, c2, p, q, n, y, ?_⟩
        · simp only [m_X6_make, q_hasPlace hs.1 hp, q_within, gb1_s, hw, hv, n10, if_true, if_false, m_X6_changed_2, inb_t (show i < 12 by omega) (by decide), gck_s, gnm_s, gb2_s, nI_clamp (show i < 2 ^ 31 by omega), c1]
        · simp only [m_X7_make, e0, gb1_s, q_isPlace hp, hw, hv, n10, if_true, if_false, show ¬ (0 : Int32) = 1 from by decide, m0, inb_t (show i < 528 by omega) (by decide), gck_s, gnm_s, nI_clamp (show i < 2 ^ 31 by omega)]
        · rw [c3]
          exact WF_one w (fun j hj => pk_un hj) pk_us (by omega) ⟨fun _ => ⟨h1, h2⟩, fun q => absurd q (by omega), fun q => absurd q (by omega), fun q => absurd q (by omega), fun q => absurd q (by omega), fun q => absurd q (by omega)⟩
    · by_cases b1 : b = 1
      · subst b1
        rcases wi_r c 0 20 with hv | ⟨hv, h1, h2⟩
        · exact ⟨-100001, σ, μ, by simp only [m_X6_make, m_X6_makeSplices, q_hasPlace hs.1 hp, q_within, gb1_s, gb2_s, hw, hv, n10, if_true, if_false], by simp only [m_X7_make, e1, gb1_s, q_isPlace hp, hw, hv, n10, if_true, if_false], I⟩
        · obtain ⟨c1, c2, c3⟩ := q_chg hs (k := 12 + i) (by omega) (ca_spl (by omega)) c
          have P := q_posts hs.1 hp hp12 (show i < 12 by omega)
          have PM := q_postsM hp hp12 (show i < 12 by omega)
          have sp := (npo_sp (z := μ 1) (i := i) p hp12).1 hi
          have le3 := w.2.2.1
          by_cases c0 : c ≤ 0
          · have c0' := i32_le0.mp c0
            refine ⟨μ 1 (12 + i), _, _, ?_, ?_, c2, p, q, n, y, ?_⟩
            · simp only [m_X6_make, m_X6_makeSplices, q_hasPlace hs.1 hp, q_within, gb1_s, hw, hv, n10, if_true, if_false, c0, m_X6_changed_3, inb_t (show i < 12 by omega) (by decide), gck_s, gnm_s, gb2_s, nI_clamp (show i < 2 ^ 31 by omega), c1]
            · simp only [m_X7_make, e1, gb1_s, q_isPlace hp, hw, hv, n10, if_true, if_false, c0, m1, inb_t (show 12 + i < 528 by omega) (by decide), gck_s, gnm_s, nI_clamp (show 12 + i < 2 ^ 31 by omega)]
            · rw [c3]; exact WF_spl w hi ⟨h1, h2⟩ (by rw [if_neg c0']; omega)
          · by_cases full : npo (μ 1) i p = 3
            · have f1 : ¬ nI 3 < 3 := by decide
              refine ⟨-100003, σ, μ, ?_, ?_, I⟩
              · simp only [m_X6_make, m_X6_makeSplices, q_hasPlace hs.1 hp, q_within, gb1_s, gb2_s, hw, hv, n10, if_true, if_false, c0, P, full, f1]
              · simp only [m_X7_make, e1, gb1_s, q_isPlace hp, hw, hv, n10, if_true, if_false, c0, PM, full, show nI 3 = 3 from rfl]
            · have lt : npo (μ 1) i p < 3 := by omega
              have f1 : nI (npo (μ 1) i p) < 3 := nI_lt (b := 3) lt (by decide)
              have f2 : ¬ nI (npo (μ 1) i p) = 3 := fun q => full ((nI_eq (b := 3) (by omega) (by decide)).mp q)
              refine ⟨μ 1 (12 + i), _, _, ?_, ?_, c2, p, q, n, y, ?_⟩
              · simp only [m_X6_make, m_X6_makeSplices, q_hasPlace hs.1 hp, q_within, gb1_s, hw, hv, n10, if_true, if_false, c0, P, f1, m_X6_changed_3, inb_t (show i < 12 by omega) (by decide), gck_s, gnm_s, gb2_s, nI_clamp (show i < 2 ^ 31 by omega), c1]
              · simp only [m_X7_make, e1, gb1_s, q_isPlace hp, hw, hv, n10, if_true, if_false, c0, PM, f2, m1, inb_t (show 12 + i < 528 by omega) (by decide), gck_s, gnm_s, nI_clamp (show 12 + i < 2 ^ 31 by omega)]
              · rw [c3]; exact WF_spl w hi ⟨h1, h2⟩ (by split <;> omega)
      · by_cases b2 : b = 2
        · subst b2
          rcases wi_r c (-5) 5 with hv | ⟨hv, h1, h2⟩
          · exact ⟨-100001, σ, μ, by simp only [m_X6_make, q_hasPlace hs.1 hp, q_within, gb1_s, hw, hv, n10, n20, n21, if_true, if_false], by simp only [m_X7_make, e2, gb1_s, q_isPlace hp, hw, hv, n10, n20, n21, if_true, if_false], I⟩
          · obtain ⟨c1, c2, c3⟩ := q_chg hs (k := 24 + i) (by omega) (ca_sil (by omega)) c
            refine ⟨μ 1 (24 + i), _, _, ?_, ?_, c2, p, q, n, y, ?_⟩
            · simp only [m_X6_make, q_hasPlace hs.1 hp, q_within, gb1_s, hw, hv, n10, n20, n21, if_true, if_false, m_X6_changed_4, inb_t (show i < 12 by omega) (by decide), gck_s, gnm_s, gb2_s, nI_clamp (show i < 2 ^ 31 by omega), c1]
            · simp only [m_X7_make, e2, gb1_s, q_isPlace hp, hw, hv, n10, n20, n21, if_true, if_false, m2, inb_t (show 24 + i < 528 by omega) (by decide), gck_s, gnm_s, nI_clamp (show 24 + i < 2 ^ 31 by omega)]
            · rw [c3]
              exact WF_one w (fun j hj => pk_un hj) pk_us (by omega) ⟨fun q => absurd q (by omega), fun _ q => absurd q (by omega), fun _ _ => ⟨h1, h2⟩, fun q => absurd q (by omega), fun q => absurd q (by omega), fun q => absurd q (by omega)⟩
        · exact ⟨-100001, σ, μ, by simp only [m_X6_make, q_hasPlace hs.1 hp, gb1_s, hw, n10, if_false, b0, b1, b2], by simp only [m_X7_make, gb1_s, q_isPlace hp, hw, n10, if_true, if_false, b0, b1, b2], I⟩
theorem WF_path {p q n y : Nat} {z : Nat → Int32} (w : WF p q n y z) {i j : Nat} (hi : i < p) (hj : j < p) (hij : i ≠ j) {x : Int32} (hx : 0 ≤ x.toInt ∧ x.toInt ≤ 60) : WF p q n y (upd (upd z (120 + 12 * i + j) x) (120 + 12 * j + i) x) := by
  obtain ⟨⟨a1, a2, a3, a4, hp, hq, hn', hy⟩, b, c, e, f, g, k, m⟩ := w
  have U : ∀ k, k < 120 → upd (upd z (120 + 12 * i + j) x) (120 + 12 * j + i) x k = z k := fun k hk => by rw [pk_un (by omega), pk_un (by omega)]
  have V : ∀ s t, s < 12 → t < 12 → upd (upd z (120 + 12 * i + j) x) (120 + 12 * j + i) x (120 + 12 * s + t) = if (s = i ∧ t = j) ∨ (s = j ∧ t = i) then x else z (120 + 12 * s + t) := by
    intro s t hs ht
    by_cases q1 : s = j ∧ t = i
    · obtain ⟨rfl, rfl⟩ := q1; rw [pk_us, if_pos (Or.inr ⟨rfl, rfl⟩)]
    · rw [pk_un (by omega)]
      by_cases q2 : s = i ∧ t = j
      · obtain ⟨rfl, rfl⟩ := q2; rw [pk_us, if_pos (Or.inl ⟨rfl, rfl⟩)]
      · rw [pk_un (by omega), if_neg (by omega)]
  generalize upd (upd z (120 + 12 * i + j) x) (120 + 12 * j + i) x = z' at U V
  refine ⟨⟨by rw [U 62 (by omega)]; exact a1, by rw [U 63 (by omega)]; exact a2, by rw [U 64 (by omega)]; exact a3, by rw [U 65 (by omega)]; exact a4, hp, hq, hn', hy⟩, fun s hs => ?_, ?_, fun s hs => ?_, ?_, fun s hs => ?_, fun s hs => ?_, fun s t hs ht => ?_⟩
  · rw [U s (by omega), U (12 + s) (by omega), U (24 + s) (by omega)]; exact b s hs
  · rw [npo_congr (z' := z) (fun k hk => U k (by omega)) p hp]; exact c
  · rw [U (36 + s) (by omega)]; exact e s hs
  · rw [U 60 (by omega), U 61 (by omega)]; exact f
  · rw [U (66 + s) (by omega), U (74 + s) (by omega), U (82 + s) (by omega)]; exact g s hs
  · rw [U (90 + s) (by omega), U (100 + s) (by omega), U (110 + s) (by omega)]; exact k s hs
  · obtain ⟨m1, m2, m3, m4, m5⟩ := m s t hs ht
    rw [V s t hs ht, V t s ht hs]
    by_cases q1 : (s = i ∧ t = j) ∨ (s = j ∧ t = i)
    · rw [if_pos q1, if_pos (by omega)]
      exact ⟨hx.1, hx.2, rfl, fun h => absurd h (by omega), fun h => absurd h (by omega)⟩
    · rw [if_neg q1, if_neg (by omega)]
      exact ⟨m1, m2, m3, m4, m5⟩
/-- both entries of a path -/
theorem q_join {σ μ : gMem} (h : SIM σ μ) {i j : Nat} (hi : i < 12) (hj : j < 12) (x : Int32) : ∃ σ' μ', m_X1_join (nI i) (nI j) x σ = some σ' ∧ m_X7_join (nI i) (nI j) x μ = some μ' ∧ SIM σ' μ' ∧ μ' 1 = upd (upd (μ 1) (120 + 12 * i + j) x) (120 + 12 * j + i) x ∧ (∀ c, c ≠ 1 → μ' c = μ c) ∧ ∀ c, 49 ≤ c → σ' c = σ c := by
  have s1 := SIM_set h (k := 120 + 12 * i + j) (by omega) (ca_min hi hj) x
  have s2 := SIM_set s1 (k := 120 + 12 * j + i) (by omega) (ca_min hj hi) x
  have e1 : ∀ s t : Nat, (120 : Int32) + 12 * nI s + nI t = nI (120 + 12 * s + t) := fun s t => by rw [show (120 : Int32) = nI 120 from rfl, show (12 : Int32) = nI 12 from rfl, nI_mul, nI_add, nI_add]
  refine ⟨_, _, ?_, ?_, s2, ?_, ?_, ?_⟩
  · simp only [m_X1_join, inb_t hi (show 12 < 2 ^ 31 by decide), inb_t hj (show 12 < 2 ^ 31 by decide), gck_s, gnm_s, nI_clamp (show i < 2 ^ 31 by omega), nI_clamp (show j < 2 ^ 31 by omega)]
  · simp only [m_X7_join, e1, inb_t (show 120 + 12 * i + j < 528 by omega) (by decide), inb_t (show 120 + 12 * j + i < 528 by omega) (by decide), gck_s, gnm_s, nI_clamp (show 120 + 12 * i + j < 2 ^ 31 by omega), nI_clamp (show 120 + 12 * j + i < 2 ^ 31 by omega)]
  · simp only [gst_eq]
  · intro c hc; simp only [gst_ne _ _ hc]
  · intro c hc; rw [gst_ne _ _ (by omega), gst_ne _ _ (by omega)]
theorem p_path {σ μ : gMem} (h : INV σ μ) (a b c : Int32) : OKu σ μ (m_X6_path a b c σ) (m_X7_path a b c μ) := by
  obtain ⟨hs, p, q, n, y, w⟩ := h
  have hp := w.1.1
  have hp12 := w.1.2.2.2.2.1
  have I : INV σ μ := ⟨hs, p, q, n, y, w⟩
  have e : m_X7_in c.toInt64 0 60 μ = some (wi c 0 60) := q_in c 0 60 μ
  rcases wi_c (n := p) (by omega) a with hw | ⟨hw, i, hi, rfl⟩
  · exact ⟨-1, σ, μ, by simp only [m_X6_path, q_hasPlace hs.1 hp, gb1_s, hw, if_true], by simp only [m_X7_path, q_isPlace hp, gb1_s, hw, if_true], I⟩
  rcases wi_c (n := p) (by omega) b with hv | ⟨hv, j, hj, rfl⟩
  · exact ⟨-1, σ, μ, by simp only [m_X6_path, q_hasPlace hs.1 hp, gb1_s, hw, hv, ne10, if_true, if_false], by simp only [m_X7_path, q_isPlace hp, gb1_s, hw, hv, ne10, if_true, if_false], I⟩
  by_cases hij : i = j
  · subst hij
    exact ⟨-1, σ, μ, by simp only [m_X6_path, q_hasPlace hs.1 hp, gb1_s, hw, ne10, if_true, if_false], by simp only [m_X7_path, q_isPlace hp, gb1_s, hw, ne10, if_true, if_false], I⟩
  have hne : ¬ nI i = nI j := fun q => hij ((nI_eq (by omega) (by omega)).mp q)
  rcases wi_r c 0 60 with hu | ⟨hu, h1, h2⟩
  · exact ⟨-1, σ, μ, by simp only [m_X6_path, q_hasPlace hs.1 hp, q_within, gb1_s, hw, hv, hu, hne, ne10, if_true, if_false], by simp only [m_X7_path, q_isPlace hp, e, gb1_s, hw, hv, hu, hne, ne10, if_true, if_false], I⟩
  obtain ⟨σ', μ', f1, f2, f3, f4, -, -⟩ := q_join hs (show i < 12 by omega) (show j < 12 by omega) c
  have e1 : (120 : Int32) + 12 * nI i + nI j = nI (120 + 12 * i + j) := by rw [show (120 : Int32) = nI 120 from rfl, show (12 : Int32) = nI 12 from rfl, nI_mul, nI_add, nI_add]
  refine ⟨μ 1 (120 + 12 * i + j), σ', μ', ?_, ?_, f3, p, q, n, y, ?_⟩
  · simp only [m_X6_path, q_hasPlace hs.1 hp, q_within, gb1_s, hw, hv, hu, hne, ne10, if_false, inb_t (show i < 12 by omega) (by decide), inb_t (show j < 12 by omega) (by decide), gck_s, gnm_s, nI_clamp (show i < 2 ^ 31 by omega), nI_clamp (show j < 2 ^ 31 by omega), f1, Rg_min hs.1 (show i < 12 by omega) (show j < 12 by omega)]
  · simp only [m_X7_path, q_isPlace hp, e, gb1_s, hw, hv, hu, hne, ne10, if_false, m_X7_pathOf, e1, inb_t (show 120 + 12 * i + j < 528 by omega) (by decide), gck_s, nI_clamp (show 120 + 12 * i + j < 2 ^ 31 by omega), f2]
  · rw [f4]; exact WF_path w hi hj hij ⟨h1, h2⟩
