/-! ===== way and race ===== -/
theorem q_isMinute (a : Int32) (σ : gMem) : m_X6_isMinute a σ = some (wi a 0 1439) := by
  simp only [m_X6_isMinute, q_within, gb1_s, izb_wi, gck_s]
theorem p_way {σ μ : gMem} (h : INV σ μ) (a b c d : Int32) : OKu σ μ (m_X6_way a b c d σ) (m_X7_way a b c d μ) := by
  have I := h
  obtain ⟨hs, p, q, n, y, w⟩ := h
  have hp := w.1.1
  have hq := w.1.2.1
  have hp12 := w.1.2.2.2.2.1
  have hq8 := w.1.2.2.2.2.2.1
  have ec : m_X7_in c.toInt64 0 1439 μ = some (wi c 0 1439) := q_in c 0 1439 μ
  have ed : m_X7_in d.toInt64 0 1 μ = some (wi d 0 1) := q_in d 0 1 μ
  rcases wi_c (n := q) (by omega) a with hu | ⟨hu, i, hi, rfl⟩
  · exact ⟨-1, σ, μ, by simp only [m_X6_way, q_hasPerson hs.1 hq, gb1_s, hu, if_true], by simp only [m_X7_way, q_isPerson hq, gb1_s, hu, if_true], I⟩
  rcases wi_c (n := p) (by omega) b with hw | ⟨hw, j, hj, rfl⟩
  · exact ⟨-1, σ, μ, by simp only [m_X6_way, q_hasPerson hs.1 hq, q_hasPlace hs.1 hp, gb1_s, hu, hw, ne10, if_true, if_false], by simp only [m_X7_way, q_isPerson hq, q_isPlace hp, gb1_s, hu, hw, ne10, if_true, if_false], I⟩
  rcases wi_n (m := 1439) (by decide) c with hv | ⟨hv, st, hst, rfl⟩
  · replace hv : wi c 0 1439 = 0 := hv
    exact ⟨-1, σ, μ, by simp only [m_X6_way, q_hasPerson hs.1 hq, q_hasPlace hs.1 hp, q_isMinute, gb1_s, hu, hw, hv, ne10, if_true, if_false], by simp only [m_X7_way, q_isPerson hq, q_isPlace hp, ec, gb1_s, hu, hw, hv, ne10, if_true, if_false], I⟩
  replace hv : wi (nI st) 0 1439 = 1 := hv
  rcases wi_n (m := 1) (by decide) d with hx | ⟨hx, e, he, rfl⟩
  · replace hx : wi d 0 1 = 0 := hx
    exact ⟨-1, σ, μ, by simp only [m_X6_way, q_hasPerson hs.1 hq, q_hasPlace hs.1 hp, q_isMinute, q_within, gb1_s, hu, hw, hv, hx, ne10, if_true, if_false], by simp only [m_X7_way, q_isPerson hq, q_isPlace hp, ec, ed, gb1_s, hu, hw, hv, hx, ne10, if_true, if_false], I⟩
  replace hx : wi (nI e) 0 1 = 1 := hx
  have g := wZ_good w (s := st) hi (by omega)
  obtain ⟨σ1, A1, A2, A3⟩ := q_prepare w hs.1 (st := st) hi
  obtain ⟨μ1, B1, B2, B3, B4, B5⟩ := q_go w (μ := μ) rfl hi (show st < 1440 by omega) hj
  have X : m_X6_way (nI i) (nI j) (nI st) (nI e) σ = if nI e = 0 then (gb2 (m_X5_soonest (nI j) σ1) fun r16 s15 => some (r16, s15)) else (gb2 (m_X5_lightest (nI j) σ1) fun r13 s12 => some (r13, s12)) := by
    simp only [m_X6_way, q_hasPerson hs.1 hq, q_hasPlace hs.1 hp, q_isMinute, q_within, gb1_s, hu, hw, hv, hx, ne10, if_false, A1]
  have Y : m_X7_way (nI i) (nI j) (nI st) (nI e) μ = if nI e = 0 then some (μ1 0 14, μ1) else some (μ1 0 15, μ1) := by
    simp only [m_X7_way, q_isPerson hq, q_isPlace hp, ec, ed, gb1_s, hu, hw, hv, hx, ne10, if_false, B1]
  have J : ∀ s, (∀ c, c < 54 ∨ 204 ≤ c → s c = σ1 c) → INV s μ1 := fun s hh => INV_scr I (fun c hc => by rw [hh c hc]; exact A3 c hc) (fun c hc => B4 c (by omega) (by omega) (by omega)) (B5 1 (by decide) (by decide)) (B5 3 (by decide) (by decide))
  by_cases c0 : e = 0
  · obtain ⟨r, s, C1, C2, C3⟩ := q_soonest g A2 (show j < kn (wZ (μ 1) p i st) from hj)
    rw [if_pos (show nI e = 0 by rw [c0]; rfl)] at X Y
    rw [C1, gb2_s] at X
    rw [wSo_u B2 C2] at Y
    exact ⟨r, s, μ1, X, Y, J s C3⟩
  · obtain ⟨s, C1, C3⟩ := q_lightest g A2 (show j < kn (wZ (μ 1) p i st) from hj)
    rw [if_neg (nI_ne0 (by omega) (by omega))] at X Y
    rw [C1, gb2_s] at X
    rw [B3] at Y
    exact ⟨_, s, μ1, X, Y, J s C3⟩
theorem q_race {σ μ : gMem} {z : Nat → Int32} {p q n' y : Nat} (w : WF p q n' y z) (hR : Rg 1 13 σ z) (e1 : μ 1 = z) {b st : Nat} (hb : b < p) (hst : st < 1440) (a : Int32) : ∀ d j n m x5 x6 x7 (s u : gMem), j + d = q → d < n → d < m → (∀ c, c < 54 ∨ 204 ≤ c → s c = σ c) → (∀ c, c ≠ 0 → c ≠ 8 → c ≠ 9 → u c = μ c) → (∀ j, j ≠ 14 → j ≠ 15 → u 0 j = μ 0 j) → ∃ y5 y7 s' u', m_X6_race_56 a (nI b) (nI st) n x5 x6 x7 (nI j) s = some (y5, y7, s') ∧ m_X7_race_56 a (nI b) (nI st) m x5 x6 x7 (nI j) u = some (y5, y7, u') ∧ (∀ c, c < 54 ∨ 204 ≤ c → s' c = σ c) ∧ (∀ c, c ≠ 0 → c ≠ 8 → c ≠ 9 → u' c = μ c) ∧ ∀ j, j ≠ 14 → j ≠ 15 → u' 0 j = μ 0 j := by
  have hq8 := w.1.2.2.2.2.2.1
  have S8 : ∀ s : gMem, (∀ c, c < 54 ∨ 204 ≤ c → s c = σ c) → Rg 1 13 s z := fun s hh => Rg_fr hR (fun c h1 h2 => hh c (by omega))
  intro d
  induction d with
  | zero =>
    intro j n m x5 x6 x7 s u hj hn hm h1 h2 h3
    obtain ⟨n', rfl⟩ : ∃ n', n = n' + 1 := ⟨n - 1, by omega⟩
    obtain ⟨m', rfl⟩ : ∃ m', m = m' + 1 := ⟨m - 1, by omega⟩
    have u1 : u 1 = z := by rw [h2 1 (by decide) (by decide) (by decide)]; exact e1
    have s8 : s 1 8 = nI q := (Rg_peo (S8 s h1)).trans w.1.2.1
    refine ⟨x5, x7, s, u, ?_, ?_, h1, h2, h3⟩
    · show b_X6_race_56 a (nI b) (nI st) (m_X6_race_56 a (nI b) (nI st) n') x5 x6 x7 (nI j) s = _
      unfold b_X6_race_56
      rw [s8, if_pos (nI_le (by omega) (by omega))]
    · show b_X7_race_56 a (nI b) (nI st) (m_X7_race_56 a (nI b) (nI st) m') x5 x6 x7 (nI j) u = _
      unfold b_X7_race_56
      rw [in63, gck_s, l63, u1, w.1.2.1, if_pos (nI_le (by omega) (by omega))]
  | succ d ih =>
    intro j n m x5 x6 x7 s u hj hn hm h1 h2 h3
    obtain ⟨n', rfl⟩ : ∃ n', n = n' + 1 := ⟨n - 1, by omega⟩
    obtain ⟨m', rfl⟩ : ∃ m', m = m' + 1 := ⟨m - 1, by omega⟩
    have jq : j < q := by omega
    have u1 : u 1 = z := by rw [h2 1 (by decide) (by decide) (by decide)]; exact e1
    have s8 : s 1 8 = nI q := (Rg_peo (S8 s h1)).trans w.1.2.1
    have V : m_X6_race_56 a (nI b) (nI st) (n' + 1) x5 x6 x7 (nI j) s = b_X6_race_56 a (nI b) (nI st) (m_X6_race_56 a (nI b) (nI st) n') x5 x6 x7 (nI j) s := rfl
    have U : m_X7_race_56 a (nI b) (nI st) (m' + 1) x5 x6 x7 (nI j) u = b_X7_race_56 a (nI b) (nI st) (m_X7_race_56 a (nI b) (nI st) m') x5 x6 x7 (nI j) u := rfl
    have c1 : ¬ nI q ≤ nI j := nI_ge jq (by omega)
    have eb : (a >>> (nI j &&& 31)) &&& 1 = bt a j := rfl
    unfold b_X6_race_56 at V
    unfold b_X7_race_56 at U
    rw [s8, if_neg c1, q_holds, gb1_s] at V
    rw [in63, gck_s, l63, u1, w.1.2.1, if_neg c1, eb] at U
    rcases bt_01 a j with b0 | b0
    · rw [b0, if_pos rfl, gnm_s, nI_1] at V
      rw [b0, if_neg (show ¬ (0 : Int32) = 1 by decide), gnm_s, nI_1] at U
      obtain ⟨y5, y7, s', u', r1, r2, r3⟩ := ih (j + 1) n' m' x5 x6 x7 s u (by omega) (by omega) (by omega) h1 h2 h3
      exact ⟨y5, y7, s', u', V.trans r1, U.trans r2, r3⟩
    · rw [b0, if_neg ne10] at V
      rw [b0, if_pos rfl] at U
      have g := wZ_good w (s := st) jq hst
      obtain ⟨s1, A1, A2, A3⟩ := q_prepare w (S8 s h1) (st := st) jq
      obtain ⟨r, s2, C1, C2, C3⟩ := q_soonest g A2 (show b < kn (wZ z p j st) from hb)
      obtain ⟨v, B1, B2, -, B4, B5⟩ := q_go w (μ := u) u1 jq hst hb
      have er : v 0 14 = r := wSo_u B2 C2
      rw [A1, gb1_s, C1, gb2_s] at V
      rw [B1, gb1_s, er] at U
      have F1 : ∀ c, c < 54 ∨ 204 ≤ c → s2 c = σ c := fun c hc => by rw [C3 c hc, A3 c hc]; exact h1 c hc
      have F2 : ∀ c, c ≠ 0 → c ≠ 8 → c ≠ 9 → v c = μ c := fun c k1 k2 k3 => by rw [B4 c k1 k2 k3]; exact h2 c k1 k2 k3
      have F3 : ∀ j, j ≠ 14 → j ≠ 15 → v 0 j = μ 0 j := fun j k1 k2 => by rw [B5 j k1 k2]; exact h3 j k1 k2
      rcases C2 with ⟨t, t6, et, -, -⟩ | ⟨et, -⟩
      · have n4 : ¬ r = -4 := by rw [et, i32_eq, nI_toInt (by omega)]; show ¬ (t : Int) = -4; omega
        have n0 : ¬ r < 0 := by rw [et]; exact nI_pos (by omega)
        rw [if_neg n4, gnm_s] at V
        rw [if_neg n0, gb1_s, gnm_s, if_neg n0] at U
        by_cases c : x6 ≤ r
        · rw [if_pos c, gnm_s, nI_1] at V
          rw [if_pos c, gnm_s, nI_1] at U
          obtain ⟨y5, y7, s', u', r1, r2, r3⟩ := ih (j + 1) n' m' x5 x6 (x7 + 1) s2 v (by omega) (by omega) (by omega) F1 F2 F3
          exact ⟨y5, y7, s', u', V.trans r1, U.trans r2, r3⟩
        · rw [if_neg c, gnm_s, nI_1] at V
          rw [if_neg c, gnm_s, gnm_s, nI_1] at U
          obtain ⟨y5, y7, s', u', r1, r2, r3⟩ := ih (j + 1) n' m' (nI j) r (x7 + 1) s2 v (by omega) (by omega) (by omega) F1 F2 F3
          exact ⟨y5, y7, s', u', V.trans r1, U.trans r2, r3⟩
      · have l0 : r < 0 := by rw [et]; decide
        rw [if_pos et, gnm_s, nI_1] at V
        rw [if_pos l0, gb1_s, gnm_s, if_pos l0, gnm_s, nI_1, show x7 + 0 = x7 from Int32.add_zero _] at U
        obtain ⟨y5, y7, s', u', r1, r2, r3⟩ := ih (j + 1) n' m' x5 x6 x7 s2 v (by omega) (by omega) (by omega) F1 F2 F3
        exact ⟨y5, y7, s', u', V.trans r1, U.trans r2, r3⟩
theorem p_race {σ μ : gMem} (h : INV σ μ) (a b c d : Int32) : OKu σ μ (m_X6_race a b c d σ) (m_X7_race a b c d μ) := by
  have I := h
  obtain ⟨hs, p, q, n, y, w⟩ := h
  have hp := w.1.1
  have hq := w.1.2.1
  have hp12 := w.1.2.2.2.2.1
  have hq8 := w.1.2.2.2.2.2.1
  have ec : m_X7_in c.toInt64 0 1439 μ = some (wi c 0 1439) := q_in c 0 1439 μ
  have ed : m_X7_in d.toInt64 0 1 μ = some (wi d 0 1) := q_in d 0 1 μ
  rcases wi_r a 1 (((1 : Int32) <<< (μ 1 63 &&& 31)) - 1) with hu | ⟨hu, -⟩
  · exact ⟨-1, σ, μ, by simp only [m_X6_race, q_hasPeople hs.1, gb1_s, hu, if_true], by simp only [m_X7_race, q_isSet, gb1_s, hu, if_true], I⟩
  rcases wi_c (n := p) (by omega) b with hw | ⟨hw, j, hj, rfl⟩
  · exact ⟨-1, σ, μ, by simp only [m_X6_race, q_hasPeople hs.1, q_hasPlace hs.1 hp, gb1_s, hu, hw, ne10, if_true, if_false], by simp only [m_X7_race, q_isSet, q_isPlace hp, gb1_s, hu, hw, ne10, if_true, if_false], I⟩
  rcases wi_n (m := 1439) (by decide) c with hv | ⟨hv, st, hst, rfl⟩
  · replace hv : wi c 0 1439 = 0 := hv
    exact ⟨-1, σ, μ, by simp only [m_X6_race, q_hasPeople hs.1, q_hasPlace hs.1 hp, q_isMinute, gb1_s, hu, hw, hv, ne10, if_true, if_false], by simp only [m_X7_race, q_isSet, q_isPlace hp, ec, gb1_s, hu, hw, hv, ne10, if_true, if_false], I⟩
  replace hv : wi (nI st) 0 1439 = 1 := hv
  rcases wi_n (m := 1) (by decide) d with hx | ⟨hx, e, he, rfl⟩
  · replace hx : wi d 0 1 = 0 := hx
    exact ⟨-1, σ, μ, by simp only [m_X6_race, q_hasPeople hs.1, q_hasPlace hs.1 hp, q_isMinute, q_within, gb1_s, hu, hw, hv, hx, ne10, if_true, if_false], by simp only [m_X7_race, q_isSet, q_isPlace hp, ec, ed, gb1_s, hu, hw, hv, hx, ne10, if_true, if_false], I⟩
  replace hx : wi (nI e) 0 1 = 1 := hx
  obtain ⟨y5, y7, s', u', r1, r2, r3, r4, r5⟩ := q_race w hs.1 (μ := μ) rfl hj (show st < 1440 by omega) a q 0 100000 100000 (-4) 601 0 σ μ (by omega) (by omega) (by omega) (fun _ _ => rfl) (fun _ _ _ _ => rfl) (fun _ _ _ => rfl)
  have r1' : m_X6_race_56 a (nI j) (nI st) gFU (-4) 601 0 (nI 0) σ = some (y5, y7, s') := r1
  have r2' : m_X7_race_56 a (nI j) (nI st) gFU (-4) 601 0 (nI 0) μ = some (y5, y7, u') := r2
  rw [show nI 0 = 0 from rfl] at r1' r2'
  have X : m_X6_race a (nI j) (nI st) (nI e) σ = if nI e = 0 then some (y5, s') else some (y7, s') := by
    simp only [m_X6_race, q_hasPeople hs.1, q_hasPlace hs.1 hp, q_isMinute, q_within, gb1_s, hu, hw, hv, hx, ne10, if_false, r1', gb3_s]
  have Y : m_X7_race a (nI j) (nI st) (nI e) μ = if nI e = 0 then some (y5, u') else some (y7, u') := by
    simp only [m_X7_race, q_isSet, q_isPlace hp, ec, ed, gb1_s, hu, hw, hv, hx, ne10, if_false, r2', gb3_s]
  have J : INV s' u' := INV_scr I r3 (fun c hc => r4 c (by omega) (by omega) (by omega)) (r5 1 (by decide) (by decide)) (r5 3 (by decide) (by decide))
  by_cases c0 : nI e = 0
  · rw [if_pos c0] at X Y
    exact ⟨y5, s', u', X, Y, J⟩
  · rw [if_neg c0] at X Y
    exact ⟨y7, s', u', X, Y, J⟩
