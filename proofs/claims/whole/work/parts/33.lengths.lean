/-! ===== lengths ===== -/
theorem q_choose {σ μ : gMem} {S : Nat → Nat} {N : Nat} (hN : N < 256) (hS : ∀ l, S l < 256) (a1 : ∀ l, l < 61 → σ 137 l = nI (S l)) (a2 : ∀ k, k ≤ 61 → ∀ t, t ≤ N → σ (139 + (61 - k)) t = nI (sV 100 S k t)) (b1 : ∀ l, l < 61 → μ 11 l = nI (S l)) (b2 : ∀ k, k ≤ 61 → ∀ t, t < 256 → μ 10 (256 * (61 - k) + t) = nI (sV 99 S k t)) (a : Int32) : ∀ d l m left tk, l + d = 61 → d < m → left ≤ N → ∃ t v, m_X4_chosen_21 a σ m (nI left) (nI tk) (nI l) = some (t, v) ∧ m_X7_lengths_73 a μ m (nI left) (nI tk - 1) (nI l) = some (t, v) := by
  intro d
  induction d with
  | zero =>
    intro l m left tk hl hm hleft
    obtain ⟨m', rfl⟩ : ∃ m', m = m' + 1 := ⟨m - 1, by omega⟩
    obtain rfl : l = 61 := by omega
    refine ⟨1, nI 61, ?_, ?_⟩
    · show b_X4_chosen_21 a σ (m_X4_chosen_21 a σ m') (nI left) (nI tk) (nI 61) = _
      simp only [b_X4_chosen_21, show (60 : Int32) < nI 61 from by decide, if_true]
    · show b_X7_lengths_73 a μ (m_X7_lengths_73 a μ m') (nI left) _ (nI 61) = _
      simp only [b_X7_lengths_73, show (60 : Int32) < nI 61 from by decide, if_true]
  | succ d ih =>
    intro l m left tk hl hm hleft
    obtain ⟨m', rfl⟩ : ∃ m', m = m' + 1 := ⟨m - 1, by omega⟩
    have hl61 : l < 61 := by omega
    have al := an_le left (S l)
    have c0 : ¬ 60 < nI l := fun h => by have := (nI_ltI (a := 60) (show 60 < 2 ^ 31 by decide) (show l < 2 ^ 31 by omega)).mp h; omega
    have i61 := inb_t hl61 (show 61 < 2 ^ 31 by decide)
    have i62 := inb_t (show l < 62 by omega) (show 62 < 2 ^ 31 by decide)
    have j62 := inb_t (show l + 1 < 62 by omega) (show 62 < 2 ^ 31 by decide)
    have il := inb_t (show left < 256 by omega) (show 256 < 2 ^ 31 by decide)
    have ia := inb_t (show an left (S l) < 256 by omega) (show 256 < 2 ^ 31 by decide)
    have kl := nI_clamp (show l < 2 ^ 31 by omega)
    have kl1 := nI_clamp (show l + 1 < 2 ^ 31 by omega)
    have kL := nI_clamp (show left < 2 ^ 31 by omega)
    have kA := nI_clamp (show an left (S l) < 2 ^ 31 by omega)
    have x1 : σ (139 + l) left = nI (sV 100 S (d + 1) left) := by
      have := a2 (d + 1) (by omega) left hleft
      rw [show 61 - (d + 1) = l by omega] at this; exact this
    have x2 : σ (139 + (l + 1)) (an left (S l)) = nI (sV 100 S d (an left (S l))) := by
      have := a2 d (by omega) (an left (S l)) (by omega)
      rw [show 61 - d = l + 1 by omega] at this; exact this
    have y1 : μ 10 (256 * l + left) = nI (sV 99 S (d + 1) left) := by
      have := b2 (d + 1) (by omega) left (by omega)
      rw [show 61 - (d + 1) = l by omega] at this; exact this
    have y2 : μ 10 (256 * (l + 1) + an left (S l)) = nI (sV 99 S d (an left (S l))) := by
      have := b2 d (by omega) (an left (S l)) (by omega)
      rw [show 61 - d = l + 1 by omega] at this; exact this
    have m0 : (256 : Int32) * nI l = nI (256 * l) := nI_mul 256 _
    have m1 : (256 : Int32) * nI (l + 1) = nI (256 * (l + 1)) := nI_mul 256 _
    have d1 : inb (nI (256 * l + left)) 15872 = true := inb_t (by omega) (by decide)
    have d2 : inb (nI (256 * (l + 1) + an left (S l))) 15872 = true := inb_t (by omega) (by decide)
    have k1 := nI_clamp (show 256 * l + left < 2 ^ 31 by omega)
    have k2 := nI_clamp (show 256 * (l + 1) + an left (S l) < 2 ^ 31 by omega)
    have E := sV_eq S (show d < 61 by omega) left
    rw [show 60 - d = l by omega] at E
    have B1 := (sV_b S (show d + 1 ≤ 61 by omega) left)
    have B2 := (sV_b S (show d ≤ 61 by omega) (an left (S l)))
    have g1 : (1 : Int32) + nI (sV 100 S d (an left (S l))) = nI (1 + sV 100 S d (an left (S l))) := nI_add 1 _
    have g2 : (1 : Int32) + nI (sV 99 S d (an left (S l))) = nI (1 + sV 99 S d (an left (S l))) := nI_add 1 _
    have E1 := nI_eqI (show sV 100 S (d + 1) left < 2 ^ 31 by omega) (show 1 + sV 100 S d (an left (S l)) < 2 ^ 31 by omega)
    have E2 := nI_eqI (show sV 99 S (d + 1) left < 2 ^ 31 by omega) (show 1 + sV 99 S d (an left (S l)) < 2 ^ 31 by omega)
    have t1 : nI tk - 1 + 1 = nI tk := Int32.sub_add_cancel _ _
    have t2 : nI (tk + 1) - 1 = nI tk := by rw [← nI_1]; exact Int32.add_sub_cancel _ _
    have U : m_X4_chosen_21 a σ (m' + 1) (nI left) (nI tk) (nI l) = b_X4_chosen_21 a σ (m_X4_chosen_21 a σ m') (nI left) (nI tk) (nI l) := rfl
    have V : m_X7_lengths_73 a μ (m' + 1) (nI left) (nI tk - 1) (nI l) = b_X7_lengths_73 a μ (m_X7_lengths_73 a μ m') (nI left) (nI tk - 1) (nI l) := rfl
    by_cases c : sV 99 S (d + 1) left = 1 + sV 99 S d (an left (S l))
    · have e1 : nI (sV 100 S (d + 1) left) = nI (1 + sV 100 S d (an left (S l))) := E1.mpr (E.mpr c)
      have e2 : nI (sV 99 S (d + 1) left) = nI (1 + sV 99 S d (an left (S l))) := E2.mpr c
      by_cases c2 : nI tk = a
      · refine ⟨0, nI l, ?_, ?_⟩
        · rw [U]; simp only [b_X4_chosen_21, c0, if_false, i61, gck_s, gnm_s, kl, a1 l hl61, an_I (show left < 256 by omega) (hS l), i62, il, nI_1, j62, ia, kL, kl1, kA, x1, x2, g1, e1, if_true, c2]
        · rw [V]; simp only [b_X7_lengths_73, c0, if_false, i61, gck_s, gnm_s, kl, b1 l hl61, an_I (show left < 256 by omega) (hS l), nI_1, m0, m1, nI_add, d1, d2, k1, k2, y1, y2, g2, e2, if_true, c2, show a - 1 + 1 = a from Int32.sub_add_cancel _ _, eq_self]
      · obtain ⟨t, v, h1, h2⟩ := ih (l + 1) m' (an left (S l)) (tk + 1) (by omega) (by omega) (by omega)
        rw [t2] at h2
        refine ⟨t, v, ?_, ?_⟩
        · rw [U]; simp only [b_X4_chosen_21, c0, if_false, i61, gck_s, gnm_s, kl, a1 l hl61, an_I (show left < 256 by omega) (hS l), i62, il, nI_1, j62, ia, kL, kl1, kA, x1, x2, g1, e1, if_true, c2, h1]
        · rw [V]; simp only [b_X7_lengths_73, c0, if_false, i61, gck_s, gnm_s, kl, b1 l hl61, an_I (show left < 256 by omega) (hS l), nI_1, m0, m1, nI_add, d1, d2, k1, k2, y1, y2, g2, e2, if_true, t1, c2, h2]
    · have e1 : ¬ nI (sV 100 S (d + 1) left) = nI (1 + sV 100 S d (an left (S l))) := fun h => c (E.mp (E1.mp h))
      have e2 : ¬ nI (sV 99 S (d + 1) left) = nI (1 + sV 99 S d (an left (S l))) := fun h => c (E2.mp h)
      obtain ⟨t, v, h1, h2⟩ := ih (l + 1) m' left tk (by omega) (by omega) hleft
      refine ⟨t, v, ?_, ?_⟩
      · rw [U]; simp only [b_X4_chosen_21, c0, if_false, i61, gck_s, gnm_s, kl, a1 l hl61, an_I (show left < 256 by omega) (hS l), i62, il, nI_1, j62, ia, kL, kl1, kA, x1, x2, g1, e1, h1]
      · rw [V]; simp only [b_X7_lengths_73, c0, if_false, i61, gck_s, gnm_s, kl, b1 l hl61, an_I (show left < 256 by omega) (hS l), nI_1, m0, m1, nI_add, d1, d2, k1, k2, y1, y2, g2, e2, h2]
theorem p_lengths {σ μ : gMem} (h : INV σ μ) (a : Int32) : OKu σ μ (m_X6_lengths a σ) (m_X7_lengths a μ) := by
  have I := h
  obtain ⟨hs, p, q, n, y, w⟩ := h
  have hn := w.1.2.2.1
  have n10 := w.1.2.2.2.2.2.2.1
  have hσ : σ 1 12 = nI n := (Rg_nee hs.1).trans hn
  by_cases c1 : (-1 : Int32) ≤ a
  · by_cases c2 : nI n = 0
    · exact ⟨-2, σ, μ, by simp only [m_X6_lengths, c1, hσ, c2, if_true], by simp only [m_X7_lengths, c1, in64, gck_s, l64, hn, c2, if_true], I⟩
    obtain ⟨s, x0, x1, x2, x3, x4⟩ := q_weighX hs.1 w
    obtain ⟨t, y0, y1, y3, y4⟩ := q_fewestM w
    have hN : sN (μ 1) n < 256 := sN_r w n (Nat.le_refl _)
    have hS : ∀ l, sS (μ 1) (sN (μ 1) n) l n < 256 := fun l => sS_r w hN l n (Nat.le_refl _)
    have t1 : t 1 = μ 1 := y1 1 (by decide) (by decide)
    have ND := q_needyM (μ := t) (by rw [t1]; exact w)
    rw [t1] at ND
    have I' : INV s t := INV_scr I (fun c hc => x1 c (by omega)) (fun c hc => y1 c (by omega) (by omega)) (by rw [y1 0 (by decide) (by decide)]) (by rw [y1 0 (by decide) (by decide)])
    have FX : s 139 (sN (μ 1) n) = nI (sV 100 (fun l => sS (μ 1) (sN (μ 1) n) l n) 61 (sN (μ 1) n)) := x4 61 (Nat.le_refl _) _ (Nat.le_refl _)
    have FM : t 10 (sN (μ 1) n) = nI (sV 99 (fun l => sS (μ 1) (sN (μ 1) n) l n) 61 (sN (μ 1) n)) := by
      have := y4 61 (Nat.le_refl _) _ hN
      rw [show 256 * (61 - 61) + sN (μ 1) n = sN (μ 1) n by omega] at this; exact this
    have R := sV_r (fun l => sS (μ 1) (sN (μ 1) n) l n) 61 (Nat.le_refl _) (sN (μ 1) n)
    have P := sV_p (fun l => sS (μ 1) (sN (μ 1) n) l n) 61 (Nat.le_refl _) (sN (μ 1) n) hN
    have P8 := pc_r _ hN
    have CH := q_choose hN hS x3 x4 y3 y4 a 61 0 100000 (sN (μ 1) n) 0 (by decide) (by decide) (Nat.le_refl _)
    generalize eV : sV 99 (fun l => sS (μ 1) (sN (μ 1) n) l n) 61 (sN (μ 1) n) = v at *
    generalize eU : sV 100 (fun l => sS (μ 1) (sN (μ 1) n) l n) 61 (sN (μ 1) n) = u at *
    generalize eN : sN (μ 1) n = N at *
    have i62 : inb 0 62 = true := rfl
    have iN := inb_t hN (show 256 < 2 ^ 31 by decide)
    have jN := inb_t (show N < 15872 by omega) (show 15872 < 2 ^ 31 by decide)
    have kN := nI_clamp (show N < 2 ^ 31 by omega)
    have z139 : 139 + (0 : Int32).toNatClampNeg = 139 := rfl
    have u100 : (100 : Int32) ≤ nI u ↔ 100 ≤ u := nI_leI (a := 100) (by decide) (by omega)
    have v60 : nI v ≤ (60 : Int32) ↔ v ≤ 60 := nI_leI (b := 60) (by omega) (by decide)
    by_cases c3 : v ≤ 60
    · have euv : u = v := by omega
      have f1 : ¬ (100 : Int32) ≤ nI u := fun h => by have := u100.mp h; omega
      have f2 : nI v ≤ (60 : Int32) := v60.mpr c3
      have FL : m_X4_fewestLengths s = some (nI v) := by
        simp only [m_X4_fewestLengths, i62, gck_s, x2, iN, z139, kN, FX, f1, if_false]; rw [euv]
      by_cases c4 : a = -1
      · subst c4
        exact ⟨nI v, s, t, by simp only [m_X6_lengths, c1, hσ, c2, if_true, if_false, x0, gb1_s, FL], by simp only [m_X7_lengths, c1, in64, gck_s, l64, hn, c2, if_true, if_false, y0, gb1_s, ND, jN, gnm_s, kN, FM, f2], I'⟩
      by_cases c5 : a < nI v
      · obtain ⟨tt, vv, h1, h2⟩ := CH
        replace h2 : m_X7_lengths_73 a t gFU (nI N) (-1) 0 = some (tt, vv) := h2
        replace h1 : m_X4_chosen_21 a s gFU (nI N) 0 0 = some (tt, vv) := h1
        refine ⟨if tt = 0 then vv else -4, s, t, ?_, ?_, I'⟩
        · simp only [m_X6_lengths, c1, hσ, c2, if_true, if_false, x0, gb1_s, c4, m_X4_chosen, FL, c5, gnm_s, x2, h1, gb2_s]
          split <;> rfl
        · simp only [m_X7_lengths, c1, in64, gck_s, l64, hn, c2, if_true, if_false, y0, gb1_s, ND, jN, gnm_s, kN, FM, f2, c4, c5, h2, gb2_s]
          split <;> rfl
      · exact ⟨-4, s, t, by simp only [m_X6_lengths, c1, hσ, c2, if_true, if_false, x0, gb1_s, c4, m_X4_chosen, FL, c5], by simp only [m_X7_lengths, c1, in64, gck_s, l64, hn, c2, if_true, if_false, y0, gb1_s, ND, jN, gnm_s, kN, FM, f2, c4, c5], I'⟩
    · have f1 : (100 : Int32) ≤ nI u := u100.mpr (by omega)
      have f2 : ¬ nI v ≤ (60 : Int32) := fun h => c3 (v60.mp h)
      have FL : m_X4_fewestLengths s = some (-4) := by
        simp only [m_X4_fewestLengths, i62, gck_s, x2, iN, z139, kN, FX, f1, if_true]
      have Y : m_X7_lengths a μ = some (-4, t) := by simp only [m_X7_lengths, c1, in64, gck_s, l64, hn, c2, if_true, if_false, y0, gb1_s, ND, jN, gnm_s, kN, FM, f2]
      by_cases c4 : a = -1
      · subst c4
        exact ⟨-4, s, t, by simp only [m_X6_lengths, c1, hσ, c2, if_true, if_false, x0, gb1_s, FL], Y, I'⟩
      · have c5 : ¬ a < -4 := fun h => by
          have h1 := i32_lt.mp h
          have h2 := i32_le.mp c1
          have e1 : (-4 : Int32).toInt = -4 := rfl
          have e2 : (-1 : Int32).toInt = -1 := rfl
          omega
        exact ⟨-4, s, t, by simp only [m_X6_lengths, c1, hσ, c2, if_true, if_false, x0, gb1_s, c4, m_X4_chosen, FL, c5], Y, I'⟩
  · exact ⟨-1, σ, μ, by simp only [m_X6_lengths, c1, if_false], by simp only [m_X7_lengths, c1, if_false], I⟩
