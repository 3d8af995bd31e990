theorem p_set {σ μ : gMem} (h : INV σ μ) (a b : Int32) : OKu σ μ (m_X6_set a b σ) (m_X7_set a b μ) := by
  have e4 : m_X7_in b.toInt64 0 40 μ = some (wi b 0 40) := q_in b 0 40 μ
  have e6 : m_X7_in b.toInt64 0 60 μ = some (wi b 0 60) := q_in b 0 60 μ
  have ea : m_X7_in a.toInt64 0 1 μ = some (wi a 0 1) := q_in a 0 1 μ
  have n01 : ¬ (0 : Int32) = 1 := by decide
  by_cases a0 : a = 0
  · subst a0
    have ea : m_X7_in (0 : Int32).toInt64 0 1 μ = some 1 := q_in 0 0 1 μ
    rcases wi_r b 0 40 with hv | ⟨hv, h1, h2⟩
    · exact ⟨-1, σ, μ, by simp only [m_X6_set, q_within, gb1_s, hv, if_true, n01, if_false], by simp only [m_X7_set, ea, e4, gb1_s, hv, ne10, if_true, if_false], h⟩
    · obtain ⟨hs, p, q, n, y, w⟩ := h
      obtain ⟨c1, c2, c3⟩ := q_chg hs (k := 60) (by omega) (c := 1) (s := 6) rfl b
      refine ⟨μ 1 60, _, _, ?_, ?_, c2, p, q, n, y, ?_⟩
      · simp only [m_X6_set, q_within, gb1_s, hv, if_true, ne10, if_false, gnm_s, c1]
      · simp only [m_X7_set, ea, e4, gb1_s, hv, ne10, if_true, if_false, show (60 : Int32) + 0 = 60 from rfl, in60, l60, gck_s, gnm_s]
      · rw [c3]
        exact WF_one w (fun j hj => pk_un hj) pk_us (by omega) ⟨fun q => absurd q (by omega), fun _ q => absurd q (by omega), fun _ q => absurd q (by omega), fun _ q => absurd q (by omega), fun _ => ⟨h1, h2⟩, fun q => absurd q (by omega)⟩
  · by_cases a1 : a = 1
    · subst a1
      have ea : m_X7_in (1 : Int32).toInt64 0 1 μ = some 1 := q_in 1 0 1 μ
      rcases wi_r b 0 60 with hv | ⟨hv, h1, h2⟩
      · exact ⟨-1, σ, μ, by simp only [m_X6_set, q_within, gb1_s, hv, if_true, ne10, if_false], by simp only [m_X7_set, ea, e6, gb1_s, hv, ne10, if_true, if_false], h⟩
      · obtain ⟨hs, p, q, n, y, w⟩ := h
        obtain ⟨c1, c2, c3⟩ := q_chg hs (k := 61) (by omega) (c := 1) (s := 7) rfl b
        refine ⟨μ 1 61, _, _, ?_, ?_, c2, p, q, n, y, ?_⟩
        · simp only [m_X6_set, q_within, gb1_s, hv, if_true, ne10, if_false, gnm_s, c1]
        · simp only [m_X7_set, ea, e6, gb1_s, hv, ne10, if_true, if_false, show (60 : Int32) + 1 = 61 from rfl, in61, l61, gck_s, gnm_s]
        · rw [c3]
          exact WF_one w (fun j hj => pk_un hj) pk_us (by omega) ⟨fun q => absurd q (by omega), fun _ q => absurd q (by omega), fun _ q => absurd q (by omega), fun _ q => absurd q (by omega), fun q => absurd q (by omega), fun _ => ⟨h1, h2⟩⟩
    · have hw : wi a 0 1 = 0 := by
        rw [wi_0]
        intro ⟨h1, h2⟩
        have h1 : 0 ≤ a.toInt := h1
        have h2 : a.toInt ≤ 1 := h2
        have d0 : a.toInt ≠ 0 := gnI (k := 0) (n := 0) a0 rfl
        have d1 : a.toInt ≠ 1 := gnI (k := 1) (n := 1) a1 rfl
        omega
      exact ⟨-1, σ, μ, by simp only [m_X6_set, a0, a1, if_false], by simp only [m_X7_set, ea, gb1_s, hw, if_true], h⟩
/-- the posts but one: how many -/
theorem npo_sp {z : Nat → Int32} {i : Nat} : ∀ p, p ≤ 12 → (i < p → npo z 99 p = npo z i p + if 0 < (z (12 + i)).toInt then 1 else 0) ∧ (p ≤ i → npo z 99 p = npo z i p) := by
  intro p
  induction p with
  | zero => intro _; exact ⟨fun h => absurd h (by omega), fun _ => rfl⟩
  | succ p ih =>
    intro hp
    obtain ⟨i1, i2⟩ := ih (by omega)
    refine ⟨fun h => ?_, fun h => ?_⟩
    · by_cases e : p = i
      · subst e
        simp only [npo, i2 (Nat.le_refl _), ne_eq, not_true_eq_false, false_and, if_false, show ¬ p = 99 by omega, not_false_eq_true, true_and, Nat.add_zero]
      · simp only [npo, i1 (by omega), ne_eq, e, show ¬ p = 99 by omega, not_false_eq_true, true_and]; omega
    · simp only [npo, i2 (by omega), ne_eq, show ¬ p = i by omega, show ¬ p = 99 by omega, not_false_eq_true, true_and]
theorem npo_le {z : Nat → Int32} {b : Nat} : ∀ p, npo z b p ≤ p := by
  intro p
  induction p with
  | zero => exact Nat.le_refl _
  | succ p ih => simp only [npo]; split <;> omega
theorem i32_le0 {x : Int32} : x ≤ 0 ↔ ¬ 0 < x.toInt := by
  rw [i32_le, show (0 : Int32).toInt = 0 from rfl]; omega
theorem q_posts {σ : gMem} {z : Nat → Int32} (h : Rg 1 13 σ z) {p : Nat} (hz : z 62 = nI p) (hp : p ≤ 12) {b : Nat} (hb : b < 12) : m_X1_postsBeside (nI b) σ = some (nI (npo z b p)) := by
  have hσ := (Rg_pla h).trans hz
  have L : m_X1_postsBeside_4 (nI b) σ gFU 0 0 = some (nI (npo z b p)) := by
    refine for_to (fun n i => m_X1_postsBeside_4 (nI b) σ n (nI (npo z b i)) (nI i)) p _ (fun n i hi => ?_) (fun n => ?_) (by omega)
    · show b_X1_postsBeside_4 (nI b) σ (m_X1_postsBeside_4 (nI b) σ n) (nI (npo z b i)) (nI i) = _
      have c1 : ¬ nI p ≤ nI i := nI_ge hi (by omega)
      simp only [b_X1_postsBeside_4, hσ, c1, if_false, nI_eq (show i < 2 ^ 31 by omega) (show b < 2 ^ 31 by omega), inb_t (show i < 12 by omega) (by decide), gck_s, gnm_s, nI_1, nI_clamp (show i < 2 ^ 31 by omega), Rg_spl h (show i < 12 by omega), i32_le0, npo]
      by_cases e : i = b
      · simp only [e, if_true, ne_eq, not_true_eq_false, false_and, if_false, Nat.add_zero]
      · by_cases e2 : 0 < (z (12 + i)).toInt
        · simp only [e, e2, not_true_eq_false, if_false, ne_eq, not_false_eq_true, true_and, if_true, nI_1]
        · simp only [e, e2, not_false_eq_true, if_true, if_false, ne_eq, and_false, Nat.add_zero]
    · show b_X1_postsBeside_4 (nI b) σ (m_X1_postsBeside_4 (nI b) σ n) (nI (npo z b p)) (nI p) = _
      simp only [b_X1_postsBeside_4, hσ, nI_le (Nat.le_refl p) (show p < 2 ^ 31 by omega), if_true]
  simp only [m_X1_postsBeside, L, gb1_s]
theorem q_postsM {μ : gMem} {p : Nat} (hz : μ 1 62 = nI p) (hp : p ≤ 12) {b : Nat} (hb : b < 12) : m_X7_posts (nI b) μ = some (nI (npo (μ 1) b p)) := by
  have L : m_X7_posts_4 (nI b) μ gFU 0 0 = some (nI (npo (μ 1) b p)) := by
    refine for_to (fun n i => m_X7_posts_4 (nI b) μ n (nI (npo (μ 1) b i)) (nI i)) p _ (fun n i hi => ?_) (fun n => ?_) (by omega)
    · show b_X7_posts_4 (nI b) μ (m_X7_posts_4 (nI b) μ n) (nI (npo (μ 1) b i)) (nI i) = _
      have c1 : ¬ nI p ≤ nI i := nI_ge hi (by omega)
      have e1 : (12 : Int32) + nI i = nI (12 + i) := by rw [show (12 : Int32) = nI 12 from rfl, nI_add]
      have e2 : ∀ x : Int32, x + 0 = x := fun x => by simp
      simp only [b_X7_posts_4, in62, l62, hz, c1, if_false, nI_eq (show i < 2 ^ 31 by omega) (show b < 2 ^ 31 by omega), e1, e2, inb_t (show 12 + i < 528 by omega) (by decide), gck_s, gnm_s, nI_1, nI_clamp (show 12 + i < 2 ^ 31 by omega), i32_le0, npo]
      by_cases e : i = b
      · simp only [e, if_true, ne_eq, not_true_eq_false, false_and, if_false, Nat.add_zero]
      · by_cases e2 : 0 < (μ 1 (12 + i)).toInt
        · simp only [e, e2, not_true_eq_false, if_false, ne_eq, not_false_eq_true, true_and, if_true, nI_1]
        · simp only [e, e2, not_false_eq_true, if_true, if_false, ne_eq, and_false, Nat.add_zero]
    · show b_X7_posts_4 (nI b) μ (m_X7_posts_4 (nI b) μ n) (nI (npo (μ 1) b p)) (nI p) = _
      simp only [b_X7_posts_4, in62, gck_s, l62, hz, nI_le (Nat.le_refl p) (show p < 2 ^ 31 by omega), if_true]
  simp only [m_X7_posts, L, gb1_s]
