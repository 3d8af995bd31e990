/-! ===== pairs ===== -/
def OKm (σ μ : gMem) (fx : Option Int32) (fm : Option (Int32 × gMem)) : Prop := ∃ (r : Int32) (μ' : gMem), fx = some r ∧ fm = some (r, μ') ∧ INV σ μ'
theorem q_pair2 {μ : gMem} {p q n' y : Nat} (w : WF p q n' y (μ 1)) (a : Int32) {T : Nat → Nat} {l : Nat} (hl : l < 2 ^ q) (hT : ∀ x, x < l → μ 12 x = nI (T x) ∧ T x ≤ 300) : ∃ v, v ≤ 301 ∧ m_X7_pairs_41 a (nI l) gFU 0 (gst μ 12 l 0) = some (gst μ 12 l (nI v)) ∧ (∀ x y, y < x → tb l x = 1 → tb l y = 1 → cD (dLen (μ 1)) a.toInt x y → T (cl (cl l x) y) + 1 ≤ v) ∧ (v = 0 ∨ ∃ x y, y < x ∧ tb l x = 1 ∧ tb l y = 1 ∧ cD (dLen (μ 1)) a.toInt x y ∧ T (cl (cl l x) y) + 1 = v) := by
  have hq8 := w.1.2.2.2.2.2.1
  have p1 := pow_r q hq8
  have hq := w.1.2.1
  have K : ∀ v, gst μ 12 l (nI v) 1 63 = nI q := fun v => by rw [gst_ne _ _ (by decide)]; exact hq
  have P : ∀ i, i ≤ q → ∃ v, v ≤ 301 ∧ (∀ m, m_X7_pairs_41 a (nI l) (m + i) 0 (gst μ 12 l (nI 0)) = m_X7_pairs_41 a (nI l) m (nI i) (gst μ 12 l (nI v))) ∧ (∀ x y, x < i → y < x → tb l x = 1 → tb l y = 1 → cD (dLen (μ 1)) a.toInt x y → T (cl (cl l x) y) + 1 ≤ v) ∧ (v = 0 ∨ ∃ x y, y < x ∧ tb l x = 1 ∧ tb l y = 1 ∧ cD (dLen (μ 1)) a.toInt x y ∧ T (cl (cl l x) y) + 1 = v) := by
    intro i
    induction i with
    | zero => intro _; exact ⟨0, by omega, fun m => rfl, fun x y hx => absurd hx (by omega), Or.inl rfl⟩
    | succ i ih =>
      intro hi
      obtain ⟨v, v1, e1, v3, v4⟩ := ih (by omega)
      obtain ⟨u, u1, e2, u2, u3, u4⟩ := q_pair1 w a hl (show i < q by omega) hT v1 i (Nat.le_refl _)
      have L : m_X7_pairs_56 a (nI l) (nI i) gFU 0 (gst μ 12 l (nI v)) = some (gst μ 12 l (nI u)) := by
        obtain ⟨m, hm⟩ := fu_split (show i < 100000 by omega)
        rw [hm, e2 (m + 1)]
        show b_X7_pairs_56 a (nI l) (nI i) (m_X7_pairs_56 a (nI l) (nI i) m) (nI i) _ = _
        simp only [b_X7_pairs_56, nI_le (Nat.le_refl i) (show i < 2 ^ 31 by omega), if_true]
      refine ⟨u, u1, fun m => ?_, fun x y hx hy t1 t2 t3 => ?_, ?_⟩
      · rw [show m + (i + 1) = (m + 1) + i by omega, e1 (m + 1)]
        show b_X7_pairs_41 a (nI l) (m_X7_pairs_41 a (nI l) m) (nI i) _ = _
        simp only [b_X7_pairs_41, in63, gck_s, l63, K v, nI_ge (show i < q by omega) (show q < 2 ^ 31 by omega), if_false, L, gb1_s, gnm_s, nI_1]
      · by_cases e : x = i
        · subst e; exact u3 y hy t1 t2 t3
        · have := v3 x y (by omega) hy t1 t2 t3; omega
      · rcases u4 with u4 | ⟨x, x1, x2, x3, x4, x5⟩
        · rw [u4]; exact v4
        · exact Or.inr ⟨i, x, x1, x2, x3, x4, x5⟩
  obtain ⟨v, v1, e1, v3, v4⟩ := P q (Nat.le_refl _)
  refine ⟨v, v1, ?_, fun x y hy t1 t2 t3 => v3 x y ?_ hy t1 t2 t3, v4⟩
  · obtain ⟨m, hm⟩ := fu_split (show q < 100000 by omega)
    have e := e1 (m + 1)
    rw [show nI 0 = 0 from rfl] at e
    rw [hm, e]
    show b_X7_pairs_41 a (nI l) (m_X7_pairs_41 a (nI l) m) (nI q) _ = _
    simp only [b_X7_pairs_41, in63, gck_s, l63, K v, nI_le (Nat.le_refl q) (show q < 2 ^ 31 by omega), if_true]
  · by_cases c : x < q
    · exact c
    · have := tb_hi q hq8 l hl x (el8 (by omega) t1) (by omega); omega
theorem q_single {μ : gMem} {p q n' y : Nat} (w : WF p q n' y (μ 1)) {T : Nat → Nat} {l : Nat} (hl : l < 2 ^ q) (hT : ∀ x, x < l → μ 12 x = nI (T x) ∧ T x ≤ 300) {v0 : Nat} (hv0 : v0 ≤ 301) : ∃ v, v ≤ 301 ∧ m_X7_pairs_169 (nI l) gFU 0 (gst μ 12 l (nI v0)) = some (gst μ 12 l (nI v)) ∧ v0 ≤ v ∧ (∀ x, tb l x = 1 → T (cl l x) ≤ v) ∧ (v = v0 ∨ ∃ x, tb l x = 1 ∧ T (cl l x) = v) := by
  have hq8 := w.1.2.2.2.2.2.1
  have p1 := pow_r q hq8
  have hq := w.1.2.1
  have K : ∀ v, gst μ 12 l (nI v) 1 63 = nI q := fun v => by rw [gst_ne _ _ (by decide)]; exact hq
  have P : ∀ k, k ≤ q → ∃ v, v ≤ 301 ∧ (∀ m, m_X7_pairs_169 (nI l) (m + k) 0 (gst μ 12 l (nI v0)) = m_X7_pairs_169 (nI l) m (nI k) (gst μ 12 l (nI v))) ∧ v0 ≤ v ∧ (∀ x, x < k → tb l x = 1 → T (cl l x) ≤ v) ∧ (v = v0 ∨ ∃ x, tb l x = 1 ∧ T (cl l x) = v) := by
    intro k
    induction k with
    | zero => intro _; exact ⟨v0, hv0, fun m => rfl, Nat.le_refl _, fun x hx => absurd hx (by omega), Or.inl rfl⟩
    | succ k ih =>
      intro hk
      obtain ⟨v, v1, e1, v2, v3, v4⟩ := ih (by omega)
      have c1 : ¬ nI q ≤ nI k := nI_ge (by omega) (by omega)
      have eb : ((nI l >>> (nI k &&& 31)) &&& 1) = nI (tb l k) := fb1 l (by omega) k (by omega)
      have S : ∀ m, m_X7_pairs_169 (nI l) (m + (k + 1)) 0 (gst μ 12 l (nI v0)) = b_X7_pairs_169 (nI l) (m_X7_pairs_169 (nI l) m) (nI k) (gst μ 12 l (nI v)) := by
        intro m
        rw [show m + (k + 1) = (m + 1) + k by omega, e1 (m + 1)]; rfl
      rcases tb_01 l k with t0 | t0
      · refine ⟨v, v1, fun m => ?_, v2, fun x hx tx => ?_, v4⟩
        · rw [S m]
          simp only [b_X7_pairs_169, in63, gck_s, l63, K v, c1, if_false, eb, t0, show ¬ nI 0 = 1 from by decide, gnm_s, nI_1]
        · by_cases e : x = k
          · subst e; omega
          · exact v3 x (by omega) tx
      · have cr := (cl_r l (by omega) k (by omega)).2 t0
        obtain ⟨T1, T2⟩ := hT (cl l k) cr.1
        have g1 : gst μ 12 l (nI v) 12 (cl l k) = nI (T (cl l k)) := by rw [gst_eq, pk_un (by omega)]; exact T1
        have g2 : gst μ 12 l (nI v) 12 l = nI v := by rw [gst_eq, pk_us]
        have i256 := inb_t (show l < 256 by omega) (show 256 < 2 ^ 31 by decide)
        have j256 := inb_t (show cl l k < 256 by omega) (show 256 < 2 ^ 31 by decide)
        have cmp := nI_leI (show T (cl l k) < 2 ^ 31 by omega) (show v < 2 ^ 31 by omega)
        by_cases c3 : T (cl l k) ≤ v
        · refine ⟨v, v1, fun m => ?_, v2, fun x hx tx => ?_, v4⟩
          · rw [S m]
            simp only [b_X7_pairs_169, in63, gck_s, l63, K v, c1, if_false, eb, t0, show nI 1 = 1 from rfl, if_true, fb3 l (by omega) k (by omega), j256, i256, nI_clamp (show cl l k < 2 ^ 31 by omega), nI_clamp (show l < 2 ^ 31 by omega), g1, g2, cmp.mpr c3, gnm_s, nI_1]
          · by_cases e : x = k
            · subst e; exact c3
            · exact v3 x (by omega) tx
        · have c3' : ¬ nI (T (cl l k)) ≤ nI v := fun h => c3 (cmp.mp h)
          refine ⟨T (cl l k), by omega, fun m => ?_, by omega, fun x hx tx => ?_, Or.inr ⟨k, t0, rfl⟩⟩
          · rw [S m]
            simp only [b_X7_pairs_169, in63, gck_s, l63, K v, c1, if_false, eb, t0, show nI 1 = 1 from rfl, if_true, fb3 l (by omega) k (by omega), j256, i256, nI_clamp (show cl l k < 2 ^ 31 by omega), nI_clamp (show l < 2 ^ 31 by omega), g1, g2, c3', gnm_s, nI_1, gst_gst]
          · by_cases e : x = k
            · subst e; exact Nat.le_refl _
            · have := v3 x (by omega) tx; omega
  obtain ⟨v, v1, e1, v2, v3, v4⟩ := P q (Nat.le_refl _)
  refine ⟨v, v1, ?_, v2, fun x tx => v3 x ?_ tx, v4⟩
  · obtain ⟨m, hm⟩ := fu_split (show q < 100000 by omega)
    rw [hm, e1 (m + 1)]
    show b_X7_pairs_169 (nI l) (m_X7_pairs_169 (nI l) m) (nI q) _ = _
    simp only [b_X7_pairs_169, in63, gck_s, l63, K v, nI_le (Nat.le_refl q) (show q < 2 ^ 31 by omega), if_true]
  · by_cases c : x < q
    · exact c
    · have := tb_hi q hq8 l hl x (el8 (by omega) tx) (by omega); omega
theorem q_tab {μ : gMem} {p q n' y : Nat} (w : WF p q n' y (μ 1)) (a : Int32) : ∃ s, m_X7_pairs_26 a (nI (2 ^ q)) gFU 0 μ = some s ∧ (∀ c, c ≠ 12 → s c = μ c) ∧ ∃ T : Nat → Nat, (∀ x, x < 2 ^ q → s 12 x = nI (T x)) ∧ PSp (cD (dLen (μ 1)) a.toInt) T (2 ^ q) := by
  have hq8 := w.1.2.2.2.2.2.1
  have p1 := pow_r q hq8
  obtain ⟨s, L, r1, T, r2, r3⟩ := run_to (G := fun m i s => m_X7_pairs_26 a (nI (2 ^ q)) m (nI i) s) (Q := fun i s => (∀ c, c ≠ 12 → s c = μ c) ∧ ∃ T : Nat → Nat, (∀ x, x < i → s 12 x = nI (T x) ∧ T x ≤ x) ∧ PSp (cD (dLen (μ 1)) a.toInt) T i) (N := 2 ^ q) (by omega) (fun m i s hi hq => by
    obtain ⟨q1, T, q2, q3⟩ := hq
    have s1 : s 1 = μ 1 := q1 1 (by decide)
    have w' : WF p q n' y (s 1) := by rw [s1]; exact w
    have hT : ∀ x, x < i → s 12 x = nI (T x) ∧ T x ≤ 300 := fun x hx => by
      obtain ⟨h1, h2⟩ := q2 x hx
      exact ⟨h1, by omega⟩
    obtain ⟨v, v1, e1, v3, v4⟩ := q_pair2 w' a hi hT
    obtain ⟨u, u1, e2, u2, u3, u4⟩ := q_single w' hi hT v1
    rw [s1] at v3 v4
    have i8 : i < 256 := by omega
    have two : ∀ x z, tb i x = 1 → tb i z = 1 → x ≠ z → cl (cl i x) z < i ∧ T (cl (cl i x) z) + 1 ≤ i := fun x z ex ez hn => by
      have h1 := cl_lt i8 ex
      have h2 := cl_lt (show cl i x < 256 by omega) (el_cl i8 ex ez hn)
      have h3 := (q2 (cl (cl i x) z) (by omega)).2
      omega
    have hu : u ≤ i := by
      rcases u4 with u4 | ⟨x, ex, u4⟩
      · rcases v4 with v4 | ⟨x, z, hz, ex, ez, -, v4⟩
        · omega
        · have := (two x z ex ez (by omega)).2; omega
      · have h1 := cl_lt i8 ex
        have h3 := (q2 (cl i x) h1).2
        omega
    obtain ⟨T', hn, ho⟩ : ∃ T' : Nat → Nat, T' i = u ∧ ∀ x, x ≠ i → T' x = T x := ⟨fun x => if x = i then u else T x, if_pos rfl, fun x h => if_neg h⟩
    have old : ∀ x, x < i → T' x = T x := fun x hx => ho x (by omega)
    refine ⟨gst s 12 i (nI u), ?_, fun c hc => by rw [gst_ne _ _ hc]; exact q1 c hc, T', fun x hx => ?_, fun l hl => ?_⟩
    · show b_X7_pairs_26 a (nI (2 ^ q)) (m_X7_pairs_26 a (nI (2 ^ q)) m) (nI i) s = _
      have c1 : ¬ nI (2 ^ q) ≤ nI i := nI_ge hi (by omega)
      have c2 := inb_t i8 (show 256 < 2 ^ 31 by decide)
      have c3 := nI_clamp (show i < 2 ^ 31 by omega)
      unfold b_X7_pairs_26
      rw [if_neg c1, c2, c3, gck_s, gnm_s, e1, gb1_s, e2, gb1_s, gnm_s, nI_1]
    · rw [gst_eq]
      by_cases e : x = i
      · rw [e, pk_us, hn]; exact ⟨rfl, hu⟩
      · rw [pk_un e, ho x e]; exact q2 x (by omega)
    · by_cases e : l = i
      · rw [e]
        refine ⟨fun x z ex ez hn' hc => ?_, fun x ex => ?_, ?_⟩
        · rw [hn, old _ (two x z ex ez hn').1]
          rcases Nat.lt_or_gt_of_ne hn' with c | c
          · have h := v3 z x c ez ex ⟨hc.2, hc.1⟩
            rw [cl_cl i i8 z (el8 i8 ez) x (el8 i8 ex)] at h; omega
          · have h := v3 x z c ex ez hc; omega
        · rw [hn, old _ (cl_lt i8 ex)]; exact u3 x ex
        · rw [hn]
          rcases u4 with u4 | ⟨x, ex, u4⟩
          · rcases v4 with v4 | ⟨x, z, hz, ex, ez, hc, v4⟩
            · exact Or.inl (by omega)
            · refine Or.inr (Or.inl ⟨x, z, ex, ez, by omega, hc, ?_⟩)
              rw [old _ (two x z ex ez (by omega)).1]; omega
          · refine Or.inr (Or.inr ⟨x, ex, ?_⟩)
            rw [old _ (cl_lt i8 ex)]; exact u4
      · obtain ⟨a1, a2, a3⟩ := q3 l (by omega)
        have l8 : l < 256 := by omega
        have one : ∀ x, tb l x = 1 → cl l x < i := fun x ex => by have := cl_lt l8 ex; omega
        have two' : ∀ x z, tb l x = 1 → tb l z = 1 → x ≠ z → cl (cl l x) z < i := fun x z ex ez hn' => by
          have h1 := cl_lt l8 ex
          have h2 := cl_lt (show cl l x < 256 by omega) (el_cl l8 ex ez hn')
          omega
        refine ⟨fun x z ex ez hn' hc => ?_, fun x ex => ?_, ?_⟩
        · rw [ho l e, old _ (two' x z ex ez hn')]; exact a1 x z ex ez hn' hc
        · rw [ho l e, old _ (one x ex)]; exact a2 x ex
        · rw [ho l e]
          rcases a3 with a3 | ⟨x, z, ex, ez, hn', hc, a3⟩ | ⟨x, ex, a3⟩
          · exact Or.inl a3
          · refine Or.inr (Or.inl ⟨x, z, ex, ez, hn', hc, ?_⟩)
            rw [old _ (two' x z ex ez hn')]; exact a3
          · refine Or.inr (Or.inr ⟨x, ex, ?_⟩)
            rw [old _ (one x ex)]; exact a3) (fun m s hq => by
    show b_X7_pairs_26 a (nI (2 ^ q)) (m_X7_pairs_26 a (nI (2 ^ q)) m) (nI (2 ^ q)) s = _
    simp only [b_X7_pairs_26, nI_le (Nat.le_refl (2 ^ q)) (show 2 ^ q < 2 ^ 31 by omega), if_true]) (s := μ) ⟨fun c _ => rfl, fun _ => 0, fun x hx => absurd hx (by omega), fun l hl => absurd hl (by omega)⟩
  have L' : m_X7_pairs_26 a (nI (2 ^ q)) gFU (nI 0) μ = some s := L
  rw [show nI 0 = 0 from rfl] at L'
  exact ⟨s, L', r1, T, fun x hx => (r2 x hx).1, r3⟩
theorem p_pairs {σ μ : gMem} (h : INV σ μ) (a : Int32) : OKm σ μ (m_X6_pairs a σ) (m_X7_pairs a μ) := by
  have ea : m_X7_in a.toInt64 0 60 μ = some (wi a 0 60) := q_in a 0 60 μ
  have I := h
  obtain ⟨hs, p, q, n', y, w⟩ := h
  have hq := w.1.2.1
  have hq8 := w.1.2.2.2.2.2.1
  have p1 := pow_r q hq8
  have hσ : σ 1 8 = nI q := (Rg_peo hs.1).trans hq
  rcases wi_r a 0 60 with hv | ⟨hv, -⟩
  · exact ⟨-1, μ, by simp only [m_X6_pairs, q_within, gb1_s, hv, if_true], by simp only [m_X7_pairs, ea, gb1_s, hv, if_true], I⟩
  obtain ⟨s, t1, t2, T, t3, t4⟩ := q_tab w a
  obtain ⟨c, G⟩ := q_greedy hs.1 w t4 8 0 100000 (2 ^ q - 1) 0 (by decide) (by decide) (by omega) (by rw [pc_all q hq8]; exact hq8)
  rw [Nat.zero_add] at G
  have e1 : nI (2 ^ q) - 1 = nI (2 ^ q - 1) := by rw [show (1 : Int32) = nI 1 from rfl, nI_sub (by omega)]
  have G' : m_X6_pairs_29 a σ gFU 0 (nI (2 ^ q - 1)) 0 = some (c, nI (T (2 ^ q - 1))) := by
    rw [← show nI 0 = 0 from rfl]; exact G
  refine ⟨nI (T (2 ^ q - 1)), s, ?_, ?_, INV_scr I (fun c _ => rfl) (fun c hc => t2 c (by omega)) (by rw [t2 0 (by decide)]) (by rw [t2 0 (by decide)])⟩
  · unfold m_X6_pairs
    rw [q_within, gb1_s, hv, if_neg ne10, hσ, fb6 q hq8, e1, gnm_s, G', gb2_s]
    split <;> rfl
  · unfold m_X7_pairs
    rw [ea, gb1_s, hv, if_neg ne10, in63, gck_s, l63, hq, fb6 q hq8, gnm_s, t1, gb1_s, e1, inb_t (show 2 ^ q - 1 < 256 by omega) (show 256 < 2 ^ 31 by decide), gck_s, nI_clamp (show 2 ^ q - 1 < 2 ^ 31 by omega), t3 _ (by omega)]
