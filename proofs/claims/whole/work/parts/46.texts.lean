/-! ===== texts: the places of a lagoon ===== -/
theorem sSk_n (c : Nat → Nat) (t : Nat) : ∀ d, d ≤ t → sSk c t d < t → c (sSk c t d) ≠ 32 := by
  intro d
  induction d with
  | zero => intro _ h; exact absurd h (by simp only [sSk]; omega)
  | succ d ih =>
    intro h1 h2
    simp only [sSk] at h2 ⊢
    by_cases k : c (t - (d + 1)) = 32
    · rw [if_pos k] at h2 ⊢; exact ih (by omega) h2
    · rw [if_neg k]; exact k
/-- no more blanks behind blanks -/
theorem sSk_i (c : Nat → Nat) (t d : Nat) (h : d ≤ t) : sSk c t (t - sSk c t d) = sSk c t d := by
  obtain ⟨r1, r2⟩ := sSk_r c t d h
  have r3 := sSk_n c t d h
  generalize sSk c t d = y at *
  by_cases k : y < t
  · obtain ⟨e, he⟩ : ∃ e, t - y = e + 1 := ⟨t - y - 1, by omega⟩
    rw [he]
    have ey : t - (e + 1) = y := by omega
    simp only [sSk, ey]
    rw [if_neg (r3 k)]
  · rw [show t - y = 0 by omega]
    show t = y; omega
theorem pD_c {k u : Nat} {σ μ σ' μ' : gMem} (h : pD k u σ μ) (h1 : σ' 51 = σ 51) (h2 : σ' 53 = σ 53) (h3 : μ' 3 = μ 3) : pD k u σ' μ' := by
  unfold pD at *
  rw [h1, h2, h3]; exact h
theorem q_lagoonLoop {t : Nat} {c : Nat → Nat} : ∀ d k u σ μ x n m, k + d = 8 → 1 ≤ d → d < n → d < m → RX σ t c x → RM μ t c x → σ 49 3 = -1 → μ 0 5 = -1 → σ 49 5 = nI k → σ 49 4 = nI u → pD k u σ μ → ∃ s' μ1 μ' K z, m_X3_readPlaces_6 n 1 σ = some s' ∧ m_X7_lagoon_10 m (nI k) (nI u) 1 μ = some (nI K, μ1) ∧ mEnd μ1 = some μ' ∧ RX s' t c z ∧ 1 ≤ K ∧ K ≤ 8 ∧ s' 49 5 = nI K ∧ ((∃ f, f ≤ t ∧ s' 49 3 = nI f ∧ μ' 0 5 = nI f) ∨ (s' 49 3 = -1 ∧ μ' 0 5 = -1 ∧ ∃ u', pD K u' s' μ')) ∧ (∀ j, j ≠ 49 → j ≠ 51 → j ≠ 53 → s' j = σ j) ∧ mJ μ μ' := by
  intro d
  induction d with
  | zero => intro k u σ μ x n m _ h; omega
  | succ d ih =>
    intro k u σ μ x n m hk _ hn hm h1 h2 f1 f2 ek eu hD
    obtain ⟨n', rfl⟩ : ∃ n', n = n' + 2 := ⟨n - 2, by omega⟩
    obtain ⟨m', rfl⟩ : ∃ m', m = m' + 2 := ⟨m - 2, by omega⟩
    have t80 := h1.2.1
    have k8 : ¬ (8 : Int32) ≤ nI k := nI_ge (b := 8) (by omega) (by decide)
    have V : m_X7_lagoon_10 (m' + 2) (nI k) (nI u) 1 μ = b_X7_lagoon_10 (m_X7_lagoon_10 (m' + 1)) (nI k) (nI u) 1 μ := rfl
    have V0 : ∀ a b s, m_X7_lagoon_10 (m' + 1) a b 0 s = some (a, s) := fun a b s => rfl
    have U0 : ∀ s, m_X3_readPlaces_6 (n' + 1) 0 s = some s := fun s => rfl
    have U : ∀ s, s 49 5 = nI k → m_X3_readPlace σ = some s → m_X3_readPlaces_6 (n' + 2) 1 σ = gb2 (m_X3_goesOn 59 (gst s 49 5 (nI (k + 1)))) fun r11 s10 => m_X3_readPlaces_6 (n' + 1) r11 s10 := fun s e5 hs => by
      show b_X3_readPlaces_6 (m_X3_readPlaces_6 (n' + 1)) 1 σ = _
      unfold b_X3_readPlaces_6
      rw [if_neg ne10, ek, if_neg k8, hs, gb1_s, e5, nI_1, gnm_s]
    rcases q_placeJ h1 h2 f1 f2 (show k < 8 by omega) ek eu hD with ⟨z, u', s, μ2, A, B, R1, R2, a3, a5, e5, e4, hD', fr, mj⟩ | ⟨f, z, z', w, s, μ2, ft, A, B, R1, R2, a3, a5, e5, fr, mj⟩
    · have R1' := RX_r R1 (j := 5) (by omega) (nI (k + 1))
      have b3 : gst s 49 5 (nI (k + 1)) 49 3 = -1 := by rw [gst_eq, pk_un (by decide)]; exact a3
      have b5 : gst s 49 5 (nI (k + 1)) 49 5 = nI (k + 1) := by rw [gst_eq, pk_us]
      have b4 : gst s 49 5 (nI (k + 1)) 49 4 = nI u' := by rw [gst_eq, pk_un (by decide)]; exact e4
      have br : ∀ j, j ≠ 49 → gst s 49 5 (nI (k + 1)) j = s j := fun j hj => gst_ne _ _ hj
      have U1 := U s e5 A
      have G := q_goesOn R1' b3 (show k + 1 ≤ 8 by omega) b5 (a := 59) (by decide)
      replace G : m_X3_goesOn 59 (gst s 49 5 (nI (k + 1))) = _ := G
      rw [G] at U1
      have N := q_next R2
      have zt := R1.2.2.2.2
      obtain ⟨r1, r2⟩ := sSk_r c t (t - z) (by omega)
      have ri := sSk_i c t (t - z) (by omega)
      have EZ := fun (μ : gMem) (h : RM μ t c z) (e : μ 0 5 = -1) => q_end h e
      generalize sSk c t (t - z) = y at *
      generalize gst s 49 5 (nI (k + 1)) = s8 at *
      have M5 : ∀ v, gst μ2 0 4 v 0 5 = -1 := fun v => by rw [gst_eq, pk_un (by decide)]; exact a5
      have pz : ∀ v : Int32, v + 0 = v := fun v => Int32.add_zero v
      have n0 : ¬ (0 : Int32) ≤ -1 := by decide
      by_cases go : (y < t ∧ c y = 59) ∧ k + 1 < 8
      · rw [if_pos go.1.1, if_pos ⟨go.1.2, go.2⟩, gb2_s] at U1
        have q8 : ¬ (8 : Int32) ≤ nI (k + 1) := nI_ge (b := 8) go.2 (by decide)
        have p4 : gst μ2 0 4 (nI y) 0 4 = nI y := by rw [gst_eq, pk_us]
        have V1 : m_X7_lagoon_10 (m' + 2) (nI k) (nI u) 1 μ = m_X7_lagoon_10 (m' + 1) (nI (k + 1)) (nI u') 1 (gst μ2 0 4 (nI (y + 1))) := by
          rw [V, B]
          unfold mCont
          rw [a5, if_neg n0, if_neg q8, N, gb2_s, if_pos go.1.1, go.1.2, if_pos (show nI 59 = 59 from rfl), p4, nI_1, gst_gst, gnm_s]
        obtain ⟨s', μ1, μ', K, z', i1, i2, i3, i4, i5, i6, i7, i8, i9, i10⟩ := ih (k + 1) u' (gst s8 49 2 (nI (y + 1))) (gst μ2 0 4 (nI (y + 1))) (y + 1) (n' + 1) (m' + 1) (by omega) (by omega) (by omega) (by omega) (RX_go R1' (by omega)) (RM_go R2 (by omega)) (by rw [gst_eq, pk_un (by decide)]; exact b3) (M5 _) (by rw [gst_eq, pk_un (by decide)]; exact b5) (by rw [gst_eq, pk_un (by decide)]; exact b4) (pD_c hD' (by rw [gst_ne _ _ (by decide)]; exact br 51 (by decide)) (by rw [gst_ne _ _ (by decide)]; exact br 53 (by decide)) (gst_ne _ _ (by decide)))
        exact ⟨s', μ1, μ', K, z', U1.trans i1, V1.trans i2, i3, i4, i5, i6, i7, i8, fun j j1 j2 j3 => by rw [i9 j j1 j2 j3, gst_ne _ _ j1, br j j1]; exact fr j j1 j2 j3, mJ_t mj (mJ_t (mK_J (mK_s μ2 (Or.inl rfl) _)) i10)⟩
      · -- the class stops here
        have X : m_X3_readPlaces_6 (n' + 2) 1 σ = some (if y < t then gst (gst s8 49 2 (nI y)) 49 3 (nI y) else gst s8 49 2 (nI y)) := by
          rw [U1]
          by_cases c1 : y < t
          · rw [if_pos c1, if_pos c1, if_neg (fun h => go ⟨⟨c1, h.1⟩, h.2⟩), gb2_s, U0]
          · rw [if_neg c1, if_neg c1, gb2_s, U0]
        -- the reference stops at z or at y
        have Y : ∃ μ1, m_X7_lagoon_10 (m' + 2) (nI k) (nI u) 1 μ = some (nI (k + 1), μ1) ∧ mEnd μ1 = some (if y < t then gst (gst μ2 0 4 (nI y)) 0 5 (nI y) else gst μ2 0 4 (nI y)) := by
          by_cases c8 : k + 1 < 8
          · have q8 : ¬ (8 : Int32) ≤ nI (k + 1) := nI_ge (b := 8) c8 (by decide)
            have p4 : gst μ2 0 4 (nI y) 0 4 = nI y := by rw [gst_eq, pk_us]
            have nb : ¬ (if y < t then nI (c y) else 0) = 59 := fun h => by
              by_cases k2 : y < t
              · rw [if_pos k2] at h
                have := (R1.2.2.1 y k2).2.2
                exact go ⟨⟨k2, (nI_eqI (b := 59) (by omega) (by decide)).mp h⟩, c8⟩
              · rw [if_neg k2] at h; exact absurd h (by decide)
            refine ⟨gst μ2 0 4 (nI y), ?_, ?_⟩
            · rw [V, B]
              unfold mCont
              rw [a5, if_neg n0, if_neg q8, N, gb2_s, if_neg nb, p4, pz, gst_gst, gnm_s, V0]
            · have E := q_end (RM_go R2 r2) (M5 (nI y))
              rw [ri, gst_gst] at E; exact E
          · have q8 : (8 : Int32) ≤ nI (k + 1) := nI_le (a := 8) (by omega) (by omega)
            have p4 : gst μ2 0 4 (μ2 0 4 + 0) = μ2 := by rw [pz]; exact gst_self rfl
            refine ⟨μ2, ?_, EZ μ2 R2 a5⟩
            rw [V, B]
            unfold mCont
            rw [a5, if_neg n0, if_pos q8, p4, gnm_s, V0]
        obtain ⟨μ1, Y1, Y2⟩ := Y
        have m4 : mJ μ (gst μ2 0 4 (nI y)) := mJ_t mj (mK_J (mK_s μ2 (Or.inl rfl) _))
        by_cases c1 : y < t
        · rw [if_pos c1] at X Y2
          refine ⟨_, μ1, _, k + 1, y, X, Y1, Y2, RX_r (RX_go R1' r2) (by omega) _, by omega, by omega, ?_, Or.inl ⟨y, r2, by rw [gst_eq, pk_us], by rw [gst_eq, pk_us]⟩, fun j j1 j2 j3 => ?_, mJ_t m4 (mK_J (mK_s _ (Or.inr (Or.inl rfl)) _))⟩
          · rw [gst_eq, pk_un (by decide), gst_eq, pk_un (by decide)]; exact b5
          · rw [gst_ne _ _ j1, gst_ne _ _ j1, br j j1]; exact fr j j1 j2 j3
        · rw [if_neg c1] at X Y2
          refine ⟨_, μ1, _, k + 1, y, X, Y1, Y2, RX_go R1' r2, by omega, by omega, ?_, Or.inr ⟨?_, M5 _, u', pD_c hD' ?_ ?_ (gst_ne _ _ (by decide))⟩, fun j j1 j2 j3 => ?_, m4⟩
          · rw [gst_eq, pk_un (by decide)]; exact b5
          · rw [gst_eq, pk_un (by decide)]; exact b3
          · rw [gst_ne _ _ (by decide)]; exact br 51 (by decide)
          · rw [gst_ne _ _ (by decide)]; exact br 53 (by decide)
          · rw [gst_ne _ _ j1, br j j1]; exact fr j j1 j2 j3
    · have R1' := RX_r R1 (j := 5) (by omega) (nI (k + 1))
      have b3 : gst s 49 5 (nI (k + 1)) 49 3 = nI f := by rw [gst_eq, pk_un (by decide)]; exact a3
      have U1 := U s e5 A
      rw [q_goesOnF R1' (show f < 2 ^ 31 by omega) b3 59, gb2_s, U0] at U1
      have zt := R1.2.2.2.2
      obtain ⟨r1, r2⟩ := sSk_r c t (t - z) (by omega)
      have f0 : (0 : Int32) ≤ nI f := nI_le (a := 0) (b := f) (by omega) (by omega)
      have p4 : gst μ2 0 4 (μ2 0 4 + 0) = μ2 := by rw [show μ2 0 4 + 0 = μ2 0 4 from Int32.add_zero _]; exact gst_self rfl
      refine ⟨_, μ2, μ2, k + 1, _, U1, ?_, q_endF (show f < 2 ^ 31 by omega) a5, RX_go R1' r2, by omega, by omega, ?_, Or.inl ⟨f, ft, ?_, a5⟩, fun j j1 j2 j3 => ?_, mj⟩
      · rw [V, B]
        unfold mCont
        rw [a5, if_pos f0, p4, gnm_s, V0]
      · rw [gst_eq, pk_un (by decide), gst_eq, pk_us]
      · rw [gst_eq, pk_un (by decide)]; exact b3
      · rw [gst_ne _ _ j1, gst_ne _ _ j1]; exact fr j j1 j2 j3
