/-! ===== texts: paths ===== -/
theorem q_pathsLoop {t : Nat} {c : Nat → Nat} {p : Nat} (hp : p ≤ 12) : ∀ d k σ μ x n m, k + d = 8 → 1 ≤ d → d < n → d < m → RX σ t c x → RM μ t c x → σ 49 3 = -1 → μ 0 5 = -1 → μ 1 62 = nI p → σ 49 5 = nI k → pP p k σ μ → ∃ s' μ1 μ' K z, m_X3_readPaths_6 (nI p) n 1 σ = some s' ∧ m_X7_paths_8 m (nI k) 1 μ = some (nI K, μ1) ∧ mEnd μ1 = some μ' ∧ RX s' t c z ∧ 1 ≤ K ∧ K ≤ 8 ∧ s' 49 5 = nI K ∧ ((∃ f, f ≤ t ∧ s' 49 3 = nI f ∧ μ' 0 5 = nI f) ∨ (s' 49 3 = -1 ∧ μ' 0 5 = -1 ∧ pP p K s' μ')) ∧ (∀ j, j ≠ 49 → j ≠ 51 → j ≠ 52 → j ≠ 53 → s' j = σ j) ∧ mJ μ μ' := by
  intro d
  induction d with
  | zero => intro k σ μ x n m _ h; omega
  | succ d ih =>
    intro k σ μ x n m hk _ hn hm h1 h2 f1 f2 e62 ek hD
    obtain ⟨n', rfl⟩ : ∃ n', n = n' + 2 := ⟨n - 2, by omega⟩
    obtain ⟨m', rfl⟩ : ∃ m', m = m' + 2 := ⟨m - 2, by omega⟩
    have t80 := h1.2.1
    have k8 : ¬ (8 : Int32) ≤ nI k := nI_ge (b := 8) (by omega) (by decide)
    have V : m_X7_paths_8 (m' + 2) (nI k) 1 μ = b_X7_paths_8 (m_X7_paths_8 (m' + 1)) (nI k) 1 μ := rfl
    have V0 : ∀ a s, m_X7_paths_8 (m' + 1) a 0 s = some (a, s) := fun a s => rfl
    have U0 : ∀ s, m_X3_readPaths_6 (nI p) (n' + 1) 0 s = some s := fun s => rfl
    have U : ∀ s, s 49 5 = nI k → m_X3_readPath (nI p) σ = some s → m_X3_readPaths_6 (nI p) (n' + 2) 1 σ = gb2 (m_X3_goesOn 44 (gst s 49 5 (nI (k + 1)))) fun r11 s10 => m_X3_readPaths_6 (nI p) (n' + 1) r11 s10 := fun s e5 hs => by
      show b_X3_readPaths_6 (nI p) (m_X3_readPaths_6 (nI p) (n' + 1)) 1 σ = _
      unfold b_X3_readPaths_6
      rw [if_neg ne10, ek, if_neg k8, hs, gb1_s, e5, nI_1, gnm_s]
    rcases q_pathJ h1 h2 f1 f2 (show k < 8 by omega) hp e62 ek hD with ⟨z, s, μ2, A, B, R1, R2, a3, a5, e5, hD', fr, mj⟩ | ⟨f, z, z', s, μ2, ft, A, B, R1, R2, a3, a5, e5, fr, mj⟩
    · have R1' := RX_r R1 (j := 5) (by omega) (nI (k + 1))
      have b3 : gst s 49 5 (nI (k + 1)) 49 3 = -1 := by rw [gst_eq, pk_un (by decide)]; exact a3
      have b5 : gst s 49 5 (nI (k + 1)) 49 5 = nI (k + 1) := by rw [gst_eq, pk_us]
      have br : ∀ j, j ≠ 49 → gst s 49 5 (nI (k + 1)) j = s j := fun j hj => gst_ne _ _ hj
      have U1 := U s e5 A
      have G := q_goesOn R1' b3 (show k + 1 ≤ 8 by omega) b5 (a := 44) (by decide)
      replace G : m_X3_goesOn 44 (gst s 49 5 (nI (k + 1))) = _ := G
      rw [G] at U1
      have N := q_next R2
      have zt := R1.2.2.2.2
      obtain ⟨r1, r2⟩ := sSk_r c t (t - z) (by omega)
      have ri := sSk_i c t (t - z) (by omega)
      have EZ := fun (μ : gMem) (h : RM μ t c z) (e : μ 0 5 = -1) => q_end h e
      generalize sSk c t (t - z) = y at *
      generalize gst s 49 5 (nI (k + 1)) = s8 at *
      have M5 : ∀ v, gst μ2 0 4 v 0 5 = -1 := fun v => by rw [gst_eq, pk_un (by decide)]; exact a5
      have M62 : ∀ v, gst μ2 0 4 v 1 62 = nI p := fun v => by rw [gst_ne _ _ (by decide), mj.1 1 (by decide) (by decide)]; exact e62
      have pz : ∀ v : Int32, v + 0 = v := fun v => Int32.add_zero v
      have n0 : ¬ (0 : Int32) ≤ -1 := by decide
      by_cases go : (y < t ∧ c y = 44) ∧ k + 1 < 8
      · rw [if_pos go.1.1, if_pos ⟨go.1.2, go.2⟩, gb2_s] at U1
        have q8 : ¬ (8 : Int32) ≤ nI (k + 1) := nI_ge (b := 8) go.2 (by decide)
        have p4 : gst μ2 0 4 (nI y) 0 4 = nI y := by rw [gst_eq, pk_us]
        have V1 : m_X7_paths_8 (m' + 2) (nI k) 1 μ = m_X7_paths_8 (m' + 1) (nI (k + 1)) 1 (gst μ2 0 4 (nI (y + 1))) := by
          rw [V, B]
          unfold mContP
          rw [a5, if_neg n0, if_neg q8, N, gb2_s, if_pos go.1.1, go.1.2, if_pos (show nI 44 = 44 from rfl), p4, nI_1, gst_gst, gnm_s]
        obtain ⟨s', μ1, μ', K, z', i1, i2, i3, i4, i5, i6, i7, i8, i9, i10⟩ := ih (k + 1) (gst s8 49 2 (nI (y + 1))) (gst μ2 0 4 (nI (y + 1))) (y + 1) (n' + 1) (m' + 1) (by omega) (by omega) (by omega) (by omega) (RX_go R1' (by omega)) (RM_go R2 (by omega)) (by rw [gst_eq, pk_un (by decide)]; exact b3) (M5 _) (M62 _) (by rw [gst_eq, pk_un (by decide)]; exact b5) (pP_c hD' (by rw [gst_ne _ _ (by decide)]; exact br 51 (by decide)) (by rw [gst_ne _ _ (by decide)]; exact br 52 (by decide)) (by rw [gst_ne _ _ (by decide)]; exact br 53 (by decide)) (gst_ne _ _ (by decide)))
        exact ⟨s', μ1, μ', K, z', U1.trans i1, V1.trans i2, i3, i4, i5, i6, i7, i8, fun j j1 j2 j3 j4 => by rw [i9 j j1 j2 j3 j4, gst_ne _ _ j1, br j j1]; exact fr j j1 j2 j3 j4, mJ_t mj (mJ_t (mK_J (mK_s μ2 (Or.inl rfl) _)) i10)⟩
      · -- the class stops here
        have X : m_X3_readPaths_6 (nI p) (n' + 2) 1 σ = some (if y < t then gst (gst s8 49 2 (nI y)) 49 3 (nI y) else gst s8 49 2 (nI y)) := by
          rw [U1]
          by_cases c1 : y < t
          · rw [if_pos c1, if_pos c1, if_neg (fun h => go ⟨⟨c1, h.1⟩, h.2⟩), gb2_s, U0]
          · rw [if_neg c1, if_neg c1, gb2_s, U0]
        -- the reference stops at z or at y
        have Y : ∃ μ1, m_X7_paths_8 (m' + 2) (nI k) 1 μ = some (nI (k + 1), μ1) ∧ mEnd μ1 = some (if y < t then gst (gst μ2 0 4 (nI y)) 0 5 (nI y) else gst μ2 0 4 (nI y)) := by
          by_cases c8 : k + 1 < 8
          · have q8 : ¬ (8 : Int32) ≤ nI (k + 1) := nI_ge (b := 8) c8 (by decide)
            have p4 : gst μ2 0 4 (nI y) 0 4 = nI y := by rw [gst_eq, pk_us]
            have nb : ¬ (if y < t then nI (c y) else 0) = 44 := fun h => by
              by_cases k2 : y < t
              · rw [if_pos k2] at h
                have := (R1.2.2.1 y k2).2.2
                exact go ⟨⟨k2, (nI_eqI (b := 44) (by omega) (by decide)).mp h⟩, c8⟩
              · rw [if_neg k2] at h; exact absurd h (by decide)
            refine ⟨gst μ2 0 4 (nI y), ?_, ?_⟩
            · rw [V, B]
              unfold mContP
              rw [a5, if_neg n0, if_neg q8, N, gb2_s, if_neg nb, p4, pz, gst_gst, gnm_s, V0]
            · have E := q_end (RM_go R2 r2) (M5 (nI y))
              rw [ri, gst_gst] at E; exact E
          · have q8 : (8 : Int32) ≤ nI (k + 1) := nI_le (a := 8) (by omega) (by omega)
            have p4 : gst μ2 0 4 (μ2 0 4 + 0) = μ2 := by rw [pz]; exact gst_self rfl
            refine ⟨μ2, ?_, EZ μ2 R2 a5⟩
            rw [V, B]
            unfold mContP
            rw [a5, if_neg n0, if_pos q8, p4, gnm_s, V0]
        obtain ⟨μ1, Y1, Y2⟩ := Y
        have m4 : mJ μ (gst μ2 0 4 (nI y)) := mJ_t mj (mK_J (mK_s μ2 (Or.inl rfl) _))
        by_cases c1 : y < t
        · rw [if_pos c1] at X Y2
          refine ⟨_, μ1, _, k + 1, y, X, Y1, Y2, RX_r (RX_go R1' r2) (by omega) _, by omega, by omega, ?_, Or.inl ⟨y, r2, by rw [gst_eq, pk_us], by rw [gst_eq, pk_us]⟩, fun j j1 j2 j3 j4 => ?_, mJ_t m4 (mK_J (mK_s _ (Or.inr (Or.inl rfl)) _))⟩
          · rw [gst_eq, pk_un (by decide), gst_eq, pk_un (by decide)]; exact b5
          · rw [gst_ne _ _ j1, gst_ne _ _ j1, br j j1]; exact fr j j1 j2 j3 j4
        · rw [if_neg c1] at X Y2
          refine ⟨_, μ1, _, k + 1, y, X, Y1, Y2, RX_go R1' r2, by omega, by omega, ?_, Or.inr ⟨?_, M5 _, pP_c hD' ?_ ?_ ?_ (gst_ne _ _ (by decide))⟩, fun j j1 j2 j3 j4 => ?_, m4⟩
          · rw [gst_eq, pk_un (by decide)]; exact b5
          · rw [gst_eq, pk_un (by decide)]; exact b3
          · rw [gst_ne _ _ (by decide)]; exact br 51 (by decide)
          · rw [gst_ne _ _ (by decide)]; exact br 52 (by decide)
          · rw [gst_ne _ _ (by decide)]; exact br 53 (by decide)
          · rw [gst_ne _ _ j1, br j j1]; exact fr j j1 j2 j3 j4
    · have R1' := RX_r R1 (j := 5) (by omega) (nI (k + 1))
      have b3 : gst s 49 5 (nI (k + 1)) 49 3 = nI f := by rw [gst_eq, pk_un (by decide)]; exact a3
      have U1 := U s e5 A
      rw [q_goesOnF R1' (show f < 2 ^ 31 by omega) b3 44, gb2_s, U0] at U1
      have zt := R1.2.2.2.2
      obtain ⟨r1, r2⟩ := sSk_r c t (t - z) (by omega)
      have f0 : (0 : Int32) ≤ nI f := nI_le (a := 0) (b := f) (by omega) (by omega)
      have p4 : gst μ2 0 4 (μ2 0 4 + 0) = μ2 := by rw [show μ2 0 4 + 0 = μ2 0 4 from Int32.add_zero _]; exact gst_self rfl
      refine ⟨_, μ2, μ2, k + 1, _, U1, ?_, q_endF (show f < 2 ^ 31 by omega) a5, RX_go R1' r2, by omega, by omega, ?_, Or.inl ⟨f, ft, ?_, a5⟩, fun j j1 j2 j3 j4 => ?_, mj⟩
      · rw [V, B]
        unfold mContP
        rw [a5, if_pos f0, p4, gnm_s, V0]
      · rw [gst_eq, pk_un (by decide), gst_eq, pk_us]
      · rw [gst_eq, pk_un (by decide)]; exact b3
      · rw [gst_ne _ _ j1, gst_ne _ _ j1]; exact fr j j1 j2 j3 j4
theorem q_readPaths {σ μ : gMem} (h : SIMt σ μ) {p : Nat} (hp : p ≤ 12) (e62 : μ 1 62 = nI p) : ∃ s' m μ1 μ' K, m_X7_begin μ = some m ∧ m_X7_paths_8 gFU 0 1 m = some (nI K, μ1) ∧ mEnd μ1 = some μ' ∧ 1 ≤ K ∧ K ≤ 8 ∧ s' 49 5 = nI K ∧ ((∃ f, f ≤ 80 ∧ m_X3_readPaths (nI p) σ = some (-20 - nI f, s') ∧ μ' 0 5 = nI f) ∨ (m_X3_readPaths (nI p) σ = some (nI K, s') ∧ μ' 0 5 = -1 ∧ pP p K s' μ')) ∧ (∀ j, j ≠ 49 → j ≠ 51 → j ≠ 52 → j ≠ 53 → s' j = σ j) ∧ mJ μ μ' := by
  obtain ⟨t, c, s, m, b1, b2, r1, r2, f1, f2, e5, e4, fr, mj⟩ := q_begin h
  have t80 := r1.2.1
  obtain ⟨s', μ1, μ', K, z, i1, i2, i3, i4, i5, i6, i7, i8, i9, i10⟩ := q_pathsLoop hp 8 0 s m 0 100000 100000 (by decide) (by decide) (by decide) (by decide) r1 r2 f1 f2 (by rw [mj.1 1 (by decide) (by decide)]; exact e62) e5 (fun i hi => absurd hi (by omega))
  have i1' : m_X3_readPaths_6 (nI p) gFU 1 s = some s' := i1
  have i2' : m_X7_paths_8 gFU (nI 0) 1 m = some (nI K, μ1) := i2
  rw [show nI 0 = 0 from rfl] at i2'
  refine ⟨s', m, μ1, μ', K, b2, i2', i3, i5, i6, i7, ?_, fun j j1 j2 j3 j4 => by rw [i9 j j1 j2 j3 j4]; exact fr j j1, mJ_t mj i10⟩
  rcases i8 with ⟨f, ft, a3, a5⟩ | ⟨a3, a5, D⟩
  · refine Or.inl ⟨f, by omega, ?_, a5⟩
    have f0 : (0 : Int32) ≤ nI f := nI_le (a := 0) (b := f) (by omega) (by omega)
    unfold m_X3_readPaths
    rw [b1, gb1_s, i1', gb1_s]
    unfold m_X3_outcome
    rw [a3, if_pos f0, gb1_s]
  · refine Or.inr ⟨?_, a5, D⟩
    unfold m_X3_readPaths
    rw [b1, gb1_s, i1', gb1_s]
    unfold m_X3_outcome
    rw [a3, if_neg (show ¬ (0 : Int32) ≤ -1 by decide), i7, gb1_s]
/-- a path, of the lagoons alone -/
theorem q_joinR {σ μ : gMem} (h : Rg 1 13 σ (μ 1)) {i j : Nat} (hi : i < 12) (hj : j < 12) (x : Int32) : ∃ σ' μ', m_X1_join (nI i) (nI j) x σ = some σ' ∧ m_X7_join (nI i) (nI j) x μ = some μ' ∧ Rg 1 13 σ' (μ' 1) ∧ μ' 1 = upd (upd (μ 1) (120 + 12 * i + j) x) (120 + 12 * j + i) x ∧ (∀ c, c ≠ 1 → μ' c = μ c) ∧ ∀ c, c < 13 ∨ 25 ≤ c → σ' c = σ c := by
  have s1 := Rg_set h (k := 120 + 12 * i + j) (by omega) (ca_min hi hj) x
  have s2 := Rg_set s1 (k := 120 + 12 * j + i) (by omega) (ca_min hj hi) x
  have e1 : ∀ s t : Nat, (120 : Int32) + 12 * nI s + nI t = nI (120 + 12 * s + t) := fun s t => by rw [show (120 : Int32) = nI 120 from rfl, show (12 : Int32) = nI 12 from rfl, nI_mul, nI_add, nI_add]
  refine ⟨gst (gst σ (13 + i) j x) (13 + j) i x, gst (gst μ 1 (120 + 12 * i + j) x) 1 (120 + 12 * j + i) x, ?_, ?_, ?_, ?_, ?_, ?_⟩
  · simp only [m_X1_join, inb_t hi (show 12 < 2 ^ 31 by decide), inb_t hj (show 12 < 2 ^ 31 by decide), gck_s, gnm_s, nI_clamp (show i < 2 ^ 31 by omega), nI_clamp (show j < 2 ^ 31 by omega)]
  · simp only [m_X7_join, e1, inb_t (show 120 + 12 * i + j < 528 by omega) (by decide), inb_t (show 120 + 12 * j + i < 528 by omega) (by decide), gck_s, gnm_s, nI_clamp (show 120 + 12 * i + j < 2 ^ 31 by omega), nI_clamp (show 120 + 12 * j + i < 2 ^ 31 by omega)]
  · simp only [gst_eq]; exact s2
  · simp only [gst_eq]
  · intro c hc; simp only [gst_ne _ _ hc]
  · intro c hc; rw [gst_ne _ _ (by omega), gst_ne _ _ (by omega)]
theorem q_joinAll {K p q n y : Nat} {s0 m0 : gMem} (hK : K ≤ 8) (hD : pP p K s0 m0) (e5 : s0 49 5 = nI K) {B : gMem} (hB : B 3 = m0 3) (hR : Rg 1 13 s0 (B 1)) (w : WF p q n y (B 1)) : ∃ A' B', m_X1_joinAll_2 gFU 0 s0 = some A' ∧ m_X7_paths_186 (nI K) gFU 0 B = some B' ∧ Rg 1 13 A' (B' 1) ∧ WF p q n y (B' 1) ∧ (∀ c, c < 13 ∨ 25 ≤ c → A' c = s0 c) ∧ (∀ c, c ≠ 1 → B' c = B c) ∧ ∀ k, 264 ≤ k → B' 1 k = B 1 k := by
  have hp12 := w.1.2.2.2.2.1
  obtain ⟨A', B', L1, L2, q1, q2, q3, q4, q5⟩ := run2_to (G := fun m i s => m_X1_joinAll_2 m (nI i) s) (H := fun m i s => m_X7_paths_186 (nI K) m (nI i) s) (Q := fun i a b => Rg 1 13 a (b 1) ∧ WF p q n y (b 1) ∧ (∀ c, c < 13 ∨ 25 ≤ c → a c = s0 c) ∧ (∀ c, c ≠ 1 → b c = B c) ∧ ∀ k, 264 ≤ k → b 1 k = B 1 k) (N := K) (by omega) (fun n' m' i a b hi hq => by
    obtain ⟨q1, q2, q3, q4, q5⟩ := hq
    obtain ⟨u, v, x, h1, h2, h3, h4, h5, f1, f2, f3, f4, f5, f6⟩ := hD i hi
    obtain ⟨a', b', g1, g2, g3, g4, g5, g6⟩ := q_joinR q1 (show u < 12 by omega) (show v < 12 by omega) (nI x)
    have a5 : a 49 5 = nI K := by rw [q3 49 (by omega)]; exact e5
    have a51 : a 51 = s0 51 := q3 51 (by omega)
    have a52 : a 52 = s0 52 := q3 52 (by omega)
    have a53 : a 53 = s0 53 := q3 53 (by omega)
    have b3 : b 3 = m0 3 := by rw [q4 3 (by decide)]; exact hB
    have c1 : ¬ nI K ≤ nI i := nI_ge hi (by omega)
    have k3 : (3 : Int32) * nI i = nI (3 * i) := nI_mul 3 i
    have k32 : nI (3 * i) + 2 = nI (3 * i + 2) := nI_add (3 * i) 2
    have xt : (nI x).toInt = (x : Int) := nI_toInt (by omega)
    refine ⟨a', b', ?_, ?_, g3, ?_, fun c hc => by rw [g6 c hc]; exact q3 c hc, fun c hc => by rw [g5 c hc]; exact q4 c hc, fun k hk => ?_⟩
    · show b_X1_joinAll_2 (m_X1_joinAll_2 n') (nI i) a = _
      unfold b_X1_joinAll_2
      rw [a5, if_neg c1, inb_t (show i < 8 by omega) (by decide), gck_s, gck_s, gck_s, nI_clamp (show i < 2 ^ 31 by omega), a51, a52, a53, f1, f2, f3, g1, gb1_s, gnm_s, nI_1]
    · show b_X7_paths_186 (nI K) (m_X7_paths_186 (nI K) m') (nI i) b = _
      unfold b_X7_paths_186
      rw [if_neg c1, k3, nI_1, k32, inb_t (show 3 * i < 24 by omega) (by decide), inb_t (show 3 * i + 1 < 24 by omega) (by decide), inb_t (show 3 * i + 2 < 24 by omega) (by decide), gck_s, gck_s, gck_s, nI_clamp (show 3 * i < 2 ^ 31 by omega), nI_clamp (show 3 * i + 1 < 2 ^ 31 by omega), nI_clamp (show 3 * i + 2 < 2 ^ 31 by omega), b3, f4, f5, f6, g2, gb1_s, gnm_s, nI_1]
    · rw [g4]
      exact WF_path q2 h1 h2 h3 ⟨by omega, by omega⟩
    · rw [g4, pk_un (by omega), pk_un (by omega)]; exact q5 k hk) (fun n' m' a b hq => by
    obtain ⟨-, -, q3, -, -⟩ := hq
    have a5 : a 49 5 = nI K := by rw [q3 49 (by omega)]; exact e5
    have c1 : nI K ≤ nI K := nI_le (Nat.le_refl K) (by omega)
    refine ⟨?_, ?_⟩
    · show b_X1_joinAll_2 (m_X1_joinAll_2 n') (nI K) a = _
      unfold b_X1_joinAll_2
      rw [a5, if_pos c1]
    · show b_X7_paths_186 (nI K) (m_X7_paths_186 (nI K) m') (nI K) b = _
      unfold b_X7_paths_186
      rw [if_pos c1]) (s := s0) (u := B) ⟨hR, w, fun c _ => rfl, fun c _ => rfl, fun k _ => rfl⟩
  have L1' : m_X1_joinAll_2 gFU (nI 0) s0 = some A' := L1
  have L2' : m_X7_paths_186 (nI K) gFU (nI 0) B = some B' := L2
  rw [show nI 0 = 0 from rfl] at L1' L2'
  exact ⟨A', B', L1', L2', q1, q2, q3, q4, q5⟩
theorem q_pathsE (μ : gMem) : m_X7_paths μ = gb1 (m_X7_begin μ) fun s2 => gb2 (m_X7_paths_8 gFU 0 1 s2) fun x1_6 s7 => gb1 (mEnd s7) fun s36 => if (s36 0 5) < 0 then gb1 (m_X7_paths_186 x1_6 gFU 0 (gst s36 0 3 0)) (fun s45 => some (x1_6, s45)) else some (-20 - s36 0 5, gst s36 0 3 0) := by
  unfold m_X7_paths mEnd
  simp only [gnm_s, m_X7_fails, gb2_s]
  rfl
theorem p_paths {σ μ : gMem} (h : INV σ μ) : OKu σ μ (m_X6_paths σ) (m_X7_paths μ) := by
  have h0 := h
  obtain ⟨⟨hR, hi, ht, hs⟩, p, q, n, y, w⟩ := h
  have hp12 := w.1.2.2.2.2.1
  have sp : σ 1 0 = nI p := (Rg_pla hR).trans w.1.1
  obtain ⟨s', m, μ1, μ', K, b1, b2, b3, k1, k8, e5, J, fr, mj⟩ := q_readPaths ht hp12 w.1.1
  have L := q_pathsE μ
  rw [b1, gb1_s, b2, gb2_s, b3, gb1_s] at L
  rcases J with ⟨f, f80, A, e⟩ | ⟨A, e, D⟩
  · obtain ⟨q1, q2⟩ := flt_le f80
    refine ⟨-20 - nI f, gst s' 49 0 0, gst μ' 0 3 0, ?_, ?_, INV_tap0 h0 (fun c hc => fr c (by omega) (by omega) (by omega) (by omega)) mj⟩
    · unfold m_X6_paths
      rw [sp, A, gb2_s, if_pos q1, gnm_s]
    · rw [L, e, if_neg q2]
  · have K0 : ¬ nI K ≤ (0 : Int32) := nI_ge (a := 0) (by omega) (by omega)
    rw [e, if_pos (show (-1 : Int32) < 0 by decide)] at L
    have m1 : μ' 1 = μ 1 := mj.1 1 (by decide) (by decide)
    have B1 : gst μ' 0 3 0 1 = μ 1 := by rw [gst_ne _ _ (by decide)]; exact m1
    obtain ⟨A2, B2, L3, L4, r1, r2, r3, r4, r5⟩ := q_joinAll k8 D e5 (B := gst μ' 0 3 0) (gst_ne _ _ (by decide)) (by rw [B1]; exact Rg_fr hR (fun c h1 h2 => fr c (by omega) (by omega) (by omega) (by omega))) (by rw [B1]; exact w)
    rw [L4, gb1_s] at L
    have FB : ∀ c, c ≠ 0 → c ≠ 1 → B2 c = μ' c := fun c h0 h1 => by rw [r4 c h1, gst_ne _ _ h0]
    refine ⟨nI K, gst A2 49 0 0, B2, ?_, L, ⟨?_, ?_, ?_, ?_⟩, p, q, n, y, r2⟩
    · unfold m_X6_paths m_X1_joinAll
      rw [sp, A, gb2_s, if_neg K0, L3, gb1_s, gb1_s, gnm_s]
    · exact Rg_fr r1 (fun c h1 h2 => gst_ne _ _ (by omega))
    · refine SIMi_fr hi ?_ ?_ (fun c h1 h2 => ?_) (fun k hk => ?_)
      · rw [gst_ne _ _ (by decide), r3 0 (by omega), fr 0 (by decide) (by decide) (by decide) (by decide)]
      · rw [r4 0 (by decide), gst_eq, pk_un (by decide)]; exact mj.2 1 (by decide) (by decide) (by decide)
      · rw [gst_ne _ _ (by omega), r3 c (by omega), fr c (by omega) (by omega) (by omega) (by omega)]
      · rw [r5 _ (by omega), B1]
    · refine ⟨0, by omega, ?_, ?_, fun i hi => absurd hi (by omega)⟩
      · rw [gst_eq, pk_us]; rfl
      · rw [r4 0 (by decide), gst_eq, pk_us]; rfl
    · refine SIMs_fr hs (fun c h1 h2 => ?_) ?_ ?_ ?_
      · rw [gst_ne _ _ (by omega), r3 c (by omega), fr c (by omega) (by omega) (by omega) (by omega)]
      · rw [FB 6 (by decide) (by decide)]; exact mj.1 6 (by decide) (by decide)
      · rw [FB 5 (by decide) (by decide)]; exact mj.1 5 (by decide) (by decide)
      · rw [FB 4 (by decide) (by decide)]; exact mj.1 4 (by decide) (by decide)
