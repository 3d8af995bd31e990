/-! ===== walks: the class lists paths, and where one stands ===== -/
/-- of the list of paths: the first n are paths of these places -/
def wEd (d : Nat → Nat → Nat) (p n : Nat) (s : gMem) : Prop := ∀ e, e < n → ∃ u v : Nat, v < u ∧ u < p ∧ 0 < d u v ∧ s 60 e = nI u ∧ s 61 e = nI v ∧ s 62 e = nI (d u v)
def wEa (d : Nat → Nat → Nat) (n : Nat) (ok : Nat → Nat → Prop) (s : gMem) : Prop := ∀ u v : Nat, ok u v → 0 < d u v → ∃ e, e < n ∧ s 60 e = nI u ∧ s 61 e = nI v
theorem q_listEdges17 {σ : gMem} {p q n y a N : Nat} {z : Nat → Int32} (w : WF p q n y z) (hR : ∀ i j, i < 12 → j < 12 → σ (13 + i) j = z (120 + 12 * i + j)) (ha : a < p) (e9 : σ 54 9 = nI N) (hN : N ≤ 12 * a) (h1 : wEd (fun a b => (z (120 + 12 * a + b)).toNatClampNeg) p N σ) (h2 : wEa (fun a b => (z (120 + 12 * a + b)).toNatClampNeg) N (fun u v => v < u ∧ u < a) σ) : ∃ s N', m_X5_listEdges_17 (nI a) gFU 0 σ = some s ∧ s 54 9 = nI N' ∧ N' ≤ 12 * (a + 1) ∧ wEd (fun a b => (z (120 + 12 * a + b)).toNatClampNeg) p N' s ∧ wEa (fun a b => (z (120 + 12 * a + b)).toNatClampNeg) N' (fun u v => v < u ∧ u < a + 1) s ∧ (∀ c, c ≠ 54 → c ≠ 60 → c ≠ 61 → c ≠ 62 → s c = σ c) ∧ ∀ j, j ≠ 9 → s 54 j = σ 54 j := by
  have p12 := w.1.2.2.2.2.1
  obtain ⟨s, L, ⟨N', q1, q2, q3, q4⟩, q5, q6⟩ := run_to (G := fun m b s => m_X5_listEdges_17 (nI a) m (nI b) s) (Q := fun b s => (∃ N', s 54 9 = nI N' ∧ N' ≤ 12 * a + b ∧ wEd (fun a b => (z (120 + 12 * a + b)).toNatClampNeg) p N' s ∧ wEa (fun a b => (z (120 + 12 * a + b)).toNatClampNeg) N' (fun u v => v < u ∧ (u < a ∨ (u = a ∧ v < b))) s) ∧ (∀ c, c ≠ 54 → c ≠ 60 → c ≠ 61 → c ≠ 62 → s c = σ c) ∧ ∀ j, j ≠ 9 → s 54 j = σ 54 j) (N := a) (by omega) (fun m b s hb hq => by
    obtain ⟨⟨N', q1, q2, q3, q4⟩, q5, q6⟩ := hq
    have V : m_X5_listEdges_17 (nI a) (m + 1) (nI b) s = b_X5_listEdges_17 (nI a) (m_X5_listEdges_17 (nI a) m) (nI b) s := rfl
    have c1 : ¬ nI a ≤ nI b := nI_ge hb (by omega)
    have ia := inb_t (show a < 12 by omega) (show 12 < 2 ^ 31 by decide)
    have ib := inb_t (show b < 12 by omega) (show 12 < 2 ^ 31 by decide)
    have ca := nI_clamp (show a < 2 ^ 31 by omega)
    have cb := nI_clamp (show b < 2 ^ 31 by omega)
    have cN := nI_clamp (show N' < 2 ^ 31 by omega)
    have iN := inb_t (show N' < 144 by omega) (show 144 < 2 ^ 31 by decide)
    have sz : s (13 + a) b = z (120 + 12 * a + b) := by rw [q5 _ (by omega) (by omega) (by omega) (by omega)]; exact hR a b (by omega) (by omega)
    obtain ⟨m1, m2, -, -, -⟩ := w.2.2.2.2.2.2.2 a b (by omega) (by omega)
    obtain ⟨v, hv, ev⟩ := nat_of (n := 60) m1 m2 (by decide)
    have vt : (nI v).toInt = (v : Int) := nI_toInt (by omega)
    have dv : (z (120 + 12 * a + b)).toNatClampNeg = v := by rw [ev, nI_clamp (by omega)]
    by_cases c : v = 0
    · have y0 : z (120 + 12 * a + b) ≤ 0 := i32_le0.mpr (by rw [ev, vt]; omega)
      refine ⟨s, ?_, ⟨N', q1, by omega, q3, fun u v' hu hd => ?_⟩, q5, q6⟩
      · rw [V]
        unfold b_X5_listEdges_17
        rw [if_neg c1, ia, gck_s, ib, gck_s, ca, cb, sz, if_pos y0, gnm_s, nI_1]
      · by_cases e : u = a ∧ v' = b
        · rw [e.1, e.2] at hd
          replace hd : 0 < (z (120 + 12 * a + b)).toNatClampNeg := hd
          rw [dv, c] at hd
          exact absurd hd (by omega)
        · exact q4 u v' ⟨hu.1, by have := hu.2; omega⟩ hd
    · have n0 : ¬ z (120 + 12 * a + b) ≤ 0 := fun h => i32_le0.mp h (by rw [ev, vt]; omega)
      have E0 : gst (gst (gst s 60 N' (nI a)) 61 N' (nI b)) 62 N' (nI v) 60 = upd (s 60) N' (nI a) := by rw [gst_ne _ _ (by decide), gst_ne _ _ (by decide), gst_eq]
      have E1 : gst (gst (gst s 60 N' (nI a)) 61 N' (nI b)) 62 N' (nI v) 61 = upd (s 61) N' (nI b) := by rw [gst_ne _ _ (by decide), gst_eq, gst_ne _ _ (by decide)]
      have E2 : gst (gst (gst s 60 N' (nI a)) 61 N' (nI b)) 62 N' (nI v) 62 = upd (s 62) N' (nI v) := by rw [gst_eq, gst_ne _ _ (by decide), gst_ne _ _ (by decide)]
      have Er : ∀ c, c ≠ 60 → c ≠ 61 → c ≠ 62 → gst (gst (gst s 60 N' (nI a)) 61 N' (nI b)) 62 N' (nI v) c = s c := fun c h0 h1 h2 => by rw [gst_ne _ _ h2, gst_ne _ _ h1, gst_ne _ _ h0]
      have E0' : gst (gst (gst (gst s 60 N' (nI a)) 61 N' (nI b)) 62 N' (nI v)) 54 9 (nI (N' + 1)) 60 = upd (s 60) N' (nI a) := by rw [gst_ne _ _ (by decide), E0]
      have E1' : gst (gst (gst (gst s 60 N' (nI a)) 61 N' (nI b)) 62 N' (nI v)) 54 9 (nI (N' + 1)) 61 = upd (s 61) N' (nI b) := by rw [gst_ne _ _ (by decide), E1]
      have E2' : gst (gst (gst (gst s 60 N' (nI a)) 61 N' (nI b)) 62 N' (nI v)) 54 9 (nI (N' + 1)) 62 = upd (s 62) N' (nI v) := by rw [gst_ne _ _ (by decide), E2]
      refine ⟨gst (gst (gst (gst s 60 N' (nI a)) 61 N' (nI b)) 62 N' (nI v)) 54 9 (nI (N' + 1)), ?_, ⟨N' + 1, by rw [gst_eq, pk_us], by omega, fun e he => ?_, fun u v' hu hd => ?_⟩, fun c h1 h2 h3 h4 => by rw [gst_ne _ _ h1, Er c h2 h3 h4]; exact q5 c h1 h2 h3 h4, fun j hj => by rw [gst_eq, pk_un hj, Er 54 (by decide) (by decide) (by decide)]; exact q6 j hj⟩
      · have k1 : gst s 60 N' (nI a) 54 9 = nI N' := by rw [gst_ne _ _ (by decide)]; exact q1
        have k2 : gst (gst s 60 N' (nI a)) 61 N' (nI b) 54 9 = nI N' := by rw [gst_ne _ _ (by decide)]; exact k1
        have k3 : gst (gst s 60 N' (nI a)) 61 N' (nI b) (13 + a) b = nI v := by rw [gst_ne _ _ (by omega), gst_ne _ _ (by omega), sz, ev]
        have k4 : gst (gst (gst s 60 N' (nI a)) 61 N' (nI b)) 62 N' (nI v) 54 9 = nI N' := by rw [gst_ne _ _ (by decide)]; exact k2
        rw [V]
        unfold b_X5_listEdges_17
        rw [if_neg c1, ia, gck_s, ib, gck_s, ca, cb, sz, if_neg n0, q1, iN, gck_s, cN, gnm_s, k1, iN, gck_s, cN, gnm_s, gck_s, gck_s, k2, iN, gck_s, cN, k3, gnm_s, k4, nI_1, gnm_s, gnm_s, nI_1]
      · rw [E0', E1', E2']
        by_cases k : e = N'
        · subst k
          refine ⟨a, b, hb, ha, ?_, pk_us, pk_us, ?_⟩
          · show 0 < (z (120 + 12 * a + b)).toNatClampNeg
            rw [dv]; omega
          · show _ = nI (z (120 + 12 * a + b)).toNatClampNeg
            rw [dv]; exact pk_us
        · rw [pk_un k, pk_un k, pk_un k]; exact q3 e (by omega)
      · rw [E0', E1']
        by_cases e : u = a ∧ v' = b
        · refine ⟨N', by omega, ?_, ?_⟩
          · rw [e.1]; exact pk_us
          · rw [e.2]; exact pk_us
        · obtain ⟨e', he, g1, g2⟩ := q4 u v' ⟨hu.1, by have := hu.2; omega⟩ hd
          refine ⟨e', by omega, ?_, ?_⟩
          · rw [pk_un (by omega)]; exact g1
          · rw [pk_un (by omega)]; exact g2) (fun m s hq => by
    show b_X5_listEdges_17 (nI a) (m_X5_listEdges_17 (nI a) m) (nI a) s = _
    unfold b_X5_listEdges_17
    rw [if_pos (nI_le (Nat.le_refl a) (by omega))]) (s := σ) ⟨⟨N, e9, by omega, h1, fun u v hu hd => h2 u v ⟨hu.1, by have := hu.2; omega⟩ hd⟩, fun c _ _ _ _ => rfl, fun j _ => rfl⟩
  have L' : m_X5_listEdges_17 (nI a) gFU (nI 0) σ = some s := L
  rw [show nI 0 = 0 from rfl] at L'
  exact ⟨s, N', L', q1, by omega, q3, fun u v hu hd => q4 u v ⟨hu.1, by have := hu.1; have := hu.2; omega⟩ hd, q5, q6⟩
theorem q_listEdges {σ : gMem} {p q n y : Nat} {z : Nat → Int32} (w : WF p q n y z) (hR : ∀ i j, i < 12 → j < 12 → σ (13 + i) j = z (120 + 12 * i + j)) (e0 : σ 54 0 = nI p) : ∃ s N, m_X5_listEdges σ = some s ∧ s 54 9 = nI N ∧ N ≤ 144 ∧ wEd (fun a b => (z (120 + 12 * a + b)).toNatClampNeg) p N s ∧ wEa (fun a b => (z (120 + 12 * a + b)).toNatClampNeg) N (fun u v => v < u ∧ u < p) s ∧ (∀ c, c ≠ 54 → c ≠ 60 → c ≠ 61 → c ≠ 62 → s c = σ c) ∧ ∀ j, j ≠ 9 → s 54 j = σ 54 j := by
  have p12 := w.1.2.2.2.2.1
  obtain ⟨s, L, ⟨N', q1, q2, q3, q4⟩, q5, q6⟩ := run_to (G := fun m a s => m_X5_listEdges_7 m (nI a) s) (Q := fun a s => (∃ N', s 54 9 = nI N' ∧ N' ≤ 12 * a ∧ wEd (fun a b => (z (120 + 12 * a + b)).toNatClampNeg) p N' s ∧ wEa (fun a b => (z (120 + 12 * a + b)).toNatClampNeg) N' (fun u v => v < u ∧ u < a) s) ∧ (∀ c, c ≠ 54 → c ≠ 60 → c ≠ 61 → c ≠ 62 → s c = σ c) ∧ ∀ j, j ≠ 9 → s 54 j = σ 54 j) (N := p) (by omega) (fun m a s ha hq => by
    obtain ⟨⟨N', q1, q2, q3, q4⟩, q5, q6⟩ := hq
    have c1 : ¬ nI p ≤ nI a := nI_ge ha (by omega)
    have s0 : s 54 0 = nI p := by rw [q6 0 (by decide)]; exact e0
    obtain ⟨s', N2, r1, r2, r3, r4, r5, r6, r7⟩ := q_listEdges17 w (σ := s) (fun i j hi hj => by rw [q5 _ (by omega) (by omega) (by omega) (by omega)]; exact hR i j hi hj) ha q1 q2 q3 q4
    refine ⟨s', ?_, ⟨N2, r2, r3, r4, r5⟩, fun c h1 h2 h3 h4 => by rw [r6 c h1 h2 h3 h4]; exact q5 c h1 h2 h3 h4, fun j hj => by rw [r7 j hj]; exact q6 j hj⟩
    show b_X5_listEdges_7 (m_X5_listEdges_7 m) (nI a) s = _
    unfold b_X5_listEdges_7
    rw [s0, if_neg c1, r1, gb1_s, gnm_s, nI_1]) (fun m s hq => by
    obtain ⟨-, q5, q6⟩ := hq
    have s0 : s 54 0 = nI p := by rw [q6 0 (by decide)]; exact e0
    show b_X5_listEdges_7 (m_X5_listEdges_7 m) (nI p) s = _
    unfold b_X5_listEdges_7
    rw [s0, if_pos (nI_le (Nat.le_refl p) (by omega))]) (s := gst σ 54 9 0) ⟨⟨0, by rw [gst_eq, pk_us]; rfl, by omega, fun e he => absurd he (by omega), fun u v hu => absurd hu.2 (by omega)⟩, fun c h1 _ _ _ => gst_ne _ _ h1, fun j hj => by rw [gst_eq, pk_un hj]⟩
  have L' : m_X5_listEdges_7 gFU (nI 0) (gst σ 54 9 0) = some s := L
  rw [show nI 0 = 0 from rfl] at L'
  refine ⟨s, N', ?_, q1, by omega, q3, q4, q5, q6⟩
  unfold m_X5_listEdges
  rw [gnm_s, L', gb1_s]
theorem q_footing {σ : gMem} {p q n y i a h : Nat} {z : Nat → Int32} (w : WF p q n y z) (hR : Rg 1 13 σ z) (hi : i < q) (e3 : σ 54 3 = nI (wP z p)) (e6 : ∀ τ, τ < 2 ^ wP z p → σ 56 τ = nI (wl z τ p)) : m_X5_footingIn (nI i) (sW z (z a) h (z 60)) σ = some (nI (wFk z i p a h (2 ^ wP z p))) := by
  have P3 := wP_npo w
  have p8 := (pw3 _ P3).2
  have q8 := w.1.2.2.2.2.2.1
  have p12 := w.1.2.2.2.2.1
  have T8 : (1 : Int32) <<< (nI (wP z p) &&& 31) = nI (2 ^ wP z p) := fb6 _ (by omega)
  have ii := inb_t (show i < 8 by omega) (show 8 < 2 ^ 31 by decide)
  have ci := nI_clamp (show i < 2 ^ 31 by omega)
  generalize 2 ^ wP z p = T at *
  have L : m_X5_footingIn_6 (nI i) (sW z (z a) h (z 60)) σ gFU 0 0 = some (nI (wFk z i p a h T)) := by
    have e0 : (0 : Int32) = nI (wFk z i p a h 0) := rfl
    rw [show m_X5_footingIn_6 (nI i) (sW z (z a) h (z 60)) σ gFU 0 0 = m_X5_footingIn_6 (nI i) (sW z (z a) h (z 60)) σ gFU (nI (wFk z i p a h 0)) (nI 0) from rfl]
    refine for_to (fun m j => m_X5_footingIn_6 (nI i) (sW z (z a) h (z 60)) σ m (nI (wFk z i p a h j)) (nI j)) T _ (fun m j hj => ?_) (fun m => ?_) (by omega)
    · show b_X5_footingIn_6 (nI i) (sW z (z a) h (z 60)) σ (m_X5_footingIn_6 (nI i) (sW z (z a) h (z 60)) σ m) (nI (wFk z i p a h j)) (nI j) = m_X5_footingIn_6 (nI i) (sW z (z a) h (z 60)) σ m (nI (wFk z i p a h (j + 1))) (nI (j + 1))
      have c1 : ¬ nI T ≤ nI j := nI_ge hj (by omega)
      obtain ⟨-, l0, l1, -⟩ := w.2.2.2.2.2.1 i hi
      have wle := wl_le w j p (Nat.le_refl p)
      have wt : (nI (wl z j p)).toInt = (wl z j p : Int) := nI_toInt (by omega)
      have lt : (z (74 + i) + nI (wl z j p)).toInt = (z (74 + i)).toInt + (wl z j p : Int) := by rw [i32_add (by omega) (by omega), wt]
      have B : m_X1_bears (z (66 + i)) (z (74 + i) + nI (wl z j p)) (z 65) (sW z (z a) h (z 60)) σ = some (wD z i p j a h) := q_bears hR (by rw [lt]; omega)
      unfold b_X5_footingIn_6
      rw [e3, T8, if_neg c1, ii, gck_s, inb_t (show j < 8 by omega) (by decide), gck_s, ci, nI_clamp (show j < 2 ^ 31 by omega), Rg_tol hR (show i < 8 by omega), e6 j hj, gnm_s, gck_s, Rg_kin hR (show i < 8 by omega), Rg_yea hR, B, gb1_s]
      simp only [wFk]
      by_cases c : wD z i p j a h = 0
      · rw [if_pos c, if_pos c, gnm_s, nI_1]
      · rw [if_neg c, if_neg c, gnm_s, gnm_s, nI_1, fb6 j (by omega), nI_or]
    · show b_X5_footingIn_6 (nI i) (sW z (z a) h (z 60)) σ (m_X5_footingIn_6 (nI i) (sW z (z a) h (z 60)) σ m) (nI (wFk z i p a h T)) (nI T) = _
      unfold b_X5_footingIn_6
      rw [e3, T8, if_pos (nI_le (Nat.le_refl T) (by omega))]
  unfold m_X5_footingIn
  rw [L, gb1_s]
