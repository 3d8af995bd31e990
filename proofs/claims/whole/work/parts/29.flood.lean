/-- the class's first best is the one that the reference finds -/
theorem FB_T {q : Nat} {d : Nat → Nat → Nat} {F T : Nat → Nat} (hq : q ≤ 8) (hd : ∀ k j, d k j ≤ 1) (hF : FSp q d F 0) (hT : TSp q d T (2 ^ q)) {g b : Nat} (hg : g < 2 ^ q) (hb : isFB q d F g b) (fb : F g = (1 - d (pc g) b) + F (so g b)) : pc g < q ∧ tb (2 ^ q - 1 - g) b = 1 ∧ so g b < 2 ^ q ∧ pc (so g b) = pc g + 1 ∧ cl (2 ^ q - 1 - g) b = 2 ^ q - 1 - so g b ∧ T (cl (2 ^ q - 1 - g) b) + d (pc g) b = T (2 ^ q - 1 - g) ∧ ∀ j, j < b → tb (2 ^ q - 1 - g) j = 1 → ¬ T (cl (2 ^ q - 1 - g) j) + d (pc g) j = T (2 ^ q - 1 - g) := by
  have p1 := pow_r q hq
  obtain ⟨b1, b2, b3, b4⟩ := hb
  have hl : 2 ^ q - 1 - g < 2 ^ q := by omega
  have cg := cpl q hq g hg
  have cL := cpl q hq (2 ^ q - 1 - g) hl
  have dd : 2 ^ q - 1 - (2 ^ q - 1 - g) = g := by omega
  rw [dd] at cL
  have S := FT_sum hq hd hF hT
  have S0 := S (2 ^ q - 1 - g) hl
  rw [dd] at S0
  have key : ∀ j, j < q → tb g j = 0 → tb (2 ^ q - 1 - g) j = 1 ∧ so g j = 2 ^ q - 1 - cl (2 ^ q - 1 - g) j ∧ T (cl (2 ^ q - 1 - g) j) + F (so g j) + 1 = pc (2 ^ q - 1 - g) ∧ cl (2 ^ q - 1 - g) j < 2 ^ q := by
    intro j hj tj
    have t1 : tb (2 ^ q - 1 - g) j = 1 := by have := (cg.2 j hj).1; omega
    have r := (cl_r (2 ^ q - 1 - g) (by omega) j (by omega)).2 t1
    have e := (cL.2 j hj).2 t1
    have s := S (cl (2 ^ q - 1 - g) j) (by omega)
    rw [← e] at s
    exact ⟨t1, e, by omega, by omega⟩
  have kb := key b b1 b2
  have sb := (so_r g (by omega) b (by omega)).2.2 b2
  have D := hd (pc g) b
  refine ⟨?_, kb.1, by omega, sb.2, by omega, by omega, fun j hj tj e => ?_⟩
  · have := (cl_r (2 ^ q - 1 - g) (by omega) b (by omega)).2 kb.1
    have := cg.1
    omega
  · have tj0 : tb g j = 0 := by have := (cg.2 j (by omega)).1; omega
    have kj := key j (by omega) tj0
    have := b4 j hj tj0
    have := hd (pc g) j
    omega
theorem q_find {μ : gMem} {p q n' y : Nat} (w : WF p q n' y (μ 1)) {f : Int32} {T : Nat → Nat} (hT : TSp q (sDr (μ 1) f) T (2 ^ q)) {s : gMem} (hs1 : s 1 = μ 1) (hs : ∀ l, l < 2 ^ q → s 12 l = nI (T l)) {l k b : Nat} (hl : l < 2 ^ q) (hk : k < q) (hb : b < q) (t1 : tb l b = 1) (e1 : T (cl l b) + sDr (μ 1) f k b = T l) (e2 : ∀ j, j < b → tb l j = 1 → ¬ T (cl l j) + sDr (μ 1) f k j = T l) : m_X7_share_142 f (nI l) (nI k) s gFU 0 = some (nI b) := by
  have hq8 := w.1.2.2.2.2.2.1
  have p1 := pow_r q hq8
  have w' : WF p q n' y (s 1) := by rw [hs1]; exact w
  have i256 := inb_t (show l < 256 by omega) (show 256 < 2 ^ 31 by decide)
  have cl1 := nI_clamp (show l < 2 ^ 31 by omega)
  have step : ∀ m j, j < q → m_X7_share_142 f (nI l) (nI k) s (m + 1) (nI j) = if tb l j = 0 then m_X7_share_142 f (nI l) (nI k) s m (nI (j + 1)) else if T (cl l j) + sDr (μ 1) f k j = T l then some (nI j) else m_X7_share_142 f (nI l) (nI k) s m (nI (j + 1)) := by
    intro m j hj
    show b_X7_share_142 f (nI l) (nI k) s (m_X7_share_142 f (nI l) (nI k) s m) (nI j) = _
    have eb : ((nI l >>> (nI j &&& 31)) &&& 1) = nI (tb l j) := fb1 l (by omega) j (by omega)
    have cr := (cl_r l (by omega) j (by omega)).1
    have D := q_dry w' hk hj f
    rw [hs1] at D
    have T1 := hT.2.1 (cl l j)
    have T2 := hT.2.1 l
    have d1 : sDr (μ 1) f k j ≤ 1 := by rcases sDr_01 (μ 1) f k j with e | e <;> omega
    rcases tb_01 l j with t0 | t0
    · simp only [b_X7_share_142, eb, t0, show nI 0 = 0 from rfl, if_true, gnm_s, nI_1]
    · simp only [b_X7_share_142, eb, t0, show ¬ nI 1 = 0 from by decide, if_false, fb3 l (by omega) j (by omega), inb_t (show cl l j < 256 by omega) (show 256 < 2 ^ 31 by decide), i256, gck_s, D, gb1_s, nI_clamp (show cl l j < 2 ^ 31 by omega), cl1, hs (cl l j) (by omega), hs l hl, nI_add, nI_eq (show T (cl l j) + sDr (μ 1) f k j < 2 ^ 31 by omega) (show T l < 2 ^ 31 by omega), gnm_s, nI_1, show ¬ (1 : Nat) = 0 by decide]
  refine for_to (fun m j => m_X7_share_142 f (nI l) (nI k) s m (nI j)) b _ (fun m j hj => ?_) (fun m => ?_) (by omega)
  · show m_X7_share_142 f (nI l) (nI k) s (m + 1) (nI j) = _
    rw [step m j (by omega)]
    rcases tb_01 l j with t0 | t0
    · rw [if_pos t0]
    · rw [if_neg (by omega), if_neg (e2 j hj t0)]
  · show m_X7_share_142 f (nI l) (nI k) s (m + 1) (nI b) = _
    rw [step m b hb, if_neg (by omega), if_pos e1]
theorem q_chain {σ μ : gMem} {p q n' y : Nat} (w : WF p q n' y (μ 1)) {f : Int32} {F T : Nat → Nat} (hX : exX σ q (sDr (μ 1) f) F 0) (hF : FSp q (sDr (μ 1) f) F 0) (hT : TSp q (sDr (μ 1) f) T (2 ^ q)) {s : gMem} (hs1 : s 1 = μ 1) (hs : ∀ l, l < 2 ^ q → s 12 l = nI (T l)) : ∀ k, k ≤ q → ∃ g sk, g < 2 ^ q ∧ pc g = k ∧ (∀ c m, k ≤ c → c ≤ q → m_X0_lengthGivenTo_4 (nI c) σ (m + k) 0 0 = m_X0_lengthGivenTo_4 (nI c) σ m (nI g) (nI k)) ∧ (∀ m, m_X7_share_133 f (nI q) (m + k) (nI (2 ^ q - 1)) 0 s = m_X7_share_133 f (nI q) m (nI (2 ^ q - 1 - g)) (nI k) sk) ∧ (∀ c, c ≠ 13 → sk c = s c) ∧ ∀ j, j < k → m_X0_lengthGivenTo (nI j) σ = some (sk 13 j) := by
  have hq8 := w.1.2.2.2.2.2.1
  have p1 := pow_r q hq8
  have d1 : ∀ k j, sDr (μ 1) f k j ≤ 1 := fun k j => by rcases sDr_01 (μ 1) f k j with e | e <;> omega
  intro k
  induction k with
  | zero => intro _; exact ⟨0, s, by omega, rfl, fun c m _ _ => rfl, fun m => by rw [Nat.sub_zero]; rfl, fun c _ => rfl, fun j hj => absurd hj (by omega)⟩
  | succ k ih =>
    intro hk
    obtain ⟨g, sk, hg, pg, e1, e2, e3, e4⟩ := ih (by omega)
    have gne : g ≠ 2 ^ q - 1 := by
      intro e
      rw [e, pc_all q hq8] at pg; omega
    obtain ⟨b, hb, fb⟩ := q_first hq8 hX hF.2.1 hg gne (by omega)
    obtain ⟨b', hb', fb'⟩ := hF.2.2.2 g (Nat.zero_le _) hg gne
    have eb : b' = b := by
      obtain ⟨u1, u2, u3, u4⟩ := hb
      obtain ⟨v1, v2, v3, v4⟩ := hb'
      rcases Nat.lt_trichotomy b' b with c | c | c
      · have := u4 b' c v2; have := v3 b u1 u2; omega
      · exact c
      · have := v4 b c u2; have := u3 b' v1 v2; omega
    rw [eb] at fb'
    obtain ⟨r0, r1, r2, r3, r4, r5, r6⟩ := FB_T hq8 d1 hF hT hg hb fb'
    rw [pg] at r5 r6 r3
    have Q := q_find w hT (s := sk) (by rw [e3 1 (by decide)]; exact hs1) (fun l hl => by rw [e3 12 (by decide)]; exact hs l hl) (show 2 ^ q - 1 - g < 2 ^ q by omega) (show k < q by omega) hb.1 r1 r5 r6
    -- the class's answer for person k
    have A : m_X0_lengthGivenTo (nI k) σ = some (nI b) := by
      have L : m_X0_lengthGivenTo_4 (nI k) σ gFU 0 0 = some (nI g) := by
        obtain ⟨m, hm⟩ := fu_split (show k < 100000 by omega)
        rw [hm, e1 k (m + 1) (Nat.le_refl _) (by omega)]
        show b_X0_lengthGivenTo_4 (nI k) σ (m_X0_lengthGivenTo_4 (nI k) σ m) (nI g) (nI k) = _
        simp only [b_X0_lengthGivenTo_4, nI_le (Nat.le_refl k) (show k < 2 ^ 31 by omega), if_true]
      simp only [m_X0_lengthGivenTo, L, gb1_s, fb]
    refine ⟨so g b, gst sk 13 k (nI b), r2, r3, fun c m h1 h2 => ?_, fun m => ?_, fun c hc => by rw [gst_ne _ _ hc]; exact e3 c hc, fun j hj => ?_⟩
    · rw [show m + (k + 1) = (m + 1) + k by omega, e1 c (m + 1) (by omega) h2]
      show b_X0_lengthGivenTo_4 (nI c) σ (m_X0_lengthGivenTo_4 (nI c) σ m) (nI g) (nI k) = _
      simp only [b_X0_lengthGivenTo_4, nI_ge (show k < c by omega) (show c < 2 ^ 31 by omega), if_false, fb, gb1_s, gnm_s, fb2 g (by omega) b (by have := hb.1; omega), nI_1]
    · rw [show m + (k + 1) = (m + 1) + k by omega, e2 (m + 1)]
      show b_X7_share_133 f (nI q) (m_X7_share_133 f (nI q) m) (nI (2 ^ q - 1 - g)) (nI k) sk = _
      simp only [b_X7_share_133, nI_ge (show k < q by omega) (show q < 2 ^ 31 by omega), if_false, Q, gb1_s, inb_t (show k < 8 by omega) (show 8 < 2 ^ 31 by decide), gck_s, gnm_s, nI_clamp (show k < 2 ^ 31 by omega), fb3 (2 ^ q - 1 - g) (by omega) b (by have := hb.1; omega), r4, nI_1]
    · rw [gst_eq]
      by_cases e : j = k
      · subst e; rw [pk_us]; exact A
      · rw [pk_un e]; exact e4 j (by omega)
theorem zshl : ∀ k, k < 8 → (0 : Int32) <<< (nI k &&& 31) = 0 := by decide +kernel
theorem fl_s {d : Nat} {B : Int32} {k : Nat} (hk : k < 8) (hd : d = 0 ∨ d = 1) : B ||| (1 - nI d) <<< (nI k &&& 31) = if nI (1 - d) = 0 then B else B ||| (1 : Int32) <<< (nI k &&& 31) := by
  rcases hd with e | e
  · subst e
    rw [if_neg (show ¬ nI (1 - 0) = 0 from by decide)]; rfl
  · subst e
    rw [if_pos (show nI (1 - 1) = 0 from rfl), show (1 : Int32) - nI 1 = 0 from rfl, zshl k hk, or0]
theorem p_flood {σ μ : gMem} (h : INV σ μ) (a b : Int32) : OKu σ μ (m_X6_flood a b σ) (m_X7_flood a b μ) := by
  have ea : m_X7_in a.toInt64 0 40 μ = some (wi a 0 40) := q_in a 0 40 μ
  have I := h
  obtain ⟨hs, p, q, n', y, w⟩ := h
  have hq := w.1.2.1
  have hq8 := w.1.2.2.2.2.2.1
  have p1 := pow_r q hq8
  have hσ : σ 1 8 = nI q := (Rg_peo hs.1).trans hq
  have eb : m_X7_in b.toInt64 (-2) ((nI q - 1).toInt64) μ = some (wi b (-2) (nI q - 1)) := q_in b (-2) (nI q - 1) μ
  rcases wi_r a 0 40 with hv | ⟨hv, -⟩
  · exact ⟨-1, σ, μ, by simp only [m_X6_flood, q_within, gb1_s, hv, if_true], by simp only [m_X7_flood, ea, gb1_s, hv, if_true], I⟩
  rcases wi_r b (-2) (nI q - 1) with hw | ⟨hw, h1, h2⟩
  · exact ⟨-1, σ, μ, by simp only [m_X6_flood, q_within, gb1_s, hv, ne10, if_false, hσ, hw, if_true], by simp only [m_X7_flood, ea, gb1_s, hv, ne10, if_false, in63, gck_s, l63, hq, eb, hw, if_true], I⟩
  have d1 : ∀ k j, sDr (μ 1) a k j ≤ 1 := fun k j => by rcases sDr_01 (μ 1) a k j with e | e <;> omega
  obtain ⟨F, σ', x1, x2, x3, x4⟩ := q_weigh hs.1 w a
  have IX : INV σ' μ := INV_scr I (fun c hc => x4 c (by omega)) (fun c _ => rfl) rfl rfl
  by_cases c1 : b = -1
  · subst c1
    have L1 : m_X0_drownedAsTheyAre_4 σ' gFU 0 0 = some (sBits (fun k => nI (1 - sDr (μ 1) a k k)) q) := by
      refine for_to (fun m k => m_X0_drownedAsTheyAre_4 σ' m (sBits (fun k => nI (1 - sDr (μ 1) a k k)) k) (nI k)) q _ (fun m k hk => ?_) (fun m => ?_) (by omega)
      · show b_X0_drownedAsTheyAre_4 σ' (m_X0_drownedAsTheyAre_4 σ' m) _ (nI k) = _
        obtain ⟨mk, hmk, e2, e3⟩ := x2.2.1 k hk
        have c2 : ¬ nI q ≤ nI k := nI_ge hk (by omega)
        have H : m_X6_holds (nI mk) (nI k) σ' = some (nI (1 - sDr (μ 1) a k k)) := by rw [q_holds, fb1 mk hmk k (by omega), e3 k hk]
        simp only [b_X0_drownedAsTheyAre_4, x2.1, c2, if_false, inb_t (show k < 8 by omega) (show 8 < 2 ^ 31 by decide), gck_s, nI_clamp (show k < 2 ^ 31 by omega), e2, H, gb1_s, gnm_s, nI_1, sBits]
        split <;> rfl
      · show b_X0_drownedAsTheyAre_4 σ' (m_X0_drownedAsTheyAre_4 σ' m) _ (nI q) = _
        simp only [b_X0_drownedAsTheyAre_4, x2.1, nI_le (Nat.le_refl q) (show q < 2 ^ 31 by omega), if_true]
    have L2 : m_X7_flood_45 a μ gFU 0 0 = some (sBits (fun k => nI (1 - sDr (μ 1) a k k)) q) := by
      refine for_to (fun m k => m_X7_flood_45 a μ m (sBits (fun k => nI (1 - sDr (μ 1) a k k)) k) (nI k)) q _ (fun m k hk => ?_) (fun m => ?_) (by omega)
      · show b_X7_flood_45 a μ (m_X7_flood_45 a μ m) _ (nI k) = _
        have c2 : ¬ nI q ≤ nI k := nI_ge hk (by omega)
        simp only [b_X7_flood_45, in63, gck_s, l63, hq, c2, if_false, q_dry w hk hk a, gb1_s, gnm_s, nI_1, sBits]
        rw [fl_s (by omega) (sDr_01 (μ 1) a k k)]
      · show b_X7_flood_45 a μ (m_X7_flood_45 a μ m) _ (nI q) = _
        simp only [b_X7_flood_45, in63, gck_s, l63, hq, nI_le (Nat.le_refl q) (show q < 2 ^ 31 by omega), if_true]
    exact ⟨sBits (fun k => nI (1 - sDr (μ 1) a k k)) q, σ', μ, by simp only [m_X6_flood, q_within, gb1_s, hv, ne10, if_false, hσ, hw, x1, if_true, m_X0_drownedAsTheyAre, L1], by simp only [m_X7_flood, ea, gb1_s, hv, ne10, if_false, in63, gck_s, l63, hq, eb, hw, if_true, L2], IX⟩
  obtain ⟨T, s, t1, t2, t3, t4⟩ := q_share2 w a
  have s1 : s 1 = μ 1 := t4 1 (by decide)
  obtain ⟨g, sk, hg, pg, -, k2, k3, k4⟩ := q_chain w x2 x3 t2 s1 t3 q (Nat.le_refl _)
  have SH : m_X7_share a μ = some sk := by
    have L : m_X7_share_133 a (nI q) gFU (nI (2 ^ q - 1)) 0 s = some sk := by
      obtain ⟨m, hm⟩ := fu_split (show q < 100000 by omega)
      rw [hm, k2 (m + 1)]
      show b_X7_share_133 a (nI q) (m_X7_share_133 a (nI q) m) _ (nI q) sk = _
      simp only [b_X7_share_133, nI_le (Nat.le_refl q) (show q < 2 ^ 31 by omega), if_true]
    have e1 : nI (2 ^ q) - 1 = nI (2 ^ q - 1) := by rw [show (1 : Int32) = nI 1 from rfl, nI_sub (by omega)]
    simp only [m_X7_share, in63, gck_s, gnm_s, l63, hq, t1, gb1_s, fb6 q hq8, e1, L]
  have IM : INV σ' sk := INV_scr I (fun c hc => x4 c (by omega)) (fun c hc => by rw [k3 c (by omega), t4 c (by omega)]) (by rw [k3 0 (by decide), t4 0 (by decide)]) (by rw [k3 0 (by decide), t4 0 (by decide)])
  have sk1 : sk 1 63 = nI q := by rw [k3 1 (by decide), s1]; exact hq
  by_cases c2 : b = -2
  · subst c2
    have c1' : ¬ (-2 : Int32) = -1 := by decide
    have e1 : nI (2 ^ q) - 1 = nI (2 ^ q - 1) := by rw [show (1 : Int32) = nI 1 from rfl, nI_sub (by omega)]
    have S := FT_sum hq8 d1 x3 t2 (2 ^ q - 1) (by omega)
    rw [Nat.sub_self, pc_all q hq8] at S
    refine ⟨nI (F 0), σ', sk, ?_, ?_, IM⟩
    · have f0 : σ' 203 0 = nI (F 0) := x2.2.2 0 (Nat.zero_le _) (by omega)
      simp only [m_X6_flood, q_within, gb1_s, hv, ne10, if_false, hσ, hw, x1, c1', if_true, m_X0_fewestDrowned, show inb 0 256 = true from rfl, gck_s, show (0 : Int32).toNatClampNeg = 0 from rfl, f0]
    · have f12 : sk 12 (2 ^ q - 1) = nI (T (2 ^ q - 1)) := by rw [k3 12 (by decide)]; exact t3 _ (by omega)
      simp only [m_X7_flood, ea, gb1_s, hv, ne10, if_false, in63, gck_s, l63, hq, eb, hw, c1', SH, if_true, sk1, fb6 q hq8, e1, inb_t (show 2 ^ q - 1 < 256 by omega) (show 256 < 2 ^ 31 by decide), nI_clamp (show 2 ^ q - 1 < 2 ^ 31 by omega), f12]
      rw [nI_sub (by omega)]
      congr 3; omega
  · have h1 : (-2 : Int) ≤ b.toInt := h1
    have e : (nI q - 1).toInt = (q : Int) - 1 := by
      rw [i32_sub (by rw [nI_toInt (by omega)]; show _ ≤ _ - (1 : Int); omega) (by rw [nI_toInt (by omega)]; show _ - (1 : Int) < _; omega), nI_toInt (by omega)]; rfl
    rw [e] at h2
    have n1 : b.toInt ≠ -1 := gnI (k := -1) (n := -1) c1 rfl
    have n2 : b.toInt ≠ -2 := gnI (k := -2) (n := -2) c2 rfl
    obtain ⟨k, hk, rfl⟩ := nat_of (x := b) (n := 8) (by omega) (by omega) (by decide)
    rw [nI_toInt (by omega)] at h2
    have A := k4 k (by omega)
    exact ⟨sk 13 k, σ', sk, by simp only [m_X6_flood, q_within, gb1_s, hv, ne10, if_false, hσ, hw, x1, c1, c2, A], by simp only [m_X7_flood, ea, gb1_s, hv, ne10, if_false, in63, gck_s, l63, hq, eb, hw, c1, c2, SH, inb_t (show k < 8 by omega) (show 8 < 2 ^ 31 by decide), nI_clamp (show k < 2 ^ 31 by omega)], IM⟩
