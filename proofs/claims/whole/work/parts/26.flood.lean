/-! ===== the pure part: flood ===== -/
/-- person p on the stilts of w stays dry at home in a flood f: 1, else 0 -/
def sDr (z : Nat → Int32) (f : Int32) (p w : Nat) : Nat := sAll (fun h => sB z (z (66 + p)) (z (74 + w)) (z 65) (sW z (z (z (82 + p)).toNatClampNeg) h f)) 24 24
theorem sDr_01 (z : Nat → Int32) (f : Int32) (p w : Nat) : sDr z f p w = 0 ∨ sDr z f p w = 1 := sAll_01 _ _ _
theorem q_drowns {σ : gMem} {z : Nat → Int32} (hR : Rg 1 13 σ z) {p q n' y : Nat} (w : WF p q n' y z) {k j : Nat} (hk : k < q) (hj : j < q) (f : Int32) : m_X1_drownsWith (nI k) (z (74 + j)) f σ = some (nI (1 - sDr z f k j)) := by
  have hp12 := w.1.2.2.2.2.1
  have hq8 := w.1.2.2.2.2.2.1
  obtain ⟨-, -, -, a, ha, ea⟩ := w.2.2.2.2.2.1 k hk
  obtain ⟨-, g1, g2, -⟩ := w.2.2.2.2.2.1 j hj
  have k8 : k < 8 := by omega
  have i8 := inb_t k8 (show 8 < 2 ^ 31 by decide)
  have ck := nI_clamp (show k < 2 ^ 31 by omega)
  have ca := nI_clamp (show a < 2 ^ 31 by omega)
  have L : m_X1_drownsWith_16 (nI k) (z (74 + j)) f (z a) σ gFU 0 = some (sDr z f k j) := by
    have := for_back0 (fun m i => m_X1_drownsWith_16 (nI k) (z (74 + j)) f (z a) σ m (nI i)) 24 (fun i => sAll (fun h => sB z (z (66 + k)) (z (74 + j)) (z 65) (sW z (z (z (82 + k)).toNatClampNeg) h f)) 24 (24 - i)) (fun m i hi h => ?_) (fun m => rfl) (by decide)
    · exact this
    · show b_X1_drownsWith_16 (nI k) (z (74 + j)) f (z a) σ (m_X1_drownsWith_16 (nI k) (z (74 + j)) f (z a) σ m) (nI i) = _
      have c1 : ¬ (24 : Int32) ≤ nI i := nI_ge (b := 24) hi (by decide)
      have e : 24 - i = (24 - (i + 1)) + 1 := by omega
      have e2 : 24 - (24 - (i + 1) + 1) = i := by omega
      rw [e]
      simp only [b_X1_drownsWith_16, c1, if_false, i8, gck_s, ck, q_waterOver hR hi, gb1_s, Rg_kin hR k8, Rg_yea hR, q_bears hR (show 0 ≤ (z (74 + j)).toInt ∧ (z (74 + j)).toInt ≤ 100000 from ⟨g1, by omega⟩), gnm_s, nI_1, sAll, e2, ea, ca]
      rw [ea, ca] at h
      split
      · rfl
      · exact h
  simp only [m_X1_drownsWith, i8, gck_s, ck, Rg_hom hR k8, ea, inb_t (show a < 12 by omega) (show 12 < 2 ^ 31 by decide), ca, Rg_dep hR (show a < 12 by omega), gnm_s, L, gb1_s]
  rcases sDr_01 z f k j with e | e <;> rw [e] <;> rfl
theorem q_dry {μ : gMem} {p q n' y : Nat} (w : WF p q n' y (μ 1)) {k j : Nat} (hk : k < q) (hj : j < q) (f : Int32) : m_X7_dry (nI k) (nI j) f μ = some (nI (sDr (μ 1) f k j)) := by
  have hp12 := w.1.2.2.2.2.1
  have hq8 := w.1.2.2.2.2.2.1
  obtain ⟨-, -, -, a, ha, ea⟩ := w.2.2.2.2.2.1 k hk
  have f1 : (82 : Int32) + nI k = nI (82 + k) := by rw [show (82 : Int32) = nI 82 from rfl, nI_add]
  have f2 : (0 : Int32) + nI a = nI a := by rw [show (0 : Int32) = nI 0 from rfl, nI_add, Nat.zero_add]
  have f3 : (66 : Int32) + nI k = nI (66 + k) := by rw [show (66 : Int32) = nI 66 from rfl, nI_add]
  have f4 : (74 : Int32) + nI j = nI (74 + j) := by rw [show (74 : Int32) = nI 74 from rfl, nI_add]
  have L : m_X7_isDry_3 (nI k) ((μ 1) (74 + j)) f μ gFU 0 = some (sDr (μ 1) f k j) := by
    have := for_back0 (fun m i => m_X7_isDry_3 (nI k) ((μ 1) (74 + j)) f μ m (nI i)) 24 (fun i => sAll (fun h => sB (μ 1) ((μ 1) (66 + k)) ((μ 1) (74 + j)) ((μ 1) 65) (sW (μ 1) ((μ 1) ((μ 1) (82 + k)).toNatClampNeg) h f)) 24 (24 - i)) (fun m i hi h => ?_) (fun m => rfl) (by decide)
    · exact this
    · show b_X7_isDry_3 (nI k) ((μ 1) (74 + j)) f μ (m_X7_isDry_3 (nI k) ((μ 1) (74 + j)) f μ m) (nI i) = _
      have c1 : ¬ (24 : Int32) ≤ nI i := nI_ge (b := 24) hi (by decide)
      have e : 24 - i = (24 - (i + 1)) + 1 := by omega
      have e2 : 24 - (24 - (i + 1) + 1) = i := by omega
      have ca := nI_clamp (show a < 2 ^ 31 by omega)
      rw [e]
      simp only [b_X7_isDry_3, c1, if_false, f1, f3, inb_t (show 66 + k < 528 by omega) (by decide), inb_t (show 82 + k < 528 by omega) (by decide), in65, l65, gck_s, nI_clamp (show 82 + k < 2 ^ 31 by omega), nI_clamp (show 66 + k < 2 ^ 31 by omega), ea, f2, inb_t (show a < 528 by omega) (by decide), ca, q_waterBy hi, q_standsBy, gb1_s, gnm_s, nI_1, sAll, e2]
      rw [ea, ca] at h
      split
      · rfl
      · exact h
  simp only [m_X7_dry, f4, inb_t (show 74 + j < 528 by omega) (by decide), gck_s, nI_clamp (show 74 + j < 2 ^ 31 by omega), m_X7_isDry, L, gb1_s]
  rcases sDr_01 (μ 1) f k j with e | e <;> rw [e] <;> rfl
/-- with whose stilts one drowns, of the first k -/
def sMk (d : Nat → Nat) : Nat → Nat
  | 0 => 0
  | k + 1 => sMk d k + (1 - d k) * 2 ^ k
theorem sMk_lt (d : Nat → Nat) : ∀ k, sMk d k < 2 ^ k := by
  intro k
  induction k with
  | zero => exact Nat.one_pos
  | succ k ih =>
    unfold sMk
    have e : (2 : Nat) ^ (k + 1) = 2 ^ k + 2 ^ k := by rw [Nat.pow_succ]; omega
    have : (1 - d k) * 2 ^ k ≤ 1 * 2 ^ k := Nat.mul_le_mul_right _ (by omega)
    omega
theorem tb_add {m k : Nat} (h : m < 2 ^ k) (b : Nat) (hb : b ≤ 1) : tb (m + b * 2 ^ k) k = b := by
  unfold tb
  have p0 : 0 < 2 ^ k := Nat.pos_of_ne_zero (by intro e; have := Nat.two_pow_pos k; omega)
  rw [Nat.add_mul_div_right _ _ p0, Nat.div_eq_of_lt h, Nat.zero_add]; omega
theorem tb_low {m k j b : Nat} (h : j < k) : tb (m + b * 2 ^ k) j = tb m j := by
  unfold tb
  have e : (2 : Nat) ^ k = 2 ^ (k - j - 1) * 2 * 2 ^ j := by
    rw [Nat.mul_assoc, Nat.mul_comm 2, ← Nat.pow_succ, ← Nat.pow_add]; congr 1; omega
  rw [e, ← Nat.mul_assoc b, Nat.add_mul_div_right _ _ (Nat.two_pow_pos j), ← Nat.mul_assoc b, Nat.add_mul_mod_self_right]
theorem sMk_tb (d : Nat → Nat) (hd : ∀ k, d k ≤ 1) : ∀ k j, j < k → tb (sMk d k) j = 1 - d j := by
  intro k
  induction k with
  | zero => intro j h; omega
  | succ k ih =>
    intro j h
    unfold sMk
    by_cases e : j = k
    · subst e; exact tb_add (sMk_lt d j) _ (by omega)
    · rw [tb_low (by omega)]; exact ih j (by omega)
theorem so_mk {m k : Nat} (h : m < 2 ^ k) : so m k = m + 2 ^ k := by
  have : tb m k = 0 := by unfold tb; rw [Nat.div_eq_of_lt h]
  unfold so; rw [this]; rfl
/-- the class's first part: who drowns with whose -/
theorem q_weigh1 {σ : gMem} {z : Nat → Int32} (hR : Rg 1 13 σ z) {p q n' y : Nat} (w : WF p q n' y z) (h201 : σ 201 0 = nI q) {k : Nat} (hk : k < q) (f : Int32) : m_X0_weigh_28 f (nI k) gFU 0 (gst σ 202 k 0) = some (gst σ 202 k (nI (sMk (sDr z f k) q))) := by
  have hq8 := w.1.2.2.2.2.2.1
  have e0 : gst σ 202 k 0 = gst σ 202 k (nI (sMk (sDr z f k) 0)) := rfl
  rw [e0]
  refine for_to (fun m j => m_X0_weigh_28 f (nI k) m (nI j) (gst σ 202 k (nI (sMk (sDr z f k) j)))) q _ (fun m j hj => ?_) (fun m => ?_) (by omega)
  · show b_X0_weigh_28 f (nI k) (m_X0_weigh_28 f (nI k) m) (nI j) _ = _
    have c1 : ¬ nI q ≤ nI j := nI_ge hj (by omega)
    have g0 : ∀ x : Int32, gst σ 202 k x 201 = σ 201 := fun x => gst_ne _ _ (by decide)
    have g8 : ∀ x : Int32, gst σ 202 k x 8 = σ 8 := fun x => gst_ne _ _ (by decide)
    have gk : ∀ x : Int32, gst σ 202 k x 202 k = x := fun x => by rw [gst_eq, pk_us]
    have gg : ∀ x x' : Int32, gst (gst σ 202 k x) 202 k x' = gst σ 202 k x' := by
      intro x x'
      funext c; unfold gst grow
      by_cases hc : c = 202
      · subst hc; simp only [if_true]; funext i; unfold upd; by_cases hi : i = k <;> simp only [hi, if_true, if_false]
      · simp only [hc, if_false]
    have hR' : ∀ x : Int32, Rg 1 13 (gst σ 202 k x) z := fun x => Rg_fr hR (fun c _ hc => gst_ne _ _ (by omega))
    have i8 := inb_t (show j < 8 by omega) (show 8 < 2 ^ 31 by decide)
    have k8 := inb_t (show k < 8 by omega) (show 8 < 2 ^ 31 by decide)
    simp only [b_X0_weigh_28, g0, h201, c1, if_false, i8, k8, gck_s, g8, nI_clamp (show j < 2 ^ 31 by omega), nI_clamp (show k < 2 ^ 31 by omega), Rg_tol hR (show j < 8 by omega), q_drowns (hR' _) w hk hj f, gb1_s, gnm_s, nI_1, gk, gg, sMk]
    have lt := sMk_lt (sDr z f k) j
    have p8 := pow_r2 j (by omega)
    rcases sDr_01 z f k j with e | e
    · rw [if_neg (by rw [e]; decide), fb2 _ (by omega) j (by omega), so_mk lt, e]
      simp only [Nat.sub_zero, Nat.one_mul]
    · rw [if_pos (by rw [e]; rfl), e]
      simp only [Nat.sub_self, Nat.zero_mul, Nat.add_zero]
  · show b_X0_weigh_28 f (nI k) (m_X0_weigh_28 f (nI k) m) (nI q) _ = _
    have g0 : ∀ x : Int32, gst σ 202 k x 201 = σ 201 := fun x => gst_ne _ _ (by decide)
    simp only [b_X0_weigh_28, g0, h201, nI_le (Nat.le_refl q) (show q < 2 ^ 31 by omega), if_true]
theorem q_weigh2 {σ : gMem} {z : Nat → Int32} (hR : Rg 1 13 σ z) {p q n' y : Nat} (w : WF p q n' y z) (h201 : σ 201 0 = nI q) (f : Int32) : m_X0_weigh_10 f gFU 0 σ = some (grow σ 202 (fun k => if k < q then nI (sMk (sDr z f k) q) else σ 202 k)) := by
  have hq8 := w.1.2.2.2.2.2.1
  have e0 : σ = grow σ 202 (fun k => if k < 0 then nI (sMk (sDr z f k) q) else σ 202 k) := by
    funext a; unfold grow
    by_cases ha : a = 202
    · subst ha; rw [if_pos rfl]; funext j; rw [if_neg (by omega)]
    · rw [if_neg ha]
  have := for_to (fun m j => m_X0_weigh_10 f m (nI j) (grow σ 202 (fun k => if k < j then nI (sMk (sDr z f k) q) else σ 202 k))) q (grow σ 202 (fun k => if k < q then nI (sMk (sDr z f k) q) else σ 202 k)) (fun m j hj => ?_) (fun m => ?_) (by omega)
  · rw [← e0] at this; exact this
  · show b_X0_weigh_10 f (m_X0_weigh_10 f m) (nI j) _ = _
    have c1 : ¬ nI q ≤ nI j := nI_ge hj (by omega)
    have g0 : ∀ r, grow σ 202 r 201 = σ 201 := fun r => if_neg (by decide)
    have hR' : ∀ r, Rg 1 13 (grow σ 202 r) z := fun r => Rg_fr hR (fun c _ hc => if_neg (by omega))
    have W := q_weigh1 (σ := grow σ 202 (fun k => if k < j then nI (sMk (sDr z f k) q) else σ 202 k)) (hR' _) w (by rw [g0]; exact h201) hj f
    simp only [b_X0_weigh_10, g0, h201, c1, if_false, inb_t (show j < 8 by omega) (show 8 < 2 ^ 31 by decide), gck_s, gnm_s, nI_clamp (show j < 2 ^ 31 by omega), W, gb1_s, nI_1]
    congr 1
    funext a; unfold gst grow
    by_cases ha : a = 202
    · subst ha
      simp only [if_true]
      funext i; unfold upd; dsimp only
      by_cases hi : i = j
      · subst hi; rw [if_pos rfl, if_pos (by omega)]
      · rw [if_neg hi]
        by_cases c : i < j
        · rw [if_pos c, if_pos (by omega)]
        · rw [if_neg c, if_neg (by omega)]
    · simp only [ha, if_false]
  · show b_X0_weigh_10 f (m_X0_weigh_10 f m) (nI q) _ = _
    have g0 : ∀ r, grow σ 202 r 201 = σ 201 := fun r => if_neg (by decide)
    simp only [b_X0_weigh_10, g0, h201, nI_le (Nat.le_refl q) (show q < 2 ^ 31 by omega), if_true]
/-- what the class's cells 201 .. 203 say: the people, who drowns with whose, the fewest from a set that is given away -/
def exX (σ : gMem) (q : Nat) (d : Nat → Nat → Nat) (F : Nat → Nat) (a : Nat) : Prop := σ 201 0 = nI q ∧ (∀ k, k < q → ∃ m, m < 256 ∧ σ 202 k = nI m ∧ ∀ j, j < q → tb m j = 1 - d k j) ∧ ∀ g, a ≤ g → g < 2 ^ q → σ 203 g = nI (F g)
theorem q_behind {σ : gMem} {q : Nat} {d : Nat → Nat → Nat} {F : Nat → Nat} {a g j : Nat} (hq : q ≤ 8) (h : exX σ q d F a) (hg : g < 2 ^ q) (hj : j < q) (t0 : tb g j = 0) (ha : a ≤ so g j) : m_X0_drownedBehind (nI g) (nI j) σ = some (nI ((1 - d (pc g) j) + F (so g j))) := by
  obtain ⟨-, h2, h3⟩ := h
  have p1 := pow_r q hq
  have g256 : g < 256 := by omega
  have c := cpl q hq g hg
  have cj := (c.2 j hj).1
  -- fewer than q are given away
  have lt : pc g < q := by
    have hc : 2 ^ q - 1 - g < 2 ^ q := by omega
    have := (cl_r (2 ^ q - 1 - g) (by omega) j (by omega)).2 (by omega)
    omega
  obtain ⟨m, hm, e2, e3⟩ := h2 (pc g) lt
  have s1 := so_hi q hq g hg j hj
  have gm : gmin (nI (pc g)) 7 = nI (pc g) := by
    have n7 : ¬ (7 : Int32) < nI (pc g) := nI_nlt (b := pc g) (a := 7) (by omega) (by decide)
    unfold gmin; rw [if_neg n7]
  have b1 : ((nI m >>> (nI j &&& 31)) &&& 1) = nI (tb m j) := fb1 m hm j (by omega)
  simp only [m_X0_drownedBehind, q_bitCount g256, gb1_s, gnm_s, gm, inb_t (show pc g < 8 by omega) (show 8 < 2 ^ 31 by decide), gck_s, fb2 g g256 j (by omega), inb_t (show so g j < 256 by omega) (by decide), nI_clamp (show pc g < 2 ^ 31 by omega), nI_clamp (show so g j < 2 ^ 31 by omega), e2, b1, h3 _ ha s1, e3 j hj, nI_add]
/-- the first of those who are left by which the fewest drown -/
def isFB (q : Nat) (d : Nat → Nat → Nat) (F : Nat → Nat) (g b : Nat) : Prop := b < q ∧ tb g b = 0 ∧ (∀ j, j < q → tb g j = 0 → (1 - d (pc g) b) + F (so g b) ≤ (1 - d (pc g) j) + F (so g j)) ∧ ∀ j, j < b → tb g j = 0 → (1 - d (pc g) b) + F (so g b) < (1 - d (pc g) j) + F (so g j)
theorem q_first {σ : gMem} {q : Nat} {d : Nat → Nat → Nat} {F : Nat → Nat} {a g : Nat} (hq : q ≤ 8) (h : exX σ q d F a) (hF : ∀ g, F g ≤ 100) (hg : g < 2 ^ q) (hne : g ≠ 2 ^ q - 1) (ha : a ≤ g + 1) : ∃ b, isFB q d F g b ∧ m_X0_firstBest (nI g) σ = some (nI b) := by
  have p1 := pow_r q hq
  have g256 : g < 256 := by omega
  have hs : ∀ j, j < q → tb g j = 0 → a ≤ so g j := by
    intro j hj t0
    have := (so_r g g256 j (by omega)).2.2 t0
    have := pow_r2 j (by omega)
    omega
  -- after k turns: none yet, or the first best of the first k
  have P : ∀ k, k ≤ q → ∃ x : Int32, (∀ m d', d' + k = q → m_X0_firstBest_4 (nI g) σ (m + k) (-1) 0 = m_X0_firstBest_4 (nI g) σ m x (nI k)) ∧ ((x = -1 ∧ ∀ j, j < k → tb g j = 1) ∨ ∃ b, x = nI b ∧ b < k ∧ tb g b = 0 ∧ (∀ j, j < k → tb g j = 0 → (1 - d (pc g) b) + F (so g b) ≤ (1 - d (pc g) j) + F (so g j)) ∧ ∀ j, j < b → tb g j = 0 → (1 - d (pc g) b) + F (so g b) < (1 - d (pc g) j) + F (so g j)) := by
    intro k
    induction k with
    | zero => intro _; exact ⟨-1, fun m d' _ => rfl, Or.inl ⟨rfl, fun j hj => absurd hj (by omega)⟩⟩
    | succ k ih =>
      intro hk
      obtain ⟨x, e1, e2⟩ := ih (by omega)
      have c1 : ¬ nI q ≤ nI k := nI_ge (by omega) (by omega)
      have hb : m_X6_holds (nI g) (nI k) σ = some (nI (tb g k)) := by rw [q_holds, fb1 g g256 k (by omega)]
      have S : ∀ m, m_X0_firstBest_4 (nI g) σ (m + (k + 1)) (-1) 0 = b_X0_firstBest_4 (nI g) σ (m_X0_firstBest_4 (nI g) σ m) x (nI k) := by
        intro m
        rw [show m + (k + 1) = (m + 1) + k by omega, e1 (m + 1) (q - k) (by omega)]; rfl
      rcases tb_01 g k with t0 | t0
      · have B := q_behind hq h hg (show k < q by omega) t0 (hs k (by omega) t0)
        rcases e2 with ⟨rfl, e2⟩ | ⟨b, rfl, b1, b2, b3, b4⟩
        · refine ⟨nI k, fun m d' _ => ?_, Or.inr ⟨k, rfl, by omega, t0, fun j hj tj => ?_, fun j hj tj => ?_⟩⟩
          · rw [S m]
            simp only [b_X0_firstBest_4, h.1, c1, if_false, hb, t0, gb1_s, show nI 0 = 0 from rfl, if_true, show (-1 : Int32) < 0 from by decide, gnm_s, nI_1]
          · by_cases q0 : j = k
            · subst q0; exact Nat.le_refl _
            · exact absurd (e2 j (by omega)) (by omega)
          · exact absurd (e2 j hj) (by omega)
        · have B2 := q_behind hq h hg (show b < q by omega) b2 (hs b (by omega) b2)
          have c2 : ¬ nI b < 0 := nI_pos (by omega)
          have F1 := hF (so g b)
          have F2 := hF (so g k)
          by_cases c3 : (1 - d (pc g) b) + F (so g b) ≤ (1 - d (pc g) k) + F (so g k)
          · refine ⟨nI b, fun m d' _ => ?_, Or.inr ⟨b, rfl, by omega, b2, fun j hj tj => ?_, b4⟩⟩
            · rw [S m]
              simp only [b_X0_firstBest_4, h.1, c1, if_false, hb, t0, gb1_s, show nI 0 = 0 from rfl, if_true, c2, B, B2, nI_le c3 (by omega), gnm_s, nI_1]
            · by_cases q0 : j = k
              · subst q0; exact c3
              · exact b3 j (by omega) tj
          · refine ⟨nI k, fun m d' _ => ?_, Or.inr ⟨k, rfl, by omega, t0, fun j hj tj => ?_, fun j hj tj => ?_⟩⟩
            · rw [S m]
              simp only [b_X0_firstBest_4, h.1, c1, if_false, hb, t0, gb1_s, show nI 0 = 0 from rfl, if_true, c2, B, B2, nI_ge (Nat.not_le.mp c3) (show (1 - d (pc g) b) + F (so g b) < 2 ^ 31 by omega), gnm_s, nI_1]
            · by_cases q0 : j = k
              · subst q0; exact Nat.le_refl _
              · have := b3 j (by omega) tj; omega
            · have := b3 j hj tj; omega
      · refine ⟨x, fun m d' _ => ?_, ?_⟩
        · rw [S m]
          simp only [b_X0_firstBest_4, h.1, c1, if_false, hb, t0, gb1_s, show ¬ nI 1 = 0 from by decide, gnm_s, nI_1]
        · rcases e2 with ⟨rfl, e2⟩ | ⟨b, rfl, b1, b2, b3, b4⟩
          · exact Or.inl ⟨rfl, fun j hj => by
              by_cases q0 : j = k
              · subst q0; exact t0
              · exact e2 j (by omega)⟩
          · refine Or.inr ⟨b, rfl, by omega, b2, fun j hj tj => ?_, b4⟩
            by_cases q0 : j = k
            · subst q0; omega
            · exact b3 j (by omega) tj
  obtain ⟨x, e1, e2⟩ := P q (Nat.le_refl _)
  have R : m_X0_firstBest_4 (nI g) σ gFU (-1) 0 = some x := by
    have := e1 (gFU - q) 0 (by omega)
    rw [show gFU - q + q = gFU from Nat.sub_add_cancel (by show q ≤ 100000; omega)] at this
    rw [this]
    obtain ⟨m, hm⟩ : ∃ m, gFU - q = m + 1 := ⟨gFU - q - 1, by show 100000 - q = 100000 - q - 1 + 1; omega⟩
    rw [hm]
    show b_X0_firstBest_4 (nI g) σ (m_X0_firstBest_4 (nI g) σ m) x (nI q) = _
    simp only [b_X0_firstBest_4, h.1, nI_le (Nat.le_refl q) (show q < 2 ^ 31 by omega), if_true]
  rcases e2 with ⟨rfl, e2⟩ | ⟨b, rfl, b1, b2, b3, b4⟩
  · -- all are given away: not here
    exfalso
    have c := cpl q hq g hg
    have z0 : 2 ^ q - 1 - g ≠ 0 := by omega
    obtain ⟨k, hk, tk⟩ := ex_bit (2 ^ q - 1 - g) (by omega) z0
    by_cases hkq : k < q
    · have := (c.2 k hkq).1
      have := e2 k hkq
      omega
    · have := tb_hi q hq (2 ^ q - 1 - g) (by omega) k hk (by omega)
      omega
  · refine ⟨b, ⟨b1, b2, b3, b4⟩, ?_⟩
    have gm : gmax 0 (nI b) = nI b := by
      unfold gmax
      by_cases c : (0 : Int32) < nI b
      · rw [if_pos c]
      · rw [if_neg c]
        have : b = 0 := by
          rcases Nat.eq_zero_or_pos b with q0 | q0
          · exact q0
          · exact absurd (nI_lt (a := 0) q0 (by omega)) c
        subst this; rfl
    simp only [m_X0_firstBest, R, gb1_s, gm]
