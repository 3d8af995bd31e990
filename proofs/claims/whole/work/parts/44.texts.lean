/-! ===== texts: a place of a lagoon, side by side ===== -/
/-- how many of the first have posts -/
def cP (f : Nat → Int32) : Nat → Nat
  | 0 => 0
  | k + 1 => cP f k + if 0 < (f k).toInt then 1 else 0
theorem cP_c {f g : Nat → Int32} : ∀ k, (∀ i, i < k → f i = g i) → cP f k = cP g k := by
  intro k
  induction k with
  | zero => intro _; rfl
  | succ k ih => intro h; simp only [cP, ih (fun i hi => h i (by omega)), h k (by omega)]
/-- what both have read of the first k places -/
def pD (k u : Nat) (σ μ : gMem) : Prop := u ≤ 3 ∧ cP (σ 53) k = u ∧ ∀ i, i < k → σ 51 i = μ 3 (2 * i) ∧ σ 53 i = μ 3 (2 * i + 1) ∧ -20 ≤ (σ 51 i).toInt ∧ (σ 51 i).toInt ≤ 60 ∧ 0 ≤ (σ 53 i).toInt ∧ (σ 53 i).toInt ≤ 20
theorem q_readPlace (σ : gMem) : m_X3_readPlace σ = gb2 (m_X3_readDepth σ) fun r3 s2 => gck (inb (σ 49 5) 8) (gck (inb (gst s2 51 (σ 49 5).toNatClampNeg r3 49 5) 8) (xTail (gst (gst s2 51 (σ 49 5).toNatClampNeg r3) 53 (gst s2 51 (σ 49 5).toNatClampNeg r3 49 5).toNatClampNeg 0))) := rfl
/-- the reference, when a place is read -/
def mCont (rc : Int32 → Int32 → Int32 → gMem → Option (Int32 × gMem)) (x1 x2 : Int32) (s19 : gMem) : Option (Int32 × gMem) :=
  if 0 ≤ (s19 0 5) then (gnm (gst s19 0 4 ((s19 0 4) + 0)) fun s30 => rc x1 x2 0 s30) else (if 8 ≤ x1 then (gnm (gst s19 0 4 ((s19 0 4) + 0)) fun s31 => rc x1 x2 0 s31) else (gb2 (m_X7_next s19) fun r34 s33 => if r34 = 59 then (gnm (gst s33 0 4 ((s33 0 4) + 1)) fun s36 => rc x1 x2 1 s36) else (gnm (gst s33 0 4 ((s33 0 4) + 0)) fun s35 => rc x1 x2 0 s35)))
theorem q_bLagoon (rc : Int32 → Int32 → Int32 → gMem → Option (Int32 × gMem)) (x1 x2 : Int32) (μ : gMem) (f2 : μ 0 5 = -1) : b_X7_lagoon_10 rc x1 x2 1 μ = gb2 (m_X7_takes 45 μ) fun r11 s10 => gb1 (m_X7_number (-20) 60 r11 s10) fun s13 => gck (inb (2 * x1) 24) (gck (inb ((2 * x1) + 1) 24) (gb2 ((if 0 ≤ (gst (gst s13 3 (2 * x1).toNatClampNeg (s13 0 6)) 3 ((2 * x1) + 1).toNatClampNeg 0 0 5) then some (x2, gst (gst s13 3 (2 * x1).toNatClampNeg (s13 0 6)) 3 ((2 * x1) + 1).toNatClampNeg 0) else mTail x1 x2 (gst (gst s13 3 (2 * x1).toNatClampNeg (s13 0 6)) 3 ((2 * x1) + 1).toNatClampNeg 0)) : Option (Int32 × gMem)) fun x2_18 s19 => mCont rc (x1 + 1) x2_18 s19)) := by
  unfold b_X7_lagoon_10
  rw [if_neg ne10, f2, if_neg (show ¬ (0 : Int32) ≤ -1 by decide)]
  rfl
theorem q_placeJ {σ μ : gMem} {t : Nat} {c : Nat → Nat} {x : Nat} (h1 : RX σ t c x) (h2 : RM μ t c x) (f1 : σ 49 3 = -1) (f2 : μ 0 5 = -1) {k u : Nat} (hk : k < 8) (ek : σ 49 5 = nI k) (eu : σ 49 4 = nI u) (hD : pD k u σ μ) : (∃ z u' s' μ', m_X3_readPlace σ = some s' ∧ (∀ rc, b_X7_lagoon_10 rc (nI k) (nI u) 1 μ = mCont rc (nI (k + 1)) (nI u') μ') ∧ RX s' t c z ∧ RM μ' t c z ∧ s' 49 3 = -1 ∧ μ' 0 5 = -1 ∧ s' 49 5 = nI k ∧ s' 49 4 = nI u' ∧ pD (k + 1) u' s' μ' ∧ (∀ j, j ≠ 49 → j ≠ 51 → j ≠ 53 → s' j = σ j) ∧ mJ μ μ') ∨ ∃ f z z' w s' μ', f ≤ t ∧ m_X3_readPlace σ = some s' ∧ (∀ rc, b_X7_lagoon_10 rc (nI k) (nI u) 1 μ = mCont rc (nI (k + 1)) w μ') ∧ RX s' t c z ∧ RM μ' t c z' ∧ s' 49 3 = nI f ∧ μ' 0 5 = nI f ∧ s' 49 5 = nI k ∧ (∀ j, j ≠ 49 → j ≠ 51 → j ≠ 53 → s' j = σ j) ∧ mJ μ μ' := by
  obtain ⟨d1, d2, d3⟩ := hD
  have i8 := inb_t hk (show 8 < 2 ^ 31 by decide)
  have ck := nI_clamp (show k < 2 ^ 31 by omega)
  have k2 : (2 : Int32) * nI k = nI (2 * k) := nI_mul 2 k
  have j1 := inb_t (show 2 * k < 24 by omega) (show 24 < 2 ^ 31 by decide)
  have j2 := inb_t (show 2 * k + 1 < 24 by omega) (show 24 < 2 ^ 31 by decide)
  have c1 := nI_clamp (show 2 * k < 2 ^ 31 by omega)
  have c2 := nI_clamp (show 2 * k + 1 < 2 ^ 31 by omega)
  obtain ⟨w, μ1, T, DJ⟩ := q_depth h1 h2 f1 f2
  rcases DJ with ⟨z, v, z2, v1, v2, A, B⟩ | ⟨z, f, v, μ2, z2, z3, A, B, C, D, E⟩
  · have X : m_X3_readPlace σ = xTail (gst (gst (gst σ 49 2 (nI z)) 51 k v) 53 k 0) := by
      have e5 : gst (gst σ 49 2 (nI z)) 51 k v 49 5 = nI k := by rw [gst_ne _ _ (by decide), gst_eq, pk_un (by decide)]; exact ek
      rw [q_readPlace, A, gb2_s, ek, i8, ck, gck_s, e5, i8, ck, gck_s]
    have w6 : gst (gst μ 0 4 (nI z)) 0 6 v 0 6 = v := by rw [gst_eq, pk_us]
    have w5 : gst (gst (gst (gst μ 0 4 (nI z)) 0 6 v) 3 (2 * k) v) 3 (2 * k + 1) 0 0 5 = -1 := by
      rw [gst_ne _ _ (by decide), gst_ne _ _ (by decide), gst_eq, pk_un (by decide), gst_eq, pk_un (by decide)]; exact f2
    have Y : ∀ rc, b_X7_lagoon_10 rc (nI k) (nI u) 1 μ = gb2 (mTail (nI k) (nI u) (gst (gst (gst (gst μ 0 4 (nI z)) 0 6 v) 3 (2 * k) v) 3 (2 * k + 1) 0)) fun x2_18 s19 => mCont rc (nI (k + 1)) x2_18 s19 := by
      intro rc
      rw [q_bLagoon rc _ _ μ f2, T, gb2_s, B, gb1_s, k2, j1, c1, gck_s, nI_1, j2, c2, gck_s, w6, w5, if_neg (show ¬ (0 : Int32) ≤ -1 by decide), nI_1]
    have R1 : RX (gst (gst (gst σ 49 2 (nI z)) 51 k v) 53 k 0) t c z := RX_s (RX_s (RX_go h1 z2) (by omega) _ _) (by omega) _ _
    have R2 : RM (gst (gst (gst (gst μ 0 4 (nI z)) 0 6 v) 3 (2 * k) v) 3 (2 * k + 1) 0) t c z := RM_s (RM_s (RM_6 (RM_go h2 z2) _) _ _) _ _
    have Z : ∀ j, j ≠ 2 → gst (gst (gst σ 49 2 (nI z)) 51 k v) 53 k 0 49 j = σ 49 j := fun j hj => by
      rw [gst_ne _ _ (by decide), gst_ne _ _ (by decide), gst_eq, pk_un hj]
    have Z51 : gst (gst (gst σ 49 2 (nI z)) 51 k v) 53 k 0 51 = upd (σ 51) k v := by
      rw [gst_ne _ _ (by decide), gst_eq, gst_ne _ _ (by decide)]
    have Z53 : gst (gst (gst σ 49 2 (nI z)) 51 k v) 53 k 0 53 = upd (σ 53) k 0 := by
      rw [gst_eq, gst_ne _ _ (by decide), gst_ne _ _ (by decide)]
    have Zr : ∀ j, j ≠ 49 → j ≠ 51 → j ≠ 53 → gst (gst (gst σ 49 2 (nI z)) 51 k v) 53 k 0 j = σ j := fun j a1 a2 a3 => by
      rw [gst_ne _ _ a3, gst_ne _ _ a2, gst_ne _ _ a1]
    have Q3 : gst (gst (gst (gst μ 0 4 (nI z)) 0 6 v) 3 (2 * k) v) 3 (2 * k + 1) 0 3 = upd (upd (μ 3) (2 * k) v) (2 * k + 1) 0 := by
      rw [gst_eq, gst_eq, gst_ne _ _ (by decide), gst_ne _ _ (by decide)]
    have QJ : mJ μ (gst (gst (gst (gst μ 0 4 (nI z)) 0 6 v) 3 (2 * k) v) 3 (2 * k + 1) 0) := mJ_t (mJ_t (mJ_t (mK_J (mK_s μ (Or.inl rfl) _)) (mK_J (mK_s _ (Or.inr (Or.inr rfl)) _))) (mJ_s _ _ _)) (mJ_s _ _ _)
    generalize gst (gst (gst σ 49 2 (nI z)) 51 k v) 53 k 0 = s at *
    generalize gst (gst (gst (gst μ 0 4 (nI z)) 0 6 v) 3 (2 * k) v) 3 (2 * k + 1) 0 = m at *
    rcases q_tailJ R1 R2 (by rw [Z 3 (by decide)]; exact f1) w5 hk d1 (by rw [Z 5 (by decide)]; exact ek) (by rw [Z 4 (by decide)]; exact eu) with ⟨z', u', s', μ', -, a1, a2, a3, a4, a5, a6, a7, a8, a9, a10, a11⟩ | ⟨f, z', z'', w', s', μ', a0, a1, a2, a3, a4, a5, a6, a7, a9, a10⟩
    · refine Or.inl ⟨z', u', s', μ', X.trans a1, fun rc => by rw [Y rc, a2, gb2_s], a3, a4, a5, a6, a7, a8, ?_, fun j b1 b2 b3 => by rw [a9 j b1 b3]; exact Zr j b1 b2 b3, mJ_t QJ a10⟩
      have s51 : s' 51 = upd (σ 51) k v := by rw [a9 51 (by decide) (by decide)]; exact Z51
      rcases a11 with ⟨b1, b2, b3⟩ | ⟨b1, b2, p, p1, p2, b3, b4⟩
      · rw [Z53] at b2
        rw [Q3] at b3
        refine ⟨by omega, ?_, fun i hi => ?_⟩
        · have e : cP (s' 53) k = u := by rw [← d2]; exact cP_c k (fun i hi => by rw [b2, pk_un (by omega)])
          show cP (s' 53) k + (if 0 < (s' 53 k).toInt then 1 else 0) = u'
          rw [e, b2, pk_us, if_neg (show ¬ 0 < (0 : Int32).toInt by decide), b1, Nat.add_zero]
        · rw [s51, b2, b3]
          by_cases e : i = k
          · subst e
            rw [pk_us, pk_us, pk_un (show 2 * i ≠ 2 * i + 1 by omega), pk_us, pk_us]
            exact ⟨rfl, rfl, v1, v2, by decide, by decide⟩
          · rw [pk_un e, pk_un e, pk_un (show 2 * i ≠ 2 * k + 1 by omega), pk_un (show 2 * i ≠ 2 * k by omega), pk_un (show 2 * i + 1 ≠ 2 * k + 1 by omega), pk_un (show 2 * i + 1 ≠ 2 * k by omega)]
            exact d3 i (by omega)
      · rw [Z53] at b3
        rw [Q3] at b4
        have pt : (nI p).toInt = (p : Int) := nI_toInt (by omega)
        refine ⟨by omega, ?_, fun i hi => ?_⟩
        · have e : cP (s' 53) k = u := by rw [← d2]; exact cP_c k (fun i hi => by rw [b3, pk_un (by omega), pk_un (by omega)])
          show cP (s' 53) k + (if 0 < (s' 53 k).toInt then 1 else 0) = u'
          rw [e, b3, pk_us, if_pos (show 0 < (nI p).toInt by omega), b1]
        · rw [s51, b3, b4]
          by_cases e : i = k
          · subst e
            rw [pk_us, pk_us, pk_un (show 2 * i ≠ 2 * i + 1 by omega), pk_un (show 2 * i ≠ 2 * i + 1 by omega), pk_us, pk_us]
            exact ⟨rfl, rfl, v1, v2, by omega, by omega⟩
          · rw [pk_un e, pk_un e, pk_un e, pk_un (show 2 * i ≠ 2 * k + 1 by omega), pk_un (show 2 * i ≠ 2 * k + 1 by omega), pk_un (show 2 * i ≠ 2 * k by omega), pk_un (show 2 * i + 1 ≠ 2 * k + 1 by omega), pk_un (show 2 * i + 1 ≠ 2 * k + 1 by omega), pk_un (show 2 * i + 1 ≠ 2 * k by omega)]
            exact d3 i (by omega)
    · exact Or.inr ⟨f, z', z'', w', s', μ', a0, X.trans a1, fun rc => by rw [Y rc, a2, gb2_s], a3, a4, a5, a6, a7, fun j b1 b2 b3 => by rw [a9 j b1 b3]; exact Zr j b1 b2 b3, mJ_t QJ a10⟩
  · have t80 := h1.2.1
    have X : m_X3_readPlace σ = xTail (gst (gst (gst (gst σ 49 2 (nI z)) 49 3 (nI f)) 51 k v) 53 k 0) := by
      have e5 : gst (gst (gst σ 49 2 (nI z)) 49 3 (nI f)) 51 k v 49 5 = nI k := by rw [gst_ne _ _ (by decide), gst_eq, pk_un (by decide), gst_eq, pk_un (by decide)]; exact ek
      rw [q_readPlace, A, gb2_s, ek, i8, ck, gck_s, e5, i8, ck, gck_s]
    have R1 : RX (gst (gst (gst (gst σ 49 2 (nI z)) 49 3 (nI f)) 51 k v) 53 k 0) t c z := RX_s (RX_s (RX_r (RX_go h1 z2) (by omega) _) (by omega) _ _) (by omega) _ _
    obtain ⟨s', x', t1, t2, t3, t4, t5⟩ := q_tailF R1 (show f < 2 ^ 31 by omega) (by rw [gst_ne _ _ (by decide), gst_ne _ _ (by decide), gst_eq, pk_us]) hk (by rw [gst_ne _ _ (by decide), gst_ne _ _ (by decide), gst_eq, pk_un (by decide), gst_eq, pk_un (by decide)]; exact ek)
    have w5 : gst (gst μ2 3 (2 * k) (μ2 0 6)) 3 (2 * k + 1) 0 0 5 = nI f := by
      rw [gst_ne _ _ (by decide), gst_ne _ _ (by decide)]; exact D
    have f0 : (0 : Int32) ≤ nI f := nI_le (a := 0) (b := f) (by omega) (by omega)
    refine Or.inr ⟨f, x', z, nI u, s', gst (gst μ2 3 (2 * k) (μ2 0 6)) 3 (2 * k + 1) 0, z3, X.trans t1, fun rc => ?_, t2, RM_s (RM_s E _ _) _ _, t3, w5, t4, fun j b1 b2 b3 => ?_, mJ_t (mJ_t (mK_J C) (mJ_s _ _ _)) (mJ_s _ _ _)⟩
    · rw [q_bLagoon rc _ _ μ f2, T, gb2_s, B, gb1_s, k2, j1, c1, gck_s, nI_1, j2, c2, gck_s, w5, if_pos f0, gb2_s, nI_1]
    · rw [t5 j b1 b3, gst_ne _ _ b3, gst_ne _ _ b2, gst_ne _ _ b1, gst_ne _ _ b1]
