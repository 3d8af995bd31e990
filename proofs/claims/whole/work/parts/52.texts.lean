/-! ===== texts: a path, side by side ===== -/
/-- what both have read of the first k paths -/
def pP (p k : Nat) (σ μ : gMem) : Prop := ∀ i, i < k → ∃ a b v : Nat, a < p ∧ b < p ∧ a ≠ b ∧ 1 ≤ v ∧ v ≤ 60 ∧ σ 51 i = nI a ∧ σ 52 i = nI b ∧ σ 53 i = nI v ∧ μ 3 (3 * i) = nI a ∧ μ 3 (3 * i + 1) = nI b ∧ μ 3 (3 * i + 2) = nI v
theorem pP_c {p k : Nat} {σ μ σ' μ' : gMem} (h : pP p k σ μ) (h1 : σ' 51 = σ 51) (h2 : σ' 52 = σ 52) (h4 : σ' 53 = σ 53) (h3 : μ' 3 = μ 3) : pP p k σ' μ' := by
  unfold pP at *
  rw [h1, h2, h3, h4]; exact h
theorem q_pathJ {σ μ : gMem} {t : Nat} {c : Nat → Nat} {x : Nat} (h1 : RX σ t c x) (h2 : RM μ t c x) (f1 : σ 49 3 = -1) (f2 : μ 0 5 = -1) {k p : Nat} (hk : k < 8) (hp : p ≤ 12) (e62 : μ 1 62 = nI p) (ek : σ 49 5 = nI k) (hD : pP p k σ μ) : (∃ z s' μ', m_X3_readPath (nI p) σ = some s' ∧ (∀ rc, b_X7_paths_8 rc (nI k) 1 μ = mContP rc (nI (k + 1)) μ') ∧ RX s' t c z ∧ RM μ' t c z ∧ s' 49 3 = -1 ∧ μ' 0 5 = -1 ∧ s' 49 5 = nI k ∧ pP p (k + 1) s' μ' ∧ (∀ j, j ≠ 49 → j ≠ 51 → j ≠ 52 → j ≠ 53 → s' j = σ j) ∧ mJ μ μ') ∨ ∃ f z z' s' μ', f ≤ t ∧ m_X3_readPath (nI p) σ = some s' ∧ (∀ rc, b_X7_paths_8 rc (nI k) 1 μ = mContP rc (nI (k + 1)) μ') ∧ RX s' t c z ∧ RM μ' t c z' ∧ s' 49 3 = nI f ∧ μ' 0 5 = nI f ∧ s' 49 5 = nI k ∧ (∀ j, j ≠ 49 → j ≠ 51 → j ≠ 52 → j ≠ 53 → s' j = σ j) ∧ mJ μ μ' := by
  have i8 := inb_t hk (show 8 < 2 ^ 31 by decide)
  have ck := nI_clamp (show k < 2 ^ 31 by omega)
  have t80 := h1.2.1
  have n0 : ¬ (0 : Int32) ≤ -1 := by decide
  have f0 : ∀ f, f ≤ t → (0 : Int32) ≤ nI f := fun f hf => nI_le (a := 0) (b := f) (by omega) (by omega)
  -- the reference's stores
  have ST : ∀ (m : gMem) (u v w : Int32) (z : Nat), RM m t c z → RM (gst (gst (gst m 3 (3 * k) u) 3 (3 * k + 1) v) 3 (3 * k + 2) w) t c z := fun m u v w z h => RM_s (RM_s (RM_s h _ _) _ _) _ _
  have SJ : ∀ (m : gMem) (u v w : Int32), mJ m (gst (gst (gst m 3 (3 * k) u) 3 (3 * k + 1) v) 3 (3 * k + 2) w) := fun m u v w => mJ_t (mJ_t (mJ_s _ _ _) (mJ_s _ _ _)) (mJ_s _ _ _)
  have S5 : ∀ (m : gMem) (u v w : Int32), gst (gst (gst m 3 (3 * k) u) 3 (3 * k + 1) v) 3 (3 * k + 2) w 0 5 = m 0 5 := fun m u v w => by rw [gst_ne _ _ (by decide), gst_ne _ _ (by decide), gst_ne _ _ (by decide)]
  have S3 : ∀ (m : gMem) (u v w : Int32), gst (gst (gst m 3 (3 * k) u) 3 (3 * k + 1) v) 3 (3 * k + 2) w 3 = upd (upd (upd (m 3) (3 * k) u) (3 * k + 1) v) (3 * k + 2) w := fun m u v w => by rw [gst_eq, gst_eq, gst_eq]
  have RM5 : ∀ {s : gMem} {z : Nat} (u : Int32), RM s t c z → RM (gst s 0 5 u) t c z := fun {s z} u ⟨a, b, d, e, f⟩ => ⟨by rw [gst_eq, pk_un (by decide)]; exact a, b, fun i hi => by rw [gst_ne _ _ (by decide)]; exact d i hi, by rw [gst_eq, pk_un (by decide)]; exact e, f⟩
  have B0 := fun (rc : Int32 → Int32 → gMem → Option (Int32 × gMem)) => q_bPaths rc hk μ f2
  have X0 := q_readPath (nI p) σ
  rcases q_letter h1 h2 f1 f2 hp e62 (-1) with ⟨z, l, z2, hl, -, A, B⟩ | ⟨z, z2, A, B⟩
  · -- the first letter is read
    rw [A, gb2_s, ek, i8, ck, gck_s] at X0
    have R5 : RX (gst (gst σ 49 2 (nI z)) 51 k (nI l)) t c z := RX_s (RX_go h1 z2) (by omega) _ _
    have a3 : gst (gst σ 49 2 (nI z)) 51 k (nI l) 49 3 = -1 := by rw [gst_ne _ _ (by decide), gst_eq, pk_un (by decide)]; exact f1
    have a5 : gst (gst σ 49 2 (nI z)) 51 k (nI l) 49 5 = nI k := by rw [gst_ne _ _ (by decide), gst_eq, pk_un (by decide)]; exact ek
    have a51 : gst (gst σ 49 2 (nI z)) 51 k (nI l) 51 = upd (σ 51) k (nI l) := by rw [gst_eq, gst_ne _ _ (by decide)]
    have ar : ∀ j, j ≠ 49 → j ≠ 51 → gst (gst σ 49 2 (nI z)) 51 k (nI l) j = σ j := fun j q1 q2 => by rw [gst_ne _ _ q2, gst_ne _ _ q1]
    have N9 : RM (gst μ 0 4 (nI z)) t c z := RM_go h2 z2
    have m5 : gst μ 0 4 (nI z) 0 5 = -1 := by rw [gst_eq, pk_un (by decide)]; exact f2
    have m62 : gst μ 0 4 (nI z) 1 62 = nI p := by rw [gst_ne _ _ (by decide)]; exact e62
    have m3 : gst μ 0 4 (nI z) 3 = μ 3 := gst_ne _ _ (by decide)
    have mJ1 : mJ μ (gst μ 0 4 (nI z)) := mK_J (mK_s μ (Or.inl rfl) _)
    generalize gst (gst σ 49 2 (nI z)) 51 k (nI l) = s at *
    generalize gst μ 0 4 (nI z) = m at *
    have a51k : s 51 k = nI l := by rw [a51]; exact pk_us
    have X1 : xRest1 (nI p) s = gb2 (m_X3_readLetter (nI p) (nI l) s) fun r9 s8 => xRest2 (gst s8 52 k r9) := by
      unfold xRest1
      rw [a5, i8, ck, gck_s, a51k]
      rfl
    have B1 : ∀ rc, b_X7_paths_8 rc (nI k) 1 μ = gb2 (m_X7_letter (nI l) m) fun r15 s14 => gb1 (mNum s14) fun s16 => mContP rc (nI (k + 1)) (gst (gst (gst s16 3 (3 * k) (nI l)) 3 (3 * k + 1) r15) 3 (3 * k + 2) (s16 0 6)) := fun rc => by
      rw [B0 rc, B, gb2_s]
      unfold mLet
      rw [m5, if_neg n0]
      cases m_X7_letter (nI l) m with
      | none => rfl
      | some v => rfl
    rcases q_letter R5 N9 a3 m5 hp m62 (nI l) with ⟨z', l', z2', hl', hne, A', B'⟩ | ⟨z', z2', A', B'⟩
    · -- the second
      rw [A', gb2_s] at X1
      have R6 : RX (gst (gst s 49 2 (nI z')) 52 k (nI l')) t c z' := RX_s (RX_go R5 z2') (by omega) _ _
      have b3 : gst (gst s 49 2 (nI z')) 52 k (nI l') 49 3 = -1 := by rw [gst_ne _ _ (by decide), gst_eq, pk_un (by decide)]; exact a3
      have b5 : gst (gst s 49 2 (nI z')) 52 k (nI l') 49 5 = nI k := by rw [gst_ne _ _ (by decide), gst_eq, pk_un (by decide)]; exact a5
      have b52 : gst (gst s 49 2 (nI z')) 52 k (nI l') 52 = upd (σ 52) k (nI l') := by rw [gst_eq, gst_ne _ _ (by decide), ar 52 (by decide) (by decide)]
      have b51 : gst (gst s 49 2 (nI z')) 52 k (nI l') 51 = upd (σ 51) k (nI l) := by rw [gst_ne _ _ (by decide), gst_ne _ _ (by decide), a51]
      have br : ∀ j, j ≠ 49 → j ≠ 51 → j ≠ 52 → gst (gst s 49 2 (nI z')) 52 k (nI l') j = σ j := fun j q1 q2 q3 => by rw [gst_ne _ _ q3, gst_ne _ _ q1, ar j q1 q2]
      have N10 : RM (gst m 0 4 (nI z')) t c z' := RM_go N9 z2'
      have n5 : gst m 0 4 (nI z') 0 5 = -1 := by rw [gst_eq, pk_un (by decide)]; exact m5
      have n3 : gst m 0 4 (nI z') 3 = μ 3 := by rw [gst_ne _ _ (by decide)]; exact m3
      have mJ2 : mJ μ (gst m 0 4 (nI z')) := mJ_t mJ1 (mK_J (mK_s m (Or.inl rfl) _))
      generalize gst (gst s 49 2 (nI z')) 52 k (nI l') = s' at *
      generalize gst m 0 4 (nI z') = m' at *
      have B2 : ∀ rc, b_X7_paths_8 rc (nI k) 1 μ = gb1 (m_X7_number 1 60 0 m') fun s16 => mContP rc (nI (k + 1)) (gst (gst (gst s16 3 (3 * k) (nI l)) 3 (3 * k + 1) (nI l')) 3 (3 * k + 2) (s16 0 6)) := fun rc => by
        rw [B1 rc, B', gb2_s]
        unfold mNum
        rw [n5, if_neg n0]
        cases m_X7_number 1 60 0 m' with
        | none => rfl
        | some v => rfl
      have X2 : xRest2 s' = gb2 (m_X3_readNumber 1 60 s') fun r14 s13 => some (gst s13 53 k r14) := by
        unfold xRest2
        rw [b5, i8, ck]
        rfl
      rcases q_numJ R6 N10 b3 n5 (lo := 1) (hi := 60) (by decide) (by decide) (a0 := 1) (a1 := 60) (a2 := 0) (fun v hv => by rw [sgn0 v hv]; show (1 : Int) ≤ _ ∧ _ ≤ (60 : Int) ↔ _; omega) with ⟨y, v, y2, v1, v2, A2, C2⟩ | ⟨y, f, μ', y2, y3, A2, C2, D2, E2, G2⟩
      · replace A2 : m_X3_readNumber 1 60 s' = some (nI v, _) := A2
        rw [A2, gb2_s] at X2
        have sv : sgn 0 v = nI v := rfl
        rw [sv] at C2
        have w6 : gst (gst m' 0 4 (nI y)) 0 6 (nI v) 0 6 = nI v := by rw [gst_eq, pk_us]
        refine Or.inl ⟨y, _, _, X0.trans (X1.trans X2), fun rc => by rw [B2 rc, C2, gb1_s, w6], RX_s (RX_go R6 y2) (by omega) _ _, ST _ _ _ _ _ (RM_6 (RM_go N10 y2) _), ?_, ?_, ?_, fun i hi => ?_, fun j q1 q2 q3 q4 => ?_, mJ_t (mJ_t mJ2 (mJ_t (mK_J (mK_s _ (Or.inl rfl) _)) (mK_J (mK_s _ (Or.inr (Or.inr rfl)) _)))) (SJ _ _ _ _)⟩
        · rw [gst_ne _ _ (by decide), gst_eq, pk_un (by decide)]; exact b3
        · rw [S5, gst_eq, pk_un (by decide), gst_eq, pk_un (by decide)]; exact n5
        · rw [gst_ne _ _ (by decide), gst_eq, pk_un (by decide)]; exact b5
        · have e51 : gst (gst s' 49 2 (nI y)) 53 k (nI v) 51 = upd (σ 51) k (nI l) := by rw [gst_ne _ _ (by decide), gst_ne _ _ (by decide), b51]
          have e52 : gst (gst s' 49 2 (nI y)) 53 k (nI v) 52 = upd (σ 52) k (nI l') := by rw [gst_ne _ _ (by decide), gst_ne _ _ (by decide), b52]
          have e53 : gst (gst s' 49 2 (nI y)) 53 k (nI v) 53 = upd (σ 53) k (nI v) := by rw [gst_eq, gst_ne _ _ (by decide), br 53 (by decide) (by decide) (by decide)]
          have m63 : gst (gst m' 0 4 (nI y)) 0 6 (nI v) 3 = μ 3 := by rw [gst_ne _ _ (by decide), gst_ne _ _ (by decide), n3]
          rw [e51, e52, e53, S3, m63]
          by_cases e : i = k
          · subst e
            refine ⟨l, l', v, hl, hl', fun q => hne (by rw [q]), v1, v2, pk_us, pk_us, pk_us, ?_, ?_, pk_us⟩
            · rw [pk_un (by omega), pk_un (by omega), pk_us]
            · rw [pk_un (by omega), pk_us]
          · rw [pk_un e, pk_un e, pk_un e, pk_un (show 3 * i ≠ 3 * k + 2 by omega), pk_un (show 3 * i ≠ 3 * k + 1 by omega), pk_un (show 3 * i ≠ 3 * k by omega), pk_un (show 3 * i + 1 ≠ 3 * k + 2 by omega), pk_un (show 3 * i + 1 ≠ 3 * k + 1 by omega), pk_un (show 3 * i + 1 ≠ 3 * k by omega), pk_un (show 3 * i + 2 ≠ 3 * k + 2 by omega), pk_un (show 3 * i + 2 ≠ 3 * k + 1 by omega), pk_un (show 3 * i + 2 ≠ 3 * k by omega)]
            exact hD i (by omega)
        · rw [gst_ne _ _ q4, gst_ne _ _ q1, br j q1 q2 q3]
      · replace A2 : m_X3_readNumber 1 60 s' = some (nI 1, _) := A2
        rw [A2, gb2_s] at X2
        refine Or.inr ⟨f, y, y, _, _, y3, X0.trans (X1.trans X2), fun rc => by rw [B2 rc, C2, gb1_s], RX_s (RX_r (RX_go R6 y2) (by omega) _) (by omega) _ _, ST _ _ _ _ _ G2, ?_, ?_, ?_, fun j q1 q2 q3 q4 => ?_, mJ_t (mJ_t mJ2 (mK_J D2)) (SJ _ _ _ _)⟩
        · rw [gst_ne _ _ (by decide), gst_eq, pk_us]
        · rw [S5]; exact E2
        · rw [gst_ne _ _ (by decide), gst_eq, pk_un (by decide), gst_eq, pk_un (by decide)]; exact b5
        · rw [gst_ne _ _ q4, gst_ne _ _ q1, gst_ne _ _ q1, br j q1 q2 q3]
    · -- a fault at the second letter
      rw [A', gb2_s] at X1
      have R6 : RX (gst (gst (gst s 49 2 (nI z')) 49 3 (nI z')) 52 k 0) t c z' := RX_s (RX_r (RX_go R5 z2') (by omega) _) (by omega) _ _
      obtain ⟨s', x', t1, t2, t3, t4, t5⟩ := q_rest2F R6 (show z' < 2 ^ 31 by omega) (by rw [gst_ne _ _ (by decide), gst_eq, pk_us]) hk (by rw [gst_ne _ _ (by decide), gst_eq, pk_un (by decide), gst_eq, pk_un (by decide)]; exact a5)
      have w5 : gst (gst m 0 4 (nI z')) 0 5 (nI z') 0 5 = nI z' := by rw [gst_eq, pk_us]
      refine Or.inr ⟨z', x', z', s', gst (gst (gst (gst (gst m 0 4 (nI z')) 0 5 (nI z')) 3 (3 * k) (nI l)) 3 (3 * k + 1) 0) 3 (3 * k + 2) (gst (gst m 0 4 (nI z')) 0 5 (nI z') 0 6), z2', X0.trans (X1.trans t1), fun rc => ?_, t2, ST _ _ _ _ _ (RM5 _ (RM_go N9 z2')), t3, ?_, t4, fun j q1 q2 q3 q4 => ?_, mJ_t (mJ_t mJ1 (mJ_t (mK_J (mK_s _ (Or.inl rfl) _)) (mK_J (mK_s _ (Or.inr (Or.inl rfl)) _)))) (SJ _ _ _ _)⟩
      · rw [B1 rc, B', gb2_s]
        unfold mNum
        rw [w5, if_pos (f0 z' z2'), gb1_s]
      · rw [S5]; exact w5
      · rw [t5 j q1 q4, gst_ne _ _ q3, gst_ne _ _ q1, gst_ne _ _ q1, ar j q1 q2]
  · -- a fault at the first letter
    rw [A, gb2_s, ek, i8, ck, gck_s] at X0
    have R5 : RX (gst (gst (gst σ 49 2 (nI z)) 49 3 (nI z)) 51 k 0) t c z := RX_s (RX_r (RX_go h1 z2) (by omega) _) (by omega) _ _
    obtain ⟨s', x', t1, t2, t3, t4, t5⟩ := q_rest1F R5 (show z < 2 ^ 31 by omega) (by rw [gst_ne _ _ (by decide), gst_eq, pk_us]) hk hp (by rw [gst_ne _ _ (by decide), gst_eq, pk_un (by decide), gst_eq, pk_un (by decide)]; exact ek)
    have w5 : gst (gst μ 0 4 (nI z)) 0 5 (nI z) 0 5 = nI z := by rw [gst_eq, pk_us]
    refine Or.inr ⟨z, x', z, s', gst (gst (gst (gst (gst μ 0 4 (nI z)) 0 5 (nI z)) 3 (3 * k) 0) 3 (3 * k + 1) 0) 3 (3 * k + 2) (gst (gst μ 0 4 (nI z)) 0 5 (nI z) 0 6), z2, X0.trans t1, fun rc => ?_, t2, ST _ _ _ _ _ (RM5 _ (RM_go h2 z2)), t3, ?_, t4, fun j q1 q2 q3 q4 => ?_, mJ_t (mJ_t (mK_J (mK_s _ (Or.inl rfl) _)) (mK_J (mK_s _ (Or.inr (Or.inl rfl)) _))) (SJ _ _ _ _)⟩
    · rw [B0 rc, B, gb2_s]
      unfold mLet mNum
      rw [w5, if_pos (f0 z z2), gb2_s, w5, if_pos (f0 z z2), gb1_s]
    · rw [S5]; exact w5
    · rw [t5 j q1 q3 q4, gst_ne _ _ q2, gst_ne _ _ q1, gst_ne _ _ q1]
