/-! ===== texts: numbers, faults ===== -/
def xF (σ : gMem) (a : Int32) : gMem := if 0 ≤ σ 49 3 then σ else gst σ 49 3 a
def mF (μ : gMem) (a : Int32) : gMem := if 0 ≤ μ 0 5 then μ else gst μ 0 5 a
theorem q_faultAt (a : Int32) (σ : gMem) : m_X3_faultAt a σ = some (xF σ a) := by
  unfold m_X3_faultAt xF
  split <;> rfl
theorem q_cannot (a : Int32) (μ : gMem) : m_X7_cannot a μ = some (mF μ a) := by
  unfold m_X7_cannot mF
  split
  · rw [gst_self rfl]; rfl
  · rfl
/-- a number with its sign -/
def sgn (a : Int32) (v : Nat) : Int32 := if a = 0 then nI v else -(nI v)
theorem q_num {σ μ : gMem} {t : Nat} {c : Nat → Nat} {x : Nat} (h1 : RX σ t c x) (h2 : RM μ t c x) : (∃ y, x ≤ y ∧ y ≤ t ∧ (∀ lo hi, m_X3_readNumber lo hi σ = some (lo, xF (gst σ 49 2 (nI y)) (nI y))) ∧ ∀ a0 a1 a2, m_X7_number a0 a1 a2 μ = some (mF (gst μ 0 4 (nI y)) (nI y))) ∨ ∃ y e v, x ≤ y ∧ y ≤ e ∧ e ≤ t ∧ v ≤ 9999 ∧ (∀ lo hi : Nat, lo ≤ 99 → hi ≤ 99 → m_X3_readNumber (nI lo) (nI hi) σ = if lo ≤ v ∧ v ≤ hi then some (nI v, gst σ 49 2 (nI e)) else some (nI lo, xF (gst σ 49 2 (nI e)) (nI y))) ∧ ∀ a0 a1 a2 : Int32, m_X7_number a0 a1 a2 μ = if a0.toInt ≤ (sgn a2 v).toInt ∧ (sgn a2 v).toInt ≤ a1.toInt then some (gst (gst μ 0 4 (nI e)) 0 6 (sgn a2 v)) else some (mF (gst (gst μ 0 4 (nI e)) 0 6 (sgn a2 v)) (nI y)) := by
  have hx := h1.2.2.2.2
  obtain ⟨r1, r2⟩ := sSk_r c t (t - x) (by omega)
  have P := q_peek h1
  have N := q_next h2
  have g1 := RX_go h1 r2
  have g2 := RM_go h2 r2
  generalize sSk c t (t - x) = y at *
  have f1 := g1.2.2.2.1
  have f2 := g2.2.2.2.1
  -- the byte, as the class and as the reference has it, is a figure for both or for none
  have D : wi (if y < t then nI (c y) else -1) 48 57 = wi (if y < t then nI (c y) else 0) 48 57 := by
    by_cases k : y < t
    · rw [if_pos k, if_pos k]
    · rw [if_neg k, if_neg k]; rfl
  have W : ∀ b s, m_X6_within b 48 57 s = some (wi b 48 57) := fun b s => q_within b 48 57 s
  have W' : ∀ (b : Int32) s, m_X7_in b.toInt64 48 57 s = some (wi b 48 57) := fun b s => q_in b 48 57 s
  generalize (if y < t then nI (c y) else -1) = bx at *
  generalize (if y < t then nI (c y) else 0) = bm at *
  rcases wi_r bx 48 57 with hw | ⟨hw, -⟩
  · refine Or.inl ⟨y, by omega, r2, fun lo hi => ?_, fun a0 a1 a2 => ?_⟩
    · unfold m_X3_readNumber
      rw [P, gb2_s, W, gb1_s, hw, if_pos rfl, f1, q_faultAt, gb1_s]
    · unfold m_X7_number
      rw [N, gb2_s, gnm_s, W', gb1_s, ← D, hw, if_pos rfl, f2, q_cannot, gb1_s]
  · obtain ⟨e, v, e1, e2, e3, e4, e5⟩ := q_figures (t - y) y 100000 0 _ _ (by omega) (by have := h1.2.1; omega) (by omega) g1 g2
    rw [gst_gst] at e4 e5
    have e4' : m_X3_readNumber_32 gFU 0 (gst σ 49 2 (nI y)) = some (nI (min 100 v), gst σ 49 2 (nI e)) := by
      rw [← show nI (min 100 0) = 0 from rfl]; exact e4
    have e5' : m_X7_number_37 gFU 0 (gst μ 0 4 (nI y)) = some (nI v, gst μ 0 4 (nI e)) := by
      rw [← show nI 0 = 0 from rfl]; exact e5
    refine Or.inr ⟨y, e, v, by omega, e1, e2, e3, fun lo hi hl hh => ?_, fun a0 a1 a2 => ?_⟩
    · unfold m_X3_readNumber
      rw [P, gb2_s, W, gb1_s, hw, if_neg ne10, gnm_s, e4', gb2_s, q_within, gb1_s, f1]
      by_cases k : lo ≤ v ∧ v ≤ hi
      · have w1 : ¬ wi (nI (min 100 v)) (nI lo) (nI hi) = 0 := wi_1.mpr (by rw [nI_toInt (by omega), nI_toInt (by omega), nI_toInt (by omega)]; omega)
        rw [if_neg w1, if_pos k, show min 100 v = v by omega]
      · have w0 : wi (nI (min 100 v)) (nI lo) (nI hi) = 0 := wi_0.mpr (by rw [nI_toInt (by omega), nI_toInt (by omega), nI_toInt (by omega)]; omega)
        rw [if_pos w0, if_neg k, q_faultAt, gb1_s]
    · unfold m_X7_number
      rw [N, gb2_s, gnm_s, W', gb1_s, ← D, hw, if_neg ne10, e5', gb2_s, f2]
      have sg : (if a2 = 0 then some (nI v) else some (-(nI v)) : Option Int32) = some (sgn a2 v) := by unfold sgn; split <;> rfl
      rw [sg, gb1_s, gnm_s]
      have s6 : gst (gst μ 0 4 (nI e)) 0 6 (sgn a2 v) 0 6 = sgn a2 v := by rw [gst_eq, pk_us]
      rw [s6, q_in, gb1_s]
      by_cases k : a0.toInt ≤ (sgn a2 v).toInt ∧ (sgn a2 v).toInt ≤ a1.toInt
      · rw [if_neg (wi_1.mpr k), if_pos k]
      · rw [if_pos (wi_0.mpr k), if_neg k, q_cannot, gb1_s]
