/-! ===== texts: the class reads on behind a fault, and does not throw ===== -/
/-- what a reader keeps: all but its place, its fault and what it notes -/
def xK (σ σ' : gMem) : Prop := (∀ k, k ≠ 49 → σ' k = σ k) ∧ σ' 49 4 = σ 49 4 ∧ σ' 49 5 = σ 49 5
theorem xK_r (σ : gMem) : xK σ σ := ⟨fun _ _ => rfl, rfl, rfl⟩
theorem xK_t {a b d : gMem} (h1 : xK a b) (h2 : xK b d) : xK a d := ⟨fun k hk => (h2.1 k hk).trans (h1.1 k hk), h2.2.1.trans h1.2.1, h2.2.2.trans h1.2.2⟩
theorem xK_p (σ : gMem) (x : Int32) : xK σ (gst σ 49 2 x) := ⟨fun k hk => gst_ne _ _ hk, by rw [gst_eq, pk_un (by decide)], by rw [gst_eq, pk_un (by decide)]⟩
theorem xK_f (σ : gMem) (x : Int32) : xK σ (xF σ x) := by
  unfold xF
  split
  · exact xK_r σ
  · exact ⟨fun k hk => gst_ne _ _ hk, by rw [gst_eq, pk_un (by decide)], by rw [gst_eq, pk_un (by decide)]⟩
theorem RX_f {σ : gMem} {t : Nat} {c : Nat → Nat} {x : Nat} (h : RX σ t c x) (a : Int32) : RX (xF σ a) t c x := by
  obtain ⟨a1, b, d, e, f⟩ := h
  unfold xF
  split
  · exact ⟨a1, b, d, e, f⟩
  · refine ⟨by rw [gst_eq, pk_un (by decide)]; exact a1, b, fun i hi => by rw [gst_ne _ _ (by decide)]; exact d i hi, by rw [gst_eq, pk_un (by decide)]; exact e, f⟩
/-- a fault stays the first one -/
theorem xF_old {σ : gMem} {f : Nat} (hf : f < 2 ^ 31) (h : σ 49 3 = nI f) (a : Int32) : xF σ a = σ := by
  unfold xF
  rw [h, if_pos]
  exact nI_le (a := 0) (by omega) hf
theorem xF_new {σ : gMem} (h : σ 49 3 = -1) (a : Int32) : xF σ a = gst σ 49 3 a := by
  unfold xF
  rw [h, if_neg (by decide)]
theorem mF_new {μ : gMem} (h : μ 0 5 = -1) (a : Int32) : mF μ a = gst μ 0 5 a := by
  unfold mF
  rw [h, if_neg (by decide)]
/-- some memory of the reference that holds the text -/
theorem RM_of {σ : gMem} {t : Nat} {c : Nat → Nat} {x : Nat} (h : RX σ t c x) : ∃ μ, RM μ t c x := by
  obtain ⟨a, b, d, e, f⟩ := h
  refine ⟨fun k j => if k = 2 then σ 50 j else if j = 3 then nI t else nI x, ?_, b, fun i hi => ?_, ?_, f⟩
  · rfl
  · exact d i hi
  · rfl
/-- a number, in a reader that has a fault -/
theorem q_numF {σ : gMem} {t : Nat} {c : Nat → Nat} {x : Nat} (h : RX σ t c x) {f : Nat} (hf : f < 2 ^ 31) (e : σ 49 3 = nI f) {lo hi : Nat} (hl : lo ≤ 99) (hh : hi ≤ 99) : ∃ v s' x', m_X3_readNumber (nI lo) (nI hi) σ = some (v, s') ∧ RX s' t c x' ∧ s' 49 3 = nI f ∧ xK σ s' := by
  obtain ⟨μ, hm⟩ := RM_of h
  have K : ∀ y, gst σ 49 2 (nI y) 49 3 = nI f := fun y => by rw [gst_eq, pk_un (by decide)]; exact e
  rcases q_num h hm with ⟨y, -, y2, A, -⟩ | ⟨y, z, v, -, -, z2, -, A, -⟩
  · refine ⟨nI lo, gst σ 49 2 (nI y), y, ?_, RX_go h y2, K y, xK_p σ _⟩
    rw [A, xF_old hf (K y)]
  · by_cases k : lo ≤ v ∧ v ≤ hi
    · refine ⟨nI v, gst σ 49 2 (nI z), z, ?_, RX_go h z2, K z, xK_p σ _⟩
      rw [A lo hi hl hh, if_pos k]
    · refine ⟨nI lo, gst σ 49 2 (nI z), z, ?_, RX_go h z2, K z, xK_p σ _⟩
      rw [A lo hi hl hh, if_neg k, xF_old hf (K z)]
/-- the posts of a place, as the class reads them -/
def xTail (s7 : gMem) : Option gMem :=
  gb2 (m_X3_peek s7) fun r10 s9 => if r10 = 112 then (if 3 ≤ (s9 49 4) then some s9 else (gnm (gst s9 49 2 ((s9 49 2) + 1)) fun s11 => gnm (gst s11 49 4 ((s11 49 4) + 1)) fun s12 => gb2 (m_X3_readNumber 1 20 s12) fun r15 s14 => gck (inb (s12 49 5) 8) (gnm (gst s14 53 (s12 49 5).toNatClampNeg r15) fun s17 => some s17))) else some s9
theorem q_tailF {σ : gMem} {t : Nat} {c : Nat → Nat} {x : Nat} (h : RX σ t c x) {f : Nat} (hf : f < 2 ^ 31) (e : σ 49 3 = nI f) {k : Nat} (hk : k < 8) (ek : σ 49 5 = nI k) : ∃ s' x', xTail σ = some s' ∧ RX s' t c x' ∧ s' 49 3 = nI f ∧ s' 49 5 = nI k ∧ ∀ j, j ≠ 49 → j ≠ 53 → s' j = σ j := by
  have hx := h.2.2.2.2
  obtain ⟨r1, r2⟩ := sSk_r c t (t - x) (by omega)
  have P := q_peek h
  have g1 := RX_go h r2
  generalize sSk c t (t - x) = y at *
  generalize eb : (if y < t then nI (c y) else -1) = b at *
  have yb : b = 112 → y < t := fun h2 => by
    by_cases k2 : y < t
    · exact k2
    · rw [if_neg k2] at eb; rw [← eb] at h2; exact absurd h2 (by decide)
  have f3 : gst σ 49 2 (nI y) 49 3 = nI f := by rw [gst_eq, pk_un (by decide)]; exact e
  have f5 : gst σ 49 2 (nI y) 49 5 = nI k := by rw [gst_eq, pk_un (by decide)]; exact ek
  have fr : ∀ j, j ≠ 49 → gst σ 49 2 (nI y) j = σ j := fun j hj => gst_ne _ _ hj
  unfold xTail
  rw [P, gb2_s]
  generalize gst σ 49 2 (nI y) = s at *
  by_cases c1 : b = 112
  · rw [if_pos c1]
    by_cases c2 : 3 ≤ s 49 4
    · rw [if_pos c2]
      exact ⟨s, y, rfl, g1, f3, f5, fun j hj _ => fr j hj⟩
    · rw [if_neg c2, gnm_s, gnm_s, g1.2.2.2.1, nI_1]
      have g2 := RX_go g1 (show y + 1 ≤ t from yb c1)
      generalize e2 : gst s 49 2 (nI (y + 1)) = s2 at *
      have k3 : s2 49 3 = nI f := by rw [← e2, gst_eq, pk_un (by decide)]; exact f3
      have k5 : s2 49 5 = nI k := by rw [← e2, gst_eq, pk_un (by decide)]; exact f5
      have kr : ∀ j, j ≠ 49 → s2 j = σ j := fun j hj => by rw [← e2, gst_ne _ _ hj]; exact fr j hj
      have g3 : RX (gst s2 49 4 (s2 49 4 + 1)) t c (y + 1) := by
        obtain ⟨a1, a2, a3, a4, a5⟩ := g2
        exact ⟨by rw [gst_eq, pk_un (by decide)]; exact a1, a2, fun i hi => by rw [gst_ne _ _ (by decide)]; exact a3 i hi, by rw [gst_eq, pk_un (by decide)]; exact a4, a5⟩
      have m3 : gst s2 49 4 (s2 49 4 + 1) 49 3 = nI f := by rw [gst_eq, pk_un (by decide)]; exact k3
      have m5 : gst s2 49 4 (s2 49 4 + 1) 49 5 = nI k := by rw [gst_eq, pk_un (by decide)]; exact k5
      have mr : ∀ j, j ≠ 49 → gst s2 49 4 (s2 49 4 + 1) j = σ j := fun j hj => by rw [gst_ne _ _ hj]; exact kr j hj
      generalize gst s2 49 4 (s2 49 4 + 1) = s4 at *
      obtain ⟨v, s5, x5, n1, n2, n3, n4⟩ := q_numF g3 hf m3 (lo := 1) (hi := 20) (by decide) (by decide)
      replace n1 : m_X3_readNumber 1 20 s4 = some (v, s5) := n1
      rw [n1, gb2_s, m5, inb_t hk (by decide), gck_s, nI_clamp (by omega), gnm_s]
      refine ⟨gst s5 53 k v, x5, rfl, ?_, ?_, ?_, fun j hj hd => ?_⟩
      · obtain ⟨a1, a2, a3, a4, a5⟩ := n2
        exact ⟨by rw [gst_ne _ _ (by decide)]; exact a1, a2, fun i hi => by rw [gst_ne _ _ (by decide)]; exact a3 i hi, by rw [gst_ne _ _ (by decide)]; exact a4, a5⟩
      · rw [gst_ne _ _ (by decide)]; exact n3
      · rw [gst_ne _ _ (by decide), n4.2.2]; exact m5
      · rw [gst_ne _ _ hd, n4.1 j hj]; exact mr j hj
  · rw [if_neg c1]
    exact ⟨s, y, rfl, g1, f3, f5, fun j hj _ => fr j hj⟩
