/-! ===== texts: lagoon ===== -/
/-- two loops over memories, side by side -/
theorem run2_up (G H : Nat → Nat → gMem → Option gMem) (Q : Nat → gMem → gMem → Prop) (N : Nat) (hs : ∀ n m i s u, i < N → Q i s u → ∃ s' u', G (n + 1) i s = G n (i + 1) s' ∧ H (m + 1) i u = H m (i + 1) u' ∧ Q (i + 1) s' u') (hf : ∀ n m s u, Q N s u → G (n + 1) N s = some s ∧ H (m + 1) N u = some u) : ∀ d i n m s u, i + d = N → d < n → d < m → Q i s u → ∃ s' u', G n i s = some s' ∧ H m i u = some u' ∧ Q N s' u' := by
  intro d
  induction d with
  | zero =>
    intro i n m s u hi hn hm hq
    obtain ⟨n', rfl⟩ : ∃ n', n = n' + 1 := ⟨n - 1, by omega⟩
    obtain ⟨m', rfl⟩ : ∃ m', m = m' + 1 := ⟨m - 1, by omega⟩
    rw [show i = N by omega] at hq ⊢
    exact ⟨s, u, (hf n' m' s u hq).1, (hf n' m' s u hq).2, hq⟩
  | succ d ih =>
    intro i n m s u hi hn hm hq
    obtain ⟨n', rfl⟩ : ∃ n', n = n' + 1 := ⟨n - 1, by omega⟩
    obtain ⟨m', rfl⟩ : ∃ m', m = m' + 1 := ⟨m - 1, by omega⟩
    obtain ⟨s', u', e1, e2, hq'⟩ := hs n' m' i s u (by omega) hq
    obtain ⟨s2, u2, f1, f2, hq2⟩ := ih (i + 1) n' m' s' u' (by omega) (by omega) (by omega) hq'
    exact ⟨s2, u2, e1.trans f1, e2.trans f2, hq2⟩
theorem run2_to {G H : Nat → Nat → gMem → Option gMem} {Q : Nat → gMem → gMem → Prop} {N : Nat} (hN : N < 100000) (hs : ∀ n m i s u, i < N → Q i s u → ∃ s' u', G (n + 1) i s = G n (i + 1) s' ∧ H (m + 1) i u = H m (i + 1) u' ∧ Q (i + 1) s' u') (hf : ∀ n m s u, Q N s u → G (n + 1) N s = some s ∧ H (m + 1) N u = some u) {s u : gMem} (h : Q 0 s u) : ∃ s' u', G gFU 0 s = some s' ∧ H gFU 0 u = some u' ∧ Q N s' u' :=
  run2_up G H Q N hs hf N 0 gFU gFU s u (by omega) hN hN h
/-- a new place, of the lagoons alone -/
theorem q_addPlaceR {σ μ : gMem} (h : Rg 1 13 σ (μ 1)) {p : Nat} (hp : μ 1 62 = nI p) (hl : p < 12) (d s : Int32) : ∃ σ' μ', m_X1_addPlace d s σ = some (nI p, σ') ∧ m_X7_put d s μ = some μ' ∧ Rg 1 13 σ' (μ' 1) ∧ μ' 1 = upd (upd (upd (upd (μ 1) p d) (12 + p) s) (24 + p) 0) 62 (nI (p + 1)) ∧ (∀ c, c ≠ 1 → μ' c = μ c) ∧ ∀ c, c < 1 ∨ 25 ≤ c → σ' c = σ c := by
  have hσ : σ 1 0 = nI p := (Rg_pla h).trans hp
  have i12 : inb (nI p) 12 = true := inb_t hl (by decide)
  have e0 : (0 : Int32) + nI p = nI p := by rw [show (0 : Int32) = nI 0 from rfl, nI_add, Nat.zero_add]
  have e1 : (12 : Int32) + nI p = nI (12 + p) := by rw [show (12 : Int32) = nI 12 from rfl, nI_add]
  have e2 : (24 : Int32) + nI p = nI (24 + p) := by rw [show (24 : Int32) = nI 24 from rfl, nI_add]
  have c0 : (nI p).toNatClampNeg = p := nI_clamp (by omega)
  have c1 : (nI (12 + p)).toNatClampNeg = 12 + p := nI_clamp (by omega)
  have c2 : (nI (24 + p)).toNatClampNeg = 24 + p := nI_clamp (by omega)
  have s1 := Rg_set h (k := p) (by omega) (ca_dep hl) d
  have s2 := Rg_set s1 (k := 12 + p) (by omega) (ca_spl hl) s
  have s3 := Rg_set s2 (k := 24 + p) (by omega) (ca_sil hl) 0
  have s4 := Rg_set s3 (k := 62) (by omega) (c := 1) (s := 0) rfl (nI (p + 1))
  refine ⟨gst (gst (gst (gst σ 2 p d) 3 p s) 4 p 0) 1 0 (nI (p + 1)), gst (gst (gst (gst μ 1 p d) 1 (12 + p) s) 1 (24 + p) 0) 1 62 (nI (p + 1)), ?_, ?_, ?_, ?_, ?_, ?_⟩
  · simp only [m_X1_addPlace, gst_a, hσ, i12, gck_s, gnm_s, c0, nI_1, show ((1 : Nat) = 2) = False from by decide, show ((1 : Nat) = 3) = False from by decide, show ((1 : Nat) = 4) = False from by decide, if_false]
  · simp only [m_X7_put, in62, gck_s, l62, gnm_s, hp, e0, e1, e2, c0, c1, c2, inb_t (show p < 528 by omega) (by decide), inb_t (show 12 + p < 528 by omega) (by decide), inb_t (show 24 + p < 528 by omega) (by decide), gst_eq, pk_un (show 62 ≠ 24 + p by omega), pk_un (show 62 ≠ 12 + p by omega), pk_un (show 62 ≠ p by omega), nI_1]
  · simp only [gst_eq]; exact s4
  · simp only [gst_eq]
  · intro c hc; simp only [gst_ne _ _ hc]
  · intro c hc
    rw [gst_ne _ _ (by omega), gst_ne _ _ (by omega), gst_ne _ _ (by omega), gst_ne _ _ (by omega)]
theorem cP_mono (f : Nat → Int32) : ∀ d k, cP f k ≤ cP f (k + d) := by
  intro d
  induction d with
  | zero => intro k; exact Nat.le_refl _
  | succ d ih =>
    intro k
    have := ih k
    show cP f k ≤ cP f (k + d) + _
    omega
theorem npo_cP {z : Nat → Int32} {f : Nat → Int32} : ∀ k, k ≤ 12 → (∀ i, i < k → z (12 + i) = f i) → npo z 99 k = cP f k := by
  intro k
  induction k with
  | zero => intro _ _; rfl
  | succ k ih =>
    intro hk h
    simp only [npo, cP, ih (by omega) (fun i hi => h i (by omega)), h k (by omega)]
    congr 1
    by_cases e : 0 < (f k).toInt
    · rw [if_pos e, if_pos ⟨by omega, e⟩]
    · rw [if_neg e, if_neg (fun h => e h.2)]
/-- what a told lagoon leaves of the one before -/
theorem WF_none {p q n y : Nat} {z z' : Nat → Int32} (w : WF p q n y z) (h1 : z' 62 = 0) (h2 : z' 63 = 0) (h3 : z' 64 = 0) (h4 : z' 65 = 0) (h5 : ∀ k, k < 62 → z' k = z k) (h6 : ∀ k, k < 144 → z' (120 + k) = 0) : WF 0 0 0 0 z' := by
  obtain ⟨-, -, -, d, e, -⟩ := w
  refine ⟨⟨h1, h2, h3, h4, by omega, by omega, by omega, by omega⟩, fun i hi => absurd hi (by omega), Nat.zero_le _, fun h hh => ?_, ?_, fun i hi => absurd hi (by omega), fun i hi => absurd hi (by omega), fun i j hi hj => ?_⟩
  · rw [h5 _ (by omega)]; exact d h hh
  · rw [h5 _ (by omega), h5 _ (by omega)]; exact e
  · have a := h6 (12 * i + j) (by omega)
    have b := h6 (12 * j + i) (by omega)
    rw [show 120 + (12 * i + j) = 120 + 12 * i + j by omega] at a
    rw [show 120 + (12 * j + i) = 120 + 12 * j + i by omega] at b
    rw [a, b]
    exact ⟨by decide, by decide, rfl, fun _ => rfl, fun _ => rfl⟩
/-- all places of a told lagoon come, in both -/
theorem q_settle59 {K u : Nat} {s0 m0 : gMem} (hK : K ≤ 8) (hD : pD K u s0 m0) {A B : gMem} (e5 : A 49 5 = nI K) (hA : ∀ c, 25 ≤ c → A c = s0 c) (hB : B 3 = m0 3) (hR : Rg 1 13 A (B 1)) (w : WF 0 0 0 0 (B 1)) : ∃ A' B', m_X1_settle_59 gFU 0 A = some A' ∧ m_X7_lagoon_272 (nI K) gFU 0 B = some B' ∧ Rg 1 13 A' (B' 1) ∧ WF K 0 0 0 (B' 1) ∧ (∀ c, c < 1 ∨ 25 ≤ c → A' c = A c) ∧ (∀ c, c ≠ 1 → B' c = B c) ∧ ∀ k, 264 ≤ k → B' 1 k = B 1 k := by
  obtain ⟨d1, d2, d3⟩ := hD
  obtain ⟨A', B', L1, L2, q1, q2, -, q3, q4, q5⟩ := run2_to (G := fun m i s => m_X1_settle_59 m (nI i) s) (H := fun m i s => m_X7_lagoon_272 (nI K) m (nI i) s) (Q := fun i a b => Rg 1 13 a (b 1) ∧ WF i 0 0 0 (b 1) ∧ (∀ j, j < i → b 1 (12 + j) = s0 53 j) ∧ (∀ c, c < 1 ∨ 25 ≤ c → a c = A c) ∧ (∀ c, c ≠ 1 → b c = B c) ∧ ∀ k, 264 ≤ k → b 1 k = B 1 k) (N := K) (by omega) (fun n m i a b hi hq => by
    obtain ⟨q1, q2, q6, q3, q4, q5⟩ := hq
    obtain ⟨f1, f2, f3, f4, f5, f6⟩ := d3 i hi
    obtain ⟨a', b', g1, g2, g3, g4, g5, g6⟩ := q_addPlaceR q1 q2.1.1 (show i < 12 by omega) (s0 51 i) (s0 53 i)
    have a5 : a 49 5 = nI K := by rw [q3 49 (by omega)]; exact e5
    have a51 : a 51 = s0 51 := by rw [q3 51 (by omega), hA 51 (by decide)]
    have a53 : a 53 = s0 53 := by rw [q3 53 (by omega), hA 53 (by decide)]
    have b3 : b 3 = m0 3 := by rw [q4 3 (by decide)]; exact hB
    refine ⟨a', b', ?_, ?_, g3, ?_, fun j hj => ?_, fun c hc => by rw [g6 c hc]; exact q3 c hc, fun c hc => by rw [g5 c hc]; exact q4 c hc, fun k hk => ?_⟩
    · show b_X1_settle_59 (m_X1_settle_59 n) (nI i) a = _
      have c1 : ¬ nI K ≤ nI i := nI_ge hi (by omega)
      unfold b_X1_settle_59
      rw [a5, if_neg c1, inb_t (show i < 8 by omega) (by decide), gck_s, gck_s, nI_clamp (show i < 2 ^ 31 by omega), a51, a53, g1, gb2_s, gnm_s, nI_1]
    · show b_X7_lagoon_272 (nI K) (m_X7_lagoon_272 (nI K) m) (nI i) b = _
      have c1 : ¬ nI K ≤ nI i := nI_ge hi (by omega)
      have k2 : (2 : Int32) * nI i = nI (2 * i) := nI_mul 2 i
      unfold b_X7_lagoon_272
      rw [if_neg c1, k2, nI_1, inb_t (show 2 * i < 24 by omega) (by decide), inb_t (show 2 * i + 1 < 24 by omega) (by decide), gck_s, gck_s, nI_clamp (show 2 * i < 2 ^ 31 by omega), nI_clamp (show 2 * i + 1 < 2 ^ 31 by omega), b3, ← f1, ← f2, g2, gb1_s, gnm_s, nI_1]
    · rw [g4]
      refine WF_place q2 (by omega) ⟨f3, f4⟩ ⟨f5, f6⟩ ?_
      rw [npo_cP i (by omega) q6]
      have := cP_mono (s0 53) (K - (i + 1)) (i + 1)
      rw [show i + 1 + (K - (i + 1)) = K by omega, d2] at this
      have e : cP (s0 53) (i + 1) = cP (s0 53) i + if 0 < (s0 53 i).toInt then 1 else 0 := rfl
      omega
    · rw [g4, pk_un (by omega), pk_un (by omega)]
      by_cases e : j = i
      · subst e; exact pk_us
      · rw [pk_un (by omega), pk_un (by omega)]; exact q6 j (by omega)
    · rw [g4, pk_un (by omega), pk_un (by omega), pk_un (by omega), pk_un (by omega)]; exact q5 k hk) (fun n m a b hq => by
    obtain ⟨-, -, -, q3, -, -⟩ := hq
    have a5 : a 49 5 = nI K := by rw [q3 49 (by omega)]; exact e5
    have c1 : nI K ≤ nI K := nI_le (Nat.le_refl K) (by omega)
    refine ⟨?_, ?_⟩
    · show b_X1_settle_59 (m_X1_settle_59 n) (nI K) a = _
      unfold b_X1_settle_59
      rw [a5, if_pos c1]
    · show b_X7_lagoon_272 (nI K) (m_X7_lagoon_272 (nI K) m) (nI K) b = _
      unfold b_X7_lagoon_272
      rw [if_pos c1]) (s := A) (u := B) ⟨hR, w, fun j hj => absurd hj (by omega), fun c _ => rfl, fun c _ => rfl, fun k _ => rfl⟩
  have L1' : m_X1_settle_59 gFU (nI 0) A = some A' := L1
  have L2' : m_X7_lagoon_272 (nI K) gFU (nI 0) B = some B' := L2
  rw [show nI 0 = 0 from rfl] at L1' L2'
  exact ⟨A', B', L1', L2', q1, q2, q3, q4, q5⟩
