/-! ===== walks: the reference's small methods ===== -/
theorem q_postOf {μ : gMem} {z : Nat → Int32} {p q n y : Nat} (w : WF p q n y z) (e1 : μ 1 = z) {a : Nat} (ha : a < p) : m_X7_postOf (nI a) μ = some (wpv z a) := by
  have p12 := w.1.2.2.2.2.1
  have f12 : ∀ j : Nat, (12 : Int32) + nI j = nI (12 + j) := fun j => nI_add 12 j
  have L : m_X7_postOf_18 (nI a) μ gFU (nI (wP z 0)) (nI 0) = some (nI (wP z a)) := by
    refine for_to (fun m j => m_X7_postOf_18 (nI a) μ m (nI (wP z j)) (nI j)) a _ (fun m j hj => ?_) (fun m => ?_) (by omega)
    · show b_X7_postOf_18 (nI a) μ (m_X7_postOf_18 (nI a) μ m) (nI (wP z j)) (nI j) = m_X7_postOf_18 (nI a) μ m (nI (wP z (j + 1))) (nI (j + 1))
      have c1 : ¬ nI a ≤ nI j := nI_ge hj (by omega)
      unfold b_X7_postOf_18
      rw [if_neg c1, f12, inb_t (show 12 + j < 528 by omega) (by decide), gck_s, nI_clamp (show 12 + j < 2 ^ 31 by omega), e1, wP_s]
      by_cases c : 0 < (z (12 + j)).toInt
      · rw [if_neg (fun h => i32_le0.mp h c), if_pos c, gnm_s, gnm_s, nI_1, nI_1]
      · rw [if_pos (i32_le0.mpr c), if_neg c, gnm_s, gnm_s, nI_1, show nI (wP z j) + 0 = nI (wP z j) from Int32.add_zero _, Nat.add_zero (wP z j)]
    · show b_X7_postOf_18 (nI a) μ (m_X7_postOf_18 (nI a) μ m) (nI (wP z a)) (nI a) = _
      unfold b_X7_postOf_18
      rw [if_pos (nI_le (Nat.le_refl a) (by omega))]
  have L' : m_X7_postOf_18 (nI a) μ gFU 0 0 = some (nI (wP z a)) := L
  obtain ⟨-, -, b0, -, -⟩ := w.2.1 a ha
  unfold m_X7_postOf wpv
  rw [f12, inb_t (show 12 + a < 528 by omega) (by decide), gck_s, nI_clamp (show 12 + a < 2 ^ 31 by omega), e1, L', gb1_s]
  by_cases c : 0 < (z (12 + a)).toInt
  · have n0 : ¬ z (12 + a) = 0 := fun h => by rw [h] at c; exact absurd c (by decide)
    rw [if_neg n0, if_pos c]
  · have y0 : z (12 + a) = 0 := i32_eq.mpr (by show (z (12 + a)).toInt = 0; omega)
    rw [if_pos y0, if_neg c]
theorem bt_test {τ j : Nat} (hτ : τ < 256) (hj : j < 8) : (((nI τ) >>> (nI j &&& 31)) &&& 1) = if τ.testBit j = true then 1 else 0 := by
  have e : ((nI τ) >>> (nI j &&& 31)) &&& 1 = nI (tb τ j) := fb1 τ hτ j hj
  rw [e, tb_testBit]
  split <;> rfl
theorem q_lengthWith {μ : gMem} {z : Nat → Int32} {p q n y : Nat} (w : WF p q n y z) (e1 : μ 1 = z) {i τ : Nat} (hi : i < q) (hτ : τ < 8) : m_X7_lengthWith (nI i) (nI τ) μ = some (z (74 + i) + nI (wl z τ p)) := by
  have p12 := w.1.2.2.2.2.1
  have q8 := w.1.2.2.2.2.2.1
  have f12 : ∀ j : Nat, (12 : Int32) + nI j = nI (12 + j) := fun j => nI_add 12 j
  have f74 : (74 : Int32) + nI i = nI (74 + i) := nI_add 74 i
  have L : m_X7_lengthWith_13 (nI τ) μ gFU (z (74 + i) + nI (wl z τ 0)) (nI 0) = some (z (74 + i) + nI (wl z τ p)) := by
    refine for_to (fun m j => m_X7_lengthWith_13 (nI τ) μ m (z (74 + i) + nI (wl z τ j)) (nI j)) p _ (fun m j hj => ?_) (fun m => ?_) (by omega)
    · show b_X7_lengthWith_13 (nI τ) μ (m_X7_lengthWith_13 (nI τ) μ m) (z (74 + i) + nI (wl z τ j)) (nI j) = m_X7_lengthWith_13 (nI τ) μ m (z (74 + i) + nI (wl z τ (j + 1))) (nI (j + 1))
      have c1 : ¬ nI p ≤ nI j := nI_ge hj (by omega)
      have z0 : ∀ x : Int32, x + 0 = x := fun x => Int32.add_zero x
      unfold b_X7_lengthWith_13
      rw [in62, gck_s, l62, e1, w.1.1, if_neg c1, q_postOf w e1 hj, gb1_s]
      simp only [wl]
      unfold wpv
      by_cases c : 0 < (z (12 + j)).toInt
      · have P2 := wP_post w hj c
        rw [if_pos c, if_neg (nI_pos (by omega)), bt_test (by omega) (by omega)]
        by_cases c2 : τ.testBit (wP z j) = true
        · obtain ⟨-, -, b0, b1, -⟩ := w.2.1 j hj
          obtain ⟨v, hv, ev⟩ := nat_of (n := 20) b0 b1 (by decide)
          rw [if_pos c2, if_pos rfl, f12, inb_t (show 12 + j < 528 by omega) (by decide), gck_s, nI_clamp (show 12 + j < 2 ^ 31 by omega), gnm_s, gnm_s, nI_1, if_pos ⟨c, c2⟩, ev, nI_clamp (show v < 2 ^ 31 by omega), Int32.add_assoc, nI_add]
        · rw [if_neg c2, if_neg (show ¬ (0 : Int32) = 1 by decide), gnm_s, gnm_s, nI_1, z0, if_neg (fun h => c2 h.2), Nat.add_zero (wl z τ j)]
      · rw [if_neg c, if_pos (show (-1 : Int32) < 0 by decide), gnm_s, gnm_s, nI_1, z0, if_neg (fun h => c h.1), Nat.add_zero (wl z τ j)]
    · show b_X7_lengthWith_13 (nI τ) μ (m_X7_lengthWith_13 (nI τ) μ m) (z (74 + i) + nI (wl z τ p)) (nI p) = _
      unfold b_X7_lengthWith_13
      rw [in62, gck_s, l62, e1, w.1.1, if_pos (nI_le (Nat.le_refl p) (by omega))]
  have s0 : z (74 + i) + nI (wl z τ 0) = z (74 + i) := Int32.add_zero _
  rw [s0] at L
  have L' : m_X7_lengthWith_13 (nI τ) μ gFU (z (74 + i)) 0 = some (z (74 + i) + nI (wl z τ p)) := L
  unfold m_X7_lengthWith
  rw [f74, inb_t (show 74 + i < 528 by omega) (by decide), gck_s, nI_clamp (show 74 + i < 2 ^ 31 by omega), e1, gnm_s, L', gb1_s]
theorem q_hourM {m : Nat} (hm : m < 2 ^ 31) (μ : gMem) : m_X7_hourOf (nI m) μ = some (nI (m / 60 % 24)) := by
  unfold m_X7_hourOf
  have e : nI m / 60 = nI (m / 60) := nI_div hm (by decide)
  rw [e, show (24 : Int32) = nI 24 from rfl, nI_rem (by have := Nat.div_le_self m 60; omega) (by decide)]
theorem q_wouldZ {μ : gMem} {z : Nat → Int32} (e1 : μ 1 = z) {i a t : Nat} (hi : i < 8) (ha : a < 12) (ht : t < 24) (l : Int32) : m_X7_would (nI i) l (nI a) (nI t) μ = some (sD z i l a t) := by
  rw [← e1]; exact q_would hi ha ht l
theorem q_lasts {μ : gMem} {z : Nat → Int32} (e1 : μ 1 = z) {i a m d : Nat} (hi : i < 8) (ha : a < 12) (hm : m < 10000) (hd : d ≤ 60) (l : Int32) : m_X7_lasts (nI i) l (nI a) (nI m) (nI (m + d)) μ = some (if sD z i l a (m / 60 % 24) = 0 then 0 else sD z i l a ((m + d) / 60 % 24)) := by
  have S : ∀ n x, x < 20000 → m_X7_lasts_4 (nI i) l (nI a) (nI (m + d)) μ (n + 1) (nI x) = if x ≤ m + d then (if sD z i l a (x / 60 % 24) = 0 then some 0 else m_X7_lasts_4 (nI i) l (nI a) (nI (m + d)) μ n (nI (x + (60 - x % 60)))) else some 1 := fun n x hx => by
    show b_X7_lasts_4 (nI i) l (nI a) (nI (m + d)) μ (m_X7_lasts_4 (nI i) l (nI a) (nI (m + d)) μ n) (nI x) = _
    unfold b_X7_lasts_4
    by_cases c : x ≤ m + d
    · have c1 : ¬ nI (m + d) < nI x := nI_nlt c (by omega)
      have r60 : grem (nI x) 60 = nI (x % 60) := nI_rem (b := 60) (by omega) (by decide)
      have s60 : (60 : Int32) - nI (x % 60) = nI (60 - x % 60) := nI_sub (a := 60) (by have := Nat.mod_lt x (show 0 < 60 by decide); omega)
      rw [if_neg c1, if_pos c, q_hourM (by omega), gb1_s, q_wouldZ e1 hi ha (Nat.mod_lt _ (by decide)), gb1_s, r60, s60, nI_add, gnm_s]
    · rw [if_pos (nI_lt (by omega) (by omega)), if_neg c]
  obtain ⟨n, hn⟩ := fu_split (k := 2) (by decide)
  have h60 := Nat.mod_lt m (show 0 < 60 by decide)
  have L : m_X7_lasts_4 (nI i) l (nI a) (nI (m + d)) μ (n + 1 + 2) (nI m) = some (if sD z i l a (m / 60 % 24) = 0 then 0 else if sD z i l a ((m + d) / 60 % 24) = 0 then 0 else 1) := by
    rw [show n + 1 + 2 = (n + 1 + 1) + 1 from rfl, S _ m (by omega), if_pos (by omega)]
    by_cases c : sD z i l a (m / 60 % 24) = 0
    · rw [if_pos c, if_pos c]
    · rw [if_neg c, if_neg c, show n + 1 + 1 = (n + 1) + 1 from rfl, S _ _ (by omega)]
      by_cases c2 : m + (60 - m % 60) ≤ m + d
      · have e : (m + (60 - m % 60)) / 60 = (m + d) / 60 := by omega
        rw [if_pos c2, e]
        by_cases c3 : sD z i l a ((m + d) / 60 % 24) = 0
        · rw [if_pos c3, if_pos c3]
        · rw [if_neg c3, if_neg c3, S _ _ (by omega), if_neg (by omega)]
      · have e : (m + d) / 60 = m / 60 := by omega
        rw [if_neg c2, e, if_neg c]
  unfold m_X7_lasts
  rw [hn, L, gb1_s]
  by_cases c : sD z i l a (m / 60 % 24) = 0
  · rw [if_pos c, if_pos c, if_pos rfl]
  · rw [if_neg c, if_neg c]
    rcases sD_01 z i l a ((m + d) / 60 % 24) with e | e
    · rw [e, if_pos rfl, if_pos rfl]
    · rw [e, if_neg ne10, if_neg (by decide)]
theorem pw_bit : ∀ τ, τ < 8 → ∀ P, P < 3 → (τ.testBit P = false → τ + 2 ^ P < 8 ∧ (τ + 2 ^ P).testBit P = true) ∧ (τ.testBit P = true → 2 ^ P ≤ τ ∧ (τ - 2 ^ P).testBit P = false ∧ τ - 2 ^ P + 2 ^ P = τ) := by decide +kernel
/-- who comes to a with a set, and with one splice more -/
theorem q_arrives {μ : gMem} {z : Nat → Int32} {p q n y : Nat} (w : WF p q n y z) (e1 : μ 1 = z) {i a τ m : Nat} (hi : i < q) (ha : a < p) (hτ : τ < 8) (hm : m < 10000) : ∃ μ', m_X7_arrives (nI i) (nI a) (nI τ) (nI m) μ = some μ' ∧ (∀ c, c ≠ 8 → μ' c = μ c) ∧ ∀ x, μ' 8 x = if x = 8 * a + τ ∨ (wpn z a < 3 ∧ τ.testBit (wpn z a) = false ∧ x = 8 * a + (τ + 2 ^ wpn z a) ∧ ¬ wD z i p (τ + 2 ^ wpn z a) a (m / 60 % 24) = 0) then 1 else μ 8 x := by
  have p12 := w.1.2.2.2.2.1
  have q8 := w.1.2.2.2.2.2.1
  have x8 : ∀ t : Nat, (8 : Int32) * nI a + nI t = nI (8 * a + t) := fun t => by rw [show (8 : Int32) = nI 8 from rfl, nI_mul, nI_add]
  have f1 : gst μ 8 (8 * a + τ) 1 1 = z := by rw [gst_ne _ _ (by decide)]; exact e1
  have E : m_X7_arrives (nI i) (nI a) (nI τ) (nI m) μ = gb1 (some (wpv z a)) fun r4 => if r4 < 0 then some (gst μ 8 (8 * a + τ) 1) else (if ((nI τ >>> (r4 &&& 31)) &&& 1) = 1 then some (gst μ 8 (8 * a + τ) 1) else (gnm (nI τ ||| ((1 : Int32) <<< (r4 &&& 31))) fun x6_5 => gb1 (m_X7_lengthWith (nI i) x6_5 (gst μ 8 (8 * a + τ) 1)) fun r7 => gb1 (m_X7_hourOf (nI m) (gst μ 8 (8 * a + τ) 1)) fun r9 => gb1 (m_X7_would (nI i) r7 (nI a) r9 (gst μ 8 (8 * a + τ) 1)) fun r11 => if r11 = 0 then some (gst μ 8 (8 * a + τ) 1) else (gck (inb ((8 * nI a) + x6_5) 96) (gnm (gst (gst μ 8 (8 * a + τ) 1) 8 ((8 * nI a) + x6_5).toNatClampNeg 1) fun s13 => some s13)))) := by
    unfold m_X7_arrives
    rw [x8, inb_t (show 8 * a + τ < 96 by omega) (by decide), gck_s, gnm_s, nI_clamp (show 8 * a + τ < 2 ^ 31 by omega), q_postOf w f1 ha]
  rw [E, gb1_s]
  unfold wpv wpn
  by_cases c : 0 < (z (12 + a)).toInt
  · have P2 := wP_post w ha c
    rw [if_pos c, if_pos c, if_neg (nI_pos (by omega)), bt_test (by omega) (by omega)]
    by_cases c2 : τ.testBit (wP z a) = true
    · rw [if_pos c2, if_pos rfl]
      refine ⟨_, rfl, fun c hc => gst_ne _ _ hc, fun x => ?_⟩
      rw [gst_eq, upd_a]
      by_cases h : x = 8 * a + τ
      · rw [if_pos h, if_pos (Or.inl h)]
      · rw [if_neg h, if_neg (fun h' => by
          rcases h' with h' | h'
          · exact h h'
          · rw [c2] at h'; exact absurd h'.2.1 (by decide))]
    · have c2' : τ.testBit (wP z a) = false := by cases hh : τ.testBit (wP z a) <;> first | rfl | exact absurd hh c2
      obtain ⟨t8, -⟩ := (pw_bit τ hτ _ P2).1 c2'
      have so1 : so τ (wP z a) = τ + 2 ^ wP z a := by
        unfold so
        rw [if_neg]
        rw [tb_testBit, if_neg c2]; decide
      rw [if_neg c2, if_neg (show ¬ (0 : Int32) = 1 by decide), gnm_s, fb2 τ (by omega) _ (by omega), so1, q_lengthWith w f1 hi t8, gb1_s, q_hourM (by omega), gb1_s, q_wouldZ f1 (by omega) (by omega) (Nat.mod_lt _ (by decide)), gb1_s, x8]
      show ∃ μ', (if wD z i p (τ + 2 ^ wP z a) a (m / 60 % 24) = 0 then _ else _) = some μ' ∧ _
      by_cases c3 : wD z i p (τ + 2 ^ wP z a) a (m / 60 % 24) = 0
      · rw [if_pos c3]
        refine ⟨_, rfl, fun c hc => gst_ne _ _ hc, fun x => ?_⟩
        rw [gst_eq, upd_a]
        by_cases h : x = 8 * a + τ
        · rw [if_pos h, if_pos (Or.inl h)]
        · rw [if_neg h, if_neg (fun h' => by
            rcases h' with h' | h'
            · exact h h'
            · exact h'.2.2.2 c3)]
      · rw [if_neg c3, inb_t (show 8 * a + (τ + 2 ^ wP z a) < 96 by omega) (by decide), gck_s, gnm_s, nI_clamp (show 8 * a + (τ + 2 ^ wP z a) < 2 ^ 31 by omega)]
        refine ⟨_, rfl, fun c hc => by rw [gst_ne _ _ hc, gst_ne _ _ hc], fun x => ?_⟩
        rw [gst_eq, gst_eq, upd_a, upd_a]
        by_cases h : x = 8 * a + τ
        · rw [if_pos h, if_pos (Or.inl h)]
          split <;> rfl
        · by_cases h2 : x = 8 * a + (τ + 2 ^ wP z a)
          · rw [if_pos h2, if_pos (Or.inr ⟨P2, c2', h2, c3⟩)]
          · rw [if_neg h2, if_neg h, if_neg (fun h' => by
              rcases h' with h' | h'
              · exact h h'
              · exact h2 h'.2.2.1)]
  · rw [if_neg c, if_neg c, if_pos (show (-1 : Int32) < 0 by decide)]
    refine ⟨_, rfl, fun c hc => gst_ne _ _ hc, fun x => ?_⟩
    rw [gst_eq, upd_a]
    by_cases h : x = 8 * a + τ
    · rw [if_pos h, if_pos (Or.inl h)]
    · rw [if_neg h, if_neg (fun h' => by
        rcases h' with h' | h'
        · exact h h'
        · exact absurd h'.1 (by decide))]
