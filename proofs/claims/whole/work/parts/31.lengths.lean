/-! ===== lengths, the class's side ===== -/
def dI (i : Nat) : Int32 := if i < 61 then nI (60 - i) else -1
theorem dI_s {i : Nat} (h : i < 61) : nI (60 - i) + (-1) = dI (i + 1) := by
  unfold dI
  by_cases c : i < 60
  · rw [if_pos (by omega), show (60 - i) = (60 - (i + 1)) + 1 by omega, ← nI_1]
    have := Int32.add_sub_cancel (nI (60 - (i + 1))) 1
    rw [Int32.sub_eq_add_neg] at this; exact this
  · rw [if_neg (by omega), show 60 - i = 0 by omega]; rfl
theorem gmin_nI {a b : Nat} (ha : a < 2 ^ 31) (hb : b < 2 ^ 31) : gmin (nI a) (nI b) = nI (min a b) := by
  unfold gmin
  by_cases c : b < a
  · rw [if_pos (nI_lt c ha)]; congr 1; omega
  · rw [if_neg (fun h => c ((nI_ltI hb ha).mp h))]; congr 1; omega
/-- the class's row by one more length -/
theorem q_weighWith {σ : gMem} {S : Nat → Nat} {N k : Nat} (hk : k < 61) (hN : N < 256) (hS : ∀ l, S l < 256) (e1 : σ 136 0 = nI N) (e2 : σ 137 (60 - k) = nI (S (60 - k))) (e3 : ∀ t, t ≤ N → σ (139 + (61 - k)) t = nI (sV 100 S k t)) : ∃ s', m_X4_weighWith (nI (60 - k)) σ = some s' ∧ (∀ c, c ≠ 139 + (60 - k) → s' c = σ c) ∧ ∀ t, t ≤ N → s' (139 + (60 - k)) t = nI (sV 100 S (k + 1) t) := by
  have c0 : nI (60 - k) + 1 = nI (61 - k) := by rw [nI_1, show 60 - k + 1 = 61 - k by omega]
  have b62 := inb_t (show 61 - k < 62 by omega) (show 62 < 2 ^ 31 by decide)
  have a62 := inb_t (show 60 - k < 62 by omega) (show 62 < 2 ^ 31 by decide)
  have a61 := inb_t (show 60 - k < 61 by omega) (show 61 < 2 ^ 31 by decide)
  have k1 := nI_clamp (show 60 - k < 2 ^ 31 by omega)
  have k2 := nI_clamp (show 61 - k < 2 ^ 31 by omega)
  obtain ⟨s', L, q1, q2⟩ := run_to (G := fun m t s => m_X4_weighWith_11 (nI (60 - k)) m (nI t) s) (Q := fun i s => (∀ c, c ≠ 139 + (60 - k) → s c = σ c) ∧ ∀ t, t < i → s (139 + (60 - k)) t = nI (sV 100 S (k + 1) t)) (N := N + 1) (by omega) (fun m i s hi hq => by
    obtain ⟨q1, q2⟩ := hq
    have f1 : s 136 0 = nI N := by rw [q1 136 (by omega)]; exact e1
    have f2 : s 137 (60 - k) = nI (S (60 - k)) := by rw [q1 137 (by omega)]; exact e2
    have f3 : ∀ t, t ≤ N → s (139 + (61 - k)) t = nI (sV 100 S k t) := fun t ht => by rw [q1 _ (by omega)]; exact e3 t ht
    have c1 : ¬ nI N < nI i := fun h => by have := (nI_ltI (show N < 2 ^ 31 by omega) (show i < 2 ^ 31 by omega)).mp h; omega
    have al := an_le i (S (60 - k))
    have b1 := (sV_b S (show k ≤ 61 by omega) i).2
    have b2 := (sV_b S (show k ≤ 61 by omega) (an i (S (60 - k)))).2
    refine ⟨gst s (139 + (60 - k)) i (nI (sV 100 S (k + 1) i)), ?_, fun c hc => by rw [gst_ne _ _ hc]; exact q1 c hc, fun t ht => ?_⟩
    · show b_X4_weighWith_11 (nI (60 - k)) (m_X4_weighWith_11 (nI (60 - k)) m) (nI i) s = _
      simp only [b_X4_weighWith_11, f1, c1, if_false, a62, a61, gck_s, gnm_s, inb_t (show i < 256 by omega) (show 256 < 2 ^ 31 by decide), k1, f2, an_I (show i < 256 by omega) (hS (60 - k)), inb_t (show an i (S (60 - k)) < 256 by omega) (show 256 < 2 ^ 31 by decide), c0, k2, nI_clamp (show i < 2 ^ 31 by omega), nI_clamp (show an i (S (60 - k)) < 2 ^ 31 by omega), f3 i (by omega), f3 _ (show an i (S (60 - k)) ≤ N by omega), nI_1]
      rw [show (1 : Int32) + nI (sV 100 S k (an i (S (60 - k)))) = nI (1 + sV 100 S k (an i (S (60 - k)))) from nI_add 1 _, gmin_nI (by omega) (by omega)]
      rfl
    · rw [gst_eq]
      by_cases e : t = i
      · rw [e]; exact pk_us
      · rw [pk_un e]; exact q2 t (by omega)) (fun m s hq => by
    obtain ⟨q1, q2⟩ := hq
    have f1 : s 136 0 = nI N := by rw [q1 136 (by omega)]; exact e1
    show b_X4_weighWith_11 (nI (60 - k)) (m_X4_weighWith_11 (nI (60 - k)) m) (nI (N + 1)) s = _
    simp only [b_X4_weighWith_11, f1, nI_lt (show N < N + 1 by omega) (show N + 1 < 2 ^ 31 by omega), if_true]) (s := σ) ⟨fun c _ => rfl, fun t ht => absurd ht (by omega)⟩
  refine ⟨s', ?_, q1, fun t ht => q2 t (by omega)⟩
  replace L : m_X4_weighWith_11 (nI (60 - k)) gFU 0 σ = some s' := L
  simp only [m_X4_weighWith, c0, b62, gck_s, L, gb1_s]
/-- the class's table -/
theorem q_weighX {σ : gMem} {z : Nat → Int32} (hR : Rg 1 13 σ z) {p q n y : Nat} (w : WF p q n y z) : ∃ s', m_X4_weigh σ = some s' ∧ (∀ c, c < 136 ∨ 201 ≤ c → s' c = σ c) ∧ s' 136 0 = nI (sN z n) ∧ (∀ l, l < 61 → s' 137 l = nI (sS z (sN z n) l n)) ∧ ∀ k, k ≤ 61 → ∀ t, t ≤ sN z n → s' (139 + (61 - k)) t = nI (sV 100 (fun l => sS z (sN z n) l n) k t) := by
  have hN : sN z n < 256 := sN_r w n (Nat.le_refl _)
  have hS : ∀ l, sS z (sN z n) l n < 256 := fun l => sS_r w hN l n (Nat.le_refl _)
  generalize eN : sN z n = N at *
  obtain ⟨s4, L4, p1, p2⟩ := run_to (G := fun m t s => m_X4_weigh_40 m (nI t) s) (Q := fun i s => (∀ c, c ≠ 200 → s c = gst σ 136 0 (nI N) c) ∧ ∀ t, t < i → s 200 t = nI (sV 100 (fun l => sS z N l n) 0 t)) (N := 256) (by decide) (fun m i s hi hq => by
    obtain ⟨q1, q2⟩ := hq
    refine ⟨gst s 200 i (nI (sV 100 (fun l => sS z N l n) 0 i)), ?_, fun c hc => by rw [gst_ne _ _ hc]; exact q1 c hc, fun t ht => ?_⟩
    · show b_X4_weigh_40 (m_X4_weigh_40 m) (nI i) s = _
      have c1 : ¬ 256 ≤ nI i := nI_ge (b := 256) hi (by decide)
      simp only [b_X4_weigh_40, c1, if_false, show inb 61 62 = true from rfl, gck_s, gnm_s, inb_t hi (show 256 < 2 ^ 31 by decide), nI_clamp (show i < 2 ^ 31 by omega), nI_1, sV]
      by_cases e : i = 0
      · subst e; rfl
      · rw [if_neg (nI_ne0 (by omega) (by omega)), if_neg e]; rfl
    · rw [gst_eq]
      by_cases e : t = i
      · rw [e]; exact pk_us
      · rw [pk_un e]; exact q2 t (by omega)) (fun m s hq => by
    show b_X4_weigh_40 (m_X4_weigh_40 m) (nI 256) s = _
    simp only [b_X4_weigh_40, show (256 : Int32) ≤ nI 256 from by decide, if_true]) (s := gst σ 136 0 (nI N)) ⟨fun c _ => rfl, fun t ht => absurd ht (by omega)⟩
  have L4' : m_X4_weigh_40 gFU (nI 0) (gst σ 136 0 (nI N)) = some s4 := L4
  rw [show nI 0 = 0 from rfl] at L4'
  obtain ⟨s7, L7, r1, r2, r3, r4⟩ := run_to (G := fun m i s => m_X4_weigh_75 m (dI i) s) (Q := fun i s => (∀ c, c < 136 ∨ 201 ≤ c → s c = σ c) ∧ s 136 0 = nI N ∧ (∀ l, l < 61 → 60 - l < i → s 137 l = nI (sS z N l n)) ∧ ∀ k, k ≤ i → ∀ t, t ≤ N → s (139 + (61 - k)) t = nI (sV 100 (fun l => sS z N l n) k t)) (N := 61) (by decide) (fun m i s hi hq => by
    obtain ⟨q1, q2, q3, q4⟩ := hq
    have ed : dI i = nI (60 - i) := if_pos hi
    have c1 : ¬ nI (60 - i) < 0 := nI_pos (by omega)
    have hR' : Rg 1 13 s z := Rg_fr hR (fun c _ h => q1 c (by omega))
    have A := q_suited hR' w hN q2 (show 60 - i ≤ 60 by omega)
    have n1 : ∀ c, c ≠ 137 → gst s 137 (60 - i) (nI (sS z N (60 - i) n)) c = s c := fun c hc => gst_ne _ _ hc
    obtain ⟨s', w1, w2, w3⟩ := q_weighWith (σ := gst s 137 (60 - i) (nI (sS z N (60 - i) n))) (S := fun l => sS z N l n) (N := N) (k := i) hi hN hS (by rw [n1 136 (by decide)]; exact q2) (by rw [gst_eq]; exact pk_us) (fun t ht => by rw [n1 _ (by omega)]; exact q4 i (Nat.le_refl _) t ht)
    refine ⟨s', ?_, fun c hc => by rw [w2 c (by omega), n1 c (by omega)]; exact q1 c hc, by rw [w2 136 (by omega), n1 136 (by decide)]; exact q2, fun l hl h => ?_, fun k hk t ht => ?_⟩
    · show b_X4_weigh_75 (m_X4_weigh_75 m) (dI i) s = m_X4_weigh_75 m (dI (i + 1)) s'
      rw [ed]
      simp only [b_X4_weigh_75, c1, if_false, A, gb1_s, inb_t (show 60 - i < 61 by omega) (show 61 < 2 ^ 31 by decide), gck_s, gnm_s, nI_clamp (show 60 - i < 2 ^ 31 by omega), w1, dI_s hi]
    · rw [w2 137 (by omega), gst_eq]
      by_cases e : l = 60 - i
      · rw [e]; exact pk_us
      · rw [pk_un e]; exact q3 l hl (by omega)
    · by_cases e : k = i + 1
      · subst e
        rw [show 61 - (i + 1) = 60 - i by omega]; exact w3 t ht
      · rw [w2 _ (by omega), n1 _ (by omega)]; exact q4 k (by omega) t ht) (fun m s hq => by
    show b_X4_weigh_75 (m_X4_weigh_75 m) (dI 61) s = _
    rw [show dI 61 = -1 from rfl]
    simp only [b_X4_weigh_75, show (-1 : Int32) < 0 from by decide, if_true]) (s := s4) ⟨fun c hc => by rw [p1 c (by omega)]; exact gst_ne _ _ (by omega), by rw [p1 136 (by decide), gst_eq]; exact pk_us, fun l _ h => absurd h (by omega), fun k hk t ht => by
        rw [show k = 0 by omega]; exact p2 t (by omega)⟩
  have L7' : m_X4_weigh_75 gFU (dI 0) s4 = some s7 := L7
  rw [show dI 0 = 60 from rfl] at L7'
  have L0 := q_needyX hR w
  rw [eN] at L0
  have F : m_X4_weigh σ = gb1 (m_X4_weigh_7 gFU 0 (gst σ 136 0 0)) fun s4 => gb1 (m_X4_weigh_40 gFU 0 s4) fun s11 => gb1 (m_X4_weigh_75 gFU 60 s11) fun s22 => some s22 := rfl
  refine ⟨s7, by rw [F, L0, gb1_s, L4', gb1_s, L7', gb1_s], r1, r2, fun l hl => r3 l hl (by omega), r4⟩
