/-! ===== walks: the class is ready ===== -/
theorem q_prep48 {σ : gMem} {p q n y i a : Nat} {z : Nat → Int32} (w : WF p q n y z) (hR : Rg 1 13 σ z) (hi : i < q) (ha : a < p) (e3 : σ 54 3 = nI (wP z p)) (e6 : ∀ τ, τ < 2 ^ wP z p → σ 56 τ = nI (wl z τ p)) : ∃ s, m_X5_prepare_48 (nI i) (nI a) gFU 0 σ = some s ∧ (∀ c, c ≠ 63 + a → s c = σ c) ∧ ∀ h, h < 24 → s (63 + a) h = nI (wFk z i p a h (2 ^ wP z p)) := by
  have p12 := w.1.2.2.2.2.1
  obtain ⟨s, L, q1, q2⟩ := run_to (G := fun m h s => m_X5_prepare_48 (nI i) (nI a) m (nI h) s) (Q := fun h s => (∀ c, c ≠ 63 + a → s c = σ c) ∧ ∀ h', h' < h → s (63 + a) h' = nI (wFk z i p a h' (2 ^ wP z p))) (N := 24) (by decide) (fun m h s hh hq => by
    obtain ⟨q1, q2⟩ := hq
    have sR : Rg 1 13 s z := Rg_fr hR (fun c h1 h2 => q1 c (by omega))
    have c1 : ¬ (24 : Int32) ≤ nI h := nI_ge (b := 24) hh (by decide)
    have A := q_waterAt sR (show a < 12 by omega) hh
    have B := q_footing (a := a) (h := h) w sR hi (by rw [q1 54 (by omega)]; exact e3) (fun τ hτ => by rw [q1 56 (by omega)]; exact e6 τ hτ)
    refine ⟨gst s (63 + a) h (nI (wFk z i p a h (2 ^ wP z p))), ?_, fun c hc => by rw [gst_ne _ _ hc]; exact q1 c hc, fun h' hh' => ?_⟩
    · show b_X5_prepare_48 (nI i) (nI a) (m_X5_prepare_48 (nI i) (nI a) m) (nI h) s = _
      unfold b_X5_prepare_48
      rw [if_neg c1, inb_t (show a < 12 by omega) (by decide), gck_s, A, gb1_s, B, gb1_s, inb_t hh (by decide), gck_s, gnm_s, gnm_s, nI_clamp (show a < 2 ^ 31 by omega), nI_clamp (show h < 2 ^ 31 by omega), nI_1]
    · rw [gst_eq]
      by_cases e : h' = h
      · rw [e]; exact pk_us
      · rw [pk_un e]; exact q2 h' (by omega)) (fun m s hq => by
    show b_X5_prepare_48 (nI i) (nI a) (m_X5_prepare_48 (nI i) (nI a) m) (nI 24) s = _
    unfold b_X5_prepare_48
    rw [if_pos (show (24 : Int32) ≤ nI 24 by decide)]) (s := σ) ⟨fun c _ => rfl, fun h hh => absurd hh (by omega)⟩
  have L' : m_X5_prepare_48 (nI i) (nI a) gFU (nI 0) σ = some s := L
  rw [show nI 0 = 0 from rfl] at L'
  exact ⟨s, L', q1, q2⟩
/-- the class, ready for the walk k -/
def wX (k : gWk) (σ : gMem) : Prop := σ 54 0 = nI (kn k) ∧ σ 54 1 = nI (k0 k) ∧ σ 54 2 = nI (ks k) ∧ (∀ a, a < kn k → σ 55 a = if kp k a < 3 then nI (kp k a) else -1) ∧ (∃ N, N ≤ 144 ∧ σ 54 9 = nI N ∧ wEd (kd k) (kn k) N σ ∧ wEa (kd k) N (fun u v => v < u ∧ u < kn k) σ) ∧ ∀ a h, a < kn k → h < 24 → σ (63 + a) h = nI (kF k a h)
theorem q_prepare {σ : gMem} {p q n y i st : Nat} {z : Nat → Int32} (w : WF p q n y z) (hR : Rg 1 13 σ z) (hi : i < q) : ∃ σ', m_X5_prepare (nI i) (nI st) σ = some σ' ∧ wX (wZ z p i st) σ' ∧ ∀ c, c < 54 ∨ 204 ≤ c → σ' c = σ c := by
  have p12 := w.1.2.2.2.2.1
  have q8 := w.1.2.2.2.2.2.1
  have r0 : σ 1 0 = nI p := (Rg_pla hR).trans w.1.1
  obtain ⟨h0, hh, eh⟩ := (w.2.2.2.2.2.1 i hi).2.2.2
  have r9 : gst σ 54 0 (nI p) 9 i = nI h0 := by rw [gst_ne _ _ (by decide), Rg_hom hR (show i < 8 by omega), eh]
  -- the fields
  have F0 : ∀ c, c ≠ 54 → gst (gst (gst σ 54 0 (nI p)) 54 1 (nI h0)) 54 2 (nI st) c = σ c := fun c hc => by rw [gst_ne _ _ hc, gst_ne _ _ hc, gst_ne _ _ hc]
  have G0 : gst (gst (gst σ 54 0 (nI p)) 54 1 (nI h0)) 54 2 (nI st) 54 0 = nI p := by rw [gst_eq, pk_un (by decide), gst_eq, pk_un (by decide), gst_eq, pk_us]
  have G1 : gst (gst (gst σ 54 0 (nI p)) 54 1 (nI h0)) 54 2 (nI st) 54 1 = nI h0 := by rw [gst_eq, pk_un (by decide), gst_eq, pk_us]
  have G2 : gst (gst (gst σ 54 0 (nI p)) 54 1 (nI h0)) 54 2 (nI st) 54 2 = nI st := by rw [gst_eq, pk_us]
  have E : m_X5_prepare (nI i) (nI st) σ = gb1 (m_X5_listPosts (gst (gst (gst σ 54 0 (nI p)) 54 1 (nI h0)) 54 2 (nI st))) fun s6 => gb1 (m_X5_listEdges s6) fun s8 => gb1 (m_X5_prepare_36 (nI i) gFU 0 s8) fun s11 => some s11 := by
    unfold m_X5_prepare
    rw [gnm_s, r0, inb_t (show i < 8 by omega) (by decide), gck_s, nI_clamp (show i < 2 ^ 31 by omega), r9, gnm_s, gnm_s]
  rw [E]
  generalize gst (gst (gst σ 54 0 (nI p)) 54 1 (nI h0)) 54 2 (nI st) = s4 at *
  obtain ⟨s6, A1, A2, A3, A4, A5, A6⟩ := q_listPosts w (σ := s4) (fun a ha => by rw [F0 3 (by decide)]; exact Rg_spl hR ha) G0
  rw [A1, gb1_s]
  obtain ⟨s8, N, B1, B2, B3, B4, B5, B6, B7⟩ := q_listEdges w (σ := s6) (fun i j hi hj => by rw [A2 _ (by omega) (by omega) (by omega), F0 _ (by omega)]; exact Rg_min hR hi hj) (by rw [A3 0 (by decide)]; exact G0)
  rw [B1, gb1_s]
  have R8 : Rg 1 13 s8 z := Rg_fr hR (fun c h1 h2 => by rw [B6 c (by omega) (by omega) (by omega) (by omega), A2 c (by omega) (by omega) (by omega), F0 c (by omega)])
  have k3 : s8 54 3 = nI (wP z p) := by rw [B7 3 (by decide)]; exact A4
  have k0' : s8 54 0 = nI p := by rw [B7 0 (by decide), A3 0 (by decide)]; exact G0
  have k6 : ∀ τ, τ < 2 ^ wP z p → s8 56 τ = nI (wl z τ p) := fun τ hτ => by rw [B6 56 (by decide) (by decide) (by decide) (by decide)]; exact A6 τ hτ
  obtain ⟨s, L, q1, q2⟩ := run_to (G := fun m a s => m_X5_prepare_36 (nI i) m (nI a) s) (Q := fun a s => (∀ c, c < 63 ∨ 75 ≤ c → s c = s8 c) ∧ ∀ b h, b < a → h < 24 → s (63 + b) h = nI (wFk z i p b h (2 ^ wP z p))) (N := p) (by omega) (fun m a s ha hq => by
    obtain ⟨q1, q2⟩ := hq
    have c1 : ¬ nI p ≤ nI a := nI_ge ha (by omega)
    obtain ⟨s', C1, C2, C3⟩ := q_prep48 w (σ := s) (Rg_fr R8 (fun c h1 h2 => q1 c (by omega))) hi ha (by rw [q1 54 (by omega)]; exact k3) (fun τ hτ => by rw [q1 56 (by omega)]; exact k6 τ hτ)
    refine ⟨s', ?_, fun c hc => by rw [C2 c (by omega)]; exact q1 c hc, fun b h hb hh => ?_⟩
    · show b_X5_prepare_36 (nI i) (m_X5_prepare_36 (nI i) m) (nI a) s = _
      unfold b_X5_prepare_36
      rw [q1 54 (by omega), k0', if_neg c1, C1, gb1_s, gnm_s, nI_1]
    · by_cases e : b = a
      · rw [e]; exact C3 h hh
      · rw [C2 _ (by omega)]; exact q2 b h (by omega) hh) (fun m s hq => by
    obtain ⟨q1, q2⟩ := hq
    show b_X5_prepare_36 (nI i) (m_X5_prepare_36 (nI i) m) (nI p) s = _
    unfold b_X5_prepare_36
    rw [q1 54 (by omega), k0', if_pos (nI_le (Nat.le_refl p) (by omega))]) (s := s8) ⟨fun c _ => rfl, fun b h hb => absurd hb (by omega)⟩
  have L' : m_X5_prepare_36 (nI i) gFU (nI 0) s8 = some s := L
  rw [show nI 0 = 0 from rfl] at L'
  refine ⟨s, by rw [L', gb1_s], ⟨?_, ?_, ?_, fun a ha => ?_, ⟨N, B3, ?_, fun e he => ?_, fun u v hu hd => ?_⟩, fun a h ha hh => ?_⟩, fun c hc => ?_⟩
  · show s 54 0 = nI p
    rw [q1 54 (by omega)]; exact k0'
  · show s 54 1 = nI (z (82 + i)).toNatClampNeg
    rw [q1 54 (by omega), B7 1 (by decide), A3 1 (by decide), G1, eh, nI_clamp (by omega)]
  · show s 54 2 = nI st
    rw [q1 54 (by omega), B7 2 (by decide), A3 2 (by decide), G2]
  · show s 55 a = if wpn z a < 3 then nI (wpn z a) else -1
    rw [q1 55 (by omega), B6 55 (by decide) (by decide) (by decide) (by decide), A5 a ha]
    unfold wpv wpn
    by_cases c : 0 < (z (12 + a)).toInt
    · rw [if_pos c, if_pos c, if_pos (wP_post w ha c)]
    · rw [if_neg c, if_neg c, if_neg (by decide)]
  · rw [q1 54 (by omega)]; exact B2
  · rw [q1 60 (by omega), q1 61 (by omega), q1 62 (by omega)]; exact B4 e he
  · rw [q1 60 (by omega), q1 61 (by omega)]; exact B5 u v hu hd
  · rw [wZ_F (show a < p from ha)]; exact q2 a h ha hh
  · rw [q1 c (by omega), B6 c (by omega) (by omega) (by omega) (by omega), A2 c (by omega) (by omega) (by omega), F0 c (by omega)]
