set_option maxRecDepth 100000 in
set_option maxHeartbeats 4000000 in
theorem c_X7_in {l : Launch} {D : va_G} {ad : Nat → Nat} {cy : Nat → ClassId} {b : Nat} (hG : gInj (gGM D ad cy b)) {a0 : Int64} {a1 : Int64} {a2 : Int64} {σ : gMem} {r0 : Int32} (hM : m_X7_in a0 a1 a2 σ = some r0) : gMi l yX7_in (Cond.code yX7_in cX7_in 6 (some .boolean) :: gBig) { frames := 0, cells := 0, slots := 0, locals := 0 } (gGM D ad cy b) [.long a0, .long a1, .long a2] σ r0 σ := by
  refine gIntro (own := RX7) hG (by decide +kernel) rfl rfl (Nat.le_of_ble_eq_true rfl) (lv := [(0, .long a0), (2, .long a1), (4, .long a2)]) rfl (fun κ C E => ?_)
  unfold m_X7_in at hM
  refine x_lln C 0 rfl dX7_in_0 rfl ?_
  refine x_lln C 1 rfl dX7_in_1 rfl ?_
  refine x_lcmp C dX7_in_2 rfl ?_
  refine x_if_lt (tgt := 17) C dX7_in_3 (by decide) rfl (fun hc => ?_) (fun hc => ?_)
  · replace hM := gif_pos hc hM
    refine x_ic (v := 0) C (by decide) dX7_in_17 rfl ?_
    exact x_zret C E (by decide) ⟨gs1 hM, rfl⟩ dX7_in_18
  · replace hM := gif_neg hc hM
    refine x_lln C 0 rfl dX7_in_6 rfl ?_
    refine x_ll C 2 rfl dX7_in_7 rfl ?_
    refine x_lcmp C dX7_in_9 rfl ?_
    refine x_if_gt (tgt := 17) C dX7_in_10 (by decide) rfl (fun hc => ?_) (fun hc => ?_)
    · replace hM := gif_pos hc hM
      refine x_ic (v := 0) C (by decide) dX7_in_17 rfl ?_
      exact x_zret C E (by decide) ⟨gs1 hM, rfl⟩ dX7_in_18
    · replace hM := gif_neg hc hM
      refine x_ic (v := 1) C (by decide) dX7_in_13 rfl ?_
      refine x_goto (tgt := 18) C dX7_in_14 (by decide) ?_
      exact x_zret C E (by decide) ⟨gs1 hM, rfl⟩ dX7_in_18
set_option maxRecDepth 100000 in
set_option maxHeartbeats 4000000 in
theorem c_X7_put {l : Launch} {D : va_G} {ad : Nat → Nat} {cy : Nat → ClassId} {b : Nat} (hG : gInj (gGM D ad cy b)) {a0 : Int32} {a1 : Int32} {σ : gMem} {σ0 : gMem} (hM : m_X7_put a0 a1 σ = some σ0) : gMv l yX7_put (Cond.code yX7_put cX7_put 4 none :: gBig) { frames := 0, cells := 0, slots := 0, locals := 0 } (gGM D ad cy b) [.ref (ad 0), .int a0, .int a1] σ σ0 := by
  refine gIntro (own := RX7) hG (by decide +kernel) rfl rfl (Nat.le_of_ble_eq_true rfl) (lv := [(0, .ref (ad 0)), (1, .int a0), (2, .int a1)]) rfl (fun κ C E => ?_)
  unfold m_X7_put at hM
  refine x_aln C 0 rfl dX7_put_0 rfl ?_
  refine gMg_0_z C kf_X7_7 dX7_put_1 rfl ?_
  refine x_bi (v := 62) C (by decide) dX7_put_4 rfl ?_
  obtain ⟨h1, hM⟩ := gck_some hM
  refine gMa_1 C h1 dX7_put_6 rfl ?_
  obtain ⟨x3_2, ev, hM⟩ := gnm_ex hM
  refine x_istn (lv' := [(3, .int x3_2), (0, .ref (ad 0)), (1, .int a0), (2, .int a1)]) C rfl ev (by decide) rfl dX7_put_7 rfl ?_
  refine x_aln C 1 rfl dX7_put_8 rfl ?_
  refine gMg_0_z C kf_X7_7 dX7_put_9 rfl ?_
  refine x_ic (v := 0) C (by decide) dX7_put_12 rfl ?_
  refine x_iln C 0 rfl dX7_put_13 rfl ?_
  refine x_iadd C dX7_put_14 rfl ?_
  refine x_iln C 2 rfl dX7_put_15 rfl ?_
  obtain ⟨h3, hM⟩ := gck_some hM
  obtain ⟨s4, ev, hM⟩ := gnm_ex hM
  refine gMs_1 C ev h3 dX7_put_16 rfl ?_
  refine x_aln C 1 rfl dX7_put_17 rfl ?_
  refine gMg_0_z C kf_X7_7 dX7_put_18 rfl ?_
  refine x_bi (v := 12) C (by decide) dX7_put_21 rfl ?_
  refine x_iln C 0 rfl dX7_put_23 rfl ?_
  refine x_iadd C dX7_put_24 rfl ?_
  refine x_iln C 3 rfl dX7_put_25 rfl ?_
  obtain ⟨h5, hM⟩ := gck_some hM
  obtain ⟨s6, ev, hM⟩ := gnm_ex hM
  refine gMs_1 C ev h5 dX7_put_26 rfl ?_
  refine x_aln C 1 rfl dX7_put_27 rfl ?_
  refine gMg_0_z C kf_X7_7 dX7_put_28 rfl ?_
  refine x_bi (v := 24) C (by decide) dX7_put_31 rfl ?_
  refine x_iln C 0 rfl dX7_put_33 rfl ?_
  refine x_iadd C dX7_put_34 rfl ?_
  refine x_ic (v := 0) C (by decide) dX7_put_35 rfl ?_
  obtain ⟨h7, hM⟩ := gck_some hM
  obtain ⟨s8, ev, hM⟩ := gnm_ex hM
  refine gMs_1 C ev h7 dX7_put_36 rfl ?_
  refine x_aln C 1 rfl dX7_put_37 rfl ?_
  refine gMg_0_z C kf_X7_7 dX7_put_38 rfl ?_
  refine x_bi (v := 62) C (by decide) dX7_put_41 rfl ?_
  refine x_dup2 C rfl rfl dX7_put_43 rfl ?_
  obtain ⟨h9, hM⟩ := gck_some hM
  refine gMa_1 C h9 dX7_put_44 rfl ?_
  refine x_ic (v := 1) C (by decide) dX7_put_45 rfl ?_
  refine x_iadd C dX7_put_46 rfl ?_
  obtain ⟨h10, hM⟩ := gck_some hM
  obtain ⟨s11, ev, hM⟩ := gnm_ex hM
  refine gMs_1 C ev h10 dX7_put_47 rfl ?_
  exact x_vret C E (gs1 hM) dX7_put_48
set_option maxRecDepth 100000 in
set_option maxHeartbeats 4000000 in
theorem c_X7_place {l : Launch} {D : va_G} {ad : Nat → Nat} {cy : Nat → ClassId} {b : Nat} (hG : gInj (gGM D ad cy b)) {a0 : Int32} {σ : gMem} {r0 : Int32} {σ0 : gMem} (hM : m_X7_place a0 σ = some (r0, σ0)) : gMi l yX7_place (Cond.code yX7_place cX7_place 2 (some .int) :: gBig) { frames := 1, cells := 0, slots := 0, locals := 25 } (gGM D ad cy b) [.ref (ad 0), .int a0] σ r0 σ0 := by
  refine gIntro (own := RX7) hG (by decide +kernel) rfl rfl (Nat.le_of_ble_eq_true rfl) (lv := [(0, .ref (ad 0)), (1, .int a0)]) rfl (fun κ C E => ?_)
  unfold m_X7_place at hM
  refine x_iln C 1 rfl dX7_place_0 rfl ?_
  refine x_i2l C dX7_place_1 rfl ?_
  refine x_ldc2 (v := (-20)) C (gBc kk_X7_56) dX7_place_2 rfl ?_
  refine x_ldc2 (v := 60) C (gBc kk_X7_58) dX7_place_5 rfl ?_
  obtain ⟨r2, h1, hM⟩ := gb1_some hM
  refine x_csi (As := [.long a0.toInt64, .long (-20), .long 60]) (rest := []) C E.2.2.2.2.2 3 (c_X7_in hG h1) (gBs km_X7_50 kst_X7_in kini_X7 kc_X7_in) rfl rfl rfl ⟨by decide +kernel, by decide +kernel, by decide +kernel⟩ ⟨Nat.le_of_ble_eq_true rfl, Nat.le_of_ble_eq_true rfl⟩ rfl rfl (Nat.le_of_ble_eq_true rfl) dX7_place_8 rfl ?_
  refine x_if_ne (tgt := 16) C dX7_place_11 (by decide) rfl (fun hc => ?_) (fun hc => ?_)
  · replace hM := gif_neg hc hM
    refine x_aln C 0 rfl dX7_place_16 rfl ?_
    refine gMg_0_z C kf_X7_7 dX7_place_17 rfl ?_
    refine x_bi (v := 62) C (by decide) dX7_place_20 rfl ?_
    obtain ⟨h3, hM⟩ := gck_some hM
    refine gMa_1 C h3 dX7_place_22 rfl ?_
    refine x_bi (v := 12) C (by decide) dX7_place_23 rfl ?_
    refine x_ic_ne (tgt := 31) C dX7_place_25 (by decide) rfl (fun hc => ?_) (fun hc => ?_)
    · replace hM := gif_neg hc hM
      refine x_aln C 0 rfl dX7_place_31 rfl ?_
      refine x_iln C 1 rfl dX7_place_32 rfl ?_
      refine x_ic (v := 0) C (by decide) dX7_place_33 rfl ?_
      obtain ⟨s5, h4, hM⟩ := gb1_some hM
      refine x_cvv (As := [.int a0, .int 0]) (rest := []) C E.2.2.2.2.2 2 (c_X7_put hG h4) (gBv km_X7_60 kin_X7_put ksel_X7_put kini_X7 kc_X7_put) rfl rfl rfl ⟨rfl, by decide +kernel, by decide +kernel, by decide +kernel⟩ ⟨Nat.le_of_ble_eq_true rfl, Nat.le_of_ble_eq_true rfl⟩ (by show 0 < 14; decide) rfl rfl rfl rfl (Nat.le_of_ble_eq_true rfl) dX7_place_34 rfl ?_
      refine x_aln C 0 rfl dX7_place_37 rfl ?_
      refine gMg_0_z C kf_X7_7 dX7_place_38 rfl ?_
      refine x_bi (v := 62) C (by decide) dX7_place_41 rfl ?_
      obtain ⟨h6, hM⟩ := gck_some hM
      refine gMa_1 C h6 dX7_place_43 rfl ?_
      refine x_ic (v := 1) C (by decide) dX7_place_44 rfl ?_
      refine x_isub C dX7_place_45 rfl ?_
      exact x_iret C E (gs2 hM) dX7_place_46
    · replace hM := gif_pos hc hM
      refine x_bi (v := (-3)) C (by decide) dX7_place_28 rfl ?_
      exact x_iret C E (gs2 hM) dX7_place_30
  · replace hM := gif_pos hc hM
    refine x_ic (v := (-1)) C (by decide) dX7_place_14 rfl ?_
    exact x_iret C E (gs2 hM) dX7_place_15
set_option maxRecDepth 100000 in
set_option maxHeartbeats 4000000 in
theorem c_X7_isPlace {l : Launch} {D : va_G} {ad : Nat → Nat} {cy : Nat → ClassId} {b : Nat} (hG : gInj (gGM D ad cy b)) {a0 : Int32} {σ : gMem} {r0 : Int32} (hM : m_X7_isPlace a0 σ = some r0) : gMi l yX7_isPlace (Cond.code yX7_isPlace cX7_isPlace 2 (some .boolean) :: gBig) { frames := 1, cells := 0, slots := 0, locals := 25 } (gGM D ad cy b) [.ref (ad 0), .int a0] σ r0 σ := by
  refine gIntro (own := RX7) hG (by decide +kernel) rfl rfl (Nat.le_of_ble_eq_true rfl) (lv := [(0, .ref (ad 0)), (1, .int a0)]) rfl (fun κ C E => ?_)
  unfold m_X7_isPlace at hM
  refine x_iln C 1 rfl dX7_isPlace_0 rfl ?_
  refine x_i2l C dX7_isPlace_1 rfl ?_
  refine x_lc (v := 0) C (by decide) dX7_isPlace_2 rfl ?_
  refine x_aln C 0 rfl dX7_isPlace_3 rfl ?_
  refine gMg_0_z C kf_X7_7 dX7_isPlace_4 rfl ?_
  refine x_bi (v := 62) C (by decide) dX7_isPlace_7 rfl ?_
  obtain ⟨h1, hM⟩ := gck_some hM
  refine gMa_1 C h1 dX7_isPlace_9 rfl ?_
  refine x_ic (v := 1) C (by decide) dX7_isPlace_10 rfl ?_
  refine x_isub C dX7_isPlace_11 rfl ?_
  refine x_i2l C dX7_isPlace_12 rfl ?_
  obtain ⟨r3, h2, hM⟩ := gb1_some hM
  refine x_csi (As := [.long a0.toInt64, .long 0, .long (((σ 1 (62 : Int32).toNatClampNeg) - 1).toInt64)]) (rest := []) C E.2.2.2.2.2 3 (c_X7_in hG h2) (gBs km_X7_50 kst_X7_in kini_X7 kc_X7_in) rfl rfl rfl ⟨by decide +kernel, by decide +kernel, by decide +kernel⟩ ⟨Nat.le_of_ble_eq_true rfl, Nat.le_of_ble_eq_true rfl⟩ rfl rfl (Nat.le_of_ble_eq_true rfl) dX7_isPlace_13 rfl ?_
  obtain ⟨h4, hM⟩ := gck_some hM
  exact x_zret C E h4 ⟨gs1 hM, rfl⟩ dX7_isPlace_16
set_option maxRecDepth 100000 in
set_option maxHeartbeats 4000000 in
theorem c_X7_posts {l : Launch} {D : va_G} {ad : Nat → Nat} {cy : Nat → ClassId} {b : Nat} (hG : gInj (gGM D ad cy b)) {a0 : Int32} {σ : gMem} {r0 : Int32} (hM : m_X7_posts a0 σ = some r0) : gMi l yX7_posts (Cond.code yX7_posts cX7_posts 4 (some .int) :: gBig) { frames := 0, cells := 0, slots := 0, locals := 0 } (gGM D ad cy b) [.ref (ad 0), .int a0] σ r0 σ := by
  refine gIntro (own := RX7) hG (by decide +kernel) rfl rfl (Nat.le_of_ble_eq_true rfl) (lv := [(0, .ref (ad 0)), (1, .int a0)]) rfl (fun κ C E => ?_)
  unfold m_X7_posts at hM
  refine x_ic (v := 0) C (by decide) dX7_posts_0 rfl ?_
  refine x_istn (lv' := [(2, .int 0), (0, .ref (ad 0)), (1, .int a0)]) C rfl rfl (by decide) rfl dX7_posts_1 rfl ?_
  refine x_ic (v := 0) C (by decide) dX7_posts_2 rfl ?_
  refine x_istn (lv' := [(3, .int 0), (2, .int 0), (0, .ref (ad 0)), (1, .int a0)]) C rfl rfl (by decide) rfl dX7_posts_3 rfl ?_
  have L4 : ∀ (n : Nat) (x2_1 : Int32) (x3_2 : Int32) (x2_3 : Int32), m_X7_posts_4 a0 σ n x2_1 x3_2 = some (x2_3) → (wx κ (gGM D ad cy b) (gA (gGM D ad cy b)) 4 σ 46 [(2, .int x2_3)] []) → wx κ (gGM D ad cy b) (gA (gGM D ad cy b)) 4 σ 4 [(0, .ref (ad 0)), (1, .int a0), (2, .int x2_1), (3, .int x3_2)] [] := by
    clear hM
    intro n
    induction n with
    | zero => intro _ _ _ hM; cases hM
    | succ n ih =>
      intro x2_1 x3_2 x2_3 hM kx0
      replace hM : b_X7_posts_4 a0 σ (m_X7_posts_4 a0 σ n) x2_1 x3_2 = some (x2_3) := hM
      unfold b_X7_posts_4 at hM
      refine x_iln C 3 rfl dX7_posts_4 rfl ?_
      refine x_aln C 0 rfl dX7_posts_5 rfl ?_
      refine gMg_0_z C kf_X7_7 dX7_posts_6 rfl ?_
      refine x_bi (v := 62) C (by decide) dX7_posts_9 rfl ?_
      obtain ⟨h4, hM⟩ := gck_some hM
      refine gMa_1 C h4 dX7_posts_11 rfl ?_
      refine x_ic_ge (tgt := 46) C dX7_posts_12 (by decide) rfl (fun hc => ?_) (fun hc => ?_)
      · replace hM := gif_pos hc hM
        cases hM
        exact x_sub [2] rfl (kx0)
      · replace hM := gif_neg hc hM
        refine x_iln C 2 rfl dX7_posts_15 rfl ?_
        refine x_iln C 3 rfl dX7_posts_16 rfl ?_
        refine x_iln C 1 rfl dX7_posts_17 rfl ?_
        refine x_ic_eq (tgt := 37) C dX7_posts_18 (by decide) rfl (fun hc => ?_) (fun hc => ?_)
        · replace hM := gif_pos hc hM
          refine x_ic (v := 0) C (by decide) dX7_posts_37 rfl ?_
          refine x_iadd C dX7_posts_38 rfl ?_
          obtain ⟨x2_5, ev, hM⟩ := gnm_ex hM
          refine x_istn (lv' := [(2, .int x2_5), (0, .ref (ad 0)), (1, .int a0), (3, .int x3_2)]) C rfl ev (by decide) rfl dX7_posts_39 rfl ?_
          obtain ⟨x3_6, ev, hM⟩ := gnm_ex hM
          refine x_iinc (j := 3) (w := 1) (lv' := [(3, .int x3_6), (2, .int x2_5), (0, .ref (ad 0)), (1, .int a0)]) C rfl ev (by decide) (by decide) rfl dX7_posts_40 rfl ?_
          refine x_goto (tgt := 4) C dX7_posts_43 (by decide) ?_
          exact x_sub [2, 3, 1, 0] rfl (ih x2_5 x3_6 _ hM kx0)
        · replace hM := gif_neg hc hM
          refine x_aln C 0 rfl dX7_posts_21 rfl ?_
          refine gMg_0_z C kf_X7_7 dX7_posts_22 rfl ?_
          refine x_bi (v := 12) C (by decide) dX7_posts_25 rfl ?_
          refine x_iln C 3 rfl dX7_posts_27 rfl ?_
          refine x_iadd C dX7_posts_28 rfl ?_
          obtain ⟨h7, hM⟩ := gck_some hM
          refine gMa_1 C h7 dX7_posts_29 rfl ?_
          refine x_if_le (tgt := 37) C dX7_posts_30 (by decide) rfl (fun hc => ?_) (fun hc => ?_)
          · replace hM := gif_pos hc hM
            refine x_ic (v := 0) C (by decide) dX7_posts_37 rfl ?_
            refine x_iadd C dX7_posts_38 rfl ?_
            obtain ⟨x2_8, ev, hM⟩ := gnm_ex hM
            refine x_istn (lv' := [(2, .int x2_8), (0, .ref (ad 0)), (1, .int a0), (3, .int x3_2)]) C rfl ev (by decide) rfl dX7_posts_39 rfl ?_
            obtain ⟨x3_9, ev, hM⟩ := gnm_ex hM
            refine x_iinc (j := 3) (w := 1) (lv' := [(3, .int x3_9), (2, .int x2_8), (0, .ref (ad 0)), (1, .int a0)]) C rfl ev (by decide) (by decide) rfl dX7_posts_40 rfl ?_
            refine x_goto (tgt := 4) C dX7_posts_43 (by decide) ?_
            exact x_sub [2, 3, 1, 0] rfl (ih x2_8 x3_9 _ hM kx0)
          · replace hM := gif_neg hc hM
            refine x_ic (v := 1) C (by decide) dX7_posts_33 rfl ?_
            refine x_goto (tgt := 38) C dX7_posts_34 (by decide) ?_
            refine x_iadd C dX7_posts_38 rfl ?_
            obtain ⟨x2_10, ev, hM⟩ := gnm_ex hM
            refine x_istn (lv' := [(2, .int x2_10), (0, .ref (ad 0)), (1, .int a0), (3, .int x3_2)]) C rfl ev (by decide) rfl dX7_posts_39 rfl ?_
            obtain ⟨x3_11, ev, hM⟩ := gnm_ex hM
            refine x_iinc (j := 3) (w := 1) (lv' := [(3, .int x3_11), (2, .int x2_10), (0, .ref (ad 0)), (1, .int a0)]) C rfl ev (by decide) (by decide) rfl dX7_posts_40 rfl ?_
            refine x_goto (tgt := 4) C dX7_posts_43 (by decide) ?_
            exact x_sub [2, 3, 1, 0] rfl (ih x2_10 x3_11 _ hM kx0)
  obtain ⟨x2_3, hL12, hM⟩ := gb1_some hM
  refine x_sub [2, 3, 1, 0] rfl (L4 gFU 0 0 _ hL12 ?_)
  clear L4
  refine x_iln C 0 rfl dX7_posts_46 rfl ?_
  exact x_iret C E ⟨gs1 hM, rfl⟩ dX7_posts_47
set_option maxRecDepth 100000 in
set_option maxHeartbeats 4000000 in
theorem c_X7_make {l : Launch} {D : va_G} {ad : Nat → Nat} {cy : Nat → ClassId} {b : Nat} (hG : gInj (gGM D ad cy b)) {a0 : Int32} {a1 : Int32} {a2 : Int32} {σ : gMem} {r0 : Int32} {σ0 : gMem} (hM : m_X7_make a0 a1 a2 σ = some (r0, σ0)) : gMi l yX7_make (Cond.code yX7_make cX7_make 6 (some .int) :: gBig) { frames := 2, cells := 0, slots := 0, locals := 46 } (gGM D ad cy b) [.ref (ad 0), .int a0, .int a1, .int a2] σ r0 σ0 := by
  refine gIntro (own := RX7) hG (by decide +kernel) rfl rfl (Nat.le_of_ble_eq_true rfl) (lv := [(0, .ref (ad 0)), (1, .int a0), (2, .int a1), (3, .int a2)]) rfl (fun κ C E => ?_)
  unfold m_X7_make at hM
  refine x_iln C 2 rfl dX7_make_0 rfl ?_
  obtain ⟨w1, hJ24, hM⟩ := gb1_some hM
  have J1 : wx κ (gGM D ad cy b) (gA (gGM D ad cy b)) 6 σ 59 [(0, .ref (ad 0)), (1, .int a0), (2, .int a1), (3, .int a2)] [.int w1] := by
    refine x_ist (lv' := [(4, .int w1), (0, .ref (ad 0)), (1, .int a0), (2, .int a1), (3, .int a2)]) C rfl (by decide) rfl dX7_make_59 rfl ?_
    refine x_aln C 1 rfl dX7_make_61 rfl ?_
    refine x_iln C 2 rfl dX7_make_62 rfl ?_
    obtain ⟨r9, h8, hM⟩ := gb1_some hM
    refine x_cvi (As := [.int a0]) (rest := []) C E.2.2.2.2.2 1 (c_X7_isPlace hG h8) (gBv km_X7_70 kin_X7_isPlace ksel_X7_isPlace kini_X7 kc_X7_isPlace) rfl rfl rfl ⟨rfl, by decide +kernel, by decide +kernel, by decide +kernel⟩ ⟨Nat.le_of_ble_eq_true rfl, Nat.le_of_ble_eq_true rfl⟩ (by show 0 < 14; decide) rfl rfl rfl rfl (Nat.le_of_ble_eq_true rfl) dX7_make_63 rfl ?_
    refine x_if_eq (tgt := 74) C dX7_make_66 (by decide) rfl (fun hc => ?_) (fun hc => ?_)
    · replace hM := gif_pos hc hM
      refine x_ldc (v := (-100001)) C (gBc kk_X7_74) dX7_make_74 rfl ?_
      exact x_iret C E (gs2 hM) dX7_make_76
    · replace hM := gif_neg hc hM
      refine x_il C 0 rfl dX7_make_69 rfl ?_
      refine x_if_ne (tgt := 77) C dX7_make_71 (by decide) rfl (fun hc => ?_) (fun hc => ?_)
      · replace hM := gif_neg hc hM
        refine x_iln C 3 rfl dX7_make_77 rfl ?_
        refine x_ic (v := 1) C (by decide) dX7_make_78 rfl ?_
        refine x_ic_ne (tgt := 98) C dX7_make_79 (by decide) rfl (fun hc => ?_) (fun hc => ?_)
        · replace hM := gif_neg hc hM
          refine x_aln C 1 rfl dX7_make_98 rfl ?_
          refine gMg_0_z C kf_X7_7 dX7_make_99 rfl ?_
          refine x_bi (v := 12) C (by decide) dX7_make_102 rfl ?_
          refine x_iln C 3 rfl dX7_make_104 rfl ?_
          refine x_imul C dX7_make_105 rfl ?_
          refine x_iln C 2 rfl dX7_make_106 rfl ?_
          refine x_iadd C dX7_make_107 rfl ?_
          obtain ⟨h10, hM⟩ := gck_some hM
          refine gMa_1 C h10 dX7_make_108 rfl ?_
          obtain ⟨x5_11, ev, hM⟩ := gnm_ex hM
          refine x_ist (lv' := [(5, .int x5_11), (4, .int w1), (0, .ref (ad 0)), (1, .int a0), (2, .int a1), (3, .int a2)]) C ev (by decide) rfl dX7_make_109 rfl ?_
          refine x_aln C 2 rfl dX7_make_111 rfl ?_
          refine gMg_0_z C kf_X7_7 dX7_make_112 rfl ?_
          refine x_bi (v := 12) C (by decide) dX7_make_115 rfl ?_
          refine x_iln C 4 rfl dX7_make_117 rfl ?_
          refine x_imul C dX7_make_118 rfl ?_
          refine x_iln C 3 rfl dX7_make_119 rfl ?_
          refine x_iadd C dX7_make_120 rfl ?_
          refine x_iln C 5 rfl dX7_make_121 rfl ?_
          obtain ⟨h12, hM⟩ := gck_some hM
          obtain ⟨s13, ev, hM⟩ := gnm_ex hM
          refine gMs_1 C ev h12 dX7_make_122 rfl ?_
          refine x_il C 0 rfl dX7_make_123 rfl ?_
          exact x_iret C E (gs2 hM) dX7_make_125
        · replace hM := gif_pos hc hM
          refine x_iln C 4 rfl dX7_make_82 rfl ?_
          refine x_if_le (tgt := 98) C dX7_make_83 (by decide) rfl (fun hc => ?_) (fun hc => ?_)
          · replace hM := gif_pos hc hM
            refine x_aln C 1 rfl dX7_make_98 rfl ?_
            refine gMg_0_z C kf_X7_7 dX7_make_99 rfl ?_
            refine x_bi (v := 12) C (by decide) dX7_make_102 rfl ?_
            refine x_iln C 3 rfl dX7_make_104 rfl ?_
            refine x_imul C dX7_make_105 rfl ?_
            refine x_iln C 2 rfl dX7_make_106 rfl ?_
            refine x_iadd C dX7_make_107 rfl ?_
            obtain ⟨h14, hM⟩ := gck_some hM
            refine gMa_1 C h14 dX7_make_108 rfl ?_
            obtain ⟨x5_15, ev, hM⟩ := gnm_ex hM
            refine x_ist (lv' := [(5, .int x5_15), (4, .int w1), (0, .ref (ad 0)), (1, .int a0), (2, .int a1), (3, .int a2)]) C ev (by decide) rfl dX7_make_109 rfl ?_
            refine x_aln C 2 rfl dX7_make_111 rfl ?_
            refine gMg_0_z C kf_X7_7 dX7_make_112 rfl ?_
            refine x_bi (v := 12) C (by decide) dX7_make_115 rfl ?_
            refine x_iln C 4 rfl dX7_make_117 rfl ?_
            refine x_imul C dX7_make_118 rfl ?_
            refine x_iln C 3 rfl dX7_make_119 rfl ?_
            refine x_iadd C dX7_make_120 rfl ?_
            refine x_iln C 5 rfl dX7_make_121 rfl ?_
            obtain ⟨h16, hM⟩ := gck_some hM
            obtain ⟨s17, ev, hM⟩ := gnm_ex hM
            refine gMs_1 C ev h16 dX7_make_122 rfl ?_
            refine x_il C 0 rfl dX7_make_123 rfl ?_
            exact x_iret C E (gs2 hM) dX7_make_125
          · replace hM := gif_neg hc hM
            refine x_aln C 1 rfl dX7_make_86 rfl ?_
            refine x_iln C 2 rfl dX7_make_87 rfl ?_
            obtain ⟨r19, h18, hM⟩ := gb1_some hM
            refine x_cvi (As := [.int a0]) (rest := []) C E.2.2.2.2.2 1 (c_X7_posts hG h18) (gBv km_X7_75 kin_X7_posts ksel_X7_posts kini_X7 kc_X7_posts) rfl rfl rfl ⟨rfl, by decide +kernel, by decide +kernel, by decide +kernel⟩ ⟨Nat.le_of_ble_eq_true rfl, Nat.le_of_ble_eq_true rfl⟩ (by show 0 < 14; decide) rfl rfl rfl rfl (Nat.le_of_ble_eq_true rfl) dX7_make_88 rfl ?_
            refine x_ic (v := 3) C (by decide) dX7_make_91 rfl ?_
            refine x_ic_ne (tgt := 98) C dX7_make_92 (by decide) rfl (fun hc => ?_) (fun hc => ?_)
            · replace hM := gif_neg hc hM
              refine x_aln C 1 rfl dX7_make_98 rfl ?_
              refine gMg_0_z C kf_X7_7 dX7_make_99 rfl ?_
              refine x_bi (v := 12) C (by decide) dX7_make_102 rfl ?_
              refine x_iln C 3 rfl dX7_make_104 rfl ?_
              refine x_imul C dX7_make_105 rfl ?_
              refine x_iln C 2 rfl dX7_make_106 rfl ?_
              refine x_iadd C dX7_make_107 rfl ?_
              obtain ⟨h20, hM⟩ := gck_some hM
              refine gMa_1 C h20 dX7_make_108 rfl ?_
              obtain ⟨x5_21, ev, hM⟩ := gnm_ex hM
              refine x_ist (lv' := [(5, .int x5_21), (4, .int w1), (0, .ref (ad 0)), (1, .int a0), (2, .int a1), (3, .int a2)]) C ev (by decide) rfl dX7_make_109 rfl ?_
              refine x_aln C 2 rfl dX7_make_111 rfl ?_
              refine gMg_0_z C kf_X7_7 dX7_make_112 rfl ?_
              refine x_bi (v := 12) C (by decide) dX7_make_115 rfl ?_
              refine x_iln C 4 rfl dX7_make_117 rfl ?_
              refine x_imul C dX7_make_118 rfl ?_
              refine x_iln C 3 rfl dX7_make_119 rfl ?_
              refine x_iadd C dX7_make_120 rfl ?_
              refine x_iln C 5 rfl dX7_make_121 rfl ?_
              obtain ⟨h22, hM⟩ := gck_some hM
              obtain ⟨s23, ev, hM⟩ := gnm_ex hM
              refine gMs_1 C ev h22 dX7_make_122 rfl ?_
              refine x_il C 0 rfl dX7_make_123 rfl ?_
              exact x_iret C E (gs2 hM) dX7_make_125
            · replace hM := gif_pos hc hM
              refine x_ldc (v := (-100003)) C (gBc kk_X7_79) dX7_make_95 rfl ?_
              exact x_iret C E (gs2 hM) dX7_make_97
      · replace hM := gif_pos hc hM
        refine x_ldc (v := (-100001)) C (gBc kk_X7_74) dX7_make_74 rfl ?_
        exact x_iret C E (gs2 hM) dX7_make_76
  clear hM
  have hM := hJ24
  clear hJ24
  refine x_if_ne (tgt := 18) C dX7_make_1 (by decide) rfl (fun hc => ?_) (fun hc => ?_)
  · replace hM := gif_neg hc hM
    refine x_iln C 2 rfl dX7_make_18 rfl ?_
    refine x_ic (v := 1) C (by decide) dX7_make_19 rfl ?_
    refine x_ic_ne (tgt := 35) C dX7_make_20 (by decide) rfl (fun hc => ?_) (fun hc => ?_)
    · replace hM := gif_neg hc hM
      refine x_iln C 2 rfl dX7_make_35 rfl ?_
      refine x_ic (v := 2) C (by decide) dX7_make_36 rfl ?_
      refine x_ic_ne (tgt := 58) C dX7_make_37 (by decide) rfl (fun hc => ?_) (fun hc => ?_)
      · replace hM := gif_neg hc hM
        refine x_ic (v := 0) C (by decide) dX7_make_58 rfl ?_
        cases hM
        exact x_sub [0, 1, 2, 3] rfl J1
      · replace hM := gif_pos hc hM
        refine x_iln C 3 rfl dX7_make_40 rfl ?_
        refine x_i2l C dX7_make_41 rfl ?_
        refine x_ldc2 (v := (-5)) C (gBc kk_X7_66) dX7_make_42 rfl ?_
        refine x_ldc2 (v := 5) C (gBc kk_X7_68) dX7_make_45 rfl ?_
        obtain ⟨r3, h2, hM⟩ := gb1_some hM
        refine x_csi (As := [.long a2.toInt64, .long (-5), .long 5]) (rest := []) C E.2.2.2.2.2 3 (c_X7_in hG h2) (gBs km_X7_50 kst_X7_in kini_X7 kc_X7_in) rfl rfl rfl ⟨by decide +kernel, by decide +kernel, by decide +kernel⟩ ⟨Nat.le_of_ble_eq_true rfl, Nat.le_of_ble_eq_true rfl⟩ rfl rfl (Nat.le_of_ble_eq_true rfl) dX7_make_48 rfl ?_
        refine x_if_eq (tgt := 58) C dX7_make_51 (by decide) rfl (fun hc => ?_) (fun hc => ?_)
        · replace hM := gif_pos hc hM
          refine x_ic (v := 0) C (by decide) dX7_make_58 rfl ?_
          cases hM
          exact x_sub [0, 1, 2, 3] rfl J1
        · replace hM := gif_neg hc hM
          refine x_ic (v := 1) C (by decide) dX7_make_54 rfl ?_
          refine x_goto (tgt := 59) C dX7_make_55 (by decide) ?_
          cases hM
          exact x_sub [0, 1, 2, 3] rfl J1
    · replace hM := gif_pos hc hM
      refine x_iln C 3 rfl dX7_make_23 rfl ?_
      refine x_i2l C dX7_make_24 rfl ?_
      refine x_lc (v := 0) C (by decide) dX7_make_25 rfl ?_
      refine x_ldc2 (v := 20) C (gBc kk_X7_64) dX7_make_26 rfl ?_
      obtain ⟨r5, h4, hM⟩ := gb1_some hM
      refine x_csi (As := [.long a2.toInt64, .long 0, .long 20]) (rest := []) C E.2.2.2.2.2 3 (c_X7_in hG h4) (gBs km_X7_50 kst_X7_in kini_X7 kc_X7_in) rfl rfl rfl ⟨by decide +kernel, by decide +kernel, by decide +kernel⟩ ⟨Nat.le_of_ble_eq_true rfl, Nat.le_of_ble_eq_true rfl⟩ rfl rfl (Nat.le_of_ble_eq_true rfl) dX7_make_29 rfl ?_
      refine x_goto (tgt := 59) C dX7_make_32 (by decide) ?_
      cases hM
      exact x_sub [0, 1, 2, 3] rfl J1
  · replace hM := gif_pos hc hM
    refine x_iln C 3 rfl dX7_make_4 rfl ?_
    refine x_i2l C dX7_make_5 rfl ?_
    refine x_ldc2 (v := (-20)) C (gBc kk_X7_56) dX7_make_6 rfl ?_
    refine x_ldc2 (v := 60) C (gBc kk_X7_58) dX7_make_9 rfl ?_
    obtain ⟨r7, h6, hM⟩ := gb1_some hM
    refine x_csi (As := [.long a2.toInt64, .long (-20), .long 60]) (rest := []) C E.2.2.2.2.2 3 (c_X7_in hG h6) (gBs km_X7_50 kst_X7_in kini_X7 kc_X7_in) rfl rfl rfl ⟨by decide +kernel, by decide +kernel, by decide +kernel⟩ ⟨Nat.le_of_ble_eq_true rfl, Nat.le_of_ble_eq_true rfl⟩ rfl rfl (Nat.le_of_ble_eq_true rfl) dX7_make_12 rfl ?_
    refine x_goto (tgt := 59) C dX7_make_15 (by decide) ?_
    cases hM
    exact x_sub [0, 1, 2, 3] rfl J1
set_option maxRecDepth 100000 in
set_option maxHeartbeats 4000000 in
theorem c_X7_pathOf {l : Launch} {D : va_G} {ad : Nat → Nat} {cy : Nat → ClassId} {b : Nat} (hG : gInj (gGM D ad cy b)) {a0 : Int32} {a1 : Int32} {σ : gMem} {r0 : Int32} (hM : m_X7_pathOf a0 a1 σ = some r0) : gMi l yX7_pathOf (Cond.code yX7_pathOf cX7_pathOf 3 (some .int) :: gBig) { frames := 0, cells := 0, slots := 0, locals := 0 } (gGM D ad cy b) [.ref (ad 0), .int a0, .int a1] σ r0 σ := by
  refine gIntro (own := RX7) hG (by decide +kernel) rfl rfl (Nat.le_of_ble_eq_true rfl) (lv := [(0, .ref (ad 0)), (1, .int a0), (2, .int a1)]) rfl (fun κ C E => ?_)
  unfold m_X7_pathOf at hM
  refine x_aln C 0 rfl dX7_pathOf_0 rfl ?_
  refine gMg_0_z C kf_X7_7 dX7_pathOf_1 rfl ?_
  refine x_bi (v := 120) C (by decide) dX7_pathOf_4 rfl ?_
  refine x_bi (v := 12) C (by decide) dX7_pathOf_6 rfl ?_
  refine x_iln C 1 rfl dX7_pathOf_8 rfl ?_
  refine x_imul C dX7_pathOf_9 rfl ?_
  refine x_iadd C dX7_pathOf_10 rfl ?_
  refine x_iln C 2 rfl dX7_pathOf_11 rfl ?_
  refine x_iadd C dX7_pathOf_12 rfl ?_
  obtain ⟨h1, hM⟩ := gck_some hM
  refine gMa_1 C h1 dX7_pathOf_13 rfl ?_
  exact x_iret C E ⟨gs1 hM, rfl⟩ dX7_pathOf_14
set_option maxRecDepth 100000 in
set_option maxHeartbeats 4000000 in
theorem c_X7_join {l : Launch} {D : va_G} {ad : Nat → Nat} {cy : Nat → ClassId} {b : Nat} (hG : gInj (gGM D ad cy b)) {a0 : Int32} {a1 : Int32} {a2 : Int32} {σ : gMem} {σ0 : gMem} (hM : m_X7_join a0 a1 a2 σ = some σ0) : gMv l yX7_join (Cond.code yX7_join cX7_join 4 none :: gBig) { frames := 0, cells := 0, slots := 0, locals := 0 } (gGM D ad cy b) [.ref (ad 0), .int a0, .int a1, .int a2] σ σ0 := by
  refine gIntro (own := RX7) hG (by decide +kernel) rfl rfl (Nat.le_of_ble_eq_true rfl) (lv := [(0, .ref (ad 0)), (1, .int a0), (2, .int a1), (3, .int a2)]) rfl (fun κ C E => ?_)
  unfold m_X7_join at hM
  refine x_aln C 0 rfl dX7_join_0 rfl ?_
  refine gMg_0_z C kf_X7_7 dX7_join_1 rfl ?_
  refine x_bi (v := 120) C (by decide) dX7_join_4 rfl ?_
  refine x_bi (v := 12) C (by decide) dX7_join_6 rfl ?_
  refine x_iln C 1 rfl dX7_join_8 rfl ?_
  refine x_imul C dX7_join_9 rfl ?_
  refine x_iadd C dX7_join_10 rfl ?_
  refine x_iln C 2 rfl dX7_join_11 rfl ?_
  refine x_iadd C dX7_join_12 rfl ?_
  refine x_iln C 3 rfl dX7_join_13 rfl ?_
  obtain ⟨h1, hM⟩ := gck_some hM
  obtain ⟨s2, ev, hM⟩ := gnm_ex hM
  refine gMs_1 C ev h1 dX7_join_14 rfl ?_
  refine x_aln C 0 rfl dX7_join_15 rfl ?_
  refine gMg_0_z C kf_X7_7 dX7_join_16 rfl ?_
  refine x_bi (v := 120) C (by decide) dX7_join_19 rfl ?_
  refine x_bi (v := 12) C (by decide) dX7_join_21 rfl ?_
  refine x_iln C 2 rfl dX7_join_23 rfl ?_
  refine x_imul C dX7_join_24 rfl ?_
  refine x_iadd C dX7_join_25 rfl ?_
  refine x_iln C 1 rfl dX7_join_26 rfl ?_
  refine x_iadd C dX7_join_27 rfl ?_
  refine x_iln C 3 rfl dX7_join_28 rfl ?_
  obtain ⟨h3, hM⟩ := gck_some hM
  obtain ⟨s4, ev, hM⟩ := gnm_ex hM
  refine gMs_1 C ev h3 dX7_join_29 rfl ?_
  exact x_vret C E (gs1 hM) dX7_join_30
set_option maxRecDepth 100000 in
set_option maxHeartbeats 4000000 in
theorem c_X7_path {l : Launch} {D : va_G} {ad : Nat → Nat} {cy : Nat → ClassId} {b : Nat} (hG : gInj (gGM D ad cy b)) {a0 : Int32} {a1 : Int32} {a2 : Int32} {σ : gMem} {r0 : Int32} {σ0 : gMem} (hM : m_X7_path a0 a1 a2 σ = some (r0, σ0)) : gMi l yX7_path (Cond.code yX7_path cX7_path 5 (some .int) :: gBig) { frames := 2, cells := 0, slots := 0, locals := 46 } (gGM D ad cy b) [.ref (ad 0), .int a0, .int a1, .int a2] σ r0 σ0 := by
  refine gIntro (own := RX7) hG (by decide +kernel) rfl rfl (Nat.le_of_ble_eq_true rfl) (lv := [(0, .ref (ad 0)), (1, .int a0), (2, .int a1), (3, .int a2)]) rfl (fun κ C E => ?_)
  unfold m_X7_path at hM
  refine x_aln C 0 rfl dX7_path_0 rfl ?_
  refine x_iln C 1 rfl dX7_path_1 rfl ?_
  obtain ⟨r2, h1, hM⟩ := gb1_some hM
  refine x_cvi (As := [.int a0]) (rest := []) C E.2.2.2.2.2 1 (c_X7_isPlace hG h1) (gBv km_X7_70 kin_X7_isPlace ksel_X7_isPlace kini_X7 kc_X7_isPlace) rfl rfl rfl ⟨rfl, by decide +kernel, by decide +kernel, by decide +kernel⟩ ⟨Nat.le_of_ble_eq_true rfl, Nat.le_of_ble_eq_true rfl⟩ (by show 0 < 14; decide) rfl rfl rfl rfl (Nat.le_of_ble_eq_true rfl) dX7_path_2 rfl ?_
  refine x_if_eq (tgt := 33) C dX7_path_5 (by decide) rfl (fun hc => ?_) (fun hc => ?_)
  · replace hM := gif_pos hc hM
    refine x_ic (v := (-1)) C (by decide) dX7_path_33 rfl ?_
    exact x_iret C E (gs2 hM) dX7_path_34
  · replace hM := gif_neg hc hM
    refine x_aln C 0 rfl dX7_path_8 rfl ?_
    refine x_iln C 2 rfl dX7_path_9 rfl ?_
    obtain ⟨r4, h3, hM⟩ := gb1_some hM
    refine x_cvi (As := [.int a1]) (rest := []) C E.2.2.2.2.2 1 (c_X7_isPlace hG h3) (gBv km_X7_70 kin_X7_isPlace ksel_X7_isPlace kini_X7 kc_X7_isPlace) rfl rfl rfl ⟨rfl, by decide +kernel, by decide +kernel, by decide +kernel⟩ ⟨Nat.le_of_ble_eq_true rfl, Nat.le_of_ble_eq_true rfl⟩ (by show 0 < 14; decide) rfl rfl rfl rfl (Nat.le_of_ble_eq_true rfl) dX7_path_10 rfl ?_
    refine x_if_eq (tgt := 33) C dX7_path_13 (by decide) rfl (fun hc => ?_) (fun hc => ?_)
    · replace hM := gif_pos hc hM
      refine x_ic (v := (-1)) C (by decide) dX7_path_33 rfl ?_
      exact x_iret C E (gs2 hM) dX7_path_34
    · replace hM := gif_neg hc hM
      refine x_iln C 1 rfl dX7_path_16 rfl ?_
      refine x_iln C 2 rfl dX7_path_17 rfl ?_
      refine x_ic_eq (tgt := 33) C dX7_path_18 (by decide) rfl (fun hc => ?_) (fun hc => ?_)
      · replace hM := gif_pos hc hM
        refine x_ic (v := (-1)) C (by decide) dX7_path_33 rfl ?_
        exact x_iret C E (gs2 hM) dX7_path_34
      · replace hM := gif_neg hc hM
        refine x_iln C 3 rfl dX7_path_21 rfl ?_
        refine x_i2l C dX7_path_22 rfl ?_
        refine x_lc (v := 0) C (by decide) dX7_path_23 rfl ?_
        refine x_ldc2 (v := 60) C (gBc kk_X7_58) dX7_path_24 rfl ?_
        obtain ⟨r6, h5, hM⟩ := gb1_some hM
        refine x_csi (As := [.long a2.toInt64, .long 0, .long 60]) (rest := []) C E.2.2.2.2.2 3 (c_X7_in hG h5) (gBs km_X7_50 kst_X7_in kini_X7 kc_X7_in) rfl rfl rfl ⟨by decide +kernel, by decide +kernel, by decide +kernel⟩ ⟨Nat.le_of_ble_eq_true rfl, Nat.le_of_ble_eq_true rfl⟩ rfl rfl (Nat.le_of_ble_eq_true rfl) dX7_path_27 rfl ?_
        refine x_if_ne (tgt := 35) C dX7_path_30 (by decide) rfl (fun hc => ?_) (fun hc => ?_)
        · replace hM := gif_neg hc hM
          refine x_aln C 0 rfl dX7_path_35 rfl ?_
          refine x_iln C 1 rfl dX7_path_36 rfl ?_
          refine x_iln C 2 rfl dX7_path_37 rfl ?_
          obtain ⟨r8, h7, hM⟩ := gb1_some hM
          refine x_cvi (As := [.int a0, .int a1]) (rest := []) C E.2.2.2.2.2 2 (c_X7_pathOf hG h7) (gBv km_X7_80 kin_X7_pathOf ksel_X7_pathOf kini_X7 kc_X7_pathOf) rfl rfl rfl ⟨rfl, by decide +kernel, by decide +kernel, by decide +kernel⟩ ⟨Nat.le_of_ble_eq_true rfl, Nat.le_of_ble_eq_true rfl⟩ (by show 0 < 14; decide) rfl rfl rfl rfl (Nat.le_of_ble_eq_true rfl) dX7_path_38 rfl ?_
          refine x_ist (lv' := [(4, .int r8), (0, .ref (ad 0)), (1, .int a0), (2, .int a1), (3, .int a2)]) C rfl (by decide) rfl dX7_path_41 rfl ?_
          refine x_aln C 1 rfl dX7_path_43 rfl ?_
          refine x_iln C 2 rfl dX7_path_44 rfl ?_
          refine x_iln C 3 rfl dX7_path_45 rfl ?_
          refine x_iln C 4 rfl dX7_path_46 rfl ?_
          obtain ⟨s10, h9, hM⟩ := gb1_some hM
          refine x_cvv (As := [.int a0, .int a1, .int a2]) (rest := []) C E.2.2.2.2.2 3 (c_X7_join hG h9) (gBv km_X7_84 kin_X7_join ksel_X7_join kini_X7 kc_X7_join) rfl rfl rfl ⟨rfl, by decide +kernel, by decide +kernel, by decide +kernel⟩ ⟨Nat.le_of_ble_eq_true rfl, Nat.le_of_ble_eq_true rfl⟩ (by show 0 < 14; decide) rfl rfl rfl rfl (Nat.le_of_ble_eq_true rfl) dX7_path_47 rfl ?_
          refine x_il C 0 rfl dX7_path_50 rfl ?_
          exact x_iret C E (gs2 hM) dX7_path_52
        · replace hM := gif_pos hc hM
          refine x_ic (v := (-1)) C (by decide) dX7_path_33 rfl ?_
          exact x_iret C E (gs2 hM) dX7_path_34
set_option maxRecDepth 100000 in
set_option maxHeartbeats 4000000 in
theorem c_X7_isHour {l : Launch} {D : va_G} {ad : Nat → Nat} {cy : Nat → ClassId} {b : Nat} (hG : gInj (gGM D ad cy b)) {a0 : Int32} {σ : gMem} {r0 : Int32} (hM : m_X7_isHour a0 σ = some r0) : gMi l yX7_isHour (Cond.code yX7_isHour cX7_isHour 1 (some .boolean) :: gBig) { frames := 1, cells := 0, slots := 0, locals := 25 } (gGM D ad cy b) [.int a0] σ r0 σ := by
  refine gIntro (own := RX7) hG (by decide +kernel) rfl rfl (Nat.le_of_ble_eq_true rfl) (lv := [(0, .int a0)]) rfl (fun κ C E => ?_)
  unfold m_X7_isHour at hM
  refine x_iln C 0 rfl dX7_isHour_0 rfl ?_
  refine x_i2l C dX7_isHour_1 rfl ?_
  refine x_lc (v := 0) C (by decide) dX7_isHour_2 rfl ?_
  refine x_ldc2 (v := 23) C (gBc kk_X7_54) dX7_isHour_3 rfl ?_
  obtain ⟨r2, h1, hM⟩ := gb1_some hM
  refine x_csi (As := [.long a0.toInt64, .long 0, .long 23]) (rest := []) C E.2.2.2.2.2 3 (c_X7_in hG h1) (gBs km_X7_50 kst_X7_in kini_X7 kc_X7_in) rfl rfl rfl ⟨by decide +kernel, by decide +kernel, by decide +kernel⟩ ⟨Nat.le_of_ble_eq_true rfl, Nat.le_of_ble_eq_true rfl⟩ rfl rfl (Nat.le_of_ble_eq_true rfl) dX7_isHour_6 rfl ?_
  obtain ⟨h3, hM⟩ := gck_some hM
  exact x_zret C E h3 ⟨gs1 hM, rfl⟩ dX7_isHour_9
set_option maxRecDepth 100000 in
set_option maxHeartbeats 4000000 in
theorem c_X7_tide {l : Launch} {D : va_G} {ad : Nat → Nat} {cy : Nat → ClassId} {b : Nat} (hG : gInj (gGM D ad cy b)) {a0 : Int32} {a1 : Int32} {σ : gMem} {r0 : Int32} {σ0 : gMem} (hM : m_X7_tide a0 a1 σ = some (r0, σ0)) : gMi l yX7_tide (Cond.code yX7_tide cX7_tide 4 (some .int) :: gBig) { frames := 2, cells := 0, slots := 0, locals := 45 } (gGM D ad cy b) [.ref (ad 0), .int a0, .int a1] σ r0 σ0 := by
  refine gIntro (own := RX7) hG (by decide +kernel) rfl rfl (Nat.le_of_ble_eq_true rfl) (lv := [(0, .ref (ad 0)), (1, .int a0), (2, .int a1)]) rfl (fun κ C E => ?_)
  unfold m_X7_tide at hM
  refine x_iln C 1 rfl dX7_tide_0 rfl ?_
  obtain ⟨r2, h1, hM⟩ := gb1_some hM
  refine x_csi (As := [.int a0]) (rest := []) C E.2.2.2.2.2 1 (c_X7_isHour hG h1) (gBs km_X7_88 kst_X7_isHour kini_X7 kc_X7_isHour) rfl rfl rfl ⟨by decide +kernel, by decide +kernel, by decide +kernel⟩ ⟨Nat.le_of_ble_eq_true rfl, Nat.le_of_ble_eq_true rfl⟩ rfl rfl (Nat.le_of_ble_eq_true rfl) dX7_tide_1 rfl ?_
  refine x_if_eq (tgt := 21) C dX7_tide_4 (by decide) rfl (fun hc => ?_) (fun hc => ?_)
  · replace hM := gif_pos hc hM
    refine x_ldc (v := (-100001)) C (gBc kk_X7_74) dX7_tide_21 rfl ?_
    exact x_iret C E (gs2 hM) dX7_tide_23
  · replace hM := gif_neg hc hM
    refine x_iln C 2 rfl dX7_tide_7 rfl ?_
    refine x_i2l C dX7_tide_8 rfl ?_
    refine x_ldc2 (v := (-20)) C (gBc kk_X7_56) dX7_tide_9 rfl ?_
    refine x_ldc2 (v := 20) C (gBc kk_X7_64) dX7_tide_12 rfl ?_
    obtain ⟨r4, h3, hM⟩ := gb1_some hM
    refine x_csi (As := [.long a1.toInt64, .long (-20), .long 20]) (rest := []) C E.2.2.2.2.2 3 (c_X7_in hG h3) (gBs km_X7_50 kst_X7_in kini_X7 kc_X7_in) rfl rfl rfl ⟨by decide +kernel, by decide +kernel, by decide +kernel⟩ ⟨Nat.le_of_ble_eq_true rfl, Nat.le_of_ble_eq_true rfl⟩ rfl rfl (Nat.le_of_ble_eq_true rfl) dX7_tide_15 rfl ?_
    refine x_if_ne (tgt := 24) C dX7_tide_18 (by decide) rfl (fun hc => ?_) (fun hc => ?_)
    · replace hM := gif_neg hc hM
      refine x_aln C 0 rfl dX7_tide_24 rfl ?_
      refine gMg_0_z C kf_X7_7 dX7_tide_25 rfl ?_
      refine x_bi (v := 36) C (by decide) dX7_tide_28 rfl ?_
      refine x_iln C 1 rfl dX7_tide_30 rfl ?_
      refine x_iadd C dX7_tide_31 rfl ?_
      obtain ⟨h5, hM⟩ := gck_some hM
      refine gMa_1 C h5 dX7_tide_32 rfl ?_
      obtain ⟨x3_6, ev, hM⟩ := gnm_ex hM
      refine x_istn (lv' := [(3, .int x3_6), (0, .ref (ad 0)), (1, .int a0), (2, .int a1)]) C rfl ev (by decide) rfl dX7_tide_33 rfl ?_
      refine x_aln C 1 rfl dX7_tide_34 rfl ?_
      refine gMg_0_z C kf_X7_7 dX7_tide_35 rfl ?_
      refine x_bi (v := 36) C (by decide) dX7_tide_38 rfl ?_
      refine x_iln C 2 rfl dX7_tide_40 rfl ?_
      refine x_iadd C dX7_tide_41 rfl ?_
      refine x_iln C 3 rfl dX7_tide_42 rfl ?_
      obtain ⟨h7, hM⟩ := gck_some hM
      obtain ⟨s8, ev, hM⟩ := gnm_ex hM
      refine gMs_1 C ev h7 dX7_tide_43 rfl ?_
      refine x_iln C 0 rfl dX7_tide_44 rfl ?_
      exact x_iret C E (gs2 hM) dX7_tide_45
    · replace hM := gif_pos hc hM
      refine x_ldc (v := (-100001)) C (gBc kk_X7_74) dX7_tide_21 rfl ?_
      exact x_iret C E (gs2 hM) dX7_tide_23
set_option maxRecDepth 100000 in
set_option maxHeartbeats 4000000 in
theorem c_X7_set {l : Launch} {D : va_G} {ad : Nat → Nat} {cy : Nat → ClassId} {b : Nat} (hG : gInj (gGM D ad cy b)) {a0 : Int32} {a1 : Int32} {σ : gMem} {r0 : Int32} {σ0 : gMem} (hM : m_X7_set a0 a1 σ = some (r0, σ0)) : gMi l yX7_set (Cond.code yX7_set cX7_set 4 (some .int) :: gBig) { frames := 1, cells := 0, slots := 0, locals := 25 } (gGM D ad cy b) [.ref (ad 0), .int a0, .int a1] σ r0 σ0 := by
  refine gIntro (own := RX7) hG (by decide +kernel) rfl rfl (Nat.le_of_ble_eq_true rfl) (lv := [(0, .ref (ad 0)), (1, .int a0), (2, .int a1)]) rfl (fun κ C E => ?_)
  unfold m_X7_set at hM
  refine x_iln C 1 rfl dX7_set_0 rfl ?_
  refine x_i2l C dX7_set_1 rfl ?_
  refine x_lc (v := 0) C (by decide) dX7_set_2 rfl ?_
  refine x_lc (v := 1) C (by decide) dX7_set_3 rfl ?_
  obtain ⟨r2, h1, hM⟩ := gb1_some hM
  refine x_csi (As := [.long a0.toInt64, .long 0, .long 1]) (rest := []) C E.2.2.2.2.2 3 (c_X7_in hG h1) (gBs km_X7_50 kst_X7_in kini_X7 kc_X7_in) rfl rfl rfl ⟨by decide +kernel, by decide +kernel, by decide +kernel⟩ ⟨Nat.le_of_ble_eq_true rfl, Nat.le_of_ble_eq_true rfl⟩ rfl rfl (Nat.le_of_ble_eq_true rfl) dX7_set_4 rfl ?_
  refine x_if_eq (tgt := 32) C dX7_set_7 (by decide) rfl (fun hc => ?_) (fun hc => ?_)
  · replace hM := gif_pos hc hM
    refine x_ic (v := (-1)) C (by decide) dX7_set_32 rfl ?_
    exact x_iret C E (gs2 hM) dX7_set_33
  · replace hM := gif_neg hc hM
    refine x_iln C 2 rfl dX7_set_10 rfl ?_
    refine x_i2l C dX7_set_11 rfl ?_
    refine x_lc (v := 0) C (by decide) dX7_set_12 rfl ?_
    refine x_iln C 1 rfl dX7_set_13 rfl ?_
    obtain ⟨w3, hJ10, hM⟩ := gb1_some hM
    have J1 : wx κ (gGM D ad cy b) (gA (gGM D ad cy b)) 4 σ 26 [(0, .ref (ad 0)), (1, .int a0), (2, .int a1)] [.long w3, .long 0, .long a1.toInt64] := by
      obtain ⟨r5, h4, hM⟩ := gb1_some hM
      refine x_csi (As := [.long a1.toInt64, .long 0, .long w3]) (rest := []) C E.2.2.2.2.2 3 (c_X7_in hG h4) (gBs km_X7_50 kst_X7_in kini_X7 kc_X7_in) rfl rfl rfl ⟨by decide +kernel, by decide +kernel, by decide +kernel⟩ ⟨Nat.le_of_ble_eq_true rfl, Nat.le_of_ble_eq_true rfl⟩ rfl rfl (Nat.le_of_ble_eq_true rfl) dX7_set_26 rfl ?_
      refine x_if_ne (tgt := 34) C dX7_set_29 (by decide) rfl (fun hc => ?_) (fun hc => ?_)
      · replace hM := gif_neg hc hM
        refine x_aln C 0 rfl dX7_set_34 rfl ?_
        refine gMg_0_z C kf_X7_7 dX7_set_35 rfl ?_
        refine x_bi (v := 60) C (by decide) dX7_set_38 rfl ?_
        refine x_iln C 1 rfl dX7_set_40 rfl ?_
        refine x_iadd C dX7_set_41 rfl ?_
        obtain ⟨h6, hM⟩ := gck_some hM
        refine gMa_1 C h6 dX7_set_42 rfl ?_
        obtain ⟨x3_7, ev, hM⟩ := gnm_ex hM
        refine x_istn (lv' := [(3, .int x3_7), (0, .ref (ad 0)), (1, .int a0), (2, .int a1)]) C rfl ev (by decide) rfl dX7_set_43 rfl ?_
        refine x_aln C 1 rfl dX7_set_44 rfl ?_
        refine gMg_0_z C kf_X7_7 dX7_set_45 rfl ?_
        refine x_bi (v := 60) C (by decide) dX7_set_48 rfl ?_
        refine x_iln C 2 rfl dX7_set_50 rfl ?_
        refine x_iadd C dX7_set_51 rfl ?_
        refine x_iln C 3 rfl dX7_set_52 rfl ?_
        obtain ⟨h8, hM⟩ := gck_some hM
        obtain ⟨s9, ev, hM⟩ := gnm_ex hM
        refine gMs_1 C ev h8 dX7_set_53 rfl ?_
        refine x_iln C 0 rfl dX7_set_54 rfl ?_
        exact x_iret C E (gs2 hM) dX7_set_55
      · replace hM := gif_pos hc hM
        refine x_ic (v := (-1)) C (by decide) dX7_set_32 rfl ?_
        exact x_iret C E (gs2 hM) dX7_set_33
    clear hM
    have hM := hJ10
    clear hJ10
    refine x_if_ne (tgt := 23) C dX7_set_14 (by decide) rfl (fun hc => ?_) (fun hc => ?_)
    · replace hM := gif_neg hc hM
      refine x_ldc2 (v := 60) C (gBc kk_X7_58) dX7_set_23 rfl ?_
      cases hM
      exact x_sub [0, 1, 2] rfl J1
    · replace hM := gif_pos hc hM
      refine x_ldc2 (v := 40) C (gBc kk_X7_91) dX7_set_17 rfl ?_
      refine x_goto (tgt := 26) C dX7_set_20 (by decide) ?_
      cases hM
      exact x_sub [0, 1, 2] rfl J1
set_option maxRecDepth 100000 in
set_option maxHeartbeats 4000000 in
theorem c_X7_person {l : Launch} {D : va_G} {ad : Nat → Nat} {cy : Nat → ClassId} {b : Nat} (hG : gInj (gGM D ad cy b)) {a0 : Int32} {a1 : Int32} {a2 : Int32} {σ : gMem} {r0 : Int32} {σ0 : gMem} (hM : m_X7_person a0 a1 a2 σ = some (r0, σ0)) : gMi l yX7_person (Cond.code yX7_person cX7_person 5 (some .int) :: gBig) { frames := 2, cells := 0, slots := 0, locals := 46 } (gGM D ad cy b) [.ref (ad 0), .int a0, .int a1, .int a2] σ r0 σ0 := by
  refine gIntro (own := RX7) hG (by decide +kernel) rfl rfl (Nat.le_of_ble_eq_true rfl) (lv := [(0, .ref (ad 0)), (1, .int a0), (2, .int a1), (3, .int a2)]) rfl (fun κ C E => ?_)
  unfold m_X7_person at hM
  refine x_iln C 1 rfl dX7_person_0 rfl ?_
  refine x_i2l C dX7_person_1 rfl ?_
  refine x_lc (v := 0) C (by decide) dX7_person_2 rfl ?_
  refine x_ldc2 (v := 3) C (gBc kk_X7_93) dX7_person_3 rfl ?_
  obtain ⟨r2, h1, hM⟩ := gb1_some hM
  refine x_csi (As := [.long a0.toInt64, .long 0, .long 3]) (rest := []) C E.2.2.2.2.2 3 (c_X7_in hG h1) (gBs km_X7_50 kst_X7_in kini_X7 kc_X7_in) rfl rfl rfl ⟨by decide +kernel, by decide +kernel, by decide +kernel⟩ ⟨Nat.le_of_ble_eq_true rfl, Nat.le_of_ble_eq_true rfl⟩ rfl rfl (Nat.le_of_ble_eq_true rfl) dX7_person_6 rfl ?_
  refine x_if_eq (tgt := 32) C dX7_person_9 (by decide) rfl (fun hc => ?_) (fun hc => ?_)
  · replace hM := gif_pos hc hM
    refine x_ic (v := (-1)) C (by decide) dX7_person_32 rfl ?_
    exact x_iret C E (gs2 hM) dX7_person_33
  · replace hM := gif_neg hc hM
    refine x_iln C 2 rfl dX7_person_12 rfl ?_
    refine x_i2l C dX7_person_13 rfl ?_
    refine x_lc (v := 0) C (by decide) dX7_person_14 rfl ?_
    refine x_ldc2 (v := 60) C (gBc kk_X7_58) dX7_person_15 rfl ?_
    obtain ⟨r4, h3, hM⟩ := gb1_some hM
    refine x_csi (As := [.long a1.toInt64, .long 0, .long 60]) (rest := []) C E.2.2.2.2.2 3 (c_X7_in hG h3) (gBs km_X7_50 kst_X7_in kini_X7 kc_X7_in) rfl rfl rfl ⟨by decide +kernel, by decide +kernel, by decide +kernel⟩ ⟨Nat.le_of_ble_eq_true rfl, Nat.le_of_ble_eq_true rfl⟩ rfl rfl (Nat.le_of_ble_eq_true rfl) dX7_person_18 rfl ?_
    refine x_if_eq (tgt := 32) C dX7_person_21 (by decide) rfl (fun hc => ?_) (fun hc => ?_)
    · replace hM := gif_pos hc hM
      refine x_ic (v := (-1)) C (by decide) dX7_person_32 rfl ?_
      exact x_iret C E (gs2 hM) dX7_person_33
    · replace hM := gif_neg hc hM
      refine x_aln C 0 rfl dX7_person_24 rfl ?_
      refine x_iln C 3 rfl dX7_person_25 rfl ?_
      obtain ⟨r6, h5, hM⟩ := gb1_some hM
      refine x_cvi (As := [.int a2]) (rest := []) C E.2.2.2.2.2 1 (c_X7_isPlace hG h5) (gBv km_X7_70 kin_X7_isPlace ksel_X7_isPlace kini_X7 kc_X7_isPlace) rfl rfl rfl ⟨rfl, by decide +kernel, by decide +kernel, by decide +kernel⟩ ⟨Nat.le_of_ble_eq_true rfl, Nat.le_of_ble_eq_true rfl⟩ (by show 0 < 14; decide) rfl rfl rfl rfl (Nat.le_of_ble_eq_true rfl) dX7_person_26 rfl ?_
      refine x_if_ne (tgt := 34) C dX7_person_29 (by decide) rfl (fun hc => ?_) (fun hc => ?_)
      · replace hM := gif_neg hc hM
        refine x_aln C 0 rfl dX7_person_34 rfl ?_
        refine gMg_0_z C kf_X7_7 dX7_person_35 rfl ?_
        refine x_bi (v := 63) C (by decide) dX7_person_38 rfl ?_
        obtain ⟨h7, hM⟩ := gck_some hM
        refine gMa_1 C h7 dX7_person_40 rfl ?_
        refine x_bi (v := 8) C (by decide) dX7_person_41 rfl ?_
        refine x_ic_ne (tgt := 49) C dX7_person_43 (by decide) rfl (fun hc => ?_) (fun hc => ?_)
        · replace hM := gif_neg hc hM
          refine x_aln C 0 rfl dX7_person_49 rfl ?_
          refine gMg_0_z C kf_X7_7 dX7_person_50 rfl ?_
          refine x_bi (v := 63) C (by decide) dX7_person_53 rfl ?_
          obtain ⟨h8, hM⟩ := gck_some hM
          refine gMa_1 C h8 dX7_person_55 rfl ?_
          obtain ⟨x4_9, ev, hM⟩ := gnm_ex hM
          refine x_ist (lv' := [(4, .int x4_9), (0, .ref (ad 0)), (1, .int a0), (2, .int a1), (3, .int a2)]) C ev (by decide) rfl dX7_person_56 rfl ?_
          refine x_aln C 1 rfl dX7_person_58 rfl ?_
          refine gMg_0_z C kf_X7_7 dX7_person_59 rfl ?_
          refine x_bi (v := 66) C (by decide) dX7_person_62 rfl ?_
          refine x_il C 0 rfl dX7_person_64 rfl ?_
          refine x_iadd C dX7_person_66 rfl ?_
          refine x_iln C 2 rfl dX7_person_67 rfl ?_
          obtain ⟨h10, hM⟩ := gck_some hM
          obtain ⟨s11, ev, hM⟩ := gnm_ex hM
          refine gMs_1 C ev h10 dX7_person_68 rfl ?_
          refine x_aln C 1 rfl dX7_person_69 rfl ?_
          refine gMg_0_z C kf_X7_7 dX7_person_70 rfl ?_
          refine x_bi (v := 74) C (by decide) dX7_person_73 rfl ?_
          refine x_il C 0 rfl dX7_person_75 rfl ?_
          refine x_iadd C dX7_person_77 rfl ?_
          refine x_iln C 3 rfl dX7_person_78 rfl ?_
          obtain ⟨h12, hM⟩ := gck_some hM
          obtain ⟨s13, ev, hM⟩ := gnm_ex hM
          refine gMs_1 C ev h12 dX7_person_79 rfl ?_
          refine x_aln C 1 rfl dX7_person_80 rfl ?_
          refine gMg_0_z C kf_X7_7 dX7_person_81 rfl ?_
          refine x_bi (v := 82) C (by decide) dX7_person_84 rfl ?_
          refine x_il C 0 rfl dX7_person_86 rfl ?_
          refine x_iadd C dX7_person_88 rfl ?_
          refine x_iln C 4 rfl dX7_person_89 rfl ?_
          obtain ⟨h14, hM⟩ := gck_some hM
          obtain ⟨s15, ev, hM⟩ := gnm_ex hM
          refine gMs_1 C ev h14 dX7_person_90 rfl ?_
          refine x_aln C 1 rfl dX7_person_91 rfl ?_
          refine gMg_0_z C kf_X7_7 dX7_person_92 rfl ?_
          refine x_bi (v := 63) C (by decide) dX7_person_95 rfl ?_
          refine x_dup2 C rfl rfl dX7_person_97 rfl ?_
          obtain ⟨h16, hM⟩ := gck_some hM
          refine gMa_1 C h16 dX7_person_98 rfl ?_
          refine x_ic (v := 1) C (by decide) dX7_person_99 rfl ?_
          refine x_iadd C dX7_person_100 rfl ?_
          obtain ⟨h17, hM⟩ := gck_some hM
          obtain ⟨s18, ev, hM⟩ := gnm_ex hM
          refine gMs_1 C ev h17 dX7_person_101 rfl ?_
          refine x_il C 0 rfl dX7_person_102 rfl ?_
          exact x_iret C E (gs2 hM) dX7_person_104
        · replace hM := gif_pos hc hM
          refine x_bi (v := (-3)) C (by decide) dX7_person_46 rfl ?_
          exact x_iret C E (gs2 hM) dX7_person_48
      · replace hM := gif_pos hc hM
        refine x_ic (v := (-1)) C (by decide) dX7_person_32 rfl ?_
        exact x_iret C E (gs2 hM) dX7_person_33
set_option maxRecDepth 100000 in
set_option maxHeartbeats 4000000 in
theorem c_X7_isPerson {l : Launch} {D : va_G} {ad : Nat → Nat} {cy : Nat → ClassId} {b : Nat} (hG : gInj (gGM D ad cy b)) {a0 : Int32} {σ : gMem} {r0 : Int32} (hM : m_X7_isPerson a0 σ = some r0) : gMi l yX7_isPerson (Cond.code yX7_isPerson cX7_isPerson 2 (some .boolean) :: gBig) { frames := 1, cells := 0, slots := 0, locals := 25 } (gGM D ad cy b) [.ref (ad 0), .int a0] σ r0 σ := by
  refine gIntro (own := RX7) hG (by decide +kernel) rfl rfl (Nat.le_of_ble_eq_true rfl) (lv := [(0, .ref (ad 0)), (1, .int a0)]) rfl (fun κ C E => ?_)
  unfold m_X7_isPerson at hM
  refine x_iln C 1 rfl dX7_isPerson_0 rfl ?_
  refine x_i2l C dX7_isPerson_1 rfl ?_
  refine x_lc (v := 0) C (by decide) dX7_isPerson_2 rfl ?_
  refine x_aln C 0 rfl dX7_isPerson_3 rfl ?_
  refine gMg_0_z C kf_X7_7 dX7_isPerson_4 rfl ?_
  refine x_bi (v := 63) C (by decide) dX7_isPerson_7 rfl ?_
  obtain ⟨h1, hM⟩ := gck_some hM
  refine gMa_1 C h1 dX7_isPerson_9 rfl ?_
  refine x_ic (v := 1) C (by decide) dX7_isPerson_10 rfl ?_
  refine x_isub C dX7_isPerson_11 rfl ?_
  refine x_i2l C dX7_isPerson_12 rfl ?_
  obtain ⟨r3, h2, hM⟩ := gb1_some hM
  refine x_csi (As := [.long a0.toInt64, .long 0, .long (((σ 1 (63 : Int32).toNatClampNeg) - 1).toInt64)]) (rest := []) C E.2.2.2.2.2 3 (c_X7_in hG h2) (gBs km_X7_50 kst_X7_in kini_X7 kc_X7_in) rfl rfl rfl ⟨by decide +kernel, by decide +kernel, by decide +kernel⟩ ⟨Nat.le_of_ble_eq_true rfl, Nat.le_of_ble_eq_true rfl⟩ rfl rfl (Nat.le_of_ble_eq_true rfl) dX7_isPerson_13 rfl ?_
  obtain ⟨h4, hM⟩ := gck_some hM
  exact x_zret C E h4 ⟨gs1 hM, rfl⟩ dX7_isPerson_16
set_option maxRecDepth 100000 in
set_option maxHeartbeats 4000000 in
theorem c_X7_byKind {l : Launch} {D : va_G} {ad : Nat → Nat} {cy : Nat → ClassId} {b : Nat} (hG : gInj (gGM D ad cy b)) {a0 : Int32} {a1 : Int32} {a2 : Int32} {σ : gMem} {r0 : Int32} (hM : m_X7_byKind a0 a1 a2 σ = some r0) : gMi l yX7_byKind (Cond.code yX7_byKind cX7_byKind 3 (some .int) :: gBig) { frames := 0, cells := 0, slots := 0, locals := 0 } (gGM D ad cy b) [.int a0, .int a1, .int a2] σ r0 σ := by
  refine gIntro (own := RX7) hG (by decide +kernel) rfl rfl (Nat.le_of_ble_eq_true rfl) (lv := [(0, .int a0), (1, .int a1), (2, .int a2)]) rfl (fun κ C E => ?_)
  unfold m_X7_byKind at hM
  refine x_iln C 0 rfl dX7_byKind_0 rfl ?_
  refine x_ic (v := 2) C (by decide) dX7_byKind_1 rfl ?_
  refine x_ic_ne (tgt := 18) C dX7_byKind_2 (by decide) rfl (fun hc => ?_) (fun hc => ?_)
  · replace hM := gif_neg hc hM
    refine x_iln C 0 rfl dX7_byKind_18 rfl ?_
    refine x_ic (v := 3) C (by decide) dX7_byKind_19 rfl ?_
    refine x_ic_ne (tgt := 29) C dX7_byKind_20 (by decide) rfl (fun hc => ?_) (fun hc => ?_)
    · replace hM := gif_neg hc hM
      refine x_iln C 1 rfl dX7_byKind_29 rfl ?_
      exact x_iret C E ⟨gs1 hM, rfl⟩ dX7_byKind_30
    · replace hM := gif_pos hc hM
      refine x_iln C 1 rfl dX7_byKind_23 rfl ?_
      refine x_iln C 2 rfl dX7_byKind_24 rfl ?_
      refine x_iadd C dX7_byKind_25 rfl ?_
      refine x_goto (tgt := 30) C dX7_byKind_26 (by decide) ?_
      exact x_iret C E ⟨gs1 hM, rfl⟩ dX7_byKind_30
  · replace hM := gif_pos hc hM
    refine x_iln C 1 rfl dX7_byKind_5 rfl ?_
    refine x_ic (v := 2) C (by decide) dX7_byKind_6 rfl ?_
    refine x_ic_le (tgt := 16) C dX7_byKind_7 (by decide) rfl (fun hc => ?_) (fun hc => ?_)
    · replace hM := gif_pos hc hM
      refine x_ic (v := 0) C (by decide) dX7_byKind_16 rfl ?_
      exact x_iret C E ⟨gs1 hM, rfl⟩ dX7_byKind_17
    · replace hM := gif_neg hc hM
      refine x_iln C 1 rfl dX7_byKind_10 rfl ?_
      refine x_ic (v := 2) C (by decide) dX7_byKind_11 rfl ?_
      refine x_isub C dX7_byKind_12 rfl ?_
      refine x_goto (tgt := 17) C dX7_byKind_13 (by decide) ?_
      exact x_iret C E ⟨gs1 hM, rfl⟩ dX7_byKind_17
set_option maxRecDepth 100000 in
set_option maxHeartbeats 4000000 in
theorem c_X7_of {l : Launch} {D : va_G} {ad : Nat → Nat} {cy : Nat → ClassId} {b : Nat} (hG : gInj (gGM D ad cy b)) {a0 : Int32} {a1 : Int32} {σ : gMem} {r0 : Int32} (hM : m_X7_of a0 a1 σ = some r0) : gMi l yX7_of (Cond.code yX7_of cX7_of 3 (some .int) :: gBig) { frames := 2, cells := 0, slots := 0, locals := 46 } (gGM D ad cy b) [.ref (ad 0), .int a0, .int a1] σ r0 σ := by
  refine gIntro (own := RX7) hG (by decide +kernel) rfl rfl (Nat.le_of_ble_eq_true rfl) (lv := [(0, .ref (ad 0)), (1, .int a0), (2, .int a1)]) rfl (fun κ C E => ?_)
  unfold m_X7_of at hM
  refine x_aln C 0 rfl dX7_of_0 rfl ?_
  refine x_iln C 1 rfl dX7_of_1 rfl ?_
  obtain ⟨r2, h1, hM⟩ := gb1_some hM
  refine x_cvi (As := [.int a0]) (rest := []) C E.2.2.2.2.2 1 (c_X7_isPerson hG h1) (gBv km_X7_95 kin_X7_isPerson ksel_X7_isPerson kini_X7 kc_X7_isPerson) rfl rfl rfl ⟨rfl, by decide +kernel, by decide +kernel, by decide +kernel⟩ ⟨Nat.le_of_ble_eq_true rfl, Nat.le_of_ble_eq_true rfl⟩ (by show 0 < 14; decide) rfl rfl rfl rfl (Nat.le_of_ble_eq_true rfl) dX7_of_2 rfl ?_
  refine x_if_eq (tgt := 20) C dX7_of_5 (by decide) rfl (fun hc => ?_) (fun hc => ?_)
  · replace hM := gif_pos hc hM
    refine x_ic (v := (-1)) C (by decide) dX7_of_20 rfl ?_
    exact x_iret C E ⟨gs1 hM, rfl⟩ dX7_of_21
  · replace hM := gif_neg hc hM
    refine x_iln C 2 rfl dX7_of_8 rfl ?_
    refine x_i2l C dX7_of_9 rfl ?_
    refine x_lc (v := 0) C (by decide) dX7_of_10 rfl ?_
    refine x_ldc2 (v := 3) C (gBc kk_X7_93) dX7_of_11 rfl ?_
    obtain ⟨r4, h3, hM⟩ := gb1_some hM
    refine x_csi (As := [.long a1.toInt64, .long 0, .long 3]) (rest := []) C E.2.2.2.2.2 3 (c_X7_in hG h3) (gBs km_X7_50 kst_X7_in kini_X7 kc_X7_in) rfl rfl rfl ⟨by decide +kernel, by decide +kernel, by decide +kernel⟩ ⟨Nat.le_of_ble_eq_true rfl, Nat.le_of_ble_eq_true rfl⟩ rfl rfl (Nat.le_of_ble_eq_true rfl) dX7_of_14 rfl ?_
    refine x_if_ne (tgt := 22) C dX7_of_17 (by decide) rfl (fun hc => ?_) (fun hc => ?_)
    · replace hM := gif_neg hc hM
      refine x_iln C 2 rfl dX7_of_22 rfl ?_
      refine x_ic (v := 2) C (by decide) dX7_of_23 rfl ?_
      refine x_ic_ne (tgt := 56) C dX7_of_24 (by decide) rfl (fun hc => ?_) (fun hc => ?_)
      · replace hM := gif_neg hc hM
        refine x_iln C 2 rfl dX7_of_56 rfl ?_
        refine x_if_ne (tgt := 72) C dX7_of_57 (by decide) rfl (fun hc => ?_) (fun hc => ?_)
        · replace hM := gif_neg hc hM
          refine x_iln C 2 rfl dX7_of_72 rfl ?_
          refine x_ic (v := 1) C (by decide) dX7_of_73 rfl ?_
          refine x_ic_ne (tgt := 89) C dX7_of_74 (by decide) rfl (fun hc => ?_) (fun hc => ?_)
          · replace hM := gif_neg hc hM
            refine x_aln C 0 rfl dX7_of_89 rfl ?_
            refine gMg_0_z C kf_X7_7 dX7_of_90 rfl ?_
            refine x_bi (v := 82) C (by decide) dX7_of_93 rfl ?_
            refine x_iln C 1 rfl dX7_of_95 rfl ?_
            refine x_iadd C dX7_of_96 rfl ?_
            obtain ⟨h5, hM⟩ := gck_some hM
            refine gMa_1 C h5 dX7_of_97 rfl ?_
            exact x_iret C E ⟨gs1 hM, rfl⟩ dX7_of_98
          · replace hM := gif_pos hc hM
            refine x_aln C 0 rfl dX7_of_77 rfl ?_
            refine gMg_0_z C kf_X7_7 dX7_of_78 rfl ?_
            refine x_bi (v := 74) C (by decide) dX7_of_81 rfl ?_
            refine x_iln C 1 rfl dX7_of_83 rfl ?_
            refine x_iadd C dX7_of_84 rfl ?_
            obtain ⟨h6, hM⟩ := gck_some hM
            refine gMa_1 C h6 dX7_of_85 rfl ?_
            refine x_goto (tgt := 98) C dX7_of_86 (by decide) ?_
            exact x_iret C E ⟨gs1 hM, rfl⟩ dX7_of_98
        · replace hM := gif_pos hc hM
          refine x_aln C 0 rfl dX7_of_60 rfl ?_
          refine gMg_0_z C kf_X7_7 dX7_of_61 rfl ?_
          refine x_bi (v := 66) C (by decide) dX7_of_64 rfl ?_
          refine x_iln C 1 rfl dX7_of_66 rfl ?_
          refine x_iadd C dX7_of_67 rfl ?_
          obtain ⟨h7, hM⟩ := gck_some hM
          refine gMa_1 C h7 dX7_of_68 rfl ?_
          refine x_goto (tgt := 98) C dX7_of_69 (by decide) ?_
          exact x_iret C E ⟨gs1 hM, rfl⟩ dX7_of_98
      · replace hM := gif_pos hc hM
        refine x_aln C 0 rfl dX7_of_27 rfl ?_
        refine gMg_0_z C kf_X7_7 dX7_of_28 rfl ?_
        refine x_bi (v := 66) C (by decide) dX7_of_31 rfl ?_
        refine x_iln C 1 rfl dX7_of_33 rfl ?_
        refine x_iadd C dX7_of_34 rfl ?_
        obtain ⟨h8, hM⟩ := gck_some hM
        refine gMa_1 C h8 dX7_of_35 rfl ?_
        refine x_aln C 0 rfl dX7_of_36 rfl ?_
        refine gMg_0_z C kf_X7_7 dX7_of_37 rfl ?_
        refine x_bi (v := 74) C (by decide) dX7_of_40 rfl ?_
        refine x_iln C 1 rfl dX7_of_42 rfl ?_
        refine x_iadd C dX7_of_43 rfl ?_
        obtain ⟨h9, hM⟩ := gck_some hM
        refine gMa_1 C h9 dX7_of_44 rfl ?_
        refine x_aln C 0 rfl dX7_of_45 rfl ?_
        refine gMg_0_z C kf_X7_7 dX7_of_46 rfl ?_
        refine x_bi (v := 65) C (by decide) dX7_of_49 rfl ?_
        obtain ⟨h10, hM⟩ := gck_some hM
        refine gMa_1 C h10 dX7_of_51 rfl ?_
        obtain ⟨r12, h11, hM⟩ := gb1_some hM
        refine x_csi (As := [.int (σ 1 (66 + a0).toNatClampNeg), .int (σ 1 (74 + a0).toNatClampNeg), .int (σ 1 (65 : Int32).toNatClampNeg)]) (rest := []) C E.2.2.2.2.2 3 (c_X7_byKind hG h11) (gBs km_X7_98 kst_X7_byKind kini_X7 kc_X7_byKind) rfl rfl rfl ⟨by decide +kernel, by decide +kernel, by decide +kernel⟩ ⟨Nat.le_of_ble_eq_true rfl, Nat.le_of_ble_eq_true rfl⟩ rfl rfl (Nat.le_of_ble_eq_true rfl) dX7_of_52 rfl ?_
        exact x_iret C E ⟨gs1 hM, rfl⟩ dX7_of_55
    · replace hM := gif_pos hc hM
      refine x_ic (v := (-1)) C (by decide) dX7_of_20 rfl ?_
      exact x_iret C E ⟨gs1 hM, rfl⟩ dX7_of_21
set_option maxRecDepth 100000 in
set_option maxHeartbeats 4000000 in
theorem c_X7_type {l : Launch} {D : va_G} {ad : Nat → Nat} {cy : Nat → ClassId} {b : Nat} (hG : gInj (gGM D ad cy b)) {a0 : Int64} {a1 : Int32} {σ : gMem} {r0 : Int32} {σ0 : gMem} (hM : m_X7_type a0 a1 σ = some (r0, σ0)) : gMi l yX7_type (Cond.code yX7_type cX7_type 5 (some .int) :: gBig) { frames := 1, cells := 0, slots := 0, locals := 25 } (gGM D ad cy b) [.ref (ad 0), .long a0, .int a1] σ r0 σ0 := by
  refine gIntro (own := RX7) hG (by decide +kernel) rfl rfl (Nat.le_of_ble_eq_true rfl) (lv := [(0, .ref (ad 0)), (1, .long a0), (3, .int a1)]) rfl (fun κ C E => ?_)
  unfold m_X7_type at hM
  refine x_iln C 2 rfl dX7_type_0 rfl ?_
  refine x_i2l C dX7_type_1 rfl ?_
  refine x_lc (v := 1) C (by decide) dX7_type_2 rfl ?_
  refine x_ldc2 (v := 8) C (gBc kk_X7_102) dX7_type_3 rfl ?_
  obtain ⟨r2, h1, hM⟩ := gb1_some hM
  refine x_csi (As := [.long a1.toInt64, .long 1, .long 8]) (rest := []) C E.2.2.2.2.2 3 (c_X7_in hG h1) (gBs km_X7_50 kst_X7_in kini_X7 kc_X7_in) rfl rfl rfl ⟨by decide +kernel, by decide +kernel, by decide +kernel⟩ ⟨Nat.le_of_ble_eq_true rfl, Nat.le_of_ble_eq_true rfl⟩ rfl rfl (Nat.le_of_ble_eq_true rfl) dX7_type_6 rfl ?_
  refine x_if_ne (tgt := 14) C dX7_type_9 (by decide) rfl (fun hc => ?_) (fun hc => ?_)
  · replace hM := gif_neg hc hM
    refine x_ic (v := 0) C (by decide) dX7_type_14 rfl ?_
    refine x_ist (lv' := [(4, .int 0), (0, .ref (ad 0)), (1, .long a0), (3, .int a1)]) C rfl (by decide) rfl dX7_type_15 rfl ?_
    have L17 : ∀ (n : Nat) (x4_3 : Int32) (t4 : Nat), m_X7_type_17 a0 a1 σ n x4_3 = some (t4) → (t4 = 0 → wx κ (gGM D ad cy b) (gA (gGM D ad cy b)) 5 σ 46 [] []) → (t4 = 1 → wx κ (gGM D ad cy b) (gA (gGM D ad cy b)) 5 σ 54 [(0, .ref (ad 0)), (1, .long a0), (3, .int a1)] []) → wx κ (gGM D ad cy b) (gA (gGM D ad cy b)) 5 σ 17 [(0, .ref (ad 0)), (1, .long a0), (3, .int a1), (4, .int x4_3)] [] := by
      clear hM
      intro n
      induction n with
      | zero => intro _ _ hM; cases hM
      | succ n ih =>
        intro x4_3 t4 hM kx0 kx1
        replace hM : b_X7_type_17 a0 a1 σ (m_X7_type_17 a0 a1 σ n) x4_3 = some (t4) := hM
        unfold b_X7_type_17 at hM
        refine x_il C 3 rfl dX7_type_17 rfl ?_
        refine x_iln C 2 rfl dX7_type_19 rfl ?_
        refine x_ic_ge (tgt := 54) C dX7_type_20 (by decide) rfl (fun hc => ?_) (fun hc => ?_)
        · replace hM := gif_pos hc hM
          cases hM
          exact x_sub [0, 1, 2] rfl (kx1 rfl)
        · replace hM := gif_neg hc hM
          refine x_lln C 1 rfl dX7_type_23 rfl ?_
          refine x_bi (v := 8) C (by decide) dX7_type_24 rfl ?_
          refine x_il C 3 rfl dX7_type_26 rfl ?_
          refine x_imul C dX7_type_28 rfl ?_
          refine x_lshr C dX7_type_29 rfl ?_
          refine x_ldc2 (v := 255) C (gBc kk_X7_104) dX7_type_30 rfl ?_
          refine x_land C dX7_type_33 rfl ?_
          refine x_ldc2 (v := 32) C (gBc kk_X7_106) dX7_type_34 rfl ?_
          refine x_ldc2 (v := 126) C (gBc kk_X7_108) dX7_type_37 rfl ?_
          obtain ⟨r6, h5, hM⟩ := gb1_some hM
          refine x_csi (As := [.long ((a0 >>> ((8 * x4_3).toInt64 &&& 63)) &&& 255), .long 32, .long 126]) (rest := []) C E.2.2.2.2.2 3 (c_X7_in hG h5) (gBs km_X7_50 kst_X7_in kini_X7 kc_X7_in) rfl rfl rfl ⟨by decide +kernel, by decide +kernel, by decide +kernel⟩ ⟨Nat.le_of_ble_eq_true rfl, Nat.le_of_ble_eq_true rfl⟩ rfl rfl (Nat.le_of_ble_eq_true rfl) dX7_type_40 rfl ?_
          refine x_if_ne (tgt := 48) C dX7_type_43 (by decide) rfl (fun hc => ?_) (fun hc => ?_)
          · replace hM := gif_neg hc hM
            obtain ⟨x4_7, ev, hM⟩ := gnm_ex hM
            refine x_iinc (j := 3) (w := 1) (lv' := [(4, .int x4_7), (0, .ref (ad 0)), (1, .long a0), (3, .int a1)]) C rfl ev (by decide) (by decide) rfl dX7_type_48 rfl ?_
            refine x_goto (tgt := 17) C dX7_type_51 (by decide) ?_
            exact x_sub [1, 2, 3, 0] rfl (ih x4_7 _ hM kx0 kx1)
          · replace hM := gif_pos hc hM
            cases hM
            exact x_sub [] rfl (kx0 rfl)
    obtain ⟨t4, hL8, hM⟩ := gb1_some hM
    refine x_sub [1, 2, 3, 0] rfl (L17 gFU 0 _ hL8 (fun ht => ?_) (fun ht => ?_))
    · clear L17
      replace hM := gif_pos ht hM
      refine x_ic (v := (-1)) C (by decide) dX7_type_46 rfl ?_
      exact x_iret C E (gs2 hM) dX7_type_47
    · clear L17
      replace hM := gif_neg (by omega : ¬ t4 = 0) hM
      refine x_aln C 0 rfl dX7_type_54 rfl ?_
      refine gMg_0_taped C kf_X7_110 dX7_type_55 rfl ?_
      refine x_iln C 2 rfl dX7_type_58 rfl ?_
      refine x_iadd C dX7_type_59 rfl ?_
      refine x_bi (v := 80) C (by decide) dX7_type_60 rfl ?_
      refine x_ic_le (tgt := 68) C dX7_type_62 (by decide) rfl (fun hc => ?_) (fun hc => ?_)
      · replace hM := gif_pos hc hM
        refine x_iln C 2 rfl dX7_type_68 rfl ?_
        refine x_ic (v := 1) C (by decide) dX7_type_69 rfl ?_
        refine x_isub C dX7_type_70 rfl ?_
        obtain ⟨x4_9, ev, hM⟩ := gnm_ex hM
        refine x_ist (lv' := [(4, .int x4_9), (0, .ref (ad 0)), (1, .long a0), (3, .int a1)]) C ev (by decide) rfl dX7_type_71 rfl ?_
        have L73 : ∀ (n : Nat) (x4_10 : Int32) (s11 : gMem) (s12 : gMem), m_X7_type_73 a0 n x4_10 s11 = some (s12) → (wx κ (gGM D ad cy b) (gA (gGM D ad cy b)) 5 s12 115 [(0, .ref (ad 0))] []) → wx κ (gGM D ad cy b) (gA (gGM D ad cy b)) 5 s11 73 [(0, .ref (ad 0)), (1, .long a0), (4, .int x4_10)] [] := by
          clear hM
          intro n
          induction n with
          | zero => intro _ _ _ hM; cases hM
          | succ n ih =>
            intro x4_10 s11 s12 hM kx0
            replace hM : b_X7_type_73 a0 (m_X7_type_73 a0 n) x4_10 s11 = some (s12) := hM
            unfold b_X7_type_73 at hM
            refine x_il C 2 rfl dX7_type_73 rfl ?_
            refine x_if_lt (tgt := 115) C dX7_type_75 (by decide) rfl (fun hc => ?_) (fun hc => ?_)
            · replace hM := gif_pos hc hM
              cases hM
              exact x_sub [0] rfl (kx0)
            · replace hM := gif_neg hc hM
              refine x_aln C 0 rfl dX7_type_78 rfl ?_
              refine gMg_0_tape C kf_X7_13 dX7_type_79 rfl ?_
              refine x_aln C 0 rfl dX7_type_82 rfl ?_
              refine gMg_0_taped C kf_X7_110 dX7_type_83 rfl ?_
              refine x_lln C 1 rfl dX7_type_86 rfl ?_
              refine x_bi (v := 8) C (by decide) dX7_type_87 rfl ?_
              refine x_il C 2 rfl dX7_type_89 rfl ?_
              refine x_imul C dX7_type_91 rfl ?_
              refine x_lshr C dX7_type_92 rfl ?_
              refine x_ldc2 (v := 255) C (gBc kk_X7_104) dX7_type_93 rfl ?_
              refine x_land C dX7_type_96 rfl ?_
              refine x_l2i C dX7_type_97 rfl ?_
              obtain ⟨h13, hM⟩ := gck_some hM
              obtain ⟨s14, ev, hM⟩ := gnm_ex hM
              refine gMs_2 C ev h13 dX7_type_98 rfl ?_
              refine x_aln C 0 rfl dX7_type_99 rfl ?_
              refine x_dup C rfl dX7_type_100 rfl ?_
              refine gMg_0_taped C kf_X7_110 dX7_type_101 rfl ?_
              refine x_ic (v := 1) C (by decide) dX7_type_104 rfl ?_
              refine x_iadd C dX7_type_105 rfl ?_
              obtain ⟨s15, ev, hM⟩ := gnm_ex hM
              refine gMp_0_taped C ev kf_X7_110 dX7_type_106 rfl ?_
              obtain ⟨x4_16, ev, hM⟩ := gnm_ex hM
              refine x_iinc (j := 2) (w := (-1)) (lv' := [(4, .int x4_16), (0, .ref (ad 0)), (1, .long a0)]) C rfl ev (by decide) (by decide) rfl dX7_type_109 rfl ?_
              refine x_goto (tgt := 73) C dX7_type_112 (by decide) ?_
              exact x_sub [1, 2, 0] rfl (ih x4_16 s15 _ hM kx0)
        obtain ⟨s12, hL17, hM⟩ := gb1_some hM
        refine x_sub [1, 2, 0] rfl (L73 gFU x4_9 σ _ hL17 ?_)
        clear L73
        refine x_aln C 0 rfl dX7_type_115 rfl ?_
        refine gMg_0_taped C kf_X7_110 dX7_type_116 rfl ?_
        exact x_iret C E (gs2 hM) dX7_type_119
      · replace hM := gif_neg hc hM
        refine x_bi (v := (-3)) C (by decide) dX7_type_65 rfl ?_
        exact x_iret C E (gs2 hM) dX7_type_67
  · replace hM := gif_pos hc hM
    refine x_ic (v := (-1)) C (by decide) dX7_type_12 rfl ?_
    exact x_iret C E (gs2 hM) dX7_type_13
set_option maxRecDepth 100000 in
set_option maxHeartbeats 4000000 in
theorem c_X7_begin {l : Launch} {D : va_G} {ad : Nat → Nat} {cy : Nat → ClassId} {b : Nat} (hG : gInj (gGM D ad cy b))  {σ : gMem} {σ0 : gMem} (hM : m_X7_begin  σ = some σ0) : gMv l yX7_begin (Cond.code yX7_begin cX7_begin 1 none :: gBig) { frames := 0, cells := 0, slots := 0, locals := 0 } (gGM D ad cy b) [.ref (ad 0)] σ σ0 := by
  refine gIntro (own := RX7) hG (by decide +kernel) rfl rfl (Nat.le_of_ble_eq_true rfl) (lv := [(0, .ref (ad 0))]) rfl (fun κ C E => ?_)
  unfold m_X7_begin at hM
  refine x_aln C 0 rfl dX7_begin_0 rfl ?_
  refine x_ic (v := 0) C (by decide) dX7_begin_1 rfl ?_
  obtain ⟨s1, ev, hM⟩ := gnm_ex hM
  refine gMp_0_at C ev kf_X7_114 dX7_begin_2 rfl ?_
  refine x_aln C 0 rfl dX7_begin_5 rfl ?_
  refine x_ic (v := (-1)) C (by decide) dX7_begin_6 rfl ?_
  obtain ⟨s2, ev, hM⟩ := gnm_ex hM
  refine gMp_0_fault C ev kf_X7_117 dX7_begin_7 rfl ?_
  exact x_vret C E (gs1 hM) dX7_begin_10
set_option maxRecDepth 100000 in
set_option maxHeartbeats 4000000 in
theorem c_X7_next {l : Launch} {D : va_G} {ad : Nat → Nat} {cy : Nat → ClassId} {b : Nat} (hG : gInj (gGM D ad cy b))  {σ : gMem} {r0 : Int32} {σ0 : gMem} (hM : m_X7_next  σ = some (r0, σ0)) : gMi l yX7_next (Cond.code yX7_next cX7_next 1 (some .int) :: gBig) { frames := 0, cells := 0, slots := 0, locals := 0 } (gGM D ad cy b) [.ref (ad 0)] σ r0 σ0 := by
  refine gIntro (own := RX7) hG (by decide +kernel) rfl rfl (Nat.le_of_ble_eq_true rfl) (lv := [(0, .ref (ad 0))]) rfl (fun κ C E => ?_)
  unfold m_X7_next at hM
  have L0 : ∀ (n : Nat) (s1 : gMem) (s2 : gMem), m_X7_next_0 n s1 = some (s2) → (wx κ (gGM D ad cy b) (gA (gGM D ad cy b)) 1 s2 38 [(0, .ref (ad 0))] []) → wx κ (gGM D ad cy b) (gA (gGM D ad cy b)) 1 s1 0 [(0, .ref (ad 0))] [] := by
    clear hM
    intro n
    induction n with
    | zero => intro _ _ hM; cases hM
    | succ n ih =>
      intro s1 s2 hM kx0
      replace hM : b_X7_next_0 (m_X7_next_0 n) s1 = some (s2) := hM
      unfold b_X7_next_0 at hM
      refine x_aln C 0 rfl dX7_next_0 rfl ?_
      refine gMg_0_at C kf_X7_114 dX7_next_1 rfl ?_
      refine x_aln C 0 rfl dX7_next_4 rfl ?_
      refine gMg_0_taped C kf_X7_110 dX7_next_5 rfl ?_
      refine x_ic_ge (tgt := 38) C dX7_next_8 (by decide) rfl (fun hc => ?_) (fun hc => ?_)
      · replace hM := gif_pos hc hM
        cases hM
        exact x_sub [0] rfl (kx0)
      · replace hM := gif_neg hc hM
        refine x_aln C 0 rfl dX7_next_11 rfl ?_
        refine gMg_0_tape C kf_X7_13 dX7_next_12 rfl ?_
        refine x_aln C 0 rfl dX7_next_15 rfl ?_
        refine gMg_0_at C kf_X7_114 dX7_next_16 rfl ?_
        obtain ⟨h3, hM⟩ := gck_some hM
        refine gMa_2 C h3 dX7_next_19 rfl ?_
        refine x_bi (v := 32) C (by decide) dX7_next_20 rfl ?_
        refine x_ic_ne (tgt := 38) C dX7_next_22 (by decide) rfl (fun hc => ?_) (fun hc => ?_)
        · replace hM := gif_neg hc hM
          cases hM
          exact x_sub [0] rfl (kx0)
        · replace hM := gif_pos hc hM
          refine x_aln C 0 rfl dX7_next_25 rfl ?_
          refine x_dup C rfl dX7_next_26 rfl ?_
          refine gMg_0_at C kf_X7_114 dX7_next_27 rfl ?_
          refine x_ic (v := 1) C (by decide) dX7_next_30 rfl ?_
          refine x_iadd C dX7_next_31 rfl ?_
          obtain ⟨s4, ev, hM⟩ := gnm_ex hM
          refine gMp_0_at C ev kf_X7_114 dX7_next_32 rfl ?_
          refine x_goto (tgt := 0) C dX7_next_35 (by decide) ?_
          exact x_sub [0] rfl (ih s4 _ hM kx0)
  obtain ⟨s2, hL5, hM⟩ := gb1_some hM
  refine x_sub [0] rfl (L0 gFU σ _ hL5 ?_)
  clear L0
  refine x_aln C 0 rfl dX7_next_38 rfl ?_
  refine gMg_0_at C kf_X7_114 dX7_next_39 rfl ?_
  refine x_aln C 0 rfl dX7_next_42 rfl ?_
  refine gMg_0_taped C kf_X7_110 dX7_next_43 rfl ?_
  refine x_ic_ge (tgt := 61) C dX7_next_46 (by decide) rfl (fun hc => ?_) (fun hc => ?_)
  · replace hM := gif_pos hc hM
    refine x_ic (v := 0) C (by decide) dX7_next_61 rfl ?_
    exact x_iret C E (gs2 hM) dX7_next_62
  · replace hM := gif_neg hc hM
    refine x_aln C 0 rfl dX7_next_49 rfl ?_
    refine gMg_0_tape C kf_X7_13 dX7_next_50 rfl ?_
    refine x_aln C 0 rfl dX7_next_53 rfl ?_
    refine gMg_0_at C kf_X7_114 dX7_next_54 rfl ?_
    obtain ⟨h6, hM⟩ := gck_some hM
    refine gMa_2 C h6 dX7_next_57 rfl ?_
    refine x_goto (tgt := 62) C dX7_next_58 (by decide) ?_
    exact x_iret C E (gs2 hM) dX7_next_62
set_option maxRecDepth 100000 in
set_option maxHeartbeats 4000000 in
theorem c_X7_takes {l : Launch} {D : va_G} {ad : Nat → Nat} {cy : Nat → ClassId} {b : Nat} (hG : gInj (gGM D ad cy b)) {a0 : Int32} {σ : gMem} {r0 : Int32} {σ0 : gMem} (hM : m_X7_takes a0 σ = some (r0, σ0)) : gMi l yX7_takes (Cond.code yX7_takes cX7_takes 3 (some .boolean) :: gBig) { frames := 1, cells := 0, slots := 0, locals := 20 } (gGM D ad cy b) [.ref (ad 0), .int a0] σ r0 σ0 := by
  refine gIntro (own := RX7) hG (by decide +kernel) rfl rfl (Nat.le_of_ble_eq_true rfl) (lv := [(0, .ref (ad 0)), (1, .int a0)]) rfl (fun κ C E => ?_)
  unfold m_X7_takes at hM
  refine x_aln C 0 rfl dX7_takes_0 rfl ?_
  obtain ⟨r3, s2, h1, hM⟩ := gb2_some hM
  refine x_cvi (As := []) (rest := []) C E.2.2.2.2.2 0 (c_X7_next hG h1) (gBv km_X7_120 kin_X7_next ksel_X7_next kini_X7 kc_X7_next) rfl rfl rfl ⟨rfl, by decide +kernel, by decide +kernel, by decide +kernel⟩ ⟨Nat.le_of_ble_eq_true rfl, Nat.le_of_ble_eq_true rfl⟩ (by show 0 < 14; decide) rfl rfl rfl rfl (Nat.le_of_ble_eq_true rfl) dX7_takes_1 rfl ?_
  refine x_iln C 1 rfl dX7_takes_4 rfl ?_
  obtain ⟨w4, hJ9, hM⟩ := gb1_some hM
  have J1 : wx κ (gGM D ad cy b) (gA (gGM D ad cy b)) 3 s2 13 [(0, .ref (ad 0))] [.int w4] := by
    refine x_istn (lv' := [(2, .int w4), (0, .ref (ad 0))]) C rfl rfl (by decide) rfl dX7_takes_13 rfl ?_
    refine x_aln C 1 rfl dX7_takes_14 rfl ?_
    refine x_dup C rfl dX7_takes_15 rfl ?_
    refine gMg_0_at C kf_X7_114 dX7_takes_16 rfl ?_
    refine x_iln C 0 rfl dX7_takes_19 rfl ?_
    refine x_if_eq (tgt := 27) C dX7_takes_20 (by decide) rfl (fun hc => ?_) (fun hc => ?_)
    · replace hM := gif_pos hc hM
      refine x_ic (v := 0) C (by decide) dX7_takes_27 rfl ?_
      refine x_iadd C dX7_takes_28 rfl ?_
      obtain ⟨s5, ev, hM⟩ := gnm_ex hM
      refine gMp_0_at C ev kf_X7_114 dX7_takes_29 rfl ?_
      refine x_iln C 0 rfl dX7_takes_32 rfl ?_
      obtain ⟨h6, hM⟩ := gck_some hM
      exact x_zret C E h6 (gs2 hM) dX7_takes_33
    · replace hM := gif_neg hc hM
      refine x_ic (v := 1) C (by decide) dX7_takes_23 rfl ?_
      refine x_goto (tgt := 28) C dX7_takes_24 (by decide) ?_
      refine x_iadd C dX7_takes_28 rfl ?_
      obtain ⟨s7, ev, hM⟩ := gnm_ex hM
      refine gMp_0_at C ev kf_X7_114 dX7_takes_29 rfl ?_
      refine x_iln C 0 rfl dX7_takes_32 rfl ?_
      obtain ⟨h8, hM⟩ := gck_some hM
      exact x_zret C E h8 (gs2 hM) dX7_takes_33
  clear hM
  have hM := hJ9
  clear hJ9
  refine x_ic_ne (tgt := 12) C dX7_takes_5 (by decide) rfl (fun hc => ?_) (fun hc => ?_)
  · replace hM := gif_neg hc hM
    refine x_ic (v := 0) C (by decide) dX7_takes_12 rfl ?_
    cases hM
    exact x_sub [0] rfl J1
  · replace hM := gif_pos hc hM
    refine x_ic (v := 1) C (by decide) dX7_takes_8 rfl ?_
    refine x_goto (tgt := 13) C dX7_takes_9 (by decide) ?_
    cases hM
    exact x_sub [0] rfl J1
set_option maxRecDepth 100000 in
set_option maxHeartbeats 4000000 in
theorem c_X7_cannot {l : Launch} {D : va_G} {ad : Nat → Nat} {cy : Nat → ClassId} {b : Nat} (hG : gInj (gGM D ad cy b)) {a0 : Int32} {σ : gMem} {σ0 : gMem} (hM : m_X7_cannot a0 σ = some σ0) : gMv l yX7_cannot (Cond.code yX7_cannot cX7_cannot 2 none :: gBig) { frames := 0, cells := 0, slots := 0, locals := 0 } (gGM D ad cy b) [.ref (ad 0), .int a0] σ σ0 := by
  refine gIntro (own := RX7) hG (by decide +kernel) rfl rfl (Nat.le_of_ble_eq_true rfl) (lv := [(0, .ref (ad 0)), (1, .int a0)]) rfl (fun κ C E => ?_)
  unfold m_X7_cannot at hM
  refine x_aln C 0 rfl dX7_cannot_0 rfl ?_
  refine x_aln C 0 rfl dX7_cannot_1 rfl ?_
  refine gMg_0_fault C kf_X7_117 dX7_cannot_2 rfl ?_
  refine x_if_ge (tgt := 12) C dX7_cannot_5 (by decide) rfl (fun hc => ?_) (fun hc => ?_)
  · replace hM := gif_pos hc hM
    refine x_aln C 0 rfl dX7_cannot_12 rfl ?_
    refine gMg_0_fault C kf_X7_117 dX7_cannot_13 rfl ?_
    obtain ⟨s1, ev, hM⟩ := gnm_ex hM
    refine gMp_0_fault C ev kf_X7_117 dX7_cannot_16 rfl ?_
    exact x_vret C E (gs1 hM) dX7_cannot_19
  · replace hM := gif_neg hc hM
    refine x_iln C 1 rfl dX7_cannot_8 rfl ?_
    refine x_goto (tgt := 16) C dX7_cannot_9 (by decide) ?_
    obtain ⟨s2, ev, hM⟩ := gnm_ex hM
    refine gMp_0_fault C ev kf_X7_117 dX7_cannot_16 rfl ?_
    exact x_vret C E (gs1 hM) dX7_cannot_19
set_option maxRecDepth 100000 in
set_option maxHeartbeats 4000000 in
theorem c_X7_number {l : Launch} {D : va_G} {ad : Nat → Nat} {cy : Nat → ClassId} {b : Nat} (hG : gInj (gGM D ad cy b)) {a0 : Int32} {a1 : Int32} {a2 : Int32} {σ : gMem} {σ0 : gMem} (hM : m_X7_number a0 a1 a2 σ = some σ0) : gMv l yX7_number (Cond.code yX7_number cX7_number 7 none :: gBig) { frames := 1, cells := 0, slots := 0, locals := 25 } (gGM D ad cy b) [.ref (ad 0), .int a0, .int a1, .int a2] σ σ0 := by
  refine gIntro (own := RX7) hG (by decide +kernel) rfl rfl (Nat.le_of_ble_eq_true rfl) (lv := [(0, .ref (ad 0)), (1, .int a0), (2, .int a1), (3, .int a2)]) rfl (fun κ C E => ?_)
  unfold m_X7_number at hM
  refine x_aln C 0 rfl dX7_number_0 rfl ?_
  obtain ⟨r3, s2, h1, hM⟩ := gb2_some hM
  refine x_cvi (As := []) (rest := []) C E.2.2.2.2.2 0 (c_X7_next hG h1) (gBv km_X7_120 kin_X7_next ksel_X7_next kini_X7 kc_X7_next) rfl rfl rfl ⟨rfl, by decide +kernel, by decide +kernel, by decide +kernel⟩ ⟨Nat.le_of_ble_eq_true rfl, Nat.le_of_ble_eq_true rfl⟩ (by show 0 < 14; decide) rfl rfl rfl rfl (Nat.le_of_ble_eq_true rfl) dX7_number_1 rfl ?_
  refine x_ist (lv' := [(4, .int r3), (0, .ref (ad 0)), (1, .int a0), (2, .int a1), (3, .int a2)]) C rfl (by decide) rfl dX7_number_4 rfl ?_
  refine x_aln C 1 rfl dX7_number_6 rfl ?_
  refine gMg_0_at C kf_X7_114 dX7_number_7 rfl ?_
  obtain ⟨x5_4, ev, hM⟩ := gnm_ex hM
  refine x_ist (lv' := [(5, .int x5_4), (4, .int r3), (0, .ref (ad 0)), (1, .int a0), (2, .int a1), (3, .int a2)]) C ev (by decide) rfl dX7_number_10 rfl ?_
  refine x_il C 1 rfl dX7_number_12 rfl ?_
  refine x_i2l C dX7_number_14 rfl ?_
  refine x_ldc2 (v := 48) C (gBc kk_X7_124) dX7_number_15 rfl ?_
  refine x_ldc2 (v := 57) C (gBc kk_X7_126) dX7_number_18 rfl ?_
  obtain ⟨r6, h5, hM⟩ := gb1_some hM
  refine x_csi (As := [.long r3.toInt64, .long 48, .long 57]) (rest := []) C E.2.2.2.2.2 3 (c_X7_in hG h5) (gBs km_X7_50 kst_X7_in kini_X7 kc_X7_in) rfl rfl rfl ⟨by decide +kernel, by decide +kernel, by decide +kernel⟩ ⟨Nat.le_of_ble_eq_true rfl, Nat.le_of_ble_eq_true rfl⟩ rfl rfl (Nat.le_of_ble_eq_true rfl) dX7_number_21 rfl ?_
  refine x_if_ne (tgt := 34) C dX7_number_24 (by decide) rfl (fun hc => ?_) (fun hc => ?_)
  · replace hM := gif_neg hc hM
    refine x_ic (v := 0) C (by decide) dX7_number_34 rfl ?_
    refine x_ist (lv' := [(6, .int 0), (5, .int x5_4), (4, .int r3), (0, .ref (ad 0)), (1, .int a0), (2, .int a1), (3, .int a2)]) C rfl (by decide) rfl dX7_number_35 rfl ?_
    have L37 : ∀ (n : Nat) (x6_7 : Int32) (s8 : gMem) (x6_9 : Int32) (s10 : gMem), m_X7_number_37 n x6_7 s8 = some (x6_9, s10) → (wx κ (gGM D ad cy b) (gA (gGM D ad cy b)) 7 s10 116 [(0, .ref (ad 0)), (1, .int a0), (2, .int a1), (3, .int a2), (5, .int x5_4), (6, .int x6_9)] []) → wx κ (gGM D ad cy b) (gA (gGM D ad cy b)) 7 s8 37 [(0, .ref (ad 0)), (1, .int a0), (2, .int a1), (3, .int a2), (5, .int x5_4), (6, .int x6_7)] [] := by
      clear hM
      intro n
      induction n with
      | zero => intro _ _ _ _ hM; cases hM
      | succ n ih =>
        intro x6_7 s8 x6_9 s10 hM kx0
        replace hM : b_X7_number_37 (m_X7_number_37 n) x6_7 s8 = some (x6_9, s10) := hM
        unfold b_X7_number_37 at hM
        refine x_aln C 0 rfl dX7_number_37 rfl ?_
        refine gMg_0_at C kf_X7_114 dX7_number_38 rfl ?_
        refine x_aln C 0 rfl dX7_number_41 rfl ?_
        refine gMg_0_taped C kf_X7_110 dX7_number_42 rfl ?_
        refine x_ic_ge (tgt := 116) C dX7_number_45 (by decide) rfl (fun hc => ?_) (fun hc => ?_)
        · replace hM := gif_pos hc hM
          cases hM
          exact x_sub [0, 1, 2, 3, 4, 5] rfl (kx0)
        · replace hM := gif_neg hc hM
          refine x_aln C 0 rfl dX7_number_48 rfl ?_
          refine gMg_0_tape C kf_X7_13 dX7_number_49 rfl ?_
          refine x_aln C 0 rfl dX7_number_52 rfl ?_
          refine gMg_0_at C kf_X7_114 dX7_number_53 rfl ?_
          obtain ⟨h11, hM⟩ := gck_some hM
          refine gMa_2 C h11 dX7_number_56 rfl ?_
          refine x_i2l C dX7_number_57 rfl ?_
          refine x_ldc2 (v := 48) C (gBc kk_X7_124) dX7_number_58 rfl ?_
          refine x_ldc2 (v := 57) C (gBc kk_X7_126) dX7_number_61 rfl ?_
          obtain ⟨r13, h12, hM⟩ := gb1_some hM
          refine x_csi (As := [.long ((s8 2 (s8 0 4).toNatClampNeg).toInt64), .long 48, .long 57]) (rest := []) C E.2.2.2.2.2 3 (c_X7_in hG h12) (gBs km_X7_50 kst_X7_in kini_X7 kc_X7_in) rfl rfl rfl ⟨by decide +kernel, by decide +kernel, by decide +kernel⟩ ⟨Nat.le_of_ble_eq_true rfl, Nat.le_of_ble_eq_true rfl⟩ rfl rfl (Nat.le_of_ble_eq_true rfl) dX7_number_64 rfl ?_
          refine x_if_eq (tgt := 116) C dX7_number_67 (by decide) rfl (fun hc => ?_) (fun hc => ?_)
          · replace hM := gif_pos hc hM
            cases hM
            exact x_sub [0, 1, 2, 3, 4, 5] rfl (kx0)
          · replace hM := gif_neg hc hM
            refine x_il C 5 rfl dX7_number_70 rfl ?_
            refine x_si (v := 999) C (by decide) dX7_number_72 rfl ?_
            refine x_ic_le (tgt := 83) C dX7_number_75 (by decide) rfl (fun hc => ?_) (fun hc => ?_)
            · replace hM := gif_pos hc hM
              refine x_bi (v := 10) C (by decide) dX7_number_83 rfl ?_
              refine x_il C 5 rfl dX7_number_85 rfl ?_
              refine x_imul C dX7_number_87 rfl ?_
              refine x_aln C 0 rfl dX7_number_88 rfl ?_
              refine gMg_0_tape C kf_X7_13 dX7_number_89 rfl ?_
              refine x_aln C 0 rfl dX7_number_92 rfl ?_
              refine gMg_0_at C kf_X7_114 dX7_number_93 rfl ?_
              obtain ⟨h14, hM⟩ := gck_some hM
              refine gMa_2 C h14 dX7_number_96 rfl ?_
              refine x_iadd C dX7_number_97 rfl ?_
              refine x_bi (v := 48) C (by decide) dX7_number_98 rfl ?_
              refine x_isub C dX7_number_100 rfl ?_
              obtain ⟨x6_15, ev, hM⟩ := gnm_ex hM
              refine x_ist (lv' := [(6, .int x6_15), (0, .ref (ad 0)), (1, .int a0), (2, .int a1), (3, .int a2), (5, .int x5_4)]) C ev (by decide) rfl dX7_number_101 rfl ?_
              refine x_aln C 1 rfl dX7_number_103 rfl ?_
              refine x_dup C rfl dX7_number_104 rfl ?_
              refine gMg_0_at C kf_X7_114 dX7_number_105 rfl ?_
              refine x_ic (v := 1) C (by decide) dX7_number_108 rfl ?_
              refine x_iadd C dX7_number_109 rfl ?_
              obtain ⟨s16, ev, hM⟩ := gnm_ex hM
              refine gMp_0_at C ev kf_X7_114 dX7_number_110 rfl ?_
              refine x_goto (tgt := 37) C dX7_number_113 (by decide) ?_
              exact x_sub [1, 2, 3, 4, 5, 0] rfl (ih x6_15 s16 _ _ hM kx0)
            · replace hM := gif_neg hc hM
              refine x_il C 5 rfl dX7_number_78 rfl ?_
              refine x_goto (tgt := 101) C dX7_number_80 (by decide) ?_
              refine x_ist (lv' := [(6, .int x6_7), (0, .ref (ad 0)), (1, .int a0), (2, .int a1), (3, .int a2), (5, .int x5_4)]) C rfl (by decide) rfl dX7_number_101 rfl ?_
              refine x_aln C 1 rfl dX7_number_103 rfl ?_
              refine x_dup C rfl dX7_number_104 rfl ?_
              refine gMg_0_at C kf_X7_114 dX7_number_105 rfl ?_
              refine x_ic (v := 1) C (by decide) dX7_number_108 rfl ?_
              refine x_iadd C dX7_number_109 rfl ?_
              obtain ⟨s17, ev, hM⟩ := gnm_ex hM
              refine gMp_0_at C ev kf_X7_114 dX7_number_110 rfl ?_
              refine x_goto (tgt := 37) C dX7_number_113 (by decide) ?_
              exact x_sub [1, 2, 3, 4, 5, 0] rfl (ih x6_7 s17 _ _ hM kx0)
    obtain ⟨x6_9, s10, hL18, hM⟩ := gb2_some hM
    refine x_sub [3, 4, 5, 6, 1, 0] rfl (L37 gFU 0 s2 _ _ hL18 ?_)
    clear L37
    refine x_aln C 0 rfl dX7_number_116 rfl ?_
    refine x_iln C 3 rfl dX7_number_117 rfl ?_
    obtain ⟨w19, hJ25, hM⟩ := gb1_some hM
    have J2 : wx κ (gGM D ad cy b) (gA (gGM D ad cy b)) 7 s10 129 [(0, .ref (ad 0)), (1, .int a0), (2, .int a1), (5, .int x5_4)] [.int w19, .ref (ad 0)] := by
      obtain ⟨s20, ev, hM⟩ := gnm_ex hM
      refine gMp_0_found C ev kf_X7_132 dX7_number_129 rfl ?_
      refine x_aln C 0 rfl dX7_number_132 rfl ?_
      refine gMg_0_found C kf_X7_132 dX7_number_133 rfl ?_
      refine x_i2l C dX7_number_136 rfl ?_
      refine x_iln C 1 rfl dX7_number_137 rfl ?_
      refine x_i2l C dX7_number_138 rfl ?_
      refine x_iln C 2 rfl dX7_number_139 rfl ?_
      refine x_i2l C dX7_number_140 rfl ?_
      obtain ⟨r22, h21, hM⟩ := gb1_some hM
      refine x_csi (As := [.long ((s20 0 6).toInt64), .long a0.toInt64, .long a1.toInt64]) (rest := []) C E.2.2.2.2.2 3 (c_X7_in hG h21) (gBs km_X7_50 kst_X7_in kini_X7 kc_X7_in) rfl rfl rfl ⟨by decide +kernel, by decide +kernel, by decide +kernel⟩ ⟨Nat.le_of_ble_eq_true rfl, Nat.le_of_ble_eq_true rfl⟩ rfl rfl (Nat.le_of_ble_eq_true rfl) dX7_number_141 rfl ?_
      refine x_if_ne (tgt := 153) C dX7_number_144 (by decide) rfl (fun hc => ?_) (fun hc => ?_)
      · replace hM := gif_neg hc hM
        exact x_vret C E (gs1 hM) dX7_number_153
      · replace hM := gif_pos hc hM
        refine x_aln C 0 rfl dX7_number_147 rfl ?_
        refine x_il C 3 rfl dX7_number_148 rfl ?_
        obtain ⟨s24, h23, hM⟩ := gb1_some hM
        refine x_cvv (As := [.int x5_4]) (rest := []) C E.2.2.2.2.2 1 (c_X7_cannot hG h23) (gBv km_X7_128 kin_X7_cannot ksel_X7_cannot kini_X7 kc_X7_cannot) rfl rfl rfl ⟨rfl, by decide +kernel, by decide +kernel, by decide +kernel⟩ ⟨Nat.le_of_ble_eq_true rfl, Nat.le_of_ble_eq_true rfl⟩ (by show 0 < 14; decide) rfl rfl rfl rfl (Nat.le_of_ble_eq_true rfl) dX7_number_150 rfl ?_
        exact x_vret C E (gs1 hM) dX7_number_153
    clear hM
    have hM := hJ25
    clear hJ25
    refine x_if_eq (tgt := 127) C dX7_number_118 (by decide) rfl (fun hc => ?_) (fun hc => ?_)
    · replace hM := gif_pos hc hM
      refine x_il C 5 rfl dX7_number_127 rfl ?_
      cases hM
      exact x_sub [0, 1, 2, 4] rfl J2
    · replace hM := gif_neg hc hM
      refine x_il C 5 rfl dX7_number_121 rfl ?_
      refine x_ineg C dX7_number_123 rfl ?_
      refine x_goto (tgt := 129) C dX7_number_124 (by decide) ?_
      cases hM
      exact x_sub [0, 1, 2, 4] rfl J2
  · replace hM := gif_pos hc hM
    refine x_aln C 2 rfl dX7_number_27 rfl ?_
    refine x_il C 0 rfl dX7_number_28 rfl ?_
    obtain ⟨s27, h26, hM⟩ := gb1_some hM
    refine x_cvv (As := [.int x5_4]) (rest := []) C E.2.2.2.2.2 1 (c_X7_cannot hG h26) (gBv km_X7_128 kin_X7_cannot ksel_X7_cannot kini_X7 kc_X7_cannot) rfl rfl rfl ⟨rfl, by decide +kernel, by decide +kernel, by decide +kernel⟩ ⟨Nat.le_of_ble_eq_true rfl, Nat.le_of_ble_eq_true rfl⟩ (by show 0 < 14; decide) rfl rfl rfl rfl (Nat.le_of_ble_eq_true rfl) dX7_number_30 rfl ?_
    exact x_vret C E (gs1 hM) dX7_number_33
set_option maxRecDepth 100000 in
set_option maxHeartbeats 4000000 in
theorem c_X7_fails {l : Launch} {D : va_G} {ad : Nat → Nat} {cy : Nat → ClassId} {b : Nat} (hG : gInj (gGM D ad cy b))  {σ : gMem} {r0 : Int32} {σ0 : gMem} (hM : m_X7_fails  σ = some (r0, σ0)) : gMi l yX7_fails (Cond.code yX7_fails cX7_fails 1 (some .int) :: gBig) { frames := 0, cells := 0, slots := 0, locals := 0 } (gGM D ad cy b) [.ref (ad 0)] σ r0 σ0 := by
  refine gIntro (own := RX7) hG (by decide +kernel) rfl rfl (Nat.le_of_ble_eq_true rfl) (lv := [(0, .ref (ad 0))]) rfl (fun κ C E => ?_)
  unfold m_X7_fails at hM
  refine x_aln C 0 rfl dX7_fails_0 rfl ?_
  refine x_ic (v := 0) C (by decide) dX7_fails_1 rfl ?_
  obtain ⟨s1, ev, hM⟩ := gnm_ex hM
  refine gMp_0_taped C ev kf_X7_110 dX7_fails_2 rfl ?_
  refine x_bi (v := (-20)) C (by decide) dX7_fails_5 rfl ?_
  refine x_aln C 0 rfl dX7_fails_7 rfl ?_
  refine gMg_0_fault C kf_X7_117 dX7_fails_8 rfl ?_
  refine x_isub C dX7_fails_11 rfl ?_
  exact x_iret C E (gs2 hM) dX7_fails_12
set_option maxRecDepth 100000 in
set_option maxHeartbeats 4000000 in
theorem c_X7_lagoon {l : Launch} {D : va_G} {ad : Nat → Nat} {cy : Nat → ClassId} {b : Nat} (hG : gInj (gGM D ad cy b))  {σ : gMem} {r0 : Int32} {σ0 : gMem} (hM : m_X7_lagoon  σ = some (r0, σ0)) : gMi l yX7_lagoon (Cond.code yX7_lagoon cX7_lagoon 5 (some .int) :: gBig) { frames := 2, cells := 0, slots := 0, locals := 51 } (gGM D ad cy b) [.ref (ad 0)] σ r0 σ0 := by
  refine gIntro (own := RX7) hG (by decide +kernel) rfl rfl (Nat.le_of_ble_eq_true rfl) (lv := [(0, .ref (ad 0))]) rfl (fun κ C E => ?_)
  unfold m_X7_lagoon at hM
  refine x_aln C 0 rfl dX7_lagoon_0 rfl ?_
  obtain ⟨s2, h1, hM⟩ := gb1_some hM
  refine x_cvv (As := []) (rest := []) C E.2.2.2.2.2 0 (c_X7_begin hG h1) (gBv km_X7_135 kin_X7_begin ksel_X7_begin kini_X7 kc_X7_begin) rfl rfl rfl ⟨rfl, by decide +kernel, by decide +kernel, by decide +kernel⟩ ⟨Nat.le_of_ble_eq_true rfl, Nat.le_of_ble_eq_true rfl⟩ (by show 0 < 14; decide) rfl rfl rfl rfl (Nat.le_of_ble_eq_true rfl) dX7_lagoon_1 rfl ?_
  refine x_ic (v := 0) C (by decide) dX7_lagoon_4 rfl ?_
  refine x_istn (lv' := [(1, .int 0), (0, .ref (ad 0))]) C rfl rfl (by decide) rfl dX7_lagoon_5 rfl ?_
  refine x_ic (v := 0) C (by decide) dX7_lagoon_6 rfl ?_
  refine x_istn (lv' := [(2, .int 0), (1, .int 0), (0, .ref (ad 0))]) C rfl rfl (by decide) rfl dX7_lagoon_7 rfl ?_
  refine x_ic (v := 1) C (by decide) dX7_lagoon_8 rfl ?_
  refine x_istn (lv' := [(3, .int 1), (2, .int 0), (1, .int 0), (0, .ref (ad 0))]) C rfl rfl (by decide) rfl dX7_lagoon_9 rfl ?_
  have L10 : ∀ (n : Nat) (x1_3 : Int32) (x2_4 : Int32) (x3_5 : Int32) (s6 : gMem) (x1_7 : Int32) (s8 : gMem), m_X7_lagoon_10 n x1_3 x2_4 x3_5 s6 = some (x1_7, s8) → (wx κ (gGM D ad cy b) (gA (gGM D ad cy b)) 5 s8 170 [(0, .ref (ad 0)), (1, .int x1_7)] []) → wx κ (gGM D ad cy b) (gA (gGM D ad cy b)) 5 s6 10 [(0, .ref (ad 0)), (1, .int x1_3), (2, .int x2_4), (3, .int x3_5)] [] := by
    clear hM
    intro n
    induction n with
    | zero => intro _ _ _ _ _ _ hM; cases hM
    | succ n ih =>
      intro x1_3 x2_4 x3_5 s6 x1_7 s8 hM kx0
      replace hM : b_X7_lagoon_10 (m_X7_lagoon_10 n) x1_3 x2_4 x3_5 s6 = some (x1_7, s8) := hM
      unfold b_X7_lagoon_10 at hM
      refine x_iln C 3 rfl dX7_lagoon_10 rfl ?_
      refine x_if_eq (tgt := 170) C dX7_lagoon_11 (by decide) rfl (fun hc => ?_) (fun hc => ?_)
      · replace hM := gif_pos hc hM
        cases hM
        exact x_sub [0, 1] rfl (kx0)
      · replace hM := gif_neg hc hM
        refine x_aln C 0 rfl dX7_lagoon_14 rfl ?_
        refine gMg_0_fault C kf_X7_117 dX7_lagoon_15 rfl ?_
        refine x_if_ge (tgt := 170) C dX7_lagoon_18 (by decide) rfl (fun hc => ?_) (fun hc => ?_)
        · replace hM := gif_pos hc hM
          cases hM
          exact x_sub [0, 1] rfl (kx0)
        · replace hM := gif_neg hc hM
          refine x_aln C 0 rfl dX7_lagoon_21 rfl ?_
          refine x_bi (v := 45) C (by decide) dX7_lagoon_22 rfl ?_
          obtain ⟨r11, s10, h9, hM⟩ := gb2_some hM
          refine x_cvi (As := [.int 45]) (rest := []) C E.2.2.2.2.2 1 (c_X7_takes hG h9) (gBv km_X7_138 kin_X7_takes ksel_X7_takes kini_X7 kc_X7_takes) rfl rfl rfl ⟨rfl, by decide +kernel, by decide +kernel, by decide +kernel⟩ ⟨Nat.le_of_ble_eq_true rfl, Nat.le_of_ble_eq_true rfl⟩ (by show 0 < 14; decide) rfl rfl rfl rfl (Nat.le_of_ble_eq_true rfl) dX7_lagoon_24 rfl ?_
          refine x_ist (lv' := [(4, .int r11), (0, .ref (ad 0)), (1, .int x1_3), (2, .int x2_4), (3, .int x3_5)]) C rfl (by decide) rfl dX7_lagoon_27 rfl ?_
          refine x_aln C 1 rfl dX7_lagoon_29 rfl ?_
          refine x_bi (v := (-20)) C (by decide) dX7_lagoon_30 rfl ?_
          refine x_bi (v := 60) C (by decide) dX7_lagoon_32 rfl ?_
          refine x_il C 0 rfl dX7_lagoon_34 rfl ?_
          obtain ⟨s13, h12, hM⟩ := gb1_some hM
          refine x_cvv (As := [.int (-20), .int 60, .int r11]) (rest := []) C E.2.2.2.2.2 3 (c_X7_number hG h12) (gBv km_X7_141 kin_X7_number ksel_X7_number kini_X7 kc_X7_number) rfl rfl rfl ⟨rfl, by decide +kernel, by decide +kernel, by decide +kernel⟩ ⟨Nat.le_of_ble_eq_true rfl, Nat.le_of_ble_eq_true rfl⟩ (by show 0 < 14; decide) rfl rfl rfl rfl (Nat.le_of_ble_eq_true rfl) dX7_lagoon_36 rfl ?_
          refine x_aln C 1 rfl dX7_lagoon_39 rfl ?_
          refine gMg_0_told C kf_X7_16 dX7_lagoon_40 rfl ?_
          refine x_ic (v := 2) C (by decide) dX7_lagoon_43 rfl ?_
          refine x_iln C 2 rfl dX7_lagoon_44 rfl ?_
          refine x_imul C dX7_lagoon_45 rfl ?_
          refine x_aln C 1 rfl dX7_lagoon_46 rfl ?_
          refine gMg_0_found C kf_X7_132 dX7_lagoon_47 rfl ?_
          obtain ⟨h14, hM⟩ := gck_some hM
          obtain ⟨s15, ev, hM⟩ := gnm_ex hM
          refine gMs_3 C ev h14 dX7_lagoon_50 rfl ?_
          refine x_aln C 1 rfl dX7_lagoon_51 rfl ?_
          refine gMg_0_told C kf_X7_16 dX7_lagoon_52 rfl ?_
          refine x_ic (v := 2) C (by decide) dX7_lagoon_55 rfl ?_
          refine x_iln C 2 rfl dX7_lagoon_56 rfl ?_
          refine x_imul C dX7_lagoon_57 rfl ?_
          refine x_ic (v := 1) C (by decide) dX7_lagoon_58 rfl ?_
          refine x_iadd C dX7_lagoon_59 rfl ?_
          refine x_ic (v := 0) C (by decide) dX7_lagoon_60 rfl ?_
          obtain ⟨h16, hM⟩ := gck_some hM
          obtain ⟨s17, ev, hM⟩ := gnm_ex hM
          refine gMs_3 C ev h16 dX7_lagoon_61 rfl ?_
          refine x_aln C 1 rfl dX7_lagoon_62 rfl ?_
          refine gMg_0_fault C kf_X7_117 dX7_lagoon_63 rfl ?_
          obtain ⟨x2_18, s19, hJ37, hM⟩ := gb2_some hM
          have J1 : wx κ (gGM D ad cy b) (gA (gGM D ad cy b)) 5 s19 118 [(0, .ref (ad 0)), (1, .int x1_3), (2, .int x2_18)] [] := by
            obtain ⟨x1_29, ev, hM⟩ := gnm_ex hM
            refine x_iinc (j := 1) (w := 1) (lv' := [(1, .int x1_29), (0, .ref (ad 0)), (2, .int x2_18)]) C rfl ev (by decide) (by decide) rfl dX7_lagoon_118 rfl ?_
            refine x_aln C 1 rfl dX7_lagoon_121 rfl ?_
            refine gMg_0_fault C kf_X7_117 dX7_lagoon_122 rfl ?_
            refine x_if_ge (tgt := 147) C dX7_lagoon_125 (by decide) rfl (fun hc => ?_) (fun hc => ?_)
            · replace hM := gif_pos hc hM
              refine x_ic (v := 0) C (by decide) dX7_lagoon_147 rfl ?_
              refine x_istn (lv' := [(3, .int 0), (1, .int x1_29), (0, .ref (ad 0)), (2, .int x2_18)]) C rfl rfl (by decide) rfl dX7_lagoon_148 rfl ?_
              refine x_aln C 2 rfl dX7_lagoon_149 rfl ?_
              refine x_dup C rfl dX7_lagoon_150 rfl ?_
              refine gMg_0_at C kf_X7_114 dX7_lagoon_151 rfl ?_
              refine x_iln C 0 rfl dX7_lagoon_154 rfl ?_
              refine x_if_eq (tgt := 162) C dX7_lagoon_155 (by decide) rfl (fun _ => ?_) (fun h => absurd (by decide) h)
              refine x_ic (v := 0) C (by decide) dX7_lagoon_162 rfl ?_
              refine x_iadd C dX7_lagoon_163 rfl ?_
              obtain ⟨s30, ev, hM⟩ := gnm_ex hM
              refine gMp_0_at C ev kf_X7_114 dX7_lagoon_164 rfl ?_
              refine x_goto (tgt := 10) C dX7_lagoon_167 (by decide) ?_
              exact x_sub [2, 1, 3, 0] rfl (ih x1_29 x2_18 0 s30 _ _ hM kx0)
            · replace hM := gif_neg hc hM
              refine x_iln C 0 rfl dX7_lagoon_128 rfl ?_
              refine x_bi (v := 8) C (by decide) dX7_lagoon_129 rfl ?_
              refine x_ic_ge (tgt := 147) C dX7_lagoon_131 (by decide) rfl (fun hc => ?_) (fun hc => ?_)
              · replace hM := gif_pos hc hM
                refine x_ic (v := 0) C (by decide) dX7_lagoon_147 rfl ?_
                refine x_istn (lv' := [(3, .int 0), (1, .int x1_29), (0, .ref (ad 0)), (2, .int x2_18)]) C rfl rfl (by decide) rfl dX7_lagoon_148 rfl ?_
                refine x_aln C 2 rfl dX7_lagoon_149 rfl ?_
                refine x_dup C rfl dX7_lagoon_150 rfl ?_
                refine gMg_0_at C kf_X7_114 dX7_lagoon_151 rfl ?_
                refine x_iln C 0 rfl dX7_lagoon_154 rfl ?_
                refine x_if_eq (tgt := 162) C dX7_lagoon_155 (by decide) rfl (fun _ => ?_) (fun h => absurd (by decide) h)
                refine x_ic (v := 0) C (by decide) dX7_lagoon_162 rfl ?_
                refine x_iadd C dX7_lagoon_163 rfl ?_
                obtain ⟨s31, ev, hM⟩ := gnm_ex hM
                refine gMp_0_at C ev kf_X7_114 dX7_lagoon_164 rfl ?_
                refine x_goto (tgt := 10) C dX7_lagoon_167 (by decide) ?_
                exact x_sub [2, 1, 3, 0] rfl (ih x1_29 x2_18 0 s31 _ _ hM kx0)
              · replace hM := gif_neg hc hM
                refine x_aln C 1 rfl dX7_lagoon_134 rfl ?_
                obtain ⟨r34, s33, h32, hM⟩ := gb2_some hM
                refine x_cvi (As := []) (rest := []) C E.2.2.2.2.2 0 (c_X7_next hG h32) (gBv km_X7_120 kin_X7_next ksel_X7_next kini_X7 kc_X7_next) rfl rfl rfl ⟨rfl, by decide +kernel, by decide +kernel, by decide +kernel⟩ ⟨Nat.le_of_ble_eq_true rfl, Nat.le_of_ble_eq_true rfl⟩ (by show 0 < 14; decide) rfl rfl rfl rfl (Nat.le_of_ble_eq_true rfl) dX7_lagoon_135 rfl ?_
                refine x_bi (v := 59) C (by decide) dX7_lagoon_138 rfl ?_
                refine x_ic_ne (tgt := 147) C dX7_lagoon_140 (by decide) rfl (fun hc => ?_) (fun hc => ?_)
                · replace hM := gif_neg hc hM
                  refine x_ic (v := 0) C (by decide) dX7_lagoon_147 rfl ?_
                  refine x_istn (lv' := [(3, .int 0), (1, .int x1_29), (0, .ref (ad 0)), (2, .int x2_18)]) C rfl rfl (by decide) rfl dX7_lagoon_148 rfl ?_
                  refine x_aln C 2 rfl dX7_lagoon_149 rfl ?_
                  refine x_dup C rfl dX7_lagoon_150 rfl ?_
                  refine gMg_0_at C kf_X7_114 dX7_lagoon_151 rfl ?_
                  refine x_iln C 0 rfl dX7_lagoon_154 rfl ?_
                  refine x_if_eq (tgt := 162) C dX7_lagoon_155 (by decide) rfl (fun _ => ?_) (fun h => absurd (by decide) h)
                  refine x_ic (v := 0) C (by decide) dX7_lagoon_162 rfl ?_
                  refine x_iadd C dX7_lagoon_163 rfl ?_
                  obtain ⟨s35, ev, hM⟩ := gnm_ex hM
                  refine gMp_0_at C ev kf_X7_114 dX7_lagoon_164 rfl ?_
                  refine x_goto (tgt := 10) C dX7_lagoon_167 (by decide) ?_
                  exact x_sub [2, 1, 3, 0] rfl (ih x1_29 x2_18 0 s35 _ _ hM kx0)
                · replace hM := gif_pos hc hM
                  refine x_ic (v := 1) C (by decide) dX7_lagoon_143 rfl ?_
                  refine x_goto (tgt := 148) C dX7_lagoon_144 (by decide) ?_
                  refine x_istn (lv' := [(3, .int 1), (1, .int x1_29), (0, .ref (ad 0)), (2, .int x2_18)]) C rfl rfl (by decide) rfl dX7_lagoon_148 rfl ?_
                  refine x_aln C 2 rfl dX7_lagoon_149 rfl ?_
                  refine x_dup C rfl dX7_lagoon_150 rfl ?_
                  refine gMg_0_at C kf_X7_114 dX7_lagoon_151 rfl ?_
                  refine x_iln C 0 rfl dX7_lagoon_154 rfl ?_
                  refine x_if_eq (tgt := 162) C dX7_lagoon_155 (by decide) rfl (fun h => absurd h (by decide)) (fun _ => ?_)
                  refine x_ic (v := 1) C (by decide) dX7_lagoon_158 rfl ?_
                  refine x_goto (tgt := 163) C dX7_lagoon_159 (by decide) ?_
                  refine x_iadd C dX7_lagoon_163 rfl ?_
                  obtain ⟨s36, ev, hM⟩ := gnm_ex hM
                  refine gMp_0_at C ev kf_X7_114 dX7_lagoon_164 rfl ?_
                  refine x_goto (tgt := 10) C dX7_lagoon_167 (by decide) ?_
                  exact x_sub [2, 1, 3, 0] rfl (ih x1_29 x2_18 1 s36 _ _ hM kx0)
          clear hM
          have hM := hJ37
          clear hJ37
          refine x_if_ge (tgt := 118) C dX7_lagoon_66 (by decide) rfl (fun hc => ?_) (fun hc => ?_)
          · replace hM := gif_pos hc hM
            cases hM
            exact x_sub [1, 2, 3] rfl J1
          · replace hM := gif_neg hc hM
            refine x_aln C 1 rfl dX7_lagoon_69 rfl ?_
            obtain ⟨r22, s21, h20, hM⟩ := gb2_some hM
            refine x_cvi (As := []) (rest := []) C E.2.2.2.2.2 0 (c_X7_next hG h20) (gBv km_X7_120 kin_X7_next ksel_X7_next kini_X7 kc_X7_next) rfl rfl rfl ⟨rfl, by decide +kernel, by decide +kernel, by decide +kernel⟩ ⟨Nat.le_of_ble_eq_true rfl, Nat.le_of_ble_eq_true rfl⟩ (by show 0 < 14; decide) rfl rfl rfl rfl (Nat.le_of_ble_eq_true rfl) dX7_lagoon_70 rfl ?_
            refine x_bi (v := 112) C (by decide) dX7_lagoon_73 rfl ?_
            refine x_ic_ne (tgt := 118) C dX7_lagoon_75 (by decide) rfl (fun hc => ?_) (fun hc => ?_)
            · replace hM := gif_neg hc hM
              cases hM
              exact x_sub [1, 2, 3] rfl J1
            · replace hM := gif_pos hc hM
              refine x_iln C 3 rfl dX7_lagoon_78 rfl ?_
              refine x_ic (v := 3) C (by decide) dX7_lagoon_79 rfl ?_
              refine x_ic_ge (tgt := 118) C dX7_lagoon_80 (by decide) rfl (fun hc => ?_) (fun hc => ?_)
              · replace hM := gif_pos hc hM
                cases hM
                exact x_sub [1, 2, 3] rfl J1
              · replace hM := gif_neg hc hM
                refine x_aln C 1 rfl dX7_lagoon_83 rfl ?_
                refine x_dup C rfl dX7_lagoon_84 rfl ?_
                refine gMg_0_at C kf_X7_114 dX7_lagoon_85 rfl ?_
                refine x_ic (v := 1) C (by decide) dX7_lagoon_88 rfl ?_
                refine x_iadd C dX7_lagoon_89 rfl ?_
                obtain ⟨s23, ev, hM⟩ := gnm_ex hM
                refine gMp_0_at C ev kf_X7_114 dX7_lagoon_90 rfl ?_
                obtain ⟨x2_24, ev, hM⟩ := gnm_ex hM
                refine x_iinc (j := 3) (w := 1) (lv' := [(2, .int x2_24), (4, .int r11), (0, .ref (ad 0)), (1, .int x1_3), (3, .int x3_5)]) C rfl ev (by decide) (by decide) rfl dX7_lagoon_93 rfl ?_
                refine x_aln C 2 rfl dX7_lagoon_96 rfl ?_
                refine x_ic (v := 1) C (by decide) dX7_lagoon_97 rfl ?_
                refine x_bi (v := 20) C (by decide) dX7_lagoon_98 rfl ?_
                refine x_ic (v := 0) C (by decide) dX7_lagoon_100 rfl ?_
                obtain ⟨s26, h25, hM⟩ := gb1_some hM
                refine x_cvv (As := [.int 1, .int 20, .int 0]) (rest := []) C E.2.2.2.2.2 3 (c_X7_number hG h25) (gBv km_X7_141 kin_X7_number ksel_X7_number kini_X7 kc_X7_number) rfl rfl rfl ⟨rfl, by decide +kernel, by decide +kernel, by decide +kernel⟩ ⟨Nat.le_of_ble_eq_true rfl, Nat.le_of_ble_eq_true rfl⟩ (by show 0 < 14; decide) rfl rfl rfl rfl (Nat.le_of_ble_eq_true rfl) dX7_lagoon_101 rfl ?_
                refine x_aln C 2 rfl dX7_lagoon_104 rfl ?_
                refine gMg_0_told C kf_X7_16 dX7_lagoon_105 rfl ?_
                refine x_ic (v := 2) C (by decide) dX7_lagoon_108 rfl ?_
                refine x_iln C 3 rfl dX7_lagoon_109 rfl ?_
                refine x_imul C dX7_lagoon_110 rfl ?_
                refine x_ic (v := 1) C (by decide) dX7_lagoon_111 rfl ?_
                refine x_iadd C dX7_lagoon_112 rfl ?_
                refine x_aln C 2 rfl dX7_lagoon_113 rfl ?_
                refine gMg_0_found C kf_X7_132 dX7_lagoon_114 rfl ?_
                obtain ⟨h27, hM⟩ := gck_some hM
                obtain ⟨s28, ev, hM⟩ := gnm_ex hM
                refine gMs_3 C ev h27 dX7_lagoon_117 rfl ?_
                cases hM
                exact x_sub [2, 3, 0] rfl J1
  obtain ⟨x1_7, s8, hL38, hM⟩ := gb2_some hM
  refine x_sub [3, 2, 1, 0] rfl (L10 gFU 0 0 1 s2 _ _ hL38 ?_)
  clear L10
  refine x_aln C 0 rfl dX7_lagoon_170 rfl ?_
  refine gMg_0_fault C kf_X7_117 dX7_lagoon_171 rfl ?_
  obtain ⟨s39, hJ73, hM⟩ := gb1_some hM
  have J3 : wx κ (gGM D ad cy b) (gA (gGM D ad cy b)) 5 s39 192 [(0, .ref (ad 0)), (1, .int x1_7)] [] := by
    refine x_aln C 0 rfl dX7_lagoon_192 rfl ?_
    refine gMg_0_fault C kf_X7_117 dX7_lagoon_193 rfl ?_
    refine x_if_lt (tgt := 204) C dX7_lagoon_196 (by decide) rfl (fun hc => ?_) (fun hc => ?_)
    · replace hM := gif_pos hc hM
      refine x_aln C 0 rfl dX7_lagoon_204 rfl ?_
      refine x_ic (v := 0) C (by decide) dX7_lagoon_205 rfl ?_
      obtain ⟨s45, ev, hM⟩ := gnm_ex hM
      refine gMp_0_taped C ev kf_X7_110 dX7_lagoon_206 rfl ?_
      refine x_aln C 0 rfl dX7_lagoon_209 rfl ?_
      refine gMg_0_z C kf_X7_7 dX7_lagoon_210 rfl ?_
      refine x_bi (v := 62) C (by decide) dX7_lagoon_213 rfl ?_
      refine x_ic (v := 0) C (by decide) dX7_lagoon_215 rfl ?_
      obtain ⟨h46, hM⟩ := gck_some hM
      obtain ⟨s47, ev, hM⟩ := gnm_ex hM
      refine gMs_1 C ev h46 dX7_lagoon_216 rfl ?_
      refine x_aln C 0 rfl dX7_lagoon_217 rfl ?_
      refine gMg_0_z C kf_X7_7 dX7_lagoon_218 rfl ?_
      refine x_bi (v := 63) C (by decide) dX7_lagoon_221 rfl ?_
      refine x_ic (v := 0) C (by decide) dX7_lagoon_223 rfl ?_
      obtain ⟨h48, hM⟩ := gck_some hM
      obtain ⟨s49, ev, hM⟩ := gnm_ex hM
      refine gMs_1 C ev h48 dX7_lagoon_224 rfl ?_
      refine x_aln C 0 rfl dX7_lagoon_225 rfl ?_
      refine gMg_0_z C kf_X7_7 dX7_lagoon_226 rfl ?_
      refine x_bi (v := 64) C (by decide) dX7_lagoon_229 rfl ?_
      refine x_ic (v := 0) C (by decide) dX7_lagoon_231 rfl ?_
      obtain ⟨h50, hM⟩ := gck_some hM
      obtain ⟨s51, ev, hM⟩ := gnm_ex hM
      refine gMs_1 C ev h50 dX7_lagoon_232 rfl ?_
      refine x_aln C 0 rfl dX7_lagoon_233 rfl ?_
      refine gMg_0_z C kf_X7_7 dX7_lagoon_234 rfl ?_
      refine x_bi (v := 65) C (by decide) dX7_lagoon_237 rfl ?_
      refine x_ic (v := 0) C (by decide) dX7_lagoon_239 rfl ?_
      obtain ⟨h52, hM⟩ := gck_some hM
      obtain ⟨s53, ev, hM⟩ := gnm_ex hM
      refine gMs_1 C ev h52 dX7_lagoon_240 rfl ?_
      refine x_ic (v := 0) C (by decide) dX7_lagoon_241 rfl ?_
      refine x_ist (lv' := [(4, .int 0), (0, .ref (ad 0)), (1, .int x1_7)]) C rfl (by decide) rfl dX7_lagoon_242 rfl ?_
      have L244 : ∀ (n : Nat) (x4_54 : Int32) (s55 : gMem) (s56 : gMem), m_X7_lagoon_244 n x4_54 s55 = some (s56) → (wx κ (gGM D ad cy b) (gA (gGM D ad cy b)) 5 s56 269 [(0, .ref (ad 0)), (1, .int x1_7)] []) → wx κ (gGM D ad cy b) (gA (gGM D ad cy b)) 5 s55 244 [(0, .ref (ad 0)), (1, .int x1_7), (4, .int x4_54)] [] := by
        clear hM
        intro n
        induction n with
        | zero => intro _ _ _ hM; cases hM
        | succ n ih =>
          intro x4_54 s55 s56 hM kx0
          replace hM : b_X7_lagoon_244 (m_X7_lagoon_244 n) x4_54 s55 = some (s56) := hM
          unfold b_X7_lagoon_244 at hM
          refine x_il C 2 rfl dX7_lagoon_244 rfl ?_
          refine x_si (v := 144) C (by decide) dX7_lagoon_246 rfl ?_
          refine x_ic_ge (tgt := 269) C dX7_lagoon_249 (by decide) rfl (fun hc => ?_) (fun hc => ?_)
          · replace hM := gif_pos hc hM
            cases hM
            exact x_sub [0, 1] rfl (kx0)
          · replace hM := gif_neg hc hM
            refine x_aln C 0 rfl dX7_lagoon_252 rfl ?_
            refine gMg_0_z C kf_X7_7 dX7_lagoon_253 rfl ?_
            refine x_bi (v := 120) C (by decide) dX7_lagoon_256 rfl ?_
            refine x_il C 2 rfl dX7_lagoon_258 rfl ?_
            refine x_iadd C dX7_lagoon_260 rfl ?_
            refine x_ic (v := 0) C (by decide) dX7_lagoon_261 rfl ?_
            obtain ⟨h57, hM⟩ := gck_some hM
            obtain ⟨s58, ev, hM⟩ := gnm_ex hM
            refine gMs_1 C ev h57 dX7_lagoon_262 rfl ?_
            obtain ⟨x4_59, ev, hM⟩ := gnm_ex hM
            refine x_iinc (j := 2) (w := 1) (lv' := [(4, .int x4_59), (0, .ref (ad 0)), (1, .int x1_7)]) C rfl ev (by decide) (by decide) rfl dX7_lagoon_263 rfl ?_
            refine x_goto (tgt := 244) C dX7_lagoon_266 (by decide) ?_
            exact x_sub [1, 2, 0] rfl (ih x4_59 s58 _ hM kx0)
      obtain ⟨s56, hL60, hM⟩ := gb1_some hM
      refine x_sub [1, 2, 0] rfl (L244 gFU 0 s53 _ hL60 ?_)
      clear L244
      refine x_ic (v := 0) C (by decide) dX7_lagoon_269 rfl ?_
      refine x_ist (lv' := [(4, .int 0), (0, .ref (ad 0)), (1, .int x1_7)]) C rfl (by decide) rfl dX7_lagoon_270 rfl ?_
      have L272 : ∀ (n : Nat) (x4_61 : Int32) (s62 : gMem) (s63 : gMem), m_X7_lagoon_272 x1_7 n x4_61 s62 = some (s63) → (wx κ (gGM D ad cy b) (gA (gGM D ad cy b)) 5 s63 308 [(1, .int x1_7)] []) → wx κ (gGM D ad cy b) (gA (gGM D ad cy b)) 5 s62 272 [(0, .ref (ad 0)), (1, .int x1_7), (4, .int x4_61)] [] := by
        clear hM
        intro n
        induction n with
        | zero => intro _ _ _ hM; cases hM
        | succ n ih =>
          intro x4_61 s62 s63 hM kx0
          replace hM : b_X7_lagoon_272 x1_7 (m_X7_lagoon_272 x1_7 n) x4_61 s62 = some (s63) := hM
          unfold b_X7_lagoon_272 at hM
          refine x_il C 2 rfl dX7_lagoon_272 rfl ?_
          refine x_iln C 1 rfl dX7_lagoon_274 rfl ?_
          refine x_ic_ge (tgt := 308) C dX7_lagoon_275 (by decide) rfl (fun hc => ?_) (fun hc => ?_)
          · replace hM := gif_pos hc hM
            cases hM
            exact x_sub [1] rfl (kx0)
          · replace hM := gif_neg hc hM
            refine x_aln C 0 rfl dX7_lagoon_278 rfl ?_
            refine x_aln C 0 rfl dX7_lagoon_279 rfl ?_
            refine gMg_0_told C kf_X7_16 dX7_lagoon_280 rfl ?_
            refine x_ic (v := 2) C (by decide) dX7_lagoon_283 rfl ?_
            refine x_il C 2 rfl dX7_lagoon_284 rfl ?_
            refine x_imul C dX7_lagoon_286 rfl ?_
            obtain ⟨h64, hM⟩ := gck_some hM
            refine gMa_3 C h64 dX7_lagoon_287 rfl ?_
            refine x_aln C 0 rfl dX7_lagoon_288 rfl ?_
            refine gMg_0_told C kf_X7_16 dX7_lagoon_289 rfl ?_
            refine x_ic (v := 2) C (by decide) dX7_lagoon_292 rfl ?_
            refine x_il C 2 rfl dX7_lagoon_293 rfl ?_
            refine x_imul C dX7_lagoon_295 rfl ?_
            refine x_ic (v := 1) C (by decide) dX7_lagoon_296 rfl ?_
            refine x_iadd C dX7_lagoon_297 rfl ?_
            obtain ⟨h65, hM⟩ := gck_some hM
            refine gMa_3 C h65 dX7_lagoon_298 rfl ?_
            obtain ⟨s67, h66, hM⟩ := gb1_some hM
            refine x_cvv (As := [.int (s62 3 (2 * x4_61).toNatClampNeg), .int (s62 3 ((2 * x4_61) + 1).toNatClampNeg)]) (rest := []) C E.2.2.2.2.2 2 (c_X7_put hG h66) (gBv km_X7_60 kin_X7_put ksel_X7_put kini_X7 kc_X7_put) rfl rfl rfl ⟨rfl, by decide +kernel, by decide +kernel, by decide +kernel⟩ ⟨Nat.le_of_ble_eq_true rfl, Nat.le_of_ble_eq_true rfl⟩ (by show 0 < 14; decide) rfl rfl rfl rfl (Nat.le_of_ble_eq_true rfl) dX7_lagoon_299 rfl ?_
            obtain ⟨x4_68, ev, hM⟩ := gnm_ex hM
            refine x_iinc (j := 2) (w := 1) (lv' := [(4, .int x4_68), (0, .ref (ad 0)), (1, .int x1_7)]) C rfl ev (by decide) (by decide) rfl dX7_lagoon_302 rfl ?_
            refine x_goto (tgt := 272) C dX7_lagoon_305 (by decide) ?_
            exact x_sub [1, 2, 0] rfl (ih x4_68 s67 _ hM kx0)
      obtain ⟨s63, hL69, hM⟩ := gb1_some hM
      refine x_sub [1, 2, 0] rfl (L272 gFU 0 s56 _ hL69 ?_)
      clear L272
      refine x_iln C 0 rfl dX7_lagoon_308 rfl ?_
      exact x_iret C E (gs2 hM) dX7_lagoon_309
    · replace hM := gif_neg hc hM
      refine x_aln C 0 rfl dX7_lagoon_199 rfl ?_
      obtain ⟨r72, s71, h70, hM⟩ := gb2_some hM
      refine x_cvi (As := []) (rest := []) C E.2.2.2.2.2 0 (c_X7_fails hG h70) (gBv km_X7_145 kin_X7_fails ksel_X7_fails kini_X7 kc_X7_fails) rfl rfl rfl ⟨rfl, by decide +kernel, by decide +kernel, by decide +kernel⟩ ⟨Nat.le_of_ble_eq_true rfl, Nat.le_of_ble_eq_true rfl⟩ (by show 0 < 14; decide) rfl rfl rfl rfl (Nat.le_of_ble_eq_true rfl) dX7_lagoon_200 rfl ?_
      exact x_iret C E (gs2 hM) dX7_lagoon_203
  clear hM
  have hM := hJ73
  clear hJ73
  refine x_if_ge (tgt := 192) C dX7_lagoon_174 (by decide) rfl (fun hc => ?_) (fun hc => ?_)
  · replace hM := gif_pos hc hM
    cases hM
    exact x_sub [0, 1] rfl J3
  · replace hM := gif_neg hc hM
    refine x_aln C 0 rfl dX7_lagoon_177 rfl ?_
    obtain ⟨r42, s41, h40, hM⟩ := gb2_some hM
    refine x_cvi (As := []) (rest := []) C E.2.2.2.2.2 0 (c_X7_next hG h40) (gBv km_X7_120 kin_X7_next ksel_X7_next kini_X7 kc_X7_next) rfl rfl rfl ⟨rfl, by decide +kernel, by decide +kernel, by decide +kernel⟩ ⟨Nat.le_of_ble_eq_true rfl, Nat.le_of_ble_eq_true rfl⟩ (by show 0 < 14; decide) rfl rfl rfl rfl (Nat.le_of_ble_eq_true rfl) dX7_lagoon_178 rfl ?_
    refine x_if_eq (tgt := 192) C dX7_lagoon_181 (by decide) rfl (fun hc => ?_) (fun hc => ?_)
    · replace hM := gif_pos hc hM
      cases hM
      exact x_sub [0, 1] rfl J3
    · replace hM := gif_neg hc hM
      refine x_aln C 0 rfl dX7_lagoon_184 rfl ?_
      refine x_aln C 0 rfl dX7_lagoon_185 rfl ?_
      refine gMg_0_at C kf_X7_114 dX7_lagoon_186 rfl ?_
      obtain ⟨s44, h43, hM⟩ := gb1_some hM
      refine x_cvv (As := [.int (s41 0 4)]) (rest := []) C E.2.2.2.2.2 1 (c_X7_cannot hG h43) (gBv km_X7_128 kin_X7_cannot ksel_X7_cannot kini_X7 kc_X7_cannot) rfl rfl rfl ⟨rfl, by decide +kernel, by decide +kernel, by decide +kernel⟩ ⟨Nat.le_of_ble_eq_true rfl, Nat.le_of_ble_eq_true rfl⟩ (by show 0 < 14; decide) rfl rfl rfl rfl (Nat.le_of_ble_eq_true rfl) dX7_lagoon_189 rfl ?_
      cases hM
      exact x_sub [0, 1] rfl J3
set_option maxRecDepth 100000 in
set_option maxHeartbeats 4000000 in
theorem c_X7_letter {l : Launch} {D : va_G} {ad : Nat → Nat} {cy : Nat → ClassId} {b : Nat} (hG : gInj (gGM D ad cy b)) {a0 : Int32} {σ : gMem} {r0 : Int32} {σ0 : gMem} (hM : m_X7_letter a0 σ = some (r0, σ0)) : gMi l yX7_letter (Cond.code yX7_letter cX7_letter 3 (some .int) :: gBig) { frames := 2, cells := 0, slots := 0, locals := 46 } (gGM D ad cy b) [.ref (ad 0), .int a0] σ r0 σ0 := by
  refine gIntro (own := RX7) hG (by decide +kernel) rfl rfl (Nat.le_of_ble_eq_true rfl) (lv := [(0, .ref (ad 0)), (1, .int a0)]) rfl (fun κ C E => ?_)
  unfold m_X7_letter at hM
  refine x_aln C 0 rfl dX7_letter_0 rfl ?_
  obtain ⟨r3, s2, h1, hM⟩ := gb2_some hM
  refine x_cvi (As := []) (rest := []) C E.2.2.2.2.2 0 (c_X7_next hG h1) (gBv km_X7_120 kin_X7_next ksel_X7_next kini_X7 kc_X7_next) rfl rfl rfl ⟨rfl, by decide +kernel, by decide +kernel, by decide +kernel⟩ ⟨Nat.le_of_ble_eq_true rfl, Nat.le_of_ble_eq_true rfl⟩ (by show 0 < 14; decide) rfl rfl rfl rfl (Nat.le_of_ble_eq_true rfl) dX7_letter_1 rfl ?_
  refine x_bi (v := 97) C (by decide) dX7_letter_4 rfl ?_
  refine x_isub C dX7_letter_6 rfl ?_
  obtain ⟨x2_4, ev, hM⟩ := gnm_ex hM
  refine x_istn (lv' := [(2, .int x2_4), (0, .ref (ad 0)), (1, .int a0)]) C rfl ev (by decide) rfl dX7_letter_7 rfl ?_
  refine x_aln C 1 rfl dX7_letter_8 rfl ?_
  refine x_iln C 0 rfl dX7_letter_9 rfl ?_
  obtain ⟨r6, h5, hM⟩ := gb1_some hM
  refine x_cvi (As := [.int x2_4]) (rest := []) C E.2.2.2.2.2 1 (c_X7_isPlace hG h5) (gBv km_X7_70 kin_X7_isPlace ksel_X7_isPlace kini_X7 kc_X7_isPlace) rfl rfl rfl ⟨rfl, by decide +kernel, by decide +kernel, by decide +kernel⟩ ⟨Nat.le_of_ble_eq_true rfl, Nat.le_of_ble_eq_true rfl⟩ (by show 0 < 14; decide) rfl rfl rfl rfl (Nat.le_of_ble_eq_true rfl) dX7_letter_10 rfl ?_
  refine x_if_eq (tgt := 21) C dX7_letter_13 (by decide) rfl (fun hc => ?_) (fun hc => ?_)
  · replace hM := gif_pos hc hM
    refine x_aln C 1 rfl dX7_letter_21 rfl ?_
    refine x_aln C 1 rfl dX7_letter_22 rfl ?_
    refine gMg_0_at C kf_X7_114 dX7_letter_23 rfl ?_
    obtain ⟨s8, h7, hM⟩ := gb1_some hM
    refine x_cvv (As := [.int (s2 0 4)]) (rest := []) C E.2.2.2.2.2 1 (c_X7_cannot hG h7) (gBv km_X7_128 kin_X7_cannot ksel_X7_cannot kini_X7 kc_X7_cannot) rfl rfl rfl ⟨rfl, by decide +kernel, by decide +kernel, by decide +kernel⟩ ⟨Nat.le_of_ble_eq_true rfl, Nat.le_of_ble_eq_true rfl⟩ (by show 0 < 14; decide) rfl rfl rfl rfl (Nat.le_of_ble_eq_true rfl) dX7_letter_26 rfl ?_
    refine x_ic (v := 0) C (by decide) dX7_letter_29 rfl ?_
    exact x_iret C E (gs2 hM) dX7_letter_30
  · replace hM := gif_neg hc hM
    refine x_iln C 0 rfl dX7_letter_16 rfl ?_
    refine x_iln C 2 rfl dX7_letter_17 rfl ?_
    refine x_ic_ne (tgt := 31) C dX7_letter_18 (by decide) rfl (fun hc => ?_) (fun hc => ?_)
    · replace hM := gif_neg hc hM
      refine x_aln C 1 rfl dX7_letter_31 rfl ?_
      refine x_dup C rfl dX7_letter_32 rfl ?_
      refine gMg_0_at C kf_X7_114 dX7_letter_33 rfl ?_
      refine x_ic (v := 1) C (by decide) dX7_letter_36 rfl ?_
      refine x_iadd C dX7_letter_37 rfl ?_
      obtain ⟨s9, ev, hM⟩ := gnm_ex hM
      refine gMp_0_at C ev kf_X7_114 dX7_letter_38 rfl ?_
      refine x_iln C 0 rfl dX7_letter_41 rfl ?_
      exact x_iret C E (gs2 hM) dX7_letter_42
    · replace hM := gif_pos hc hM
      refine x_aln C 1 rfl dX7_letter_21 rfl ?_
      refine x_aln C 1 rfl dX7_letter_22 rfl ?_
      refine gMg_0_at C kf_X7_114 dX7_letter_23 rfl ?_
      obtain ⟨s11, h10, hM⟩ := gb1_some hM
      refine x_cvv (As := [.int (s2 0 4)]) (rest := []) C E.2.2.2.2.2 1 (c_X7_cannot hG h10) (gBv km_X7_128 kin_X7_cannot ksel_X7_cannot kini_X7 kc_X7_cannot) rfl rfl rfl ⟨rfl, by decide +kernel, by decide +kernel, by decide +kernel⟩ ⟨Nat.le_of_ble_eq_true rfl, Nat.le_of_ble_eq_true rfl⟩ (by show 0 < 14; decide) rfl rfl rfl rfl (Nat.le_of_ble_eq_true rfl) dX7_letter_26 rfl ?_
      refine x_ic (v := 0) C (by decide) dX7_letter_29 rfl ?_
      exact x_iret C E (gs2 hM) dX7_letter_30
set_option maxRecDepth 100000 in
set_option maxHeartbeats 4000000 in
theorem c_X7_paths {l : Launch} {D : va_G} {ad : Nat → Nat} {cy : Nat → ClassId} {b : Nat} (hG : gInj (gGM D ad cy b))  {σ : gMem} {r0 : Int32} {σ0 : gMem} (hM : m_X7_paths  σ = some (r0, σ0)) : gMi l yX7_paths (Cond.code yX7_paths cX7_paths 5 (some .int) :: gBig) { frames := 3, cells := 0, slots := 0, locals := 68 } (gGM D ad cy b) [.ref (ad 0)] σ r0 σ0 := by
  refine gIntro (own := RX7) hG (by decide +kernel) rfl rfl (Nat.le_of_ble_eq_true rfl) (lv := [(0, .ref (ad 0))]) rfl (fun κ C E => ?_)
  unfold m_X7_paths at hM
  refine x_aln C 0 rfl dX7_paths_0 rfl ?_
  obtain ⟨s2, h1, hM⟩ := gb1_some hM
  refine x_cvv (As := []) (rest := []) C E.2.2.2.2.2 0 (c_X7_begin hG h1) (gBv km_X7_135 kin_X7_begin ksel_X7_begin kini_X7 kc_X7_begin) rfl rfl rfl ⟨rfl, by decide +kernel, by decide +kernel, by decide +kernel⟩ ⟨Nat.le_of_ble_eq_true rfl, Nat.le_of_ble_eq_true rfl⟩ (by show 0 < 14; decide) rfl rfl rfl rfl (Nat.le_of_ble_eq_true rfl) dX7_paths_1 rfl ?_
  refine x_ic (v := 0) C (by decide) dX7_paths_4 rfl ?_
  refine x_istn (lv' := [(1, .int 0), (0, .ref (ad 0))]) C rfl rfl (by decide) rfl dX7_paths_5 rfl ?_
  refine x_ic (v := 1) C (by decide) dX7_paths_6 rfl ?_
  refine x_istn (lv' := [(2, .int 1), (1, .int 0), (0, .ref (ad 0))]) C rfl rfl (by decide) rfl dX7_paths_7 rfl ?_
  have L8 : ∀ (n : Nat) (x1_3 : Int32) (x2_4 : Int32) (s5 : gMem) (x1_6 : Int32) (s7 : gMem), m_X7_paths_8 n x1_3 x2_4 s5 = some (x1_6, s7) → (wx κ (gGM D ad cy b) (gA (gGM D ad cy b)) 5 s7 145 [(0, .ref (ad 0)), (1, .int x1_6)] []) → wx κ (gGM D ad cy b) (gA (gGM D ad cy b)) 5 s5 8 [(0, .ref (ad 0)), (1, .int x1_3), (2, .int x2_4)] [] := by
    clear hM
    intro n
    induction n with
    | zero => intro _ _ _ _ _ hM; cases hM
    | succ n ih =>
      intro x1_3 x2_4 s5 x1_6 s7 hM kx0
      replace hM : b_X7_paths_8 (m_X7_paths_8 n) x1_3 x2_4 s5 = some (x1_6, s7) := hM
      unfold b_X7_paths_8 at hM
      refine x_iln C 2 rfl dX7_paths_8 rfl ?_
      refine x_if_eq (tgt := 145) C dX7_paths_9 (by decide) rfl (fun hc => ?_) (fun hc => ?_)
      · replace hM := gif_pos hc hM
        cases hM
        exact x_sub [0, 1] rfl (kx0)
      · replace hM := gif_neg hc hM
        refine x_aln C 0 rfl dX7_paths_12 rfl ?_
        refine gMg_0_fault C kf_X7_117 dX7_paths_13 rfl ?_
        refine x_if_ge (tgt := 145) C dX7_paths_16 (by decide) rfl (fun hc => ?_) (fun hc => ?_)
        · replace hM := gif_pos hc hM
          cases hM
          exact x_sub [0, 1] rfl (kx0)
        · replace hM := gif_neg hc hM
          refine x_aln C 0 rfl dX7_paths_19 rfl ?_
          refine x_ic (v := (-1)) C (by decide) dX7_paths_20 rfl ?_
          obtain ⟨r10, s9, h8, hM⟩ := gb2_some hM
          refine x_cvi (As := [.int (-1)]) (rest := []) C E.2.2.2.2.2 1 (c_X7_letter hG h8) (gBv km_X7_148 kin_X7_letter ksel_X7_letter kini_X7 kc_X7_letter) rfl rfl rfl ⟨rfl, by decide +kernel, by decide +kernel, by decide +kernel⟩ ⟨Nat.le_of_ble_eq_true rfl, Nat.le_of_ble_eq_true rfl⟩ (by show 0 < 14; decide) rfl rfl rfl rfl (Nat.le_of_ble_eq_true rfl) dX7_paths_21 rfl ?_
          refine x_istn (lv' := [(3, .int r10), (0, .ref (ad 0)), (1, .int x1_3), (2, .int x2_4)]) C rfl rfl (by decide) rfl dX7_paths_24 rfl ?_
          refine x_aln C 1 rfl dX7_paths_25 rfl ?_
          refine gMg_0_fault C kf_X7_117 dX7_paths_26 rfl ?_
          obtain ⟨w11, s12, hJ34, hM⟩ := gb2_some hM
          have J1 : wx κ (gGM D ad cy b) (gA (gGM D ad cy b)) 5 s12 41 [(0, .ref (ad 0)), (1, .int x1_3), (3, .int r10)] [.int w11] := by
            refine x_ist (lv' := [(4, .int w11), (0, .ref (ad 0)), (1, .int x1_3), (3, .int r10)]) C rfl (by decide) rfl dX7_paths_41 rfl ?_
            refine x_aln C 1 rfl dX7_paths_43 rfl ?_
            refine gMg_0_fault C kf_X7_117 dX7_paths_44 rfl ?_
            obtain ⟨s16, hJ33, hM⟩ := gb1_some hM
            have J2 : wx κ (gGM D ad cy b) (gA (gGM D ad cy b)) 5 s16 58 [(0, .ref (ad 0)), (1, .int x1_3), (3, .int r10), (4, .int w11)] [] := by
              refine x_aln C 0 rfl dX7_paths_58 rfl ?_
              refine gMg_0_told C kf_X7_16 dX7_paths_59 rfl ?_
              refine x_ic (v := 3) C (by decide) dX7_paths_62 rfl ?_
              refine x_iln C 1 rfl dX7_paths_63 rfl ?_
              refine x_imul C dX7_paths_64 rfl ?_
              refine x_iln C 2 rfl dX7_paths_65 rfl ?_
              obtain ⟨h19, hM⟩ := gck_some hM
              obtain ⟨s20, ev, hM⟩ := gnm_ex hM
              refine gMs_3 C ev h19 dX7_paths_66 rfl ?_
              refine x_aln C 0 rfl dX7_paths_67 rfl ?_
              refine gMg_0_told C kf_X7_16 dX7_paths_68 rfl ?_
              refine x_ic (v := 3) C (by decide) dX7_paths_71 rfl ?_
              refine x_iln C 1 rfl dX7_paths_72 rfl ?_
              refine x_imul C dX7_paths_73 rfl ?_
              refine x_ic (v := 1) C (by decide) dX7_paths_74 rfl ?_
              refine x_iadd C dX7_paths_75 rfl ?_
              refine x_il C 3 rfl dX7_paths_76 rfl ?_
              obtain ⟨h21, hM⟩ := gck_some hM
              obtain ⟨s22, ev, hM⟩ := gnm_ex hM
              refine gMs_3 C ev h21 dX7_paths_78 rfl ?_
              refine x_aln C 0 rfl dX7_paths_79 rfl ?_
              refine gMg_0_told C kf_X7_16 dX7_paths_80 rfl ?_
              refine x_ic (v := 3) C (by decide) dX7_paths_83 rfl ?_
              refine x_iln C 1 rfl dX7_paths_84 rfl ?_
              refine x_imul C dX7_paths_85 rfl ?_
              refine x_ic (v := 2) C (by decide) dX7_paths_86 rfl ?_
              refine x_iadd C dX7_paths_87 rfl ?_
              refine x_aln C 0 rfl dX7_paths_88 rfl ?_
              refine gMg_0_found C kf_X7_132 dX7_paths_89 rfl ?_
              obtain ⟨h23, hM⟩ := gck_some hM
              obtain ⟨s24, ev, hM⟩ := gnm_ex hM
              refine gMs_3 C ev h23 dX7_paths_92 rfl ?_
              obtain ⟨x1_25, ev, hM⟩ := gnm_ex hM
              refine x_iinc (j := 1) (w := 1) (lv' := [(1, .int x1_25), (0, .ref (ad 0)), (3, .int r10), (4, .int w11)]) C rfl ev (by decide) (by decide) rfl dX7_paths_93 rfl ?_
              refine x_aln C 1 rfl dX7_paths_96 rfl ?_
              refine gMg_0_fault C kf_X7_117 dX7_paths_97 rfl ?_
              refine x_if_ge (tgt := 122) C dX7_paths_100 (by decide) rfl (fun hc => ?_) (fun hc => ?_)
              · replace hM := gif_pos hc hM
                refine x_ic (v := 0) C (by decide) dX7_paths_122 rfl ?_
                refine x_istn (lv' := [(2, .int 0), (1, .int x1_25), (0, .ref (ad 0)), (3, .int r10), (4, .int w11)]) C rfl rfl (by decide) rfl dX7_paths_123 rfl ?_
                refine x_aln C 2 rfl dX7_paths_124 rfl ?_
                refine x_dup C rfl dX7_paths_125 rfl ?_
                refine gMg_0_at C kf_X7_114 dX7_paths_126 rfl ?_
                refine x_iln C 0 rfl dX7_paths_129 rfl ?_
                refine x_if_eq (tgt := 137) C dX7_paths_130 (by decide) rfl (fun _ => ?_) (fun h => absurd (by decide) h)
                refine x_ic (v := 0) C (by decide) dX7_paths_137 rfl ?_
                refine x_iadd C dX7_paths_138 rfl ?_
                obtain ⟨s26, ev, hM⟩ := gnm_ex hM
                refine gMp_0_at C ev kf_X7_114 dX7_paths_139 rfl ?_
                refine x_goto (tgt := 8) C dX7_paths_142 (by decide) ?_
                exact x_sub [2, 1, 0] rfl (ih x1_25 0 s26 _ _ hM kx0)
              · replace hM := gif_neg hc hM
                refine x_iln C 0 rfl dX7_paths_103 rfl ?_
                refine x_bi (v := 8) C (by decide) dX7_paths_104 rfl ?_
                refine x_ic_ge (tgt := 122) C dX7_paths_106 (by decide) rfl (fun hc => ?_) (fun hc => ?_)
                · replace hM := gif_pos hc hM
                  refine x_ic (v := 0) C (by decide) dX7_paths_122 rfl ?_
                  refine x_istn (lv' := [(2, .int 0), (1, .int x1_25), (0, .ref (ad 0)), (3, .int r10), (4, .int w11)]) C rfl rfl (by decide) rfl dX7_paths_123 rfl ?_
                  refine x_aln C 2 rfl dX7_paths_124 rfl ?_
                  refine x_dup C rfl dX7_paths_125 rfl ?_
                  refine gMg_0_at C kf_X7_114 dX7_paths_126 rfl ?_
                  refine x_iln C 0 rfl dX7_paths_129 rfl ?_
                  refine x_if_eq (tgt := 137) C dX7_paths_130 (by decide) rfl (fun _ => ?_) (fun h => absurd (by decide) h)
                  refine x_ic (v := 0) C (by decide) dX7_paths_137 rfl ?_
                  refine x_iadd C dX7_paths_138 rfl ?_
                  obtain ⟨s27, ev, hM⟩ := gnm_ex hM
                  refine gMp_0_at C ev kf_X7_114 dX7_paths_139 rfl ?_
                  refine x_goto (tgt := 8) C dX7_paths_142 (by decide) ?_
                  exact x_sub [2, 1, 0] rfl (ih x1_25 0 s27 _ _ hM kx0)
                · replace hM := gif_neg hc hM
                  refine x_aln C 1 rfl dX7_paths_109 rfl ?_
                  obtain ⟨r30, s29, h28, hM⟩ := gb2_some hM
                  refine x_cvi (As := []) (rest := []) C E.2.2.2.2.2 0 (c_X7_next hG h28) (gBv km_X7_120 kin_X7_next ksel_X7_next kini_X7 kc_X7_next) rfl rfl rfl ⟨rfl, by decide +kernel, by decide +kernel, by decide +kernel⟩ ⟨Nat.le_of_ble_eq_true rfl, Nat.le_of_ble_eq_true rfl⟩ (by show 0 < 14; decide) rfl rfl rfl rfl (Nat.le_of_ble_eq_true rfl) dX7_paths_110 rfl ?_
                  refine x_bi (v := 44) C (by decide) dX7_paths_113 rfl ?_
                  refine x_ic_ne (tgt := 122) C dX7_paths_115 (by decide) rfl (fun hc => ?_) (fun hc => ?_)
                  · replace hM := gif_neg hc hM
                    refine x_ic (v := 0) C (by decide) dX7_paths_122 rfl ?_
                    refine x_istn (lv' := [(2, .int 0), (1, .int x1_25), (0, .ref (ad 0)), (3, .int r10), (4, .int w11)]) C rfl rfl (by decide) rfl dX7_paths_123 rfl ?_
                    refine x_aln C 2 rfl dX7_paths_124 rfl ?_
                    refine x_dup C rfl dX7_paths_125 rfl ?_
                    refine gMg_0_at C kf_X7_114 dX7_paths_126 rfl ?_
                    refine x_iln C 0 rfl dX7_paths_129 rfl ?_
                    refine x_if_eq (tgt := 137) C dX7_paths_130 (by decide) rfl (fun _ => ?_) (fun h => absurd (by decide) h)
                    refine x_ic (v := 0) C (by decide) dX7_paths_137 rfl ?_
                    refine x_iadd C dX7_paths_138 rfl ?_
                    obtain ⟨s31, ev, hM⟩ := gnm_ex hM
                    refine gMp_0_at C ev kf_X7_114 dX7_paths_139 rfl ?_
                    refine x_goto (tgt := 8) C dX7_paths_142 (by decide) ?_
                    exact x_sub [2, 1, 0] rfl (ih x1_25 0 s31 _ _ hM kx0)
                  · replace hM := gif_pos hc hM
                    refine x_ic (v := 1) C (by decide) dX7_paths_118 rfl ?_
                    refine x_goto (tgt := 123) C dX7_paths_119 (by decide) ?_
                    refine x_istn (lv' := [(2, .int 1), (1, .int x1_25), (0, .ref (ad 0)), (3, .int r10), (4, .int w11)]) C rfl rfl (by decide) rfl dX7_paths_123 rfl ?_
                    refine x_aln C 2 rfl dX7_paths_124 rfl ?_
                    refine x_dup C rfl dX7_paths_125 rfl ?_
                    refine gMg_0_at C kf_X7_114 dX7_paths_126 rfl ?_
                    refine x_iln C 0 rfl dX7_paths_129 rfl ?_
                    refine x_if_eq (tgt := 137) C dX7_paths_130 (by decide) rfl (fun h => absurd h (by decide)) (fun _ => ?_)
                    refine x_ic (v := 1) C (by decide) dX7_paths_133 rfl ?_
                    refine x_goto (tgt := 138) C dX7_paths_134 (by decide) ?_
                    refine x_iadd C dX7_paths_138 rfl ?_
                    obtain ⟨s32, ev, hM⟩ := gnm_ex hM
                    refine gMp_0_at C ev kf_X7_114 dX7_paths_139 rfl ?_
                    refine x_goto (tgt := 8) C dX7_paths_142 (by decide) ?_
                    exact x_sub [2, 1, 0] rfl (ih x1_25 1 s32 _ _ hM kx0)
            clear hM
            have hM := hJ33
            clear hJ33
            refine x_if_ge (tgt := 58) C dX7_paths_47 (by decide) rfl (fun hc => ?_) (fun hc => ?_)
            · replace hM := gif_pos hc hM
              cases hM
              exact x_sub [1, 2, 3, 0] rfl J2
            · replace hM := gif_neg hc hM
              refine x_aln C 1 rfl dX7_paths_50 rfl ?_
              refine x_ic (v := 1) C (by decide) dX7_paths_51 rfl ?_
              refine x_bi (v := 60) C (by decide) dX7_paths_52 rfl ?_
              refine x_ic (v := 0) C (by decide) dX7_paths_54 rfl ?_
              obtain ⟨s18, h17, hM⟩ := gb1_some hM
              refine x_cvv (As := [.int 1, .int 60, .int 0]) (rest := []) C E.2.2.2.2.2 3 (c_X7_number hG h17) (gBv km_X7_141 kin_X7_number ksel_X7_number kini_X7 kc_X7_number) rfl rfl rfl ⟨rfl, by decide +kernel, by decide +kernel, by decide +kernel⟩ ⟨Nat.le_of_ble_eq_true rfl, Nat.le_of_ble_eq_true rfl⟩ (by show 0 < 14; decide) rfl rfl rfl rfl (Nat.le_of_ble_eq_true rfl) dX7_paths_55 rfl ?_
              cases hM
              exact x_sub [1, 2, 3, 0] rfl J2
          clear hM
          have hM := hJ34
          clear hJ34
          refine x_if_ge (tgt := 40) C dX7_paths_29 (by decide) rfl (fun hc => ?_) (fun hc => ?_)
          · replace hM := gif_pos hc hM
            refine x_ic (v := 0) C (by decide) dX7_paths_40 rfl ?_
            cases hM
            exact x_sub [1, 2, 0] rfl J1
          · replace hM := gif_neg hc hM
            refine x_aln C 1 rfl dX7_paths_32 rfl ?_
            refine x_iln C 0 rfl dX7_paths_33 rfl ?_
            obtain ⟨r15, s14, h13, hM⟩ := gb2_some hM
            refine x_cvi (As := [.int r10]) (rest := []) C E.2.2.2.2.2 1 (c_X7_letter hG h13) (gBv km_X7_148 kin_X7_letter ksel_X7_letter kini_X7 kc_X7_letter) rfl rfl rfl ⟨rfl, by decide +kernel, by decide +kernel, by decide +kernel⟩ ⟨Nat.le_of_ble_eq_true rfl, Nat.le_of_ble_eq_true rfl⟩ (by show 0 < 14; decide) rfl rfl rfl rfl (Nat.le_of_ble_eq_true rfl) dX7_paths_34 rfl ?_
            refine x_goto (tgt := 41) C dX7_paths_37 (by decide) ?_
            cases hM
            exact x_sub [1, 2, 0] rfl J1
  obtain ⟨x1_6, s7, hL35, hM⟩ := gb2_some hM
  refine x_sub [2, 1, 0] rfl (L8 gFU 0 1 s2 _ _ hL35 ?_)
  clear L8
  refine x_aln C 0 rfl dX7_paths_145 rfl ?_
  refine gMg_0_fault C kf_X7_117 dX7_paths_146 rfl ?_
  obtain ⟨s36, hJ56, hM⟩ := gb1_some hM
  have J4 : wx κ (gGM D ad cy b) (gA (gGM D ad cy b)) 5 s36 167 [(0, .ref (ad 0)), (1, .int x1_6)] [] := by
    refine x_aln C 0 rfl dX7_paths_167 rfl ?_
    refine gMg_0_fault C kf_X7_117 dX7_paths_168 rfl ?_
    refine x_if_lt (tgt := 179) C dX7_paths_171 (by decide) rfl (fun hc => ?_) (fun hc => ?_)
    · replace hM := gif_pos hc hM
      refine x_aln C 0 rfl dX7_paths_179 rfl ?_
      refine x_ic (v := 0) C (by decide) dX7_paths_180 rfl ?_
      obtain ⟨s42, ev, hM⟩ := gnm_ex hM
      refine gMp_0_taped C ev kf_X7_110 dX7_paths_181 rfl ?_
      refine x_ic (v := 0) C (by decide) dX7_paths_184 rfl ?_
      refine x_istn (lv' := [(3, .int 0), (0, .ref (ad 0)), (1, .int x1_6)]) C rfl rfl (by decide) rfl dX7_paths_185 rfl ?_
      have L186 : ∀ (n : Nat) (x3_43 : Int32) (s44 : gMem) (s45 : gMem), m_X7_paths_186 x1_6 n x3_43 s44 = some (s45) → (wx κ (gGM D ad cy b) (gA (gGM D ad cy b)) 5 s45 229 [(1, .int x1_6)] []) → wx κ (gGM D ad cy b) (gA (gGM D ad cy b)) 5 s44 186 [(0, .ref (ad 0)), (1, .int x1_6), (3, .int x3_43)] [] := by
        clear hM
        intro n
        induction n with
        | zero => intro _ _ _ hM; cases hM
        | succ n ih =>
          intro x3_43 s44 s45 hM kx0
          replace hM : b_X7_paths_186 x1_6 (m_X7_paths_186 x1_6 n) x3_43 s44 = some (s45) := hM
          unfold b_X7_paths_186 at hM
          refine x_iln C 2 rfl dX7_paths_186 rfl ?_
          refine x_iln C 1 rfl dX7_paths_187 rfl ?_
          refine x_ic_ge (tgt := 229) C dX7_paths_188 (by decide) rfl (fun hc => ?_) (fun hc => ?_)
          · replace hM := gif_pos hc hM
            cases hM
            exact x_sub [1] rfl (kx0)
          · replace hM := gif_neg hc hM
            refine x_aln C 0 rfl dX7_paths_191 rfl ?_
            refine x_aln C 0 rfl dX7_paths_192 rfl ?_
            refine gMg_0_told C kf_X7_16 dX7_paths_193 rfl ?_
            refine x_ic (v := 3) C (by decide) dX7_paths_196 rfl ?_
            refine x_iln C 2 rfl dX7_paths_197 rfl ?_
            refine x_imul C dX7_paths_198 rfl ?_
            obtain ⟨h46, hM⟩ := gck_some hM
            refine gMa_3 C h46 dX7_paths_199 rfl ?_
            refine x_aln C 0 rfl dX7_paths_200 rfl ?_
            refine gMg_0_told C kf_X7_16 dX7_paths_201 rfl ?_
            refine x_ic (v := 3) C (by decide) dX7_paths_204 rfl ?_
            refine x_iln C 2 rfl dX7_paths_205 rfl ?_
            refine x_imul C dX7_paths_206 rfl ?_
            refine x_ic (v := 1) C (by decide) dX7_paths_207 rfl ?_
            refine x_iadd C dX7_paths_208 rfl ?_
            obtain ⟨h47, hM⟩ := gck_some hM
            refine gMa_3 C h47 dX7_paths_209 rfl ?_
            refine x_aln C 0 rfl dX7_paths_210 rfl ?_
            refine gMg_0_told C kf_X7_16 dX7_paths_211 rfl ?_
            refine x_ic (v := 3) C (by decide) dX7_paths_214 rfl ?_
            refine x_iln C 2 rfl dX7_paths_215 rfl ?_
            refine x_imul C dX7_paths_216 rfl ?_
            refine x_ic (v := 2) C (by decide) dX7_paths_217 rfl ?_
            refine x_iadd C dX7_paths_218 rfl ?_
            obtain ⟨h48, hM⟩ := gck_some hM
            refine gMa_3 C h48 dX7_paths_219 rfl ?_
            obtain ⟨s50, h49, hM⟩ := gb1_some hM
            refine x_cvv (As := [.int (s44 3 (3 * x3_43).toNatClampNeg), .int (s44 3 ((3 * x3_43) + 1).toNatClampNeg), .int (s44 3 ((3 * x3_43) + 2).toNatClampNeg)]) (rest := []) C E.2.2.2.2.2 3 (c_X7_join hG h49) (gBv km_X7_84 kin_X7_join ksel_X7_join kini_X7 kc_X7_join) rfl rfl rfl ⟨rfl, by decide +kernel, by decide +kernel, by decide +kernel⟩ ⟨Nat.le_of_ble_eq_true rfl, Nat.le_of_ble_eq_true rfl⟩ (by show 0 < 14; decide) rfl rfl rfl rfl (Nat.le_of_ble_eq_true rfl) dX7_paths_220 rfl ?_
            obtain ⟨x3_51, ev, hM⟩ := gnm_ex hM
            refine x_iinc (j := 2) (w := 1) (lv' := [(3, .int x3_51), (0, .ref (ad 0)), (1, .int x1_6)]) C rfl ev (by decide) (by decide) rfl dX7_paths_223 rfl ?_
            refine x_goto (tgt := 186) C dX7_paths_226 (by decide) ?_
            exact x_sub [1, 2, 0] rfl (ih x3_51 s50 _ hM kx0)
      obtain ⟨s45, hL52, hM⟩ := gb1_some hM
      refine x_sub [1, 2, 0] rfl (L186 gFU 0 s42 _ hL52 ?_)
      clear L186
      refine x_iln C 0 rfl dX7_paths_229 rfl ?_
      exact x_iret C E (gs2 hM) dX7_paths_230
    · replace hM := gif_neg hc hM
      refine x_aln C 0 rfl dX7_paths_174 rfl ?_
      obtain ⟨r55, s54, h53, hM⟩ := gb2_some hM
      refine x_cvi (As := []) (rest := []) C E.2.2.2.2.2 0 (c_X7_fails hG h53) (gBv km_X7_145 kin_X7_fails ksel_X7_fails kini_X7 kc_X7_fails) rfl rfl rfl ⟨rfl, by decide +kernel, by decide +kernel, by decide +kernel⟩ ⟨Nat.le_of_ble_eq_true rfl, Nat.le_of_ble_eq_true rfl⟩ (by show 0 < 14; decide) rfl rfl rfl rfl (Nat.le_of_ble_eq_true rfl) dX7_paths_175 rfl ?_
      exact x_iret C E (gs2 hM) dX7_paths_178
  clear hM
  have hM := hJ56
  clear hJ56
  refine x_if_ge (tgt := 167) C dX7_paths_149 (by decide) rfl (fun hc => ?_) (fun hc => ?_)
  · replace hM := gif_pos hc hM
    cases hM
    exact x_sub [0, 1] rfl J4
  · replace hM := gif_neg hc hM
    refine x_aln C 0 rfl dX7_paths_152 rfl ?_
    obtain ⟨r39, s38, h37, hM⟩ := gb2_some hM
    refine x_cvi (As := []) (rest := []) C E.2.2.2.2.2 0 (c_X7_next hG h37) (gBv km_X7_120 kin_X7_next ksel_X7_next kini_X7 kc_X7_next) rfl rfl rfl ⟨rfl, by decide +kernel, by decide +kernel, by decide +kernel⟩ ⟨Nat.le_of_ble_eq_true rfl, Nat.le_of_ble_eq_true rfl⟩ (by show 0 < 14; decide) rfl rfl rfl rfl (Nat.le_of_ble_eq_true rfl) dX7_paths_153 rfl ?_
    refine x_if_eq (tgt := 167) C dX7_paths_156 (by decide) rfl (fun hc => ?_) (fun hc => ?_)
    · replace hM := gif_pos hc hM
      cases hM
      exact x_sub [0, 1] rfl J4
    · replace hM := gif_neg hc hM
      refine x_aln C 0 rfl dX7_paths_159 rfl ?_
      refine x_aln C 0 rfl dX7_paths_160 rfl ?_
      refine gMg_0_at C kf_X7_114 dX7_paths_161 rfl ?_
      obtain ⟨s41, h40, hM⟩ := gb1_some hM
      refine x_cvv (As := [.int (s38 0 4)]) (rest := []) C E.2.2.2.2.2 1 (c_X7_cannot hG h40) (gBv km_X7_128 kin_X7_cannot ksel_X7_cannot kini_X7 kc_X7_cannot) rfl rfl rfl ⟨rfl, by decide +kernel, by decide +kernel, by decide +kernel⟩ ⟨Nat.le_of_ble_eq_true rfl, Nat.le_of_ble_eq_true rfl⟩ (by show 0 < 14; decide) rfl rfl rfl rfl (Nat.le_of_ble_eq_true rfl) dX7_paths_164 rfl ?_
      cases hM
      exact x_sub [0, 1] rfl J4
set_option maxRecDepth 100000 in
set_option maxHeartbeats 4000000 in
theorem c_X7_count {l : Launch} {D : va_G} {ad : Nat → Nat} {cy : Nat → ClassId} {b : Nat} (hG : gInj (gGM D ad cy b)) {a0 : Int32} {σ : gMem} {r0 : Int32} (hM : m_X7_count a0 σ = some r0) : gMi l yX7_count (Cond.code yX7_count cX7_count 5 (some .int) :: gBig) { frames := 1, cells := 0, slots := 0, locals := 25 } (gGM D ad cy b) [.ref (ad 0), .int a0] σ r0 σ := by
  refine gIntro (own := RX7) hG (by decide +kernel) rfl rfl (Nat.le_of_ble_eq_true rfl) (lv := [(0, .ref (ad 0)), (1, .int a0)]) rfl (fun κ C E => ?_)
  unfold m_X7_count at hM
  refine x_iln C 1 rfl dX7_count_0 rfl ?_
  refine x_i2l C dX7_count_1 rfl ?_
  refine x_lc (v := 0) C (by decide) dX7_count_2 rfl ?_
  refine x_ldc2 (v := 4) C (gBc kk_X7_151) dX7_count_3 rfl ?_
  obtain ⟨r2, h1, hM⟩ := gb1_some hM
  refine x_csi (As := [.long a0.toInt64, .long 0, .long 4]) (rest := []) C E.2.2.2.2.2 3 (c_X7_in hG h1) (gBs km_X7_50 kst_X7_in kini_X7 kc_X7_in) rfl rfl rfl ⟨by decide +kernel, by decide +kernel, by decide +kernel⟩ ⟨Nat.le_of_ble_eq_true rfl, Nat.le_of_ble_eq_true rfl⟩ rfl rfl (Nat.le_of_ble_eq_true rfl) dX7_count_6 rfl ?_
  refine x_if_ne (tgt := 14) C dX7_count_9 (by decide) rfl (fun hc => ?_) (fun hc => ?_)
  · replace hM := gif_neg hc hM
    refine x_iln C 1 rfl dX7_count_14 rfl ?_
    refine x_ic (v := 1) C (by decide) dX7_count_15 rfl ?_
    refine x_ic_ne (tgt := 70) C dX7_count_16 (by decide) rfl (fun hc => ?_) (fun hc => ?_)
    · replace hM := gif_neg hc hM
      refine x_iln C 1 rfl dX7_count_70 rfl ?_
      refine x_if_ne (tgt := 84) C dX7_count_71 (by decide) rfl (fun hc => ?_) (fun hc => ?_)
      · replace hM := gif_neg hc hM
        refine x_iln C 1 rfl dX7_count_84 rfl ?_
        refine x_ic (v := 2) C (by decide) dX7_count_85 rfl ?_
        refine x_ic_ne (tgt := 99) C dX7_count_86 (by decide) rfl (fun hc => ?_) (fun hc => ?_)
        · replace hM := gif_neg hc hM
          refine x_iln C 1 rfl dX7_count_99 rfl ?_
          refine x_ic (v := 3) C (by decide) dX7_count_100 rfl ?_
          refine x_ic_ne (tgt := 114) C dX7_count_101 (by decide) rfl (fun hc => ?_) (fun hc => ?_)
          · replace hM := gif_neg hc hM
            refine x_aln C 0 rfl dX7_count_114 rfl ?_
            refine gMg_0_z C kf_X7_7 dX7_count_115 rfl ?_
            refine x_bi (v := 65) C (by decide) dX7_count_118 rfl ?_
            obtain ⟨h3, hM⟩ := gck_some hM
            refine gMa_1 C h3 dX7_count_120 rfl ?_
            exact x_iret C E ⟨gs1 hM, rfl⟩ dX7_count_121
          · replace hM := gif_pos hc hM
            refine x_aln C 0 rfl dX7_count_104 rfl ?_
            refine gMg_0_z C kf_X7_7 dX7_count_105 rfl ?_
            refine x_bi (v := 64) C (by decide) dX7_count_108 rfl ?_
            obtain ⟨h4, hM⟩ := gck_some hM
            refine gMa_1 C h4 dX7_count_110 rfl ?_
            refine x_goto (tgt := 121) C dX7_count_111 (by decide) ?_
            exact x_iret C E ⟨gs1 hM, rfl⟩ dX7_count_121
        · replace hM := gif_pos hc hM
          refine x_aln C 0 rfl dX7_count_89 rfl ?_
          refine gMg_0_z C kf_X7_7 dX7_count_90 rfl ?_
          refine x_bi (v := 63) C (by decide) dX7_count_93 rfl ?_
          obtain ⟨h5, hM⟩ := gck_some hM
          refine gMa_1 C h5 dX7_count_95 rfl ?_
          refine x_goto (tgt := 121) C dX7_count_96 (by decide) ?_
          exact x_iret C E ⟨gs1 hM, rfl⟩ dX7_count_121
      · replace hM := gif_pos hc hM
        refine x_aln C 0 rfl dX7_count_74 rfl ?_
        refine gMg_0_z C kf_X7_7 dX7_count_75 rfl ?_
        refine x_bi (v := 62) C (by decide) dX7_count_78 rfl ?_
        obtain ⟨h6, hM⟩ := gck_some hM
        refine gMa_1 C h6 dX7_count_80 rfl ?_
        refine x_goto (tgt := 121) C dX7_count_81 (by decide) ?_
        exact x_iret C E ⟨gs1 hM, rfl⟩ dX7_count_121
    · replace hM := gif_pos hc hM
      refine x_ic (v := 0) C (by decide) dX7_count_19 rfl ?_
      refine x_istn (lv' := [(2, .int 0), (0, .ref (ad 0)), (1, .int a0)]) C rfl rfl (by decide) rfl dX7_count_20 rfl ?_
      refine x_ic (v := 0) C (by decide) dX7_count_21 rfl ?_
      refine x_istn (lv' := [(3, .int 0), (2, .int 0), (0, .ref (ad 0)), (1, .int a0)]) C rfl rfl (by decide) rfl dX7_count_22 rfl ?_
      have L23 : ∀ (n : Nat) (x2_7 : Int32) (x3_8 : Int32) (x2_9 : Int32), m_X7_count_23 σ n x2_7 x3_8 = some (x2_9) → (wx κ (gGM D ad cy b) (gA (gGM D ad cy b)) 5 σ 68 [(2, .int x2_9)] []) → wx κ (gGM D ad cy b) (gA (gGM D ad cy b)) 5 σ 23 [(0, .ref (ad 0)), (2, .int x2_7), (3, .int x3_8)] [] := by
        clear hM
        intro n
        induction n with
        | zero => intro _ _ _ hM; cases hM
        | succ n ih =>
          intro x2_7 x3_8 x2_9 hM kx0
          replace hM : b_X7_count_23 σ (m_X7_count_23 σ n) x2_7 x3_8 = some (x2_9) := hM
          unfold b_X7_count_23 at hM
          refine x_iln C 2 rfl dX7_count_23 rfl ?_
          refine x_bi (v := 12) C (by decide) dX7_count_24 rfl ?_
          refine x_ic_ge (tgt := 68) C dX7_count_26 (by decide) rfl (fun hc => ?_) (fun hc => ?_)
          · replace hM := gif_pos hc hM
            cases hM
            exact x_sub [1] rfl (kx0)
          · replace hM := gif_neg hc hM
            refine x_ic (v := 0) C (by decide) dX7_count_29 rfl ?_
            refine x_ist (lv' := [(4, .int 0), (0, .ref (ad 0)), (2, .int x2_7), (3, .int x3_8)]) C rfl (by decide) rfl dX7_count_30 rfl ?_
            have L32 : ∀ (n : Nat) (x2_10 : Int32) (x4_11 : Int32) (x2_12 : Int32), m_X7_count_32 x3_8 σ n x2_10 x4_11 = some (x2_12) → (wx κ (gGM D ad cy b) (gA (gGM D ad cy b)) 5 σ 62 [(0, .ref (ad 0)), (2, .int x2_12), (3, .int x3_8)] []) → wx κ (gGM D ad cy b) (gA (gGM D ad cy b)) 5 σ 32 [(0, .ref (ad 0)), (2, .int x2_10), (3, .int x3_8), (4, .int x4_11)] [] := by
              clear hM
              intro n
              induction n with
              | zero => intro _ _ _ hM; cases hM
              | succ n ih =>
                intro x2_10 x4_11 x2_12 hM kx0
                replace hM : b_X7_count_32 x3_8 σ (m_X7_count_32 x3_8 σ n) x2_10 x4_11 = some (x2_12) := hM
                unfold b_X7_count_32 at hM
                refine x_il C 3 rfl dX7_count_32 rfl ?_
                refine x_iln C 2 rfl dX7_count_34 rfl ?_
                refine x_ic_ge (tgt := 62) C dX7_count_35 (by decide) rfl (fun hc => ?_) (fun hc => ?_)
                · replace hM := gif_pos hc hM
                  cases hM
                  exact x_sub [0, 1, 2] rfl (kx0)
                · replace hM := gif_neg hc hM
                  refine x_iln C 1 rfl dX7_count_38 rfl ?_
                  refine x_aln C 0 rfl dX7_count_39 rfl ?_
                  refine x_iln C 2 rfl dX7_count_40 rfl ?_
                  refine x_il C 3 rfl dX7_count_41 rfl ?_
                  obtain ⟨r14, h13, hM⟩ := gb1_some hM
                  refine x_cvi (As := [.int x3_8, .int x4_11]) (rest := [.int x2_10]) C E.2.2.2.2.2 2 (c_X7_pathOf hG h13) (gBv km_X7_80 kin_X7_pathOf ksel_X7_pathOf kini_X7 kc_X7_pathOf) rfl rfl rfl ⟨rfl, by decide +kernel, by decide +kernel, by decide +kernel⟩ ⟨Nat.le_of_ble_eq_true rfl, Nat.le_of_ble_eq_true rfl⟩ (by show 0 < 14; decide) rfl rfl rfl rfl (Nat.le_of_ble_eq_true rfl) dX7_count_43 rfl ?_
                  refine x_if_le (tgt := 53) C dX7_count_46 (by decide) rfl (fun hc => ?_) (fun hc => ?_)
                  · replace hM := gif_pos hc hM
                    refine x_ic (v := 0) C (by decide) dX7_count_53 rfl ?_
                    refine x_iadd C dX7_count_54 rfl ?_
                    obtain ⟨x2_15, ev, hM⟩ := gnm_ex hM
                    refine x_istn (lv' := [(2, .int x2_15), (0, .ref (ad 0)), (3, .int x3_8), (4, .int x4_11)]) C rfl ev (by decide) rfl dX7_count_55 rfl ?_
                    obtain ⟨x4_16, ev, hM⟩ := gnm_ex hM
                    refine x_iinc (j := 3) (w := 1) (lv' := [(4, .int x4_16), (2, .int x2_15), (0, .ref (ad 0)), (3, .int x3_8)]) C rfl ev (by decide) (by decide) rfl dX7_count_56 rfl ?_
                    refine x_goto (tgt := 32) C dX7_count_59 (by decide) ?_
                    exact x_sub [2, 1, 3, 0] rfl (ih x2_15 x4_16 _ hM kx0)
                  · replace hM := gif_neg hc hM
                    refine x_ic (v := 1) C (by decide) dX7_count_49 rfl ?_
                    refine x_goto (tgt := 54) C dX7_count_50 (by decide) ?_
                    refine x_iadd C dX7_count_54 rfl ?_
                    obtain ⟨x2_17, ev, hM⟩ := gnm_ex hM
                    refine x_istn (lv' := [(2, .int x2_17), (0, .ref (ad 0)), (3, .int x3_8), (4, .int x4_11)]) C rfl ev (by decide) rfl dX7_count_55 rfl ?_
                    obtain ⟨x4_18, ev, hM⟩ := gnm_ex hM
                    refine x_iinc (j := 3) (w := 1) (lv' := [(4, .int x4_18), (2, .int x2_17), (0, .ref (ad 0)), (3, .int x3_8)]) C rfl ev (by decide) (by decide) rfl dX7_count_56 rfl ?_
                    refine x_goto (tgt := 32) C dX7_count_59 (by decide) ?_
                    exact x_sub [2, 1, 3, 0] rfl (ih x2_17 x4_18 _ hM kx0)
            obtain ⟨x2_12, hL19, hM⟩ := gb1_some hM
            refine x_sub [1, 2, 3, 0] rfl (L32 gFU x2_7 0 _ hL19 ?_)
            clear L32
            obtain ⟨x3_20, ev, hM⟩ := gnm_ex hM
            refine x_iinc (j := 2) (w := 1) (lv' := [(3, .int x3_20), (0, .ref (ad 0)), (2, .int x2_12)]) C rfl ev (by decide) (by decide) rfl dX7_count_62 rfl ?_
            refine x_goto (tgt := 23) C dX7_count_65 (by decide) ?_
            exact x_sub [1, 2, 0] rfl (ih x2_12 x3_20 _ hM kx0)
      obtain ⟨x2_9, hL21, hM⟩ := gb1_some hM
      refine x_sub [2, 1, 0] rfl (L23 gFU 0 0 _ hL21 ?_)
      clear L23
      refine x_iln C 0 rfl dX7_count_68 rfl ?_
      exact x_iret C E ⟨gs1 hM, rfl⟩ dX7_count_69
  · replace hM := gif_pos hc hM
    refine x_ic (v := (-1)) C (by decide) dX7_count_12 rfl ?_
    exact x_iret C E ⟨gs1 hM, rfl⟩ dX7_count_13
set_option maxRecDepth 100000 in
set_option maxHeartbeats 4000000 in
theorem c_X7_waterBy {l : Launch} {D : va_G} {ad : Nat → Nat} {cy : Nat → ClassId} {b : Nat} (hG : gInj (gGM D ad cy b)) {a0 : Int32} {a1 : Int32} {a2 : Int32} {σ : gMem} {r0 : Int32} (hM : m_X7_waterBy a0 a1 a2 σ = some r0) : gMi l yX7_waterBy (Cond.code yX7_waterBy cX7_waterBy 5 (some .int) :: gBig) { frames := 0, cells := 0, slots := 0, locals := 0 } (gGM D ad cy b) [.ref (ad 0), .int a0, .int a1, .int a2] σ r0 σ := by
  refine gIntro (own := RX7) hG (by decide +kernel) rfl rfl (Nat.le_of_ble_eq_true rfl) (lv := [(0, .ref (ad 0)), (1, .int a0), (2, .int a1), (3, .int a2)]) rfl (fun κ C E => ?_)
  unfold m_X7_waterBy at hM
  refine x_iln C 1 rfl dX7_waterBy_0 rfl ?_
  refine x_aln C 0 rfl dX7_waterBy_1 rfl ?_
  refine gMg_0_z C kf_X7_7 dX7_waterBy_2 rfl ?_
  refine x_bi (v := 36) C (by decide) dX7_waterBy_5 rfl ?_
  refine x_iln C 2 rfl dX7_waterBy_7 rfl ?_
  refine x_iadd C dX7_waterBy_8 rfl ?_
  obtain ⟨h1, hM⟩ := gck_some hM
  refine gMa_1 C h1 dX7_waterBy_9 rfl ?_
  refine x_iadd C dX7_waterBy_10 rfl ?_
  refine x_iln C 3 rfl dX7_waterBy_11 rfl ?_
  refine x_iadd C dX7_waterBy_12 rfl ?_
  obtain ⟨x4_2, ev, hM⟩ := gnm_ex hM
  refine x_ist (lv' := [(4, .int x4_2), (0, .ref (ad 0)), (1, .int a0), (2, .int a1), (3, .int a2)]) C ev (by decide) rfl dX7_waterBy_13 rfl ?_
  refine x_il C 0 rfl dX7_waterBy_15 rfl ?_
  refine x_if_ge (tgt := 24) C dX7_waterBy_17 (by decide) rfl (fun hc => ?_) (fun hc => ?_)
  · replace hM := gif_pos hc hM
    refine x_il C 0 rfl dX7_waterBy_24 rfl ?_
    exact x_iret C E ⟨gs1 hM, rfl⟩ dX7_waterBy_26
  · replace hM := gif_neg hc hM
    refine x_ic (v := 0) C (by decide) dX7_waterBy_20 rfl ?_
    refine x_goto (tgt := 26) C dX7_waterBy_21 (by decide) ?_
    exact x_iret C E ⟨gs1 hM, rfl⟩ dX7_waterBy_26
set_option maxRecDepth 100000 in
set_option maxHeartbeats 4000000 in
theorem c_X7_water {l : Launch} {D : va_G} {ad : Nat → Nat} {cy : Nat → ClassId} {b : Nat} (hG : gInj (gGM D ad cy b)) {a0 : Int32} {a1 : Int32} {σ : gMem} {r0 : Int32} (hM : m_X7_water a0 a1 σ = some r0) : gMi l yX7_water (Cond.code yX7_water cX7_water 3 (some .int) :: gBig) { frames := 2, cells := 0, slots := 0, locals := 46 } (gGM D ad cy b) [.ref (ad 0), .int a0, .int a1] σ r0 σ := by
  refine gIntro (own := RX7) hG (by decide +kernel) rfl rfl (Nat.le_of_ble_eq_true rfl) (lv := [(0, .ref (ad 0)), (1, .int a0), (2, .int a1)]) rfl (fun κ C E => ?_)
  unfold m_X7_water at hM
  refine x_aln C 0 rfl dX7_water_0 rfl ?_
  refine x_iln C 1 rfl dX7_water_1 rfl ?_
  obtain ⟨r2, h1, hM⟩ := gb1_some hM
  refine x_cvi (As := [.int a0]) (rest := []) C E.2.2.2.2.2 1 (c_X7_isPlace hG h1) (gBv km_X7_70 kin_X7_isPlace ksel_X7_isPlace kini_X7 kc_X7_isPlace) rfl rfl rfl ⟨rfl, by decide +kernel, by decide +kernel, by decide +kernel⟩ ⟨Nat.le_of_ble_eq_true rfl, Nat.le_of_ble_eq_true rfl⟩ (by show 0 < 14; decide) rfl rfl rfl rfl (Nat.le_of_ble_eq_true rfl) dX7_water_2 rfl ?_
  refine x_if_eq (tgt := 38) C dX7_water_5 (by decide) rfl (fun hc => ?_) (fun hc => ?_)
  · replace hM := gif_pos hc hM
    refine x_ic (v := (-1)) C (by decide) dX7_water_38 rfl ?_
    exact x_iret C E ⟨gs1 hM, rfl⟩ dX7_water_39
  · replace hM := gif_neg hc hM
    refine x_iln C 2 rfl dX7_water_8 rfl ?_
    obtain ⟨r4, h3, hM⟩ := gb1_some hM
    refine x_csi (As := [.int a1]) (rest := []) C E.2.2.2.2.2 1 (c_X7_isHour hG h3) (gBs km_X7_88 kst_X7_isHour kini_X7 kc_X7_isHour) rfl rfl rfl ⟨by decide +kernel, by decide +kernel, by decide +kernel⟩ ⟨Nat.le_of_ble_eq_true rfl, Nat.le_of_ble_eq_true rfl⟩ rfl rfl (Nat.le_of_ble_eq_true rfl) dX7_water_9 rfl ?_
    refine x_if_eq (tgt := 38) C dX7_water_12 (by decide) rfl (fun hc => ?_) (fun hc => ?_)
    · replace hM := gif_pos hc hM
      refine x_ic (v := (-1)) C (by decide) dX7_water_38 rfl ?_
      exact x_iret C E ⟨gs1 hM, rfl⟩ dX7_water_39
    · replace hM := gif_neg hc hM
      refine x_aln C 0 rfl dX7_water_15 rfl ?_
      refine x_aln C 0 rfl dX7_water_16 rfl ?_
      refine gMg_0_z C kf_X7_7 dX7_water_17 rfl ?_
      refine x_ic (v := 0) C (by decide) dX7_water_20 rfl ?_
      refine x_iln C 1 rfl dX7_water_21 rfl ?_
      refine x_iadd C dX7_water_22 rfl ?_
      obtain ⟨h5, hM⟩ := gck_some hM
      refine gMa_1 C h5 dX7_water_23 rfl ?_
      refine x_iln C 2 rfl dX7_water_24 rfl ?_
      refine x_aln C 0 rfl dX7_water_25 rfl ?_
      refine gMg_0_z C kf_X7_7 dX7_water_26 rfl ?_
      refine x_bi (v := 60) C (by decide) dX7_water_29 rfl ?_
      obtain ⟨h6, hM⟩ := gck_some hM
      refine gMa_1 C h6 dX7_water_31 rfl ?_
      obtain ⟨r8, h7, hM⟩ := gb1_some hM
      refine x_cvi (As := [.int (σ 1 (0 + a0).toNatClampNeg), .int a1, .int (σ 1 (60 : Int32).toNatClampNeg)]) (rest := []) C E.2.2.2.2.2 3 (c_X7_waterBy hG h7) (gBv km_X7_157 kin_X7_waterBy ksel_X7_waterBy kini_X7 kc_X7_waterBy) rfl rfl rfl ⟨rfl, by decide +kernel, by decide +kernel, by decide +kernel⟩ ⟨Nat.le_of_ble_eq_true rfl, Nat.le_of_ble_eq_true rfl⟩ (by show 0 < 14; decide) rfl rfl rfl rfl (Nat.le_of_ble_eq_true rfl) dX7_water_32 rfl ?_
      refine x_goto (tgt := 39) C dX7_water_35 (by decide) ?_
      exact x_iret C E ⟨gs1 hM, rfl⟩ dX7_water_39
set_option maxRecDepth 100000 in
set_option maxHeartbeats 4000000 in
theorem c_X7_reaches {l : Launch} {D : va_G} {ad : Nat → Nat} {cy : Nat → ClassId} {b : Nat} (hG : gInj (gGM D ad cy b)) {a0 : Int32} {a1 : Int32} {σ : gMem} {r0 : Int32} (hM : m_X7_reaches a0 a1 σ = some r0) : gMi l yX7_reaches (Cond.code yX7_reaches cX7_reaches 3 (some .boolean) :: gBig) { frames := 0, cells := 0, slots := 0, locals := 0 } (gGM D ad cy b) [.ref (ad 0), .int a0, .int a1] σ r0 σ := by
  refine gIntro (own := RX7) hG (by decide +kernel) rfl rfl (Nat.le_of_ble_eq_true rfl) (lv := [(0, .ref (ad 0)), (1, .int a0), (2, .int a1)]) rfl (fun κ C E => ?_)
  unfold m_X7_reaches at hM
  refine x_iln C 2 rfl dX7_reaches_0 rfl ?_
  refine x_iln C 1 rfl dX7_reaches_1 rfl ?_
  refine x_ic_gt (tgt := 22) C dX7_reaches_2 (by decide) rfl (fun hc => ?_) (fun hc => ?_)
  · replace hM := gif_pos hc hM
    refine x_ic (v := 0) C (by decide) dX7_reaches_22 rfl ?_
    exact x_zret C E (by decide) ⟨gs1 hM, rfl⟩ dX7_reaches_23
  · replace hM := gif_neg hc hM
    refine x_iln C 1 rfl dX7_reaches_5 rfl ?_
    refine x_iln C 2 rfl dX7_reaches_6 rfl ?_
    refine x_isub C dX7_reaches_7 rfl ?_
    refine x_aln C 0 rfl dX7_reaches_8 rfl ?_
    refine gMg_0_z C kf_X7_7 dX7_reaches_9 rfl ?_
    refine x_bi (v := 61) C (by decide) dX7_reaches_12 rfl ?_
    obtain ⟨h1, hM⟩ := gck_some hM
    refine gMa_1 C h1 dX7_reaches_14 rfl ?_
    refine x_ic_gt (tgt := 22) C dX7_reaches_15 (by decide) rfl (fun hc => ?_) (fun hc => ?_)
    · replace hM := gif_pos hc hM
      refine x_ic (v := 0) C (by decide) dX7_reaches_22 rfl ?_
      exact x_zret C E (by decide) ⟨gs1 hM, rfl⟩ dX7_reaches_23
    · replace hM := gif_neg hc hM
      refine x_ic (v := 1) C (by decide) dX7_reaches_18 rfl ?_
      refine x_goto (tgt := 23) C dX7_reaches_19 (by decide) ?_
      exact x_zret C E (by decide) ⟨gs1 hM, rfl⟩ dX7_reaches_23
set_option maxRecDepth 100000 in
set_option maxHeartbeats 4000000 in
theorem c_X7_standsBy {l : Launch} {D : va_G} {ad : Nat → Nat} {cy : Nat → ClassId} {b : Nat} (hG : gInj (gGM D ad cy b)) {a0 : Int32} {a1 : Int32} {a2 : Int32} {a3 : Int32} {σ : gMem} {r0 : Int32} (hM : m_X7_standsBy a0 a1 a2 a3 σ = some r0) : gMi l yX7_standsBy (Cond.code yX7_standsBy cX7_standsBy 5 (some .boolean) :: gBig) { frames := 1, cells := 0, slots := 0, locals := 22 } (gGM D ad cy b) [.ref (ad 0), .int a0, .int a1, .int a2, .int a3] σ r0 σ := by
  refine gIntro (own := RX7) hG (by decide +kernel) rfl rfl (Nat.le_of_ble_eq_true rfl) (lv := [(0, .ref (ad 0)), (1, .int a0), (2, .int a1), (3, .int a2), (4, .int a3)]) rfl (fun κ C E => ?_)
  unfold m_X7_standsBy at hM
  refine x_aln C 0 rfl dX7_standsBy_0 rfl ?_
  refine x_iln C 1 rfl dX7_standsBy_1 rfl ?_
  refine x_iln C 2 rfl dX7_standsBy_2 rfl ?_
  refine x_iln C 3 rfl dX7_standsBy_3 rfl ?_
  obtain ⟨r2, h1, hM⟩ := gb1_some hM
  refine x_csi (As := [.int a0, .int a1, .int a2]) (rest := [.ref (ad 0)]) C E.2.2.2.2.2 3 (c_X7_byKind hG h1) (gBs km_X7_98 kst_X7_byKind kini_X7 kc_X7_byKind) rfl rfl rfl ⟨by decide +kernel, by decide +kernel, by decide +kernel⟩ ⟨Nat.le_of_ble_eq_true rfl, Nat.le_of_ble_eq_true rfl⟩ rfl rfl (Nat.le_of_ble_eq_true rfl) dX7_standsBy_4 rfl ?_
  refine x_il C 4 rfl dX7_standsBy_7 rfl ?_
  obtain ⟨r4, h3, hM⟩ := gb1_some hM
  refine x_cvi (As := [.int r2, .int a3]) (rest := []) C E.2.2.2.2.2 2 (c_X7_reaches hG h3) (gBv km_X7_153 kin_X7_reaches ksel_X7_reaches kini_X7 kc_X7_reaches) rfl rfl rfl ⟨rfl, by decide +kernel, by decide +kernel, by decide +kernel⟩ ⟨Nat.le_of_ble_eq_true rfl, Nat.le_of_ble_eq_true rfl⟩ (by show 0 < 14; decide) rfl rfl rfl rfl (Nat.le_of_ble_eq_true rfl) dX7_standsBy_9 rfl ?_
  refine x_if_ne (tgt := 32) C dX7_standsBy_12 (by decide) rfl (fun hc => ?_) (fun hc => ?_)
  · replace hM := gif_neg hc hM
    refine x_ic (v := 1) C (by decide) dX7_standsBy_32 rfl ?_
    refine x_goto (tgt := 37) C dX7_standsBy_33 (by decide) ?_
    exact x_zret C E (by decide) ⟨gs1 hM, rfl⟩ dX7_standsBy_37
  · replace hM := gif_pos hc hM
    refine x_iln C 1 rfl dX7_standsBy_15 rfl ?_
    refine x_ic (v := 1) C (by decide) dX7_standsBy_16 rfl ?_
    refine x_ic_ne (tgt := 36) C dX7_standsBy_17 (by decide) rfl (fun hc => ?_) (fun hc => ?_)
    · replace hM := gif_neg hc hM
      refine x_ic (v := 0) C (by decide) dX7_standsBy_36 rfl ?_
      exact x_zret C E (by decide) ⟨gs1 hM, rfl⟩ dX7_standsBy_37
    · replace hM := gif_pos hc hM
      refine x_aln C 0 rfl dX7_standsBy_20 rfl ?_
      refine x_iln C 2 rfl dX7_standsBy_21 rfl ?_
      refine x_ic (v := 2) C (by decide) dX7_standsBy_22 rfl ?_
      refine x_idiv C (by decide) dX7_standsBy_23 rfl ?_
      refine x_il C 4 rfl dX7_standsBy_24 rfl ?_
      obtain ⟨r6, h5, hM⟩ := gb1_some hM
      refine x_cvi (As := [.int (a1 / 2), .int a3]) (rest := []) C E.2.2.2.2.2 2 (c_X7_reaches hG h5) (gBv km_X7_153 kin_X7_reaches ksel_X7_reaches kini_X7 kc_X7_reaches) rfl rfl rfl ⟨rfl, by decide +kernel, by decide +kernel, by decide +kernel⟩ ⟨Nat.le_of_ble_eq_true rfl, Nat.le_of_ble_eq_true rfl⟩ (by show 0 < 14; decide) rfl rfl rfl rfl (Nat.le_of_ble_eq_true rfl) dX7_standsBy_26 rfl ?_
      refine x_if_eq (tgt := 36) C dX7_standsBy_29 (by decide) rfl (fun hc => ?_) (fun hc => ?_)
      · replace hM := gif_pos hc hM
        refine x_ic (v := 0) C (by decide) dX7_standsBy_36 rfl ?_
        exact x_zret C E (by decide) ⟨gs1 hM, rfl⟩ dX7_standsBy_37
      · replace hM := gif_neg hc hM
        refine x_ic (v := 1) C (by decide) dX7_standsBy_32 rfl ?_
        refine x_goto (tgt := 37) C dX7_standsBy_33 (by decide) ?_
        exact x_zret C E (by decide) ⟨gs1 hM, rfl⟩ dX7_standsBy_37
set_option maxRecDepth 100000 in
set_option maxHeartbeats 4000000 in
theorem c_X7_would {l : Launch} {D : va_G} {ad : Nat → Nat} {cy : Nat → ClassId} {b : Nat} (hG : gInj (gGM D ad cy b)) {a0 : Int32} {a1 : Int32} {a2 : Int32} {a3 : Int32} {σ : gMem} {r0 : Int32} (hM : m_X7_would a0 a1 a2 a3 σ = some r0) : gMi l yX7_would (Cond.code yX7_would cX7_would 5 (some .boolean) :: gBig) { frames := 2, cells := 0, slots := 0, locals := 46 } (gGM D ad cy b) [.ref (ad 0), .int a0, .int a1, .int a2, .int a3] σ r0 σ := by
  refine gIntro (own := RX7) hG (by decide +kernel) rfl rfl (Nat.le_of_ble_eq_true rfl) (lv := [(0, .ref (ad 0)), (1, .int a0), (2, .int a1), (3, .int a2), (4, .int a3)]) rfl (fun κ C E => ?_)
  unfold m_X7_would at hM
  refine x_aln C 0 rfl dX7_would_0 rfl ?_
  refine x_aln C 0 rfl dX7_would_1 rfl ?_
  refine gMg_0_z C kf_X7_7 dX7_would_2 rfl ?_
  refine x_bi (v := 66) C (by decide) dX7_would_5 rfl ?_
  refine x_iln C 1 rfl dX7_would_7 rfl ?_
  refine x_iadd C dX7_would_8 rfl ?_
  obtain ⟨h1, hM⟩ := gck_some hM
  refine gMa_1 C h1 dX7_would_9 rfl ?_
  refine x_iln C 2 rfl dX7_would_10 rfl ?_
  refine x_aln C 0 rfl dX7_would_11 rfl ?_
  refine gMg_0_z C kf_X7_7 dX7_would_12 rfl ?_
  refine x_bi (v := 65) C (by decide) dX7_would_15 rfl ?_
  obtain ⟨h2, hM⟩ := gck_some hM
  refine gMa_1 C h2 dX7_would_17 rfl ?_
  refine x_aln C 0 rfl dX7_would_18 rfl ?_
  refine x_aln C 0 rfl dX7_would_19 rfl ?_
  refine gMg_0_z C kf_X7_7 dX7_would_20 rfl ?_
  refine x_ic (v := 0) C (by decide) dX7_would_23 rfl ?_
  refine x_iln C 3 rfl dX7_would_24 rfl ?_
  refine x_iadd C dX7_would_25 rfl ?_
  obtain ⟨h3, hM⟩ := gck_some hM
  refine gMa_1 C h3 dX7_would_26 rfl ?_
  refine x_il C 4 rfl dX7_would_27 rfl ?_
  refine x_aln C 0 rfl dX7_would_29 rfl ?_
  refine gMg_0_z C kf_X7_7 dX7_would_30 rfl ?_
  refine x_bi (v := 60) C (by decide) dX7_would_33 rfl ?_
  obtain ⟨h4, hM⟩ := gck_some hM
  refine gMa_1 C h4 dX7_would_35 rfl ?_
  obtain ⟨r6, h5, hM⟩ := gb1_some hM
  refine x_cvi (As := [.int (σ 1 (0 + a2).toNatClampNeg), .int a3, .int (σ 1 (60 : Int32).toNatClampNeg)]) (rest := [.int (σ 1 (65 : Int32).toNatClampNeg), .int a1, .int (σ 1 (66 + a0).toNatClampNeg), .ref (ad 0)]) C E.2.2.2.2.2 3 (c_X7_waterBy hG h5) (gBv km_X7_157 kin_X7_waterBy ksel_X7_waterBy kini_X7 kc_X7_waterBy) rfl rfl rfl ⟨rfl, by decide +kernel, by decide +kernel, by decide +kernel⟩ ⟨Nat.le_of_ble_eq_true rfl, Nat.le_of_ble_eq_true rfl⟩ (by show 0 < 14; decide) rfl rfl rfl rfl (Nat.le_of_ble_eq_true rfl) dX7_would_36 rfl ?_
  obtain ⟨r8, h7, hM⟩ := gb1_some hM
  refine x_cvi (As := [.int (σ 1 (66 + a0).toNatClampNeg), .int a1, .int (σ 1 (65 : Int32).toNatClampNeg), .int r6]) (rest := []) C E.2.2.2.2.2 4 (c_X7_standsBy hG h7) (gBv km_X7_160 kin_X7_standsBy ksel_X7_standsBy kini_X7 kc_X7_standsBy) rfl rfl rfl ⟨rfl, by decide +kernel, by decide +kernel, by decide +kernel⟩ ⟨Nat.le_of_ble_eq_true rfl, Nat.le_of_ble_eq_true rfl⟩ (by show 0 < 14; decide) rfl rfl rfl rfl (Nat.le_of_ble_eq_true rfl) dX7_would_39 rfl ?_
  obtain ⟨h9, hM⟩ := gck_some hM
  exact x_zret C E h9 ⟨gs1 hM, rfl⟩ dX7_would_42
set_option maxRecDepth 100000 in
set_option maxHeartbeats 4000000 in
theorem c_X7_does {l : Launch} {D : va_G} {ad : Nat → Nat} {cy : Nat → ClassId} {b : Nat} (hG : gInj (gGM D ad cy b)) {a0 : Int32} {a1 : Int32} {a2 : Int32} {σ : gMem} {r0 : Int32} (hM : m_X7_does a0 a1 a2 σ = some r0) : gMi l yX7_does (Cond.code yX7_does cX7_does 4 (some .boolean) :: gBig) { frames := 3, cells := 0, slots := 0, locals := 70 } (gGM D ad cy b) [.ref (ad 0), .int a0, .int a1, .int a2] σ r0 σ := by
  refine gIntro (own := RX7) hG (by decide +kernel) rfl rfl (Nat.le_of_ble_eq_true rfl) (lv := [(0, .ref (ad 0)), (1, .int a0), (2, .int a1), (3, .int a2)]) rfl (fun κ C E => ?_)
  unfold m_X7_does at hM
  refine x_aln C 0 rfl dX7_does_0 rfl ?_
  refine x_iln C 1 rfl dX7_does_1 rfl ?_
  refine x_aln C 0 rfl dX7_does_2 rfl ?_
  refine gMg_0_z C kf_X7_7 dX7_does_3 rfl ?_
  refine x_bi (v := 74) C (by decide) dX7_does_6 rfl ?_
  refine x_iln C 1 rfl dX7_does_8 rfl ?_
  refine x_iadd C dX7_does_9 rfl ?_
  obtain ⟨h1, hM⟩ := gck_some hM
  refine gMa_1 C h1 dX7_does_10 rfl ?_
  refine x_iln C 2 rfl dX7_does_11 rfl ?_
  refine x_iln C 3 rfl dX7_does_12 rfl ?_
  obtain ⟨r3, h2, hM⟩ := gb1_some hM
  refine x_cvi (As := [.int a0, .int (σ 1 (74 + a0).toNatClampNeg), .int a1, .int a2]) (rest := []) C E.2.2.2.2.2 4 (c_X7_would hG h2) (gBv km_X7_164 kin_X7_would ksel_X7_would kini_X7 kc_X7_would) rfl rfl rfl ⟨rfl, by decide +kernel, by decide +kernel, by decide +kernel⟩ ⟨Nat.le_of_ble_eq_true rfl, Nat.le_of_ble_eq_true rfl⟩ (by show 0 < 14; decide) rfl rfl rfl rfl (Nat.le_of_ble_eq_true rfl) dX7_does_13 rfl ?_
  obtain ⟨h4, hM⟩ := gck_some hM
  exact x_zret C E h4 ⟨gs1 hM, rfl⟩ dX7_does_16
set_option maxRecDepth 100000 in
set_option maxHeartbeats 4000000 in
theorem c_X7_stands {l : Launch} {D : va_G} {ad : Nat → Nat} {cy : Nat → ClassId} {b : Nat} (hG : gInj (gGM D ad cy b)) {a0 : Int32} {a1 : Int32} {a2 : Int32} {σ : gMem} {r0 : Int32} (hM : m_X7_stands a0 a1 a2 σ = some r0) : gMi l yX7_stands (Cond.code yX7_stands cX7_stands 4 (some .int) :: gBig) { frames := 4, cells := 0, slots := 0, locals := 93 } (gGM D ad cy b) [.ref (ad 0), .int a0, .int a1, .int a2] σ r0 σ := by
  refine gIntro (own := RX7) hG (by decide +kernel) rfl rfl (Nat.le_of_ble_eq_true rfl) (lv := [(0, .ref (ad 0)), (1, .int a0), (2, .int a1), (3, .int a2)]) rfl (fun κ C E => ?_)
  unfold m_X7_stands at hM
  refine x_aln C 0 rfl dX7_stands_0 rfl ?_
  refine x_iln C 1 rfl dX7_stands_1 rfl ?_
  obtain ⟨r2, h1, hM⟩ := gb1_some hM
  refine x_cvi (As := [.int a0]) (rest := []) C E.2.2.2.2.2 1 (c_X7_isPerson hG h1) (gBv km_X7_95 kin_X7_isPerson ksel_X7_isPerson kini_X7 kc_X7_isPerson) rfl rfl rfl ⟨rfl, by decide +kernel, by decide +kernel, by decide +kernel⟩ ⟨Nat.le_of_ble_eq_true rfl, Nat.le_of_ble_eq_true rfl⟩ (by show 0 < 14; decide) rfl rfl rfl rfl (Nat.le_of_ble_eq_true rfl) dX7_stands_2 rfl ?_
  refine x_if_eq (tgt := 23) C dX7_stands_5 (by decide) rfl (fun hc => ?_) (fun hc => ?_)
  · replace hM := gif_pos hc hM
    refine x_ic (v := (-1)) C (by decide) dX7_stands_23 rfl ?_
    exact x_iret C E ⟨gs1 hM, rfl⟩ dX7_stands_24
  · replace hM := gif_neg hc hM
    refine x_aln C 0 rfl dX7_stands_8 rfl ?_
    refine x_iln C 2 rfl dX7_stands_9 rfl ?_
    obtain ⟨r4, h3, hM⟩ := gb1_some hM
    refine x_cvi (As := [.int a1]) (rest := []) C E.2.2.2.2.2 1 (c_X7_isPlace hG h3) (gBv km_X7_70 kin_X7_isPlace ksel_X7_isPlace kini_X7 kc_X7_isPlace) rfl rfl rfl ⟨rfl, by decide +kernel, by decide +kernel, by decide +kernel⟩ ⟨Nat.le_of_ble_eq_true rfl, Nat.le_of_ble_eq_true rfl⟩ (by show 0 < 14; decide) rfl rfl rfl rfl (Nat.le_of_ble_eq_true rfl) dX7_stands_10 rfl ?_
    refine x_if_eq (tgt := 23) C dX7_stands_13 (by decide) rfl (fun hc => ?_) (fun hc => ?_)
    · replace hM := gif_pos hc hM
      refine x_ic (v := (-1)) C (by decide) dX7_stands_23 rfl ?_
      exact x_iret C E ⟨gs1 hM, rfl⟩ dX7_stands_24
    · replace hM := gif_neg hc hM
      refine x_iln C 3 rfl dX7_stands_16 rfl ?_
      obtain ⟨r6, h5, hM⟩ := gb1_some hM
      refine x_csi (As := [.int a2]) (rest := []) C E.2.2.2.2.2 1 (c_X7_isHour hG h5) (gBs km_X7_88 kst_X7_isHour kini_X7 kc_X7_isHour) rfl rfl rfl ⟨by decide +kernel, by decide +kernel, by decide +kernel⟩ ⟨Nat.le_of_ble_eq_true rfl, Nat.le_of_ble_eq_true rfl⟩ rfl rfl (Nat.le_of_ble_eq_true rfl) dX7_stands_17 rfl ?_
      refine x_if_ne (tgt := 25) C dX7_stands_20 (by decide) rfl (fun hc => ?_) (fun hc => ?_)
      · replace hM := gif_neg hc hM
        refine x_aln C 0 rfl dX7_stands_25 rfl ?_
        refine x_iln C 1 rfl dX7_stands_26 rfl ?_
        refine x_iln C 2 rfl dX7_stands_27 rfl ?_
        refine x_iln C 3 rfl dX7_stands_28 rfl ?_
        obtain ⟨r8, h7, hM⟩ := gb1_some hM
        refine x_cvi (As := [.int a0, .int a1, .int a2]) (rest := []) C E.2.2.2.2.2 3 (c_X7_does hG h7) (gBv km_X7_167 kin_X7_does ksel_X7_does kini_X7 kc_X7_does) rfl rfl rfl ⟨rfl, by decide +kernel, by decide +kernel, by decide +kernel⟩ ⟨Nat.le_of_ble_eq_true rfl, Nat.le_of_ble_eq_true rfl⟩ (by show 0 < 14; decide) rfl rfl rfl rfl (Nat.le_of_ble_eq_true rfl) dX7_stands_29 rfl ?_
        refine x_if_eq (tgt := 39) C dX7_stands_32 (by decide) rfl (fun hc => ?_) (fun hc => ?_)
        · replace hM := gif_pos hc hM
          refine x_ic (v := 0) C (by decide) dX7_stands_39 rfl ?_
          exact x_iret C E ⟨gs1 hM, rfl⟩ dX7_stands_40
        · replace hM := gif_neg hc hM
          refine x_ic (v := 1) C (by decide) dX7_stands_35 rfl ?_
          refine x_goto (tgt := 40) C dX7_stands_36 (by decide) ?_
          exact x_iret C E ⟨gs1 hM, rfl⟩ dX7_stands_40
      · replace hM := gif_pos hc hM
        refine x_ic (v := (-1)) C (by decide) dX7_stands_23 rfl ?_
        exact x_iret C E ⟨gs1 hM, rfl⟩ dX7_stands_24
set_option maxRecDepth 100000 in
set_option maxHeartbeats 4000000 in
theorem c_X7_hours {l : Launch} {D : va_G} {ad : Nat → Nat} {cy : Nat → ClassId} {b : Nat} (hG : gInj (gGM D ad cy b)) {a0 : Int32} {a1 : Int32} {σ : gMem} {r0 : Int32} (hM : m_X7_hours a0 a1 σ = some r0) : gMi l yX7_hours (Cond.code yX7_hours cX7_hours 5 (some .int) :: gBig) { frames := 4, cells := 0, slots := 0, locals := 93 } (gGM D ad cy b) [.ref (ad 0), .int a0, .int a1] σ r0 σ := by
  refine gIntro (own := RX7) hG (by decide +kernel) rfl rfl (Nat.le_of_ble_eq_true rfl) (lv := [(0, .ref (ad 0)), (1, .int a0), (2, .int a1)]) rfl (fun κ C E => ?_)
  unfold m_X7_hours at hM
  refine x_aln C 0 rfl dX7_hours_0 rfl ?_
  refine x_iln C 1 rfl dX7_hours_1 rfl ?_
  obtain ⟨r2, h1, hM⟩ := gb1_some hM
  refine x_cvi (As := [.int a0]) (rest := []) C E.2.2.2.2.2 1 (c_X7_isPerson hG h1) (gBv km_X7_95 kin_X7_isPerson ksel_X7_isPerson kini_X7 kc_X7_isPerson) rfl rfl rfl ⟨rfl, by decide +kernel, by decide +kernel, by decide +kernel⟩ ⟨Nat.le_of_ble_eq_true rfl, Nat.le_of_ble_eq_true rfl⟩ (by show 0 < 14; decide) rfl rfl rfl rfl (Nat.le_of_ble_eq_true rfl) dX7_hours_2 rfl ?_
  refine x_if_eq (tgt := 16) C dX7_hours_5 (by decide) rfl (fun hc => ?_) (fun hc => ?_)
  · replace hM := gif_pos hc hM
    refine x_ic (v := (-1)) C (by decide) dX7_hours_16 rfl ?_
    exact x_iret C E ⟨gs1 hM, rfl⟩ dX7_hours_17
  · replace hM := gif_neg hc hM
    refine x_aln C 0 rfl dX7_hours_8 rfl ?_
    refine x_iln C 2 rfl dX7_hours_9 rfl ?_
    obtain ⟨r4, h3, hM⟩ := gb1_some hM
    refine x_cvi (As := [.int a1]) (rest := []) C E.2.2.2.2.2 1 (c_X7_isPlace hG h3) (gBv km_X7_70 kin_X7_isPlace ksel_X7_isPlace kini_X7 kc_X7_isPlace) rfl rfl rfl ⟨rfl, by decide +kernel, by decide +kernel, by decide +kernel⟩ ⟨Nat.le_of_ble_eq_true rfl, Nat.le_of_ble_eq_true rfl⟩ (by show 0 < 14; decide) rfl rfl rfl rfl (Nat.le_of_ble_eq_true rfl) dX7_hours_10 rfl ?_
    refine x_if_ne (tgt := 18) C dX7_hours_13 (by decide) rfl (fun hc => ?_) (fun hc => ?_)
    · replace hM := gif_neg hc hM
      refine x_ic (v := 0) C (by decide) dX7_hours_18 rfl ?_
      refine x_istn (lv' := [(3, .int 0), (0, .ref (ad 0)), (1, .int a0), (2, .int a1)]) C rfl rfl (by decide) rfl dX7_hours_19 rfl ?_
      refine x_ic (v := 0) C (by decide) dX7_hours_20 rfl ?_
      refine x_ist (lv' := [(4, .int 0), (3, .int 0), (0, .ref (ad 0)), (1, .int a0), (2, .int a1)]) C rfl (by decide) rfl dX7_hours_21 rfl ?_
      have L23 : ∀ (n : Nat) (x3_5 : Int32) (x4_6 : Int32) (x3_7 : Int32), m_X7_hours_23 a0 a1 σ n x3_5 x4_6 = some (x3_7) → (wx κ (gGM D ad cy b) (gA (gGM D ad cy b)) 5 σ 58 [(3, .int x3_7)] []) → wx κ (gGM D ad cy b) (gA (gGM D ad cy b)) 5 σ 23 [(0, .ref (ad 0)), (1, .int a0), (2, .int a1), (3, .int x3_5), (4, .int x4_6)] [] := by
        clear hM
        intro n
        induction n with
        | zero => intro _ _ _ hM; cases hM
        | succ n ih =>
          intro x3_5 x4_6 x3_7 hM kx0
          replace hM : b_X7_hours_23 a0 a1 σ (m_X7_hours_23 a0 a1 σ n) x3_5 x4_6 = some (x3_7) := hM
          unfold b_X7_hours_23 at hM
          refine x_il C 4 rfl dX7_hours_23 rfl ?_
          refine x_bi (v := 24) C (by decide) dX7_hours_25 rfl ?_
          refine x_ic_ge (tgt := 58) C dX7_hours_27 (by decide) rfl (fun hc => ?_) (fun hc => ?_)
          · replace hM := gif_pos hc hM
            cases hM
            exact x_sub [3] rfl (kx0)
          · replace hM := gif_neg hc hM
            refine x_iln C 3 rfl dX7_hours_30 rfl ?_
            refine x_aln C 0 rfl dX7_hours_31 rfl ?_
            refine x_iln C 1 rfl dX7_hours_32 rfl ?_
            refine x_iln C 2 rfl dX7_hours_33 rfl ?_
            refine x_il C 4 rfl dX7_hours_34 rfl ?_
            obtain ⟨r9, h8, hM⟩ := gb1_some hM
            refine x_cvi (As := [.int a0, .int a1, .int x4_6]) (rest := [.int x3_5]) C E.2.2.2.2.2 3 (c_X7_does hG h8) (gBv km_X7_167 kin_X7_does ksel_X7_does kini_X7 kc_X7_does) rfl rfl rfl ⟨rfl, by decide +kernel, by decide +kernel, by decide +kernel⟩ ⟨Nat.le_of_ble_eq_true rfl, Nat.le_of_ble_eq_true rfl⟩ (by show 0 < 14; decide) rfl rfl rfl rfl (Nat.le_of_ble_eq_true rfl) dX7_hours_36 rfl ?_
            refine x_if_eq (tgt := 49) C dX7_hours_39 (by decide) rfl (fun hc => ?_) (fun hc => ?_)
            · replace hM := gif_pos hc hM
              refine x_ic (v := 0) C (by decide) dX7_hours_49 rfl ?_
              refine x_ior C dX7_hours_50 rfl ?_
              obtain ⟨x3_10, ev, hM⟩ := gnm_ex hM
              refine x_istn (lv' := [(3, .int x3_10), (0, .ref (ad 0)), (1, .int a0), (2, .int a1), (4, .int x4_6)]) C rfl ev (by decide) rfl dX7_hours_51 rfl ?_
              obtain ⟨x4_11, ev, hM⟩ := gnm_ex hM
              refine x_iinc (j := 4) (w := 1) (lv' := [(4, .int x4_11), (3, .int x3_10), (0, .ref (ad 0)), (1, .int a0), (2, .int a1)]) C rfl ev (by decide) (by decide) rfl dX7_hours_52 rfl ?_
              refine x_goto (tgt := 23) C dX7_hours_55 (by decide) ?_
              exact x_sub [2, 3, 4, 1, 0] rfl (ih x3_10 x4_11 _ hM kx0)
            · replace hM := gif_neg hc hM
              refine x_ic (v := 1) C (by decide) dX7_hours_42 rfl ?_
              refine x_il C 4 rfl dX7_hours_43 rfl ?_
              refine x_ishl C dX7_hours_45 rfl ?_
              refine x_goto (tgt := 50) C dX7_hours_46 (by decide) ?_
              refine x_ior C dX7_hours_50 rfl ?_
              obtain ⟨x3_12, ev, hM⟩ := gnm_ex hM
              refine x_istn (lv' := [(3, .int x3_12), (0, .ref (ad 0)), (1, .int a0), (2, .int a1), (4, .int x4_6)]) C rfl ev (by decide) rfl dX7_hours_51 rfl ?_
              obtain ⟨x4_13, ev, hM⟩ := gnm_ex hM
              refine x_iinc (j := 4) (w := 1) (lv' := [(4, .int x4_13), (3, .int x3_12), (0, .ref (ad 0)), (1, .int a0), (2, .int a1)]) C rfl ev (by decide) (by decide) rfl dX7_hours_52 rfl ?_
              refine x_goto (tgt := 23) C dX7_hours_55 (by decide) ?_
              exact x_sub [2, 3, 4, 1, 0] rfl (ih x3_12 x4_13 _ hM kx0)
      obtain ⟨x3_7, hL14, hM⟩ := gb1_some hM
      refine x_sub [2, 3, 4, 1, 0] rfl (L23 gFU 0 0 _ hL14 ?_)
      clear L23
      refine x_iln C 0 rfl dX7_hours_58 rfl ?_
      exact x_iret C E ⟨gs1 hM, rfl⟩ dX7_hours_59
    · replace hM := gif_pos hc hM
      refine x_ic (v := (-1)) C (by decide) dX7_hours_16 rfl ?_
      exact x_iret C E ⟨gs1 hM, rfl⟩ dX7_hours_17
set_option maxRecDepth 100000 in
set_option maxHeartbeats 4000000 in
theorem c_X7_silted {l : Launch} {D : va_G} {ad : Nat → Nat} {cy : Nat → ClassId} {b : Nat} (hG : gInj (gGM D ad cy b)) {a0 : Int32} {a1 : Int32} {σ : gMem} {r0 : Int32} (hM : m_X7_silted a0 a1 σ = some r0) : gMi l yX7_silted (Cond.code yX7_silted cX7_silted 3 (some .int) :: gBig) { frames := 0, cells := 0, slots := 0, locals := 0 } (gGM D ad cy b) [.int a0, .int a1] σ r0 σ := by
  refine gIntro (own := RX7) hG (by decide +kernel) rfl rfl (Nat.le_of_ble_eq_true rfl) (lv := [(0, .int a0), (1, .int a1)]) rfl (fun κ C E => ?_)
  unfold m_X7_silted at hM
  refine x_iln C 0 rfl dX7_silted_0 rfl ?_
  refine x_iln C 1 rfl dX7_silted_1 rfl ?_
  refine x_isub C dX7_silted_2 rfl ?_
  obtain ⟨x2_1, ev, hM⟩ := gnm_ex hM
  refine x_istn (lv' := [(2, .int x2_1), (0, .int a0), (1, .int a1)]) C rfl ev (by decide) rfl dX7_silted_3 rfl ?_
  refine x_iln C 0 rfl dX7_silted_4 rfl ?_
  refine x_bi (v := (-20)) C (by decide) dX7_silted_5 rfl ?_
  refine x_ic_ge (tgt := 15) C dX7_silted_7 (by decide) rfl (fun hc => ?_) (fun hc => ?_)
  · replace hM := gif_pos hc hM
    refine x_iln C 0 rfl dX7_silted_15 rfl ?_
    refine x_bi (v := 60) C (by decide) dX7_silted_16 rfl ?_
    refine x_ic_le (tgt := 26) C dX7_silted_18 (by decide) rfl (fun hc => ?_) (fun hc => ?_)
    · replace hM := gif_pos hc hM
      refine x_iln C 0 rfl dX7_silted_26 rfl ?_
      exact x_iret C E ⟨gs1 hM, rfl⟩ dX7_silted_27
    · replace hM := gif_neg hc hM
      refine x_bi (v := 60) C (by decide) dX7_silted_21 rfl ?_
      refine x_goto (tgt := 27) C dX7_silted_23 (by decide) ?_
      exact x_iret C E ⟨gs1 hM, rfl⟩ dX7_silted_27
  · replace hM := gif_neg hc hM
    refine x_bi (v := (-20)) C (by decide) dX7_silted_10 rfl ?_
    refine x_goto (tgt := 27) C dX7_silted_12 (by decide) ?_
    exact x_iret C E ⟨gs1 hM, rfl⟩ dX7_silted_27
set_option maxRecDepth 100000 in
set_option maxHeartbeats 4000000 in
theorem c_X7_years {l : Launch} {D : va_G} {ad : Nat → Nat} {cy : Nat → ClassId} {b : Nat} (hG : gInj (gGM D ad cy b)) {a0 : Int32} {σ : gMem} {r0 : Int32} {σ0 : gMem} (hM : m_X7_years a0 σ = some (r0, σ0)) : gMi l yX7_years (Cond.code yX7_years cX7_years 4 (some .int) :: gBig) { frames := 1, cells := 0, slots := 0, locals := 25 } (gGM D ad cy b) [.ref (ad 0), .int a0] σ r0 σ0 := by
  refine gIntro (own := RX7) hG (by decide +kernel) rfl rfl (Nat.le_of_ble_eq_true rfl) (lv := [(0, .ref (ad 0)), (1, .int a0)]) rfl (fun κ C E => ?_)
  unfold m_X7_years at hM
  refine x_iln C 1 rfl dX7_years_0 rfl ?_
  refine x_i2l C dX7_years_1 rfl ?_
  refine x_lc (v := 1) C (by decide) dX7_years_2 rfl ?_
  refine x_ldc2 (v := 30) C (gBc kk_X7_171) dX7_years_3 rfl ?_
  obtain ⟨r2, h1, hM⟩ := gb1_some hM
  refine x_csi (As := [.long a0.toInt64, .long 1, .long 30]) (rest := []) C E.2.2.2.2.2 3 (c_X7_in hG h1) (gBs km_X7_50 kst_X7_in kini_X7 kc_X7_in) rfl rfl rfl ⟨by decide +kernel, by decide +kernel, by decide +kernel⟩ ⟨Nat.le_of_ble_eq_true rfl, Nat.le_of_ble_eq_true rfl⟩ rfl rfl (Nat.le_of_ble_eq_true rfl) dX7_years_6 rfl ?_
  refine x_if_ne (tgt := 14) C dX7_years_9 (by decide) rfl (fun hc => ?_) (fun hc => ?_)
  · replace hM := gif_neg hc hM
    refine x_aln C 0 rfl dX7_years_14 rfl ?_
    refine gMg_0_z C kf_X7_7 dX7_years_15 rfl ?_
    refine x_bi (v := 65) C (by decide) dX7_years_18 rfl ?_
    obtain ⟨h3, hM⟩ := gck_some hM
    refine gMa_1 C h3 dX7_years_20 rfl ?_
    refine x_iln C 1 rfl dX7_years_21 rfl ?_
    refine x_iadd C dX7_years_22 rfl ?_
    refine x_si (v := 999) C (by decide) dX7_years_23 rfl ?_
    refine x_ic_le (tgt := 32) C dX7_years_26 (by decide) rfl (fun hc => ?_) (fun hc => ?_)
    · replace hM := gif_pos hc hM
      refine x_ic (v := 0) C (by decide) dX7_years_32 rfl ?_
      refine x_istn (lv' := [(2, .int 0), (0, .ref (ad 0)), (1, .int a0)]) C rfl rfl (by decide) rfl dX7_years_33 rfl ?_
      have L34 : ∀ (n : Nat) (x2_4 : Int32) (s5 : gMem) (s6 : gMem), m_X7_years_34 a0 n x2_4 s5 = some (s6) → (wx κ (gGM D ad cy b) (gA (gGM D ad cy b)) 4 s6 92 [(0, .ref (ad 0)), (1, .int a0)] []) → wx κ (gGM D ad cy b) (gA (gGM D ad cy b)) 4 s5 34 [(0, .ref (ad 0)), (1, .int a0), (2, .int x2_4)] [] := by
        clear hM
        intro n
        induction n with
        | zero => intro _ _ _ hM; cases hM
        | succ n ih =>
          intro x2_4 s5 s6 hM kx0
          replace hM : b_X7_years_34 a0 (m_X7_years_34 a0 n) x2_4 s5 = some (s6) := hM
          unfold b_X7_years_34 at hM
          refine x_iln C 2 rfl dX7_years_34 rfl ?_
          refine x_iln C 1 rfl dX7_years_35 rfl ?_
          refine x_ic_ge (tgt := 92) C dX7_years_36 (by decide) rfl (fun hc => ?_) (fun hc => ?_)
          · replace hM := gif_pos hc hM
            cases hM
            exact x_sub [0, 1] rfl (kx0)
          · replace hM := gif_neg hc hM
            refine x_ic (v := 0) C (by decide) dX7_years_39 rfl ?_
            refine x_istn (lv' := [(3, .int 0), (0, .ref (ad 0)), (1, .int a0), (2, .int x2_4)]) C rfl rfl (by decide) rfl dX7_years_40 rfl ?_
            have L41 : ∀ (n : Nat) (x3_7 : Int32) (s8 : gMem) (s9 : gMem), m_X7_years_41 n x3_7 s8 = some (s9) → (wx κ (gGM D ad cy b) (gA (gGM D ad cy b)) 4 s9 86 [(0, .ref (ad 0)), (1, .int a0), (2, .int x2_4)] []) → wx κ (gGM D ad cy b) (gA (gGM D ad cy b)) 4 s8 41 [(0, .ref (ad 0)), (1, .int a0), (2, .int x2_4), (3, .int x3_7)] [] := by
              clear hM
              intro n
              induction n with
              | zero => intro _ _ _ hM; cases hM
              | succ n ih =>
                intro x3_7 s8 s9 hM kx0
                replace hM : b_X7_years_41 (m_X7_years_41 n) x3_7 s8 = some (s9) := hM
                unfold b_X7_years_41 at hM
                refine x_iln C 3 rfl dX7_years_41 rfl ?_
                refine x_aln C 0 rfl dX7_years_42 rfl ?_
                refine gMg_0_z C kf_X7_7 dX7_years_43 rfl ?_
                refine x_bi (v := 62) C (by decide) dX7_years_46 rfl ?_
                obtain ⟨h10, hM⟩ := gck_some hM
                refine gMa_1 C h10 dX7_years_48 rfl ?_
                refine x_ic_ge (tgt := 86) C dX7_years_49 (by decide) rfl (fun hc => ?_) (fun hc => ?_)
                · replace hM := gif_pos hc hM
                  cases hM
                  exact x_sub [0, 1, 2] rfl (kx0)
                · replace hM := gif_neg hc hM
                  refine x_aln C 0 rfl dX7_years_52 rfl ?_
                  refine gMg_0_z C kf_X7_7 dX7_years_53 rfl ?_
                  refine x_ic (v := 0) C (by decide) dX7_years_56 rfl ?_
                  refine x_iln C 3 rfl dX7_years_57 rfl ?_
                  refine x_iadd C dX7_years_58 rfl ?_
                  refine x_aln C 0 rfl dX7_years_59 rfl ?_
                  refine gMg_0_z C kf_X7_7 dX7_years_60 rfl ?_
                  refine x_ic (v := 0) C (by decide) dX7_years_63 rfl ?_
                  refine x_iln C 3 rfl dX7_years_64 rfl ?_
                  refine x_iadd C dX7_years_65 rfl ?_
                  obtain ⟨h11, hM⟩ := gck_some hM
                  refine gMa_1 C h11 dX7_years_66 rfl ?_
                  refine x_aln C 0 rfl dX7_years_67 rfl ?_
                  refine gMg_0_z C kf_X7_7 dX7_years_68 rfl ?_
                  refine x_bi (v := 24) C (by decide) dX7_years_71 rfl ?_
                  refine x_iln C 3 rfl dX7_years_73 rfl ?_
                  refine x_iadd C dX7_years_74 rfl ?_
                  obtain ⟨h12, hM⟩ := gck_some hM
                  refine gMa_1 C h12 dX7_years_75 rfl ?_
                  obtain ⟨r14, h13, hM⟩ := gb1_some hM
                  refine x_csi (As := [.int (s8 1 (0 + x3_7).toNatClampNeg), .int (s8 1 (24 + x3_7).toNatClampNeg)]) (rest := [.int (0 + x3_7), .ref (ad 1)]) C E.2.2.2.2.2 2 (c_X7_silted hG h13) (gBs km_X7_173 kst_X7_silted kini_X7 kc_X7_silted) rfl rfl rfl ⟨by decide +kernel, by decide +kernel, by decide +kernel⟩ ⟨Nat.le_of_ble_eq_true rfl, Nat.le_of_ble_eq_true rfl⟩ rfl rfl (Nat.le_of_ble_eq_true rfl) dX7_years_76 rfl ?_
                  obtain ⟨h15, hM⟩ := gck_some hM
                  obtain ⟨s16, ev, hM⟩ := gnm_ex hM
                  refine gMs_1 C ev h15 dX7_years_79 rfl ?_
                  obtain ⟨x3_17, ev, hM⟩ := gnm_ex hM
                  refine x_iinc (j := 3) (w := 1) (lv' := [(3, .int x3_17), (0, .ref (ad 0)), (1, .int a0), (2, .int x2_4)]) C rfl ev (by decide) (by decide) rfl dX7_years_80 rfl ?_
                  refine x_goto (tgt := 41) C dX7_years_83 (by decide) ?_
                  exact x_sub [1, 2, 3, 0] rfl (ih x3_17 s16 _ hM kx0)
            obtain ⟨s9, hL18, hM⟩ := gb1_some hM
            refine x_sub [1, 2, 3, 0] rfl (L41 gFU 0 s5 _ hL18 ?_)
            clear L41
            obtain ⟨x2_19, ev, hM⟩ := gnm_ex hM
            refine x_iinc (j := 2) (w := 1) (lv' := [(2, .int x2_19), (0, .ref (ad 0)), (1, .int a0)]) C rfl ev (by decide) (by decide) rfl dX7_years_86 rfl ?_
            refine x_goto (tgt := 34) C dX7_years_89 (by decide) ?_
            exact x_sub [1, 2, 0] rfl (ih x2_19 s9 _ hM kx0)
      obtain ⟨s6, hL20, hM⟩ := gb1_some hM
      refine x_sub [1, 2, 0] rfl (L34 gFU 0 σ _ hL20 ?_)
      clear L34
      refine x_aln C 0 rfl dX7_years_92 rfl ?_
      refine gMg_0_z C kf_X7_7 dX7_years_93 rfl ?_
      refine x_bi (v := 65) C (by decide) dX7_years_96 rfl ?_
      refine x_dup2 C rfl rfl dX7_years_98 rfl ?_
      obtain ⟨h21, hM⟩ := gck_some hM
      refine gMa_1 C h21 dX7_years_99 rfl ?_
      refine x_iln C 1 rfl dX7_years_100 rfl ?_
      refine x_iadd C dX7_years_101 rfl ?_
      obtain ⟨h22, hM⟩ := gck_some hM
      obtain ⟨s23, ev, hM⟩ := gnm_ex hM
      refine gMs_1 C ev h22 dX7_years_102 rfl ?_
      refine x_aln C 0 rfl dX7_years_103 rfl ?_
      refine gMg_0_z C kf_X7_7 dX7_years_104 rfl ?_
      refine x_bi (v := 65) C (by decide) dX7_years_107 rfl ?_
      obtain ⟨h24, hM⟩ := gck_some hM
      refine gMa_1 C h24 dX7_years_109 rfl ?_
      exact x_iret C E (gs2 hM) dX7_years_110
    · replace hM := gif_neg hc hM
      refine x_bi (v := (-3)) C (by decide) dX7_years_29 rfl ?_
      exact x_iret C E (gs2 hM) dX7_years_31
  · replace hM := gif_pos hc hM
    refine x_ic (v := (-1)) C (by decide) dX7_years_12 rfl ?_
    exact x_iret C E (gs2 hM) dX7_years_13
set_option maxRecDepth 100000 in
set_option maxHeartbeats 4000000 in
theorem c_X7_hourOf {l : Launch} {D : va_G} {ad : Nat → Nat} {cy : Nat → ClassId} {b : Nat} (hG : gInj (gGM D ad cy b)) {a0 : Int32} {σ : gMem} {r0 : Int32} (hM : m_X7_hourOf a0 σ = some r0) : gMi l yX7_hourOf (Cond.code yX7_hourOf cX7_hourOf 1 (some .int) :: gBig) { frames := 0, cells := 0, slots := 0, locals := 0 } (gGM D ad cy b) [.int a0] σ r0 σ := by
  refine gIntro (own := RX7) hG (by decide +kernel) rfl rfl (Nat.le_of_ble_eq_true rfl) (lv := [(0, .int a0)]) rfl (fun κ C E => ?_)
  unfold m_X7_hourOf at hM
  refine x_iln C 0 rfl dX7_hourOf_0 rfl ?_
  refine x_bi (v := 60) C (by decide) dX7_hourOf_1 rfl ?_
  refine x_idiv C (by decide) dX7_hourOf_3 rfl ?_
  refine x_bi (v := 24) C (by decide) dX7_hourOf_4 rfl ?_
  refine x_irem C (by decide) dX7_hourOf_6 rfl ?_
  exact x_iret C E ⟨gs1 hM, rfl⟩ dX7_hourOf_7
set_option maxRecDepth 100000 in
set_option maxHeartbeats 4000000 in
theorem c_X7_postOf {l : Launch} {D : va_G} {ad : Nat → Nat} {cy : Nat → ClassId} {b : Nat} (hG : gInj (gGM D ad cy b)) {a0 : Int32} {σ : gMem} {r0 : Int32} (hM : m_X7_postOf a0 σ = some r0) : gMi l yX7_postOf (Cond.code yX7_postOf cX7_postOf 4 (some .int) :: gBig) { frames := 0, cells := 0, slots := 0, locals := 0 } (gGM D ad cy b) [.ref (ad 0), .int a0] σ r0 σ := by
  refine gIntro (own := RX7) hG (by decide +kernel) rfl rfl (Nat.le_of_ble_eq_true rfl) (lv := [(0, .ref (ad 0)), (1, .int a0)]) rfl (fun κ C E => ?_)
  unfold m_X7_postOf at hM
  refine x_aln C 0 rfl dX7_postOf_0 rfl ?_
  refine gMg_0_z C kf_X7_7 dX7_postOf_1 rfl ?_
  refine x_bi (v := 12) C (by decide) dX7_postOf_4 rfl ?_
  refine x_iln C 1 rfl dX7_postOf_6 rfl ?_
  refine x_iadd C dX7_postOf_7 rfl ?_
  obtain ⟨h1, hM⟩ := gck_some hM
  refine gMa_1 C h1 dX7_postOf_8 rfl ?_
  refine x_if_ne (tgt := 14) C dX7_postOf_9 (by decide) rfl (fun hc => ?_) (fun hc => ?_)
  · replace hM := gif_neg hc hM
    refine x_ic (v := 0) C (by decide) dX7_postOf_14 rfl ?_
    refine x_istn (lv' := [(2, .int 0), (0, .ref (ad 0)), (1, .int a0)]) C rfl rfl (by decide) rfl dX7_postOf_15 rfl ?_
    refine x_ic (v := 0) C (by decide) dX7_postOf_16 rfl ?_
    refine x_istn (lv' := [(3, .int 0), (2, .int 0), (0, .ref (ad 0)), (1, .int a0)]) C rfl rfl (by decide) rfl dX7_postOf_17 rfl ?_
    have L18 : ∀ (n : Nat) (x2_2 : Int32) (x3_3 : Int32) (x2_4 : Int32), m_X7_postOf_18 a0 σ n x2_2 x3_3 = some (x2_4) → (wx κ (gGM D ad cy b) (gA (gGM D ad cy b)) 4 σ 49 [(2, .int x2_4)] []) → wx κ (gGM D ad cy b) (gA (gGM D ad cy b)) 4 σ 18 [(0, .ref (ad 0)), (1, .int a0), (2, .int x2_2), (3, .int x3_3)] [] := by
      clear hM
      intro n
      induction n with
      | zero => intro _ _ _ hM; cases hM
      | succ n ih =>
        intro x2_2 x3_3 x2_4 hM kx0
        replace hM : b_X7_postOf_18 a0 σ (m_X7_postOf_18 a0 σ n) x2_2 x3_3 = some (x2_4) := hM
        unfold b_X7_postOf_18 at hM
        refine x_iln C 3 rfl dX7_postOf_18 rfl ?_
        refine x_iln C 1 rfl dX7_postOf_19 rfl ?_
        refine x_ic_ge (tgt := 49) C dX7_postOf_20 (by decide) rfl (fun hc => ?_) (fun hc => ?_)
        · replace hM := gif_pos hc hM
          cases hM
          exact x_sub [2] rfl (kx0)
        · replace hM := gif_neg hc hM
          refine x_iln C 2 rfl dX7_postOf_23 rfl ?_
          refine x_aln C 0 rfl dX7_postOf_24 rfl ?_
          refine gMg_0_z C kf_X7_7 dX7_postOf_25 rfl ?_
          refine x_bi (v := 12) C (by decide) dX7_postOf_28 rfl ?_
          refine x_iln C 3 rfl dX7_postOf_30 rfl ?_
          refine x_iadd C dX7_postOf_31 rfl ?_
          obtain ⟨h5, hM⟩ := gck_some hM
          refine gMa_1 C h5 dX7_postOf_32 rfl ?_
          refine x_if_le (tgt := 40) C dX7_postOf_33 (by decide) rfl (fun hc => ?_) (fun hc => ?_)
          · replace hM := gif_pos hc hM
            refine x_ic (v := 0) C (by decide) dX7_postOf_40 rfl ?_
            refine x_iadd C dX7_postOf_41 rfl ?_
            obtain ⟨x2_6, ev, hM⟩ := gnm_ex hM
            refine x_istn (lv' := [(2, .int x2_6), (0, .ref (ad 0)), (1, .int a0), (3, .int x3_3)]) C rfl ev (by decide) rfl dX7_postOf_42 rfl ?_
            obtain ⟨x3_7, ev, hM⟩ := gnm_ex hM
            refine x_iinc (j := 3) (w := 1) (lv' := [(3, .int x3_7), (2, .int x2_6), (0, .ref (ad 0)), (1, .int a0)]) C rfl ev (by decide) (by decide) rfl dX7_postOf_43 rfl ?_
            refine x_goto (tgt := 18) C dX7_postOf_46 (by decide) ?_
            exact x_sub [2, 3, 1, 0] rfl (ih x2_6 x3_7 _ hM kx0)
          · replace hM := gif_neg hc hM
            refine x_ic (v := 1) C (by decide) dX7_postOf_36 rfl ?_
            refine x_goto (tgt := 41) C dX7_postOf_37 (by decide) ?_
            refine x_iadd C dX7_postOf_41 rfl ?_
            obtain ⟨x2_8, ev, hM⟩ := gnm_ex hM
            refine x_istn (lv' := [(2, .int x2_8), (0, .ref (ad 0)), (1, .int a0), (3, .int x3_3)]) C rfl ev (by decide) rfl dX7_postOf_42 rfl ?_
            obtain ⟨x3_9, ev, hM⟩ := gnm_ex hM
            refine x_iinc (j := 3) (w := 1) (lv' := [(3, .int x3_9), (2, .int x2_8), (0, .ref (ad 0)), (1, .int a0)]) C rfl ev (by decide) (by decide) rfl dX7_postOf_43 rfl ?_
            refine x_goto (tgt := 18) C dX7_postOf_46 (by decide) ?_
            exact x_sub [2, 3, 1, 0] rfl (ih x2_8 x3_9 _ hM kx0)
    obtain ⟨x2_4, hL10, hM⟩ := gb1_some hM
    refine x_sub [2, 3, 1, 0] rfl (L18 gFU 0 0 _ hL10 ?_)
    clear L18
    refine x_iln C 0 rfl dX7_postOf_49 rfl ?_
    exact x_iret C E ⟨gs1 hM, rfl⟩ dX7_postOf_50
  · replace hM := gif_pos hc hM
    refine x_ic (v := (-1)) C (by decide) dX7_postOf_12 rfl ?_
    exact x_iret C E ⟨gs1 hM, rfl⟩ dX7_postOf_13
set_option maxRecDepth 100000 in
set_option maxHeartbeats 4000000 in
theorem c_X7_lengthWith {l : Launch} {D : va_G} {ad : Nat → Nat} {cy : Nat → ClassId} {b : Nat} (hG : gInj (gGM D ad cy b)) {a0 : Int32} {a1 : Int32} {σ : gMem} {r0 : Int32} (hM : m_X7_lengthWith a0 a1 σ = some r0) : gMi l yX7_lengthWith (Cond.code yX7_lengthWith cX7_lengthWith 6 (some .int) :: gBig) { frames := 1, cells := 0, slots := 0, locals := 23 } (gGM D ad cy b) [.ref (ad 0), .int a0, .int a1] σ r0 σ := by
  refine gIntro (own := RX7) hG (by decide +kernel) rfl rfl (Nat.le_of_ble_eq_true rfl) (lv := [(0, .ref (ad 0)), (1, .int a0), (2, .int a1)]) rfl (fun κ C E => ?_)
  unfold m_X7_lengthWith at hM
  refine x_aln C 0 rfl dX7_lengthWith_0 rfl ?_
  refine gMg_0_z C kf_X7_7 dX7_lengthWith_1 rfl ?_
  refine x_bi (v := 74) C (by decide) dX7_lengthWith_4 rfl ?_
  refine x_iln C 1 rfl dX7_lengthWith_6 rfl ?_
  refine x_iadd C dX7_lengthWith_7 rfl ?_
  obtain ⟨h1, hM⟩ := gck_some hM
  refine gMa_1 C h1 dX7_lengthWith_8 rfl ?_
  obtain ⟨x3_2, ev, hM⟩ := gnm_ex hM
  refine x_istn (lv' := [(3, .int x3_2), (0, .ref (ad 0)), (1, .int a0), (2, .int a1)]) C rfl ev (by decide) rfl dX7_lengthWith_9 rfl ?_
  refine x_ic (v := 0) C (by decide) dX7_lengthWith_10 rfl ?_
  refine x_ist (lv' := [(4, .int 0), (3, .int x3_2), (0, .ref (ad 0)), (1, .int a0), (2, .int a1)]) C rfl (by decide) rfl dX7_lengthWith_11 rfl ?_
  have L13 : ∀ (n : Nat) (x3_3 : Int32) (x4_4 : Int32) (x3_5 : Int32), m_X7_lengthWith_13 a1 σ n x3_3 x4_4 = some (x3_5) → (wx κ (gGM D ad cy b) (gA (gGM D ad cy b)) 6 σ 71 [(3, .int x3_5)] []) → wx κ (gGM D ad cy b) (gA (gGM D ad cy b)) 6 σ 13 [(0, .ref (ad 0)), (2, .int a1), (3, .int x3_3), (4, .int x4_4)] [] := by
    clear hM
    intro n
    induction n with
    | zero => intro _ _ _ hM; cases hM
    | succ n ih =>
      intro x3_3 x4_4 x3_5 hM kx0
      replace hM : b_X7_lengthWith_13 a1 σ (m_X7_lengthWith_13 a1 σ n) x3_3 x4_4 = some (x3_5) := hM
      unfold b_X7_lengthWith_13 at hM
      refine x_il C 3 rfl dX7_lengthWith_13 rfl ?_
      refine x_aln C 0 rfl dX7_lengthWith_15 rfl ?_
      refine gMg_0_z C kf_X7_7 dX7_lengthWith_16 rfl ?_
      refine x_bi (v := 62) C (by decide) dX7_lengthWith_19 rfl ?_
      obtain ⟨h6, hM⟩ := gck_some hM
      refine gMa_1 C h6 dX7_lengthWith_21 rfl ?_
      refine x_ic_ge (tgt := 71) C dX7_lengthWith_22 (by decide) rfl (fun hc => ?_) (fun hc => ?_)
      · replace hM := gif_pos hc hM
        cases hM
        exact x_sub [2] rfl (kx0)
      · replace hM := gif_neg hc hM
        refine x_aln C 0 rfl dX7_lengthWith_25 rfl ?_
        refine x_il C 3 rfl dX7_lengthWith_26 rfl ?_
        obtain ⟨r8, h7, hM⟩ := gb1_some hM
        refine x_cvi (As := [.int x4_4]) (rest := []) C E.2.2.2.2.2 1 (c_X7_postOf hG h7) (gBv km_X7_176 kin_X7_postOf ksel_X7_postOf kini_X7 kc_X7_postOf) rfl rfl rfl ⟨rfl, by decide +kernel, by decide +kernel, by decide +kernel⟩ ⟨Nat.le_of_ble_eq_true rfl, Nat.le_of_ble_eq_true rfl⟩ (by show 0 < 14; decide) rfl rfl rfl rfl (Nat.le_of_ble_eq_true rfl) dX7_lengthWith_28 rfl ?_
        refine x_ist (lv' := [(5, .int r8), (0, .ref (ad 0)), (2, .int a1), (3, .int x3_3), (4, .int x4_4)]) C rfl (by decide) rfl dX7_lengthWith_31 rfl ?_
        refine x_iln C 3 rfl dX7_lengthWith_33 rfl ?_
        refine x_il C 0 rfl dX7_lengthWith_34 rfl ?_
        refine x_if_lt (tgt := 62) C dX7_lengthWith_36 (by decide) rfl (fun hc => ?_) (fun hc => ?_)
        · replace hM := gif_pos hc hM
          refine x_ic (v := 0) C (by decide) dX7_lengthWith_62 rfl ?_
          refine x_iadd C dX7_lengthWith_63 rfl ?_
          obtain ⟨x3_9, ev, hM⟩ := gnm_ex hM
          refine x_istn (lv' := [(3, .int x3_9), (5, .int r8), (0, .ref (ad 0)), (2, .int a1), (4, .int x4_4)]) C rfl ev (by decide) rfl dX7_lengthWith_64 rfl ?_
          obtain ⟨x4_10, ev, hM⟩ := gnm_ex hM
          refine x_iinc (j := 4) (w := 1) (lv' := [(4, .int x4_10), (3, .int x3_9), (5, .int r8), (0, .ref (ad 0)), (2, .int a1)]) C rfl ev (by decide) (by decide) rfl dX7_lengthWith_65 rfl ?_
          refine x_goto (tgt := 13) C dX7_lengthWith_68 (by decide) ?_
          exact x_sub [3, 4, 1, 0] rfl (ih x3_9 x4_10 _ hM kx0)
        · replace hM := gif_neg hc hM
          refine x_iln C 2 rfl dX7_lengthWith_39 rfl ?_
          refine x_il C 0 rfl dX7_lengthWith_40 rfl ?_
          refine x_ishr C dX7_lengthWith_42 rfl ?_
          refine x_ic (v := 1) C (by decide) dX7_lengthWith_43 rfl ?_
          refine x_iand C dX7_lengthWith_44 rfl ?_
          refine x_ic (v := 1) C (by decide) dX7_lengthWith_45 rfl ?_
          refine x_ic_ne (tgt := 62) C dX7_lengthWith_46 (by decide) rfl (fun hc => ?_) (fun hc => ?_)
          · replace hM := gif_neg hc hM
            refine x_ic (v := 0) C (by decide) dX7_lengthWith_62 rfl ?_
            refine x_iadd C dX7_lengthWith_63 rfl ?_
            obtain ⟨x3_11, ev, hM⟩ := gnm_ex hM
            refine x_istn (lv' := [(3, .int x3_11), (5, .int r8), (0, .ref (ad 0)), (2, .int a1), (4, .int x4_4)]) C rfl ev (by decide) rfl dX7_lengthWith_64 rfl ?_
            obtain ⟨x4_12, ev, hM⟩ := gnm_ex hM
            refine x_iinc (j := 4) (w := 1) (lv' := [(4, .int x4_12), (3, .int x3_11), (5, .int r8), (0, .ref (ad 0)), (2, .int a1)]) C rfl ev (by decide) (by decide) rfl dX7_lengthWith_65 rfl ?_
            refine x_goto (tgt := 13) C dX7_lengthWith_68 (by decide) ?_
            exact x_sub [3, 4, 1, 0] rfl (ih x3_11 x4_12 _ hM kx0)
          · replace hM := gif_pos hc hM
            refine x_aln C 1 rfl dX7_lengthWith_49 rfl ?_
            refine gMg_0_z C kf_X7_7 dX7_lengthWith_50 rfl ?_
            refine x_bi (v := 12) C (by decide) dX7_lengthWith_53 rfl ?_
            refine x_il C 4 rfl dX7_lengthWith_55 rfl ?_
            refine x_iadd C dX7_lengthWith_57 rfl ?_
            obtain ⟨h13, hM⟩ := gck_some hM
            refine gMa_1 C h13 dX7_lengthWith_58 rfl ?_
            refine x_goto (tgt := 63) C dX7_lengthWith_59 (by decide) ?_
            refine x_iadd C dX7_lengthWith_63 rfl ?_
            obtain ⟨x3_14, ev, hM⟩ := gnm_ex hM
            refine x_istn (lv' := [(3, .int x3_14), (5, .int r8), (0, .ref (ad 0)), (2, .int a1), (4, .int x4_4)]) C rfl ev (by decide) rfl dX7_lengthWith_64 rfl ?_
            obtain ⟨x4_15, ev, hM⟩ := gnm_ex hM
            refine x_iinc (j := 4) (w := 1) (lv' := [(4, .int x4_15), (3, .int x3_14), (5, .int r8), (0, .ref (ad 0)), (2, .int a1)]) C rfl ev (by decide) (by decide) rfl dX7_lengthWith_65 rfl ?_
            refine x_goto (tgt := 13) C dX7_lengthWith_68 (by decide) ?_
            exact x_sub [3, 4, 1, 0] rfl (ih x3_14 x4_15 _ hM kx0)
  obtain ⟨x3_5, hL16, hM⟩ := gb1_some hM
  refine x_sub [2, 4, 1, 0] rfl (L13 gFU x3_2 0 _ hL16 ?_)
  clear L13
  refine x_iln C 0 rfl dX7_lengthWith_71 rfl ?_
  exact x_iret C E ⟨gs1 hM, rfl⟩ dX7_lengthWith_72
set_option maxRecDepth 100000 in
set_option maxHeartbeats 4000000 in
theorem c_X7_arrives {l : Launch} {D : va_G} {ad : Nat → Nat} {cy : Nat → ClassId} {b : Nat} (hG : gInj (gGM D ad cy b)) {a0 : Int32} {a1 : Int32} {a2 : Int32} {a3 : Int32} {σ : gMem} {σ0 : gMem} (hM : m_X7_arrives a0 a1 a2 a3 σ = some σ0) : gMv l yX7_arrives (Cond.code yX7_arrives cX7_arrives 7 none :: gBig) { frames := 3, cells := 0, slots := 0, locals := 70 } (gGM D ad cy b) [.ref (ad 0), .int a0, .int a1, .int a2, .int a3] σ σ0 := by
  refine gIntro (own := RX7) hG (by decide +kernel) rfl rfl (Nat.le_of_ble_eq_true rfl) (lv := [(0, .ref (ad 0)), (1, .int a0), (2, .int a1), (3, .int a2), (4, .int a3)]) rfl (fun κ C E => ?_)
  unfold m_X7_arrives at hM
  refine x_aln C 0 rfl dX7_arrives_0 rfl ?_
  refine gMg_0_is C kf_X7_31 dX7_arrives_1 rfl ?_
  refine x_bi (v := 8) C (by decide) dX7_arrives_4 rfl ?_
  refine x_iln C 2 rfl dX7_arrives_6 rfl ?_
  refine x_imul C dX7_arrives_7 rfl ?_
  refine x_iln C 3 rfl dX7_arrives_8 rfl ?_
  refine x_iadd C dX7_arrives_9 rfl ?_
  refine x_ic (v := 1) C (by decide) dX7_arrives_10 rfl ?_
  obtain ⟨h1, hM⟩ := gck_some hM
  obtain ⟨s2, ev, hM⟩ := gnm_ex hM
  refine gMs_8 C ev rfl h1 dX7_arrives_11 rfl ?_
  refine x_aln C 0 rfl dX7_arrives_12 rfl ?_
  refine x_iln C 2 rfl dX7_arrives_13 rfl ?_
  obtain ⟨r4, h3, hM⟩ := gb1_some hM
  refine x_cvi (As := [.int a1]) (rest := []) C E.2.2.2.2.2 1 (c_X7_postOf hG h3) (gBv km_X7_176 kin_X7_postOf ksel_X7_postOf kini_X7 kc_X7_postOf) rfl rfl rfl ⟨rfl, by decide +kernel, by decide +kernel, by decide +kernel⟩ ⟨Nat.le_of_ble_eq_true rfl, Nat.le_of_ble_eq_true rfl⟩ (by show 0 < 14; decide) rfl rfl rfl rfl (Nat.le_of_ble_eq_true rfl) dX7_arrives_14 rfl ?_
  refine x_ist (lv' := [(5, .int r4), (0, .ref (ad 0)), (1, .int a0), (2, .int a1), (3, .int a2), (4, .int a3)]) C rfl (by decide) rfl dX7_arrives_17 rfl ?_
  refine x_il C 0 rfl dX7_arrives_19 rfl ?_
  refine x_if_lt (tgt := 34) C dX7_arrives_21 (by decide) rfl (fun hc => ?_) (fun hc => ?_)
  · replace hM := gif_pos hc hM
    exact x_vret C E (gs1 hM) dX7_arrives_34
  · replace hM := gif_neg hc hM
    refine x_iln C 4 rfl dX7_arrives_24 rfl ?_
    refine x_il C 0 rfl dX7_arrives_25 rfl ?_
    refine x_ishr C dX7_arrives_27 rfl ?_
    refine x_ic (v := 1) C (by decide) dX7_arrives_28 rfl ?_
    refine x_iand C dX7_arrives_29 rfl ?_
    refine x_ic (v := 1) C (by decide) dX7_arrives_30 rfl ?_
    refine x_ic_ne (tgt := 35) C dX7_arrives_31 (by decide) rfl (fun hc => ?_) (fun hc => ?_)
    · replace hM := gif_neg hc hM
      refine x_iln C 4 rfl dX7_arrives_35 rfl ?_
      refine x_ic (v := 1) C (by decide) dX7_arrives_36 rfl ?_
      refine x_il C 0 rfl dX7_arrives_37 rfl ?_
      refine x_ishl C dX7_arrives_39 rfl ?_
      refine x_ior C dX7_arrives_40 rfl ?_
      obtain ⟨x6_5, ev, hM⟩ := gnm_ex hM
      refine x_ist (lv' := [(6, .int x6_5), (5, .int r4), (0, .ref (ad 0)), (1, .int a0), (2, .int a1), (3, .int a2), (4, .int a3)]) C ev (by decide) rfl dX7_arrives_41 rfl ?_
      refine x_aln C 2 rfl dX7_arrives_43 rfl ?_
      refine x_iln C 3 rfl dX7_arrives_44 rfl ?_
      refine x_aln C 2 rfl dX7_arrives_45 rfl ?_
      refine x_iln C 3 rfl dX7_arrives_46 rfl ?_
      refine x_il C 0 rfl dX7_arrives_47 rfl ?_
      obtain ⟨r7, h6, hM⟩ := gb1_some hM
      refine x_cvi (As := [.int a0, .int x6_5]) (rest := [.int a0, .ref (ad 0)]) C E.2.2.2.2.2 2 (c_X7_lengthWith hG h6) (gBv km_X7_182 kin_X7_lengthWith ksel_X7_lengthWith kini_X7 kc_X7_lengthWith) rfl rfl rfl ⟨rfl, by decide +kernel, by decide +kernel, by decide +kernel⟩ ⟨Nat.le_of_ble_eq_true rfl, Nat.le_of_ble_eq_true rfl⟩ (by show 0 < 14; decide) rfl rfl rfl rfl (Nat.le_of_ble_eq_true rfl) dX7_arrives_49 rfl ?_
      refine x_iln C 4 rfl dX7_arrives_52 rfl ?_
      refine x_il C 6 rfl dX7_arrives_53 rfl ?_
      obtain ⟨r9, h8, hM⟩ := gb1_some hM
      refine x_csi (As := [.int a3]) (rest := [.int a1, .int r7, .int a0, .ref (ad 0)]) C E.2.2.2.2.2 1 (c_X7_hourOf hG h8) (gBs km_X7_179 kst_X7_hourOf kini_X7 kc_X7_hourOf) rfl rfl rfl ⟨by decide +kernel, by decide +kernel, by decide +kernel⟩ ⟨Nat.le_of_ble_eq_true rfl, Nat.le_of_ble_eq_true rfl⟩ rfl rfl (Nat.le_of_ble_eq_true rfl) dX7_arrives_55 rfl ?_
      obtain ⟨r11, h10, hM⟩ := gb1_some hM
      refine x_cvi (As := [.int a0, .int r7, .int a1, .int r9]) (rest := []) C E.2.2.2.2.2 4 (c_X7_would hG h10) (gBv km_X7_164 kin_X7_would ksel_X7_would kini_X7 kc_X7_would) rfl rfl rfl ⟨rfl, by decide +kernel, by decide +kernel, by decide +kernel⟩ ⟨Nat.le_of_ble_eq_true rfl, Nat.le_of_ble_eq_true rfl⟩ (by show 0 < 14; decide) rfl rfl rfl rfl (Nat.le_of_ble_eq_true rfl) dX7_arrives_58 rfl ?_
      refine x_if_eq (tgt := 77) C dX7_arrives_61 (by decide) rfl (fun hc => ?_) (fun hc => ?_)
      · replace hM := gif_pos hc hM
        exact x_vret C E (gs1 hM) dX7_arrives_77
      · replace hM := gif_neg hc hM
        refine x_aln C 2 rfl dX7_arrives_64 rfl ?_
        refine gMg_0_is C kf_X7_31 dX7_arrives_65 rfl ?_
        refine x_bi (v := 8) C (by decide) dX7_arrives_68 rfl ?_
        refine x_iln C 4 rfl dX7_arrives_70 rfl ?_
        refine x_imul C dX7_arrives_71 rfl ?_
        refine x_il C 0 rfl dX7_arrives_72 rfl ?_
        refine x_iadd C dX7_arrives_74 rfl ?_
        refine x_ic (v := 1) C (by decide) dX7_arrives_75 rfl ?_
        obtain ⟨h12, hM⟩ := gck_some hM
        obtain ⟨s13, ev, hM⟩ := gnm_ex hM
        refine gMs_8 C ev rfl h12 dX7_arrives_76 rfl ?_
        exact x_vret C E (gs1 hM) dX7_arrives_77
    · replace hM := gif_pos hc hM
      exact x_vret C E (gs1 hM) dX7_arrives_34
set_option maxRecDepth 100000 in
set_option maxHeartbeats 4000000 in
theorem c_X7_bits {l : Launch} {D : va_G} {ad : Nat → Nat} {cy : Nat → ClassId} {b : Nat} (hG : gInj (gGM D ad cy b)) {a0 : Int32} {σ : gMem} {r0 : Int32} (hM : m_X7_bits a0 σ = some r0) : gMi l yX7_bits (Cond.code yX7_bits cX7_bits 3 (some .int) :: gBig) { frames := 0, cells := 0, slots := 0, locals := 0 } (gGM D ad cy b) [.int a0] σ r0 σ := by
  refine gIntro (own := RX7) hG (by decide +kernel) rfl rfl (Nat.le_of_ble_eq_true rfl) (lv := [(0, .int a0)]) rfl (fun κ C E => ?_)
  unfold m_X7_bits at hM
  refine x_ic (v := 0) C (by decide) dX7_bits_0 rfl ?_
  refine x_istn (lv' := [(1, .int 0), (0, .int a0)]) C rfl rfl (by decide) rfl dX7_bits_1 rfl ?_
  refine x_ic (v := 0) C (by decide) dX7_bits_2 rfl ?_
  refine x_istn (lv' := [(2, .int 0), (1, .int 0), (0, .int a0)]) C rfl rfl (by decide) rfl dX7_bits_3 rfl ?_
  have L4 : ∀ (n : Nat) (x1_1 : Int32) (x2_2 : Int32) (x1_3 : Int32), m_X7_bits_4 a0 n x1_1 x2_2 = some (x1_3) → (wx κ (gGM D ad cy b) (gA (gGM D ad cy b)) 3 σ 24 [(1, .int x1_3)] []) → wx κ (gGM D ad cy b) (gA (gGM D ad cy b)) 3 σ 4 [(0, .int a0), (1, .int x1_1), (2, .int x2_2)] [] := by
    clear hM
    intro n
    induction n with
    | zero => intro _ _ _ hM; cases hM
    | succ n ih =>
      intro x1_1 x2_2 x1_3 hM kx0
      replace hM : b_X7_bits_4 a0 (m_X7_bits_4 a0 n) x1_1 x2_2 = some (x1_3) := hM
      unfold b_X7_bits_4 at hM
      refine x_iln C 2 rfl dX7_bits_4 rfl ?_
      refine x_bi (v := 24) C (by decide) dX7_bits_5 rfl ?_
      refine x_ic_ge (tgt := 24) C dX7_bits_7 (by decide) rfl (fun hc => ?_) (fun hc => ?_)
      · replace hM := gif_pos hc hM
        cases hM
        exact x_sub [1] rfl (kx0)
      · replace hM := gif_neg hc hM
        refine x_iln C 1 rfl dX7_bits_10 rfl ?_
        refine x_iln C 0 rfl dX7_bits_11 rfl ?_
        refine x_iln C 2 rfl dX7_bits_12 rfl ?_
        refine x_ishr C dX7_bits_13 rfl ?_
        refine x_ic (v := 1) C (by decide) dX7_bits_14 rfl ?_
        refine x_iand C dX7_bits_15 rfl ?_
        refine x_iadd C dX7_bits_16 rfl ?_
        obtain ⟨x1_4, ev, hM⟩ := gnm_ex hM
        refine x_istn (lv' := [(1, .int x1_4), (0, .int a0), (2, .int x2_2)]) C rfl ev (by decide) rfl dX7_bits_17 rfl ?_
        obtain ⟨x2_5, ev, hM⟩ := gnm_ex hM
        refine x_iinc (j := 2) (w := 1) (lv' := [(2, .int x2_5), (1, .int x1_4), (0, .int a0)]) C rfl ev (by decide) (by decide) rfl dX7_bits_18 rfl ?_
        refine x_goto (tgt := 4) C dX7_bits_21 (by decide) ?_
        exact x_sub [2, 1, 0] rfl (ih x1_4 x2_5 _ hM kx0)
  obtain ⟨x1_3, hL6, hM⟩ := gb1_some hM
  refine x_sub [2, 1, 0] rfl (L4 gFU 0 0 _ hL6 ?_)
  clear L4
  refine x_iln C 0 rfl dX7_bits_24 rfl ?_
  exact x_iret C E ⟨gs1 hM, rfl⟩ dX7_bits_25
set_option maxRecDepth 100000 in
set_option maxHeartbeats 4000000 in
theorem c_X7_look {l : Launch} {D : va_G} {ad : Nat → Nat} {cy : Nat → ClassId} {b : Nat} (hG : gInj (gGM D ad cy b)) {a0 : Int32} {a1 : Int32} {σ : gMem} {σ0 : gMem} (hM : m_X7_look a0 a1 σ = some σ0) : gMv l yX7_look (Cond.code yX7_look cX7_look 4 none :: gBig) { frames := 1, cells := 0, slots := 0, locals := 22 } (gGM D ad cy b) [.ref (ad 0), .int a0, .int a1] σ σ0 := by
  refine gIntro (own := RX7) hG (by decide +kernel) rfl rfl (Nat.le_of_ble_eq_true rfl) (lv := [(0, .ref (ad 0)), (1, .int a0), (2, .int a1)]) rfl (fun κ C E => ?_)
  unfold m_X7_look at hM
  refine x_ic (v := 0) C (by decide) dX7_look_0 rfl ?_
  refine x_istn (lv' := [(3, .int 0), (0, .ref (ad 0)), (1, .int a0), (2, .int a1)]) C rfl rfl (by decide) rfl dX7_look_1 rfl ?_
  have L2 : ∀ (n : Nat) (x3_1 : Int32) (s2 : gMem) (s3 : gMem), m_X7_look_2 a0 a1 n x3_1 s2 = some (s3) → (wx κ (gGM D ad cy b) (gA (gGM D ad cy b)) 4 s3 80 [] []) → wx κ (gGM D ad cy b) (gA (gGM D ad cy b)) 4 s2 2 [(0, .ref (ad 0)), (1, .int a0), (2, .int a1), (3, .int x3_1)] [] := by
    clear hM
    intro n
    induction n with
    | zero => intro _ _ _ hM; cases hM
    | succ n ih =>
      intro x3_1 s2 s3 hM kx0
      replace hM : b_X7_look_2 a0 a1 (m_X7_look_2 a0 a1 n) x3_1 s2 = some (s3) := hM
      unfold b_X7_look_2 at hM
      refine x_iln C 3 rfl dX7_look_2 rfl ?_
      refine x_bi (v := 8) C (by decide) dX7_look_3 rfl ?_
      refine x_ic_ge (tgt := 80) C dX7_look_5 (by decide) rfl (fun hc => ?_) (fun hc => ?_)
      · replace hM := gif_pos hc hM
        cases hM
        exact x_sub [] rfl (kx0)
      · replace hM := gif_neg hc hM
        refine x_aln C 0 rfl dX7_look_8 rfl ?_
        refine gMg_0_is C kf_X7_31 dX7_look_9 rfl ?_
        refine x_bi (v := 8) C (by decide) dX7_look_12 rfl ?_
        refine x_iln C 1 rfl dX7_look_14 rfl ?_
        refine x_imul C dX7_look_15 rfl ?_
        refine x_iln C 3 rfl dX7_look_16 rfl ?_
        refine x_iadd C dX7_look_17 rfl ?_
        obtain ⟨h4, hM⟩ := gck_some hM
        refine gMa_8 C h4 dX7_look_18 rfl ?_
        refine x_if_eq (tgt := 74) C dX7_look_19 (by decide) rfl (fun hc => ?_) (fun hc => ?_)
        · replace hM := gif_pos hc hM
          obtain ⟨x3_5, ev, hM⟩ := gnm_ex hM
          refine x_iinc (j := 3) (w := 1) (lv' := [(3, .int x3_5), (0, .ref (ad 0)), (1, .int a0), (2, .int a1)]) C rfl ev (by decide) (by decide) rfl dX7_look_74 rfl ?_
          refine x_goto (tgt := 2) C dX7_look_77 (by decide) ?_
          exact x_sub [1, 2, 3, 0] rfl (ih x3_5 s2 _ hM kx0)
        · replace hM := gif_neg hc hM
          refine x_aln C 0 rfl dX7_look_22 rfl ?_
          refine x_aln C 0 rfl dX7_look_23 rfl ?_
          refine gMg_0_soon C kf_X7_189 dX7_look_24 rfl ?_
          obtain ⟨w6, hJ20, hM⟩ := gb1_some hM
          have J1 : wx κ (gGM D ad cy b) (gA (gGM D ad cy b)) 4 s2 38 [(0, .ref (ad 0)), (1, .int a0), (2, .int a1), (3, .int x3_1)] [.int w6, .ref (ad 0)] := by
            obtain ⟨s7, ev, hM⟩ := gnm_ex hM
            refine gMp_0_soon C ev kf_X7_189 dX7_look_38 rfl ?_
            refine x_aln C 0 rfl dX7_look_41 rfl ?_
            refine x_aln C 0 rfl dX7_look_42 rfl ?_
            refine gMg_0_light C kf_X7_192 dX7_look_43 rfl ?_
            refine x_if_lt (tgt := 60) C dX7_look_46 (by decide) rfl (fun hc => ?_) (fun hc => ?_)
            · replace hM := gif_pos hc hM
              refine x_iln C 3 rfl dX7_look_60 rfl ?_
              obtain ⟨r9, h8, hM⟩ := gb1_some hM
              refine x_csi (As := [.int x3_1]) (rest := [.ref (ad 0)]) C E.2.2.2.2.2 1 (c_X7_bits hG h8) (gBs km_X7_195 kst_X7_bits kini_X7 kc_X7_bits) rfl rfl rfl ⟨by decide +kernel, by decide +kernel, by decide +kernel⟩ ⟨Nat.le_of_ble_eq_true rfl, Nat.le_of_ble_eq_true rfl⟩ rfl rfl (Nat.le_of_ble_eq_true rfl) dX7_look_61 rfl ?_
              refine x_goto (tgt := 71) C dX7_look_64 (by decide) ?_
              obtain ⟨s10, ev, hM⟩ := gnm_ex hM
              refine gMp_0_light C ev kf_X7_192 dX7_look_71 rfl ?_
              obtain ⟨x3_11, ev, hM⟩ := gnm_ex hM
              refine x_iinc (j := 3) (w := 1) (lv' := [(3, .int x3_11), (0, .ref (ad 0)), (1, .int a0), (2, .int a1)]) C rfl ev (by decide) (by decide) rfl dX7_look_74 rfl ?_
              refine x_goto (tgt := 2) C dX7_look_77 (by decide) ?_
              exact x_sub [1, 2, 3, 0] rfl (ih x3_11 s10 _ hM kx0)
            · replace hM := gif_neg hc hM
              refine x_iln C 3 rfl dX7_look_49 rfl ?_
              obtain ⟨r13, h12, hM⟩ := gb1_some hM
              refine x_csi (As := [.int x3_1]) (rest := [.ref (ad 0)]) C E.2.2.2.2.2 1 (c_X7_bits hG h12) (gBs km_X7_195 kst_X7_bits kini_X7 kc_X7_bits) rfl rfl rfl ⟨by decide +kernel, by decide +kernel, by decide +kernel⟩ ⟨Nat.le_of_ble_eq_true rfl, Nat.le_of_ble_eq_true rfl⟩ rfl rfl (Nat.le_of_ble_eq_true rfl) dX7_look_50 rfl ?_
              refine x_aln C 0 rfl dX7_look_53 rfl ?_
              refine gMg_0_light C kf_X7_192 dX7_look_54 rfl ?_
              refine x_ic_ge (tgt := 67) C dX7_look_57 (by decide) rfl (fun hc => ?_) (fun hc => ?_)
              · replace hM := gif_pos hc hM
                refine x_aln C 0 rfl dX7_look_67 rfl ?_
                refine gMg_0_light C kf_X7_192 dX7_look_68 rfl ?_
                obtain ⟨s14, ev, hM⟩ := gnm_ex hM
                refine gMp_0_light C ev kf_X7_192 dX7_look_71 rfl ?_
                obtain ⟨x3_15, ev, hM⟩ := gnm_ex hM
                refine x_iinc (j := 3) (w := 1) (lv' := [(3, .int x3_15), (0, .ref (ad 0)), (1, .int a0), (2, .int a1)]) C rfl ev (by decide) (by decide) rfl dX7_look_74 rfl ?_
                refine x_goto (tgt := 2) C dX7_look_77 (by decide) ?_
                exact x_sub [1, 2, 3, 0] rfl (ih x3_15 s14 _ hM kx0)
              · replace hM := gif_neg hc hM
                refine x_iln C 3 rfl dX7_look_60 rfl ?_
                obtain ⟨r17, h16, hM⟩ := gb1_some hM
                refine x_csi (As := [.int x3_1]) (rest := [.ref (ad 0)]) C E.2.2.2.2.2 1 (c_X7_bits hG h16) (gBs km_X7_195 kst_X7_bits kini_X7 kc_X7_bits) rfl rfl rfl ⟨by decide +kernel, by decide +kernel, by decide +kernel⟩ ⟨Nat.le_of_ble_eq_true rfl, Nat.le_of_ble_eq_true rfl⟩ rfl rfl (Nat.le_of_ble_eq_true rfl) dX7_look_61 rfl ?_
                refine x_goto (tgt := 71) C dX7_look_64 (by decide) ?_
                obtain ⟨s18, ev, hM⟩ := gnm_ex hM
                refine gMp_0_light C ev kf_X7_192 dX7_look_71 rfl ?_
                obtain ⟨x3_19, ev, hM⟩ := gnm_ex hM
                refine x_iinc (j := 3) (w := 1) (lv' := [(3, .int x3_19), (0, .ref (ad 0)), (1, .int a0), (2, .int a1)]) C rfl ev (by decide) (by decide) rfl dX7_look_74 rfl ?_
                refine x_goto (tgt := 2) C dX7_look_77 (by decide) ?_
                exact x_sub [1, 2, 3, 0] rfl (ih x3_19 s18 _ hM kx0)
          clear hM
          have hM := hJ20
          clear hJ20
          refine x_if_ge (tgt := 34) C dX7_look_27 (by decide) rfl (fun hc => ?_) (fun hc => ?_)
          · replace hM := gif_pos hc hM
            refine x_aln C 0 rfl dX7_look_34 rfl ?_
            refine gMg_0_soon C kf_X7_189 dX7_look_35 rfl ?_
            cases hM
            exact x_sub [0, 1, 2, 3] rfl J1
          · replace hM := gif_neg hc hM
            refine x_iln C 2 rfl dX7_look_30 rfl ?_
            refine x_goto (tgt := 38) C dX7_look_31 (by decide) ?_
            cases hM
            exact x_sub [0, 1, 2, 3] rfl J1
  obtain ⟨s3, hL21, hM⟩ := gb1_some hM
  refine x_sub [1, 2, 3, 0] rfl (L2 gFU 0 σ _ hL21 ?_)
  clear L2
  exact x_vret C E (gs1 hM) dX7_look_80
set_option maxRecDepth 100000 in
set_option maxHeartbeats 4000000 in
theorem c_X7_lasts {l : Launch} {D : va_G} {ad : Nat → Nat} {cy : Nat → ClassId} {b : Nat} (hG : gInj (gGM D ad cy b)) {a0 : Int32} {a1 : Int32} {a2 : Int32} {a3 : Int32} {a4 : Int32} {σ : gMem} {r0 : Int32} (hM : m_X7_lasts a0 a1 a2 a3 a4 σ = some r0) : gMi l yX7_lasts (Cond.code yX7_lasts cX7_lasts 7 (some .boolean) :: gBig) { frames := 3, cells := 0, slots := 0, locals := 70 } (gGM D ad cy b) [.ref (ad 0), .int a0, .int a1, .int a2, .int a3, .int a4] σ r0 σ := by
  refine gIntro (own := RX7) hG (by decide +kernel) rfl rfl (Nat.le_of_ble_eq_true rfl) (lv := [(0, .ref (ad 0)), (1, .int a0), (2, .int a1), (3, .int a2), (4, .int a3), (5, .int a4)]) rfl (fun κ C E => ?_)
  unfold m_X7_lasts at hM
  refine x_il C 4 rfl dX7_lasts_0 rfl ?_
  refine x_ist (lv' := [(6, .int a3), (0, .ref (ad 0)), (1, .int a0), (2, .int a1), (3, .int a2), (4, .int a3), (5, .int a4)]) C rfl (by decide) rfl dX7_lasts_2 rfl ?_
  have L4 : ∀ (n : Nat) (x6_1 : Int32) (t2 : Nat), m_X7_lasts_4 a0 a1 a2 a4 σ n x6_1 = some (t2) → (t2 = 0 → wx κ (gGM D ad cy b) (gA (gGM D ad cy b)) 7 σ 26 [] []) → (t2 = 1 → wx κ (gGM D ad cy b) (gA (gGM D ad cy b)) 7 σ 44 [] []) → wx κ (gGM D ad cy b) (gA (gGM D ad cy b)) 7 σ 4 [(0, .ref (ad 0)), (1, .int a0), (2, .int a1), (3, .int a2), (5, .int a4), (6, .int x6_1)] [] := by
    clear hM
    intro n
    induction n with
    | zero => intro _ _ hM; cases hM
    | succ n ih =>
      intro x6_1 t2 hM kx0 kx1
      replace hM : b_X7_lasts_4 a0 a1 a2 a4 σ (m_X7_lasts_4 a0 a1 a2 a4 σ n) x6_1 = some (t2) := hM
      unfold b_X7_lasts_4 at hM
      refine x_il C 5 rfl dX7_lasts_4 rfl ?_
      refine x_il C 4 rfl dX7_lasts_6 rfl ?_
      refine x_ic_gt (tgt := 44) C dX7_lasts_8 (by decide) rfl (fun hc => ?_) (fun hc => ?_)
      · replace hM := gif_pos hc hM
        cases hM
        exact x_sub [] rfl (kx1 rfl)
      · replace hM := gif_neg hc hM
        refine x_aln C 0 rfl dX7_lasts_11 rfl ?_
        refine x_iln C 1 rfl dX7_lasts_12 rfl ?_
        refine x_iln C 2 rfl dX7_lasts_13 rfl ?_
        refine x_iln C 3 rfl dX7_lasts_14 rfl ?_
        refine x_il C 5 rfl dX7_lasts_15 rfl ?_
        obtain ⟨r4, h3, hM⟩ := gb1_some hM
        refine x_csi (As := [.int x6_1]) (rest := [.int a2, .int a1, .int a0, .ref (ad 0)]) C E.2.2.2.2.2 1 (c_X7_hourOf hG h3) (gBs km_X7_179 kst_X7_hourOf kini_X7 kc_X7_hourOf) rfl rfl rfl ⟨by decide +kernel, by decide +kernel, by decide +kernel⟩ ⟨Nat.le_of_ble_eq_true rfl, Nat.le_of_ble_eq_true rfl⟩ rfl rfl (Nat.le_of_ble_eq_true rfl) dX7_lasts_17 rfl ?_
        obtain ⟨r6, h5, hM⟩ := gb1_some hM
        refine x_cvi (As := [.int a0, .int a1, .int a2, .int r4]) (rest := []) C E.2.2.2.2.2 4 (c_X7_would hG h5) (gBv km_X7_164 kin_X7_would ksel_X7_would kini_X7 kc_X7_would) rfl rfl rfl ⟨rfl, by decide +kernel, by decide +kernel, by decide +kernel⟩ ⟨Nat.le_of_ble_eq_true rfl, Nat.le_of_ble_eq_true rfl⟩ (by show 0 < 14; decide) rfl rfl rfl rfl (Nat.le_of_ble_eq_true rfl) dX7_lasts_20 rfl ?_
        refine x_if_ne (tgt := 28) C dX7_lasts_23 (by decide) rfl (fun hc => ?_) (fun hc => ?_)
        · replace hM := gif_neg hc hM
          refine x_il C 5 rfl dX7_lasts_28 rfl ?_
          refine x_bi (v := 60) C (by decide) dX7_lasts_30 rfl ?_
          refine x_il C 5 rfl dX7_lasts_32 rfl ?_
          refine x_bi (v := 60) C (by decide) dX7_lasts_34 rfl ?_
          refine x_irem C (by decide) dX7_lasts_36 rfl ?_
          refine x_isub C dX7_lasts_37 rfl ?_
          refine x_iadd C dX7_lasts_38 rfl ?_
          obtain ⟨x6_7, ev, hM⟩ := gnm_ex hM
          refine x_ist (lv' := [(6, .int x6_7), (0, .ref (ad 0)), (1, .int a0), (2, .int a1), (3, .int a2), (5, .int a4)]) C ev (by decide) rfl dX7_lasts_39 rfl ?_
          refine x_goto (tgt := 4) C dX7_lasts_41 (by decide) ?_
          exact x_sub [1, 2, 3, 4, 5, 0] rfl (ih x6_7 _ hM kx0 kx1)
        · replace hM := gif_pos hc hM
          cases hM
          exact x_sub [] rfl (kx0 rfl)
  obtain ⟨t2, hL8, hM⟩ := gb1_some hM
  refine x_sub [1, 2, 3, 4, 6, 0] rfl (L4 gFU a3 _ hL8 (fun ht => ?_) (fun ht => ?_))
  · clear L4
    replace hM := gif_pos ht hM
    refine x_ic (v := 0) C (by decide) dX7_lasts_26 rfl ?_
    exact x_zret C E (by decide) ⟨gs1 hM, rfl⟩ dX7_lasts_27
  · clear L4
    replace hM := gif_neg (by omega : ¬ t2 = 0) hM
    refine x_ic (v := 1) C (by decide) dX7_lasts_44 rfl ?_
    exact x_zret C E (by decide) ⟨gs1 hM, rfl⟩ dX7_lasts_45
set_option maxRecDepth 100000 in
set_option maxHeartbeats 4000000 in
theorem c_X7_leaves {l : Launch} {D : va_G} {ad : Nat → Nat} {cy : Nat → ClassId} {b : Nat} (hG : gInj (gGM D ad cy b)) {a0 : Int32} {a1 : Int32} {a2 : Int32} {a3 : Int32} {a4 : Int32} {σ : gMem} {σ0 : gMem} (hM : m_X7_leaves a0 a1 a2 a3 a4 σ = some σ0) : gMv l yX7_leaves (Cond.code yX7_leaves cX7_leaves 9 none :: gBig) { frames := 4, cells := 0, slots := 0, locals := 96 } (gGM D ad cy b) [.ref (ad 0), .int a0, .int a1, .int a2, .int a3, .int a4] σ σ0 := by
  refine gIntro (own := RX7) hG (by decide +kernel) rfl rfl (Nat.le_of_ble_eq_true rfl) (lv := [(0, .ref (ad 0)), (1, .int a0), (2, .int a1), (3, .int a2), (4, .int a3), (5, .int a4)]) rfl (fun κ C E => ?_)
  unfold m_X7_leaves at hM
  refine x_aln C 0 rfl dX7_leaves_0 rfl ?_
  refine x_iln C 1 rfl dX7_leaves_1 rfl ?_
  refine x_iln C 3 rfl dX7_leaves_2 rfl ?_
  obtain ⟨r2, h1, hM⟩ := gb1_some hM
  refine x_cvi (As := [.int a0, .int a2]) (rest := []) C E.2.2.2.2.2 2 (c_X7_lengthWith hG h1) (gBv km_X7_182 kin_X7_lengthWith ksel_X7_lengthWith kini_X7 kc_X7_lengthWith) rfl rfl rfl ⟨rfl, by decide +kernel, by decide +kernel, by decide +kernel⟩ ⟨Nat.le_of_ble_eq_true rfl, Nat.le_of_ble_eq_true rfl⟩ (by show 0 < 14; decide) rfl rfl rfl rfl (Nat.le_of_ble_eq_true rfl) dX7_leaves_3 rfl ?_
  refine x_ist (lv' := [(6, .int r2), (0, .ref (ad 0)), (1, .int a0), (2, .int a1), (3, .int a2), (4, .int a3), (5, .int a4)]) C rfl (by decide) rfl dX7_leaves_6 rfl ?_
  refine x_ic (v := 0) C (by decide) dX7_leaves_8 rfl ?_
  refine x_ist (lv' := [(7, .int 0), (6, .int r2), (0, .ref (ad 0)), (1, .int a0), (2, .int a1), (3, .int a2), (4, .int a3), (5, .int a4)]) C rfl (by decide) rfl dX7_leaves_9 rfl ?_
  have L11 : ∀ (n : Nat) (x7_3 : Int32) (s4 : gMem) (s5 : gMem), m_X7_leaves_11 a0 a1 a2 a3 a4 r2 n x7_3 s4 = some (s5) → (wx κ (gGM D ad cy b) (gA (gGM D ad cy b)) 9 s5 116 [] []) → wx κ (gGM D ad cy b) (gA (gGM D ad cy b)) 9 s4 11 [(0, .ref (ad 0)), (1, .int a0), (2, .int a1), (3, .int a2), (4, .int a3), (5, .int a4), (6, .int r2), (7, .int x7_3)] [] := by
    clear hM
    intro n
    induction n with
    | zero => intro _ _ _ hM; cases hM
    | succ n ih =>
      intro x7_3 s4 s5 hM kx0
      replace hM : b_X7_leaves_11 a0 a1 a2 a3 a4 r2 (m_X7_leaves_11 a0 a1 a2 a3 a4 r2 n) x7_3 s4 = some (s5) := hM
      unfold b_X7_leaves_11 at hM
      refine x_il C 7 rfl dX7_leaves_11 rfl ?_
      refine x_aln C 0 rfl dX7_leaves_13 rfl ?_
      refine gMg_0_z C kf_X7_7 dX7_leaves_14 rfl ?_
      refine x_bi (v := 62) C (by decide) dX7_leaves_17 rfl ?_
      obtain ⟨h6, hM⟩ := gck_some hM
      refine gMa_1 C h6 dX7_leaves_19 rfl ?_
      refine x_ic_ge (tgt := 116) C dX7_leaves_20 (by decide) rfl (fun hc => ?_) (fun hc => ?_)
      · replace hM := gif_pos hc hM
        cases hM
        exact x_sub [] rfl (kx0)
      · replace hM := gif_neg hc hM
        refine x_aln C 0 rfl dX7_leaves_23 rfl ?_
        refine x_iln C 2 rfl dX7_leaves_24 rfl ?_
        refine x_il C 7 rfl dX7_leaves_25 rfl ?_
        obtain ⟨r8, h7, hM⟩ := gb1_some hM
        refine x_cvi (As := [.int a1, .int x7_3]) (rest := []) C E.2.2.2.2.2 2 (c_X7_pathOf hG h7) (gBv km_X7_80 kin_X7_pathOf ksel_X7_pathOf kini_X7 kc_X7_pathOf) rfl rfl rfl ⟨rfl, by decide +kernel, by decide +kernel, by decide +kernel⟩ ⟨Nat.le_of_ble_eq_true rfl, Nat.le_of_ble_eq_true rfl⟩ (by show 0 < 14; decide) rfl rfl rfl rfl (Nat.le_of_ble_eq_true rfl) dX7_leaves_27 rfl ?_
        refine x_ist (lv' := [(8, .int r8), (0, .ref (ad 0)), (1, .int a0), (2, .int a1), (3, .int a2), (4, .int a3), (5, .int a4), (6, .int r2), (7, .int x7_3)]) C rfl (by decide) rfl dX7_leaves_30 rfl ?_
        refine x_il C 0 rfl dX7_leaves_32 rfl ?_
        refine x_if_le (tgt := 110) C dX7_leaves_34 (by decide) rfl (fun hc => ?_) (fun hc => ?_)
        · replace hM := gif_pos hc hM
          obtain ⟨x7_9, ev, hM⟩ := gnm_ex hM
          refine x_iinc (j := 8) (w := 1) (lv' := [(7, .int x7_9), (8, .int r8), (0, .ref (ad 0)), (1, .int a0), (2, .int a1), (3, .int a2), (4, .int a3), (5, .int a4), (6, .int r2)]) C rfl ev (by decide) (by decide) rfl dX7_leaves_110 rfl ?_
          refine x_goto (tgt := 11) C dX7_leaves_113 (by decide) ?_
          exact x_sub [2, 3, 4, 5, 6, 7, 8, 0] rfl (ih x7_9 s4 _ hM kx0)
        · replace hM := gif_neg hc hM
          refine x_il C 5 rfl dX7_leaves_37 rfl ?_
          refine x_il C 0 rfl dX7_leaves_39 rfl ?_
          refine x_iadd C dX7_leaves_41 rfl ?_
          refine x_si (v := 600) C (by decide) dX7_leaves_42 rfl ?_
          refine x_ic_gt (tgt := 110) C dX7_leaves_45 (by decide) rfl (fun hc => ?_) (fun hc => ?_)
          · replace hM := gif_pos hc hM
            obtain ⟨x7_10, ev, hM⟩ := gnm_ex hM
            refine x_iinc (j := 8) (w := 1) (lv' := [(7, .int x7_10), (8, .int r8), (0, .ref (ad 0)), (1, .int a0), (2, .int a1), (3, .int a2), (4, .int a3), (5, .int a4), (6, .int r2)]) C rfl ev (by decide) (by decide) rfl dX7_leaves_110 rfl ?_
            refine x_goto (tgt := 11) C dX7_leaves_113 (by decide) ?_
            exact x_sub [2, 3, 4, 5, 6, 7, 8, 0] rfl (ih x7_10 s4 _ hM kx0)
          · replace hM := gif_neg hc hM
            refine x_aln C 1 rfl dX7_leaves_48 rfl ?_
            refine x_iln C 2 rfl dX7_leaves_49 rfl ?_
            refine x_il C 7 rfl dX7_leaves_50 rfl ?_
            refine x_iln C 3 rfl dX7_leaves_52 rfl ?_
            refine x_il C 6 rfl dX7_leaves_53 rfl ?_
            refine x_il C 6 rfl dX7_leaves_55 rfl ?_
            refine x_il C 0 rfl dX7_leaves_57 rfl ?_
            refine x_iadd C dX7_leaves_59 rfl ?_
            obtain ⟨r12, h11, hM⟩ := gb1_some hM
            refine x_cvi (As := [.int a0, .int r2, .int a1, .int a4, .int (a4 + r8)]) (rest := []) C E.2.2.2.2.2 5 (c_X7_lasts hG h11) (gBv km_X7_185 kin_X7_lasts ksel_X7_lasts kini_X7 kc_X7_lasts) rfl rfl rfl ⟨rfl, by decide +kernel, by decide +kernel, by decide +kernel⟩ ⟨Nat.le_of_ble_eq_true rfl, Nat.le_of_ble_eq_true rfl⟩ (by show 0 < 14; decide) rfl rfl rfl rfl (Nat.le_of_ble_eq_true rfl) dX7_leaves_60 rfl ?_
            refine x_if_eq (tgt := 110) C dX7_leaves_63 (by decide) rfl (fun hc => ?_) (fun hc => ?_)
            · replace hM := gif_pos hc hM
              obtain ⟨x7_13, ev, hM⟩ := gnm_ex hM
              refine x_iinc (j := 8) (w := 1) (lv' := [(7, .int x7_13), (8, .int r8), (0, .ref (ad 0)), (1, .int a0), (2, .int a1), (3, .int a2), (4, .int a3), (5, .int a4), (6, .int r2)]) C rfl ev (by decide) (by decide) rfl dX7_leaves_110 rfl ?_
              refine x_goto (tgt := 11) C dX7_leaves_113 (by decide) ?_
              exact x_sub [2, 3, 4, 5, 6, 7, 8, 0] rfl (ih x7_13 s4 _ hM kx0)
            · replace hM := gif_neg hc hM
              refine x_aln C 1 rfl dX7_leaves_66 rfl ?_
              refine x_iln C 2 rfl dX7_leaves_67 rfl ?_
              refine x_il C 7 rfl dX7_leaves_68 rfl ?_
              refine x_il C 8 rfl dX7_leaves_70 rfl ?_
              refine x_il C 6 rfl dX7_leaves_72 rfl ?_
              refine x_il C 6 rfl dX7_leaves_74 rfl ?_
              refine x_il C 0 rfl dX7_leaves_76 rfl ?_
              refine x_iadd C dX7_leaves_78 rfl ?_
              obtain ⟨r15, h14, hM⟩ := gb1_some hM
              refine x_cvi (As := [.int a0, .int r2, .int x7_3, .int a4, .int (a4 + r8)]) (rest := []) C E.2.2.2.2.2 5 (c_X7_lasts hG h14) (gBv km_X7_185 kin_X7_lasts ksel_X7_lasts kini_X7 kc_X7_lasts) rfl rfl rfl ⟨rfl, by decide +kernel, by decide +kernel, by decide +kernel⟩ ⟨Nat.le_of_ble_eq_true rfl, Nat.le_of_ble_eq_true rfl⟩ (by show 0 < 14; decide) rfl rfl rfl rfl (Nat.le_of_ble_eq_true rfl) dX7_leaves_79 rfl ?_
              refine x_if_eq (tgt := 110) C dX7_leaves_82 (by decide) rfl (fun hc => ?_) (fun hc => ?_)
              · replace hM := gif_pos hc hM
                obtain ⟨x7_16, ev, hM⟩ := gnm_ex hM
                refine x_iinc (j := 8) (w := 1) (lv' := [(7, .int x7_16), (8, .int r8), (0, .ref (ad 0)), (1, .int a0), (2, .int a1), (3, .int a2), (4, .int a3), (5, .int a4), (6, .int r2)]) C rfl ev (by decide) (by decide) rfl dX7_leaves_110 rfl ?_
                refine x_goto (tgt := 11) C dX7_leaves_113 (by decide) ?_
                exact x_sub [2, 3, 4, 5, 6, 7, 8, 0] rfl (ih x7_16 s4 _ hM kx0)
              · replace hM := gif_neg hc hM
                refine x_aln C 1 rfl dX7_leaves_85 rfl ?_
                refine gMg_0_comes C kf_X7_35 dX7_leaves_86 rfl ?_
                refine x_bi (v := 96) C (by decide) dX7_leaves_89 rfl ?_
                refine x_il C 5 rfl dX7_leaves_91 rfl ?_
                refine x_il C 0 rfl dX7_leaves_93 rfl ?_
                refine x_iadd C dX7_leaves_95 rfl ?_
                refine x_bi (v := 61) C (by decide) dX7_leaves_96 rfl ?_
                refine x_irem C (by decide) dX7_leaves_98 rfl ?_
                refine x_imul C dX7_leaves_99 rfl ?_
                refine x_bi (v := 8) C (by decide) dX7_leaves_100 rfl ?_
                refine x_il C 8 rfl dX7_leaves_102 rfl ?_
                refine x_imul C dX7_leaves_104 rfl ?_
                refine x_iadd C dX7_leaves_105 rfl ?_
                refine x_iln C 4 rfl dX7_leaves_106 rfl ?_
                refine x_iadd C dX7_leaves_107 rfl ?_
                refine x_ic (v := 1) C (by decide) dX7_leaves_108 rfl ?_
                obtain ⟨h17, hM⟩ := gck_some hM
                obtain ⟨s18, ev, hM⟩ := gnm_ex hM
                refine gMs_9 C ev rfl h17 dX7_leaves_109 rfl ?_
                obtain ⟨x7_19, ev, hM⟩ := gnm_ex hM
                refine x_iinc (j := 8) (w := 1) (lv' := [(7, .int x7_19), (8, .int r8), (0, .ref (ad 0)), (1, .int a0), (2, .int a1), (3, .int a2), (4, .int a3), (5, .int a4), (6, .int r2)]) C rfl ev (by decide) (by decide) rfl dX7_leaves_110 rfl ?_
                refine x_goto (tgt := 11) C dX7_leaves_113 (by decide) ?_
                exact x_sub [2, 3, 4, 5, 6, 7, 8, 0] rfl (ih x7_19 s18 _ hM kx0)
  obtain ⟨s5, hL20, hM⟩ := gb1_some hM
  refine x_sub [2, 3, 4, 5, 6, 7, 1, 0] rfl (L11 gFU 0 σ _ hL20 ?_)
  clear L11
  exact x_vret C E (gs1 hM) dX7_leaves_116
set_option maxRecDepth 100000 in
set_option maxHeartbeats 4000000 in
theorem c_X7_go {l : Launch} {D : va_G} {ad : Nat → Nat} {cy : Nat → ClassId} {b : Nat} (hG : gInj (gGM D ad cy b)) {a0 : Int32} {a1 : Int32} {a2 : Int32} {σ : gMem} {σ0 : gMem} (hM : m_X7_go a0 a1 a2 σ = some σ0) : gMv l yX7_go (Cond.code yX7_go cX7_go 8 none :: gBig) { frames := 5, cells := 0, slots := 0, locals := 124 } (gGM D ad cy b) [.ref (ad 0), .int a0, .int a1, .int a2] σ σ0 := by
  refine gIntro (own := RX7) hG (by decide +kernel) rfl rfl (Nat.le_of_ble_eq_true rfl) (lv := [(0, .ref (ad 0)), (1, .int a0), (2, .int a1), (3, .int a2)]) rfl (fun κ C E => ?_)
  unfold m_X7_go at hM
  refine x_aln C 0 rfl dX7_go_0 rfl ?_
  refine x_bi (v := (-4)) C (by decide) dX7_go_1 rfl ?_
  obtain ⟨s1, ev, hM⟩ := gnm_ex hM
  refine gMp_0_soon C ev kf_X7_189 dX7_go_3 rfl ?_
  refine x_aln C 0 rfl dX7_go_6 rfl ?_
  refine x_bi (v := (-4)) C (by decide) dX7_go_7 rfl ?_
  obtain ⟨s2, ev, hM⟩ := gnm_ex hM
  refine gMp_0_light C ev kf_X7_192 dX7_go_9 rfl ?_
  refine x_ic (v := 0) C (by decide) dX7_go_12 rfl ?_
  refine x_ist (lv' := [(4, .int 0), (0, .ref (ad 0)), (1, .int a0), (2, .int a1), (3, .int a2)]) C rfl (by decide) rfl dX7_go_13 rfl ?_
  have L15 : ∀ (n : Nat) (x4_3 : Int32) (s4 : gMem) (s5 : gMem), m_X7_go_15 n x4_3 s4 = some (s5) → (wx κ (gGM D ad cy b) (gA (gGM D ad cy b)) 8 s5 36 [(0, .ref (ad 0)), (1, .int a0), (2, .int a1), (3, .int a2)] []) → wx κ (gGM D ad cy b) (gA (gGM D ad cy b)) 8 s4 15 [(0, .ref (ad 0)), (1, .int a0), (2, .int a1), (3, .int a2), (4, .int x4_3)] [] := by
    clear hM
    intro n
    induction n with
    | zero => intro _ _ _ hM; cases hM
    | succ n ih =>
      intro x4_3 s4 s5 hM kx0
      replace hM : b_X7_go_15 (m_X7_go_15 n) x4_3 s4 = some (s5) := hM
      unfold b_X7_go_15 at hM
      refine x_il C 4 rfl dX7_go_15 rfl ?_
      refine x_bi (v := 96) C (by decide) dX7_go_17 rfl ?_
      refine x_ic_ge (tgt := 36) C dX7_go_19 (by decide) rfl (fun hc => ?_) (fun hc => ?_)
      · replace hM := gif_pos hc hM
        cases hM
        exact x_sub [0, 1, 2, 3] rfl (kx0)
      · replace hM := gif_neg hc hM
        refine x_aln C 0 rfl dX7_go_22 rfl ?_
        refine gMg_0_is C kf_X7_31 dX7_go_23 rfl ?_
        refine x_il C 4 rfl dX7_go_26 rfl ?_
        refine x_ic (v := 0) C (by decide) dX7_go_28 rfl ?_
        obtain ⟨h6, hM⟩ := gck_some hM
        obtain ⟨s7, ev, hM⟩ := gnm_ex hM
        refine gMs_8 C ev rfl h6 dX7_go_29 rfl ?_
        obtain ⟨x4_8, ev, hM⟩ := gnm_ex hM
        refine x_iinc (j := 4) (w := 1) (lv' := [(4, .int x4_8), (0, .ref (ad 0)), (1, .int a0), (2, .int a1), (3, .int a2)]) C rfl ev (by decide) (by decide) rfl dX7_go_30 rfl ?_
        refine x_goto (tgt := 15) C dX7_go_33 (by decide) ?_
        exact x_sub [1, 2, 3, 4, 0] rfl (ih x4_8 s7 _ hM kx0)
  obtain ⟨s5, hL9, hM⟩ := gb1_some hM
  refine x_sub [1, 2, 3, 4, 0] rfl (L15 gFU 0 s2 _ hL9 ?_)
  clear L15
  refine x_ic (v := 0) C (by decide) dX7_go_36 rfl ?_
  refine x_ist (lv' := [(4, .int 0), (0, .ref (ad 0)), (1, .int a0), (2, .int a1), (3, .int a2)]) C rfl (by decide) rfl dX7_go_37 rfl ?_
  have L39 : ∀ (n : Nat) (x4_10 : Int32) (s11 : gMem) (s12 : gMem), m_X7_go_39 n x4_10 s11 = some (s12) → (wx κ (gGM D ad cy b) (gA (gGM D ad cy b)) 8 s12 61 [(0, .ref (ad 0)), (1, .int a0), (2, .int a1), (3, .int a2)] []) → wx κ (gGM D ad cy b) (gA (gGM D ad cy b)) 8 s11 39 [(0, .ref (ad 0)), (1, .int a0), (2, .int a1), (3, .int a2), (4, .int x4_10)] [] := by
    clear hM
    intro n
    induction n with
    | zero => intro _ _ _ hM; cases hM
    | succ n ih =>
      intro x4_10 s11 s12 hM kx0
      replace hM : b_X7_go_39 (m_X7_go_39 n) x4_10 s11 = some (s12) := hM
      unfold b_X7_go_39 at hM
      refine x_il C 4 rfl dX7_go_39 rfl ?_
      refine x_si (v := 5856) C (by decide) dX7_go_41 rfl ?_
      refine x_ic_ge (tgt := 61) C dX7_go_44 (by decide) rfl (fun hc => ?_) (fun hc => ?_)
      · replace hM := gif_pos hc hM
        cases hM
        exact x_sub [0, 1, 2, 3] rfl (kx0)
      · replace hM := gif_neg hc hM
        refine x_aln C 0 rfl dX7_go_47 rfl ?_
        refine gMg_0_comes C kf_X7_35 dX7_go_48 rfl ?_
        refine x_il C 4 rfl dX7_go_51 rfl ?_
        refine x_ic (v := 0) C (by decide) dX7_go_53 rfl ?_
        obtain ⟨h13, hM⟩ := gck_some hM
        obtain ⟨s14, ev, hM⟩ := gnm_ex hM
        refine gMs_9 C ev rfl h13 dX7_go_54 rfl ?_
        obtain ⟨x4_15, ev, hM⟩ := gnm_ex hM
        refine x_iinc (j := 4) (w := 1) (lv' := [(4, .int x4_15), (0, .ref (ad 0)), (1, .int a0), (2, .int a1), (3, .int a2)]) C rfl ev (by decide) (by decide) rfl dX7_go_55 rfl ?_
        refine x_goto (tgt := 39) C dX7_go_58 (by decide) ?_
        exact x_sub [1, 2, 3, 4, 0] rfl (ih x4_15 s14 _ hM kx0)
  obtain ⟨s12, hL16, hM⟩ := gb1_some hM
  refine x_sub [1, 2, 3, 4, 0] rfl (L39 gFU 0 s5 _ hL16 ?_)
  clear L39
  refine x_aln C 0 rfl dX7_go_61 rfl ?_
  refine x_iln C 1 rfl dX7_go_62 rfl ?_
  refine x_aln C 0 rfl dX7_go_63 rfl ?_
  refine gMg_0_z C kf_X7_7 dX7_go_64 rfl ?_
  refine x_bi (v := 82) C (by decide) dX7_go_67 rfl ?_
  refine x_iln C 1 rfl dX7_go_69 rfl ?_
  refine x_iadd C dX7_go_70 rfl ?_
  obtain ⟨h17, hM⟩ := gck_some hM
  refine gMa_1 C h17 dX7_go_71 rfl ?_
  refine x_iln C 3 rfl dX7_go_72 rfl ?_
  obtain ⟨r19, h18, hM⟩ := gb1_some hM
  refine x_csi (As := [.int a2]) (rest := [.int (s12 1 (82 + a0).toNatClampNeg), .int a0, .ref (ad 0)]) C E.2.2.2.2.2 1 (c_X7_hourOf hG h18) (gBs km_X7_179 kst_X7_hourOf kini_X7 kc_X7_hourOf) rfl rfl rfl ⟨by decide +kernel, by decide +kernel, by decide +kernel⟩ ⟨Nat.le_of_ble_eq_true rfl, Nat.le_of_ble_eq_true rfl⟩ rfl rfl (Nat.le_of_ble_eq_true rfl) dX7_go_73 rfl ?_
  obtain ⟨r21, h20, hM⟩ := gb1_some hM
  refine x_cvi (As := [.int a0, .int (s12 1 (82 + a0).toNatClampNeg), .int r19]) (rest := []) C E.2.2.2.2.2 3 (c_X7_does hG h20) (gBv km_X7_167 kin_X7_does ksel_X7_does kini_X7 kc_X7_does) rfl rfl rfl ⟨rfl, by decide +kernel, by decide +kernel, by decide +kernel⟩ ⟨Nat.le_of_ble_eq_true rfl, Nat.le_of_ble_eq_true rfl⟩ (by show 0 < 14; decide) rfl rfl rfl rfl (Nat.le_of_ble_eq_true rfl) dX7_go_76 rfl ?_
  obtain ⟨s22, hJ75, hM⟩ := gb1_some hM
  have J3 : wx κ (gGM D ad cy b) (gA (gGM D ad cy b)) 8 s22 100 [(0, .ref (ad 0)), (1, .int a0), (2, .int a1), (3, .int a2)] [] := by
    refine x_ic (v := 0) C (by decide) dX7_go_100 rfl ?_
    refine x_ist (lv' := [(4, .int 0), (0, .ref (ad 0)), (1, .int a0), (2, .int a1), (3, .int a2)]) C rfl (by decide) rfl dX7_go_101 rfl ?_
    have L103 : ∀ (n : Nat) (x4_26 : Int32) (s27 : gMem) (s28 : gMem), m_X7_go_103 a0 a1 a2 n x4_26 s27 = some (s28) → (wx κ (gGM D ad cy b) (gA (gGM D ad cy b)) 8 s28 302 [] []) → wx κ (gGM D ad cy b) (gA (gGM D ad cy b)) 8 s27 103 [(0, .ref (ad 0)), (1, .int a0), (2, .int a1), (3, .int a2), (4, .int x4_26)] [] := by
      clear hM
      intro n
      induction n with
      | zero => intro _ _ _ hM; cases hM
      | succ n ih =>
        intro x4_26 s27 s28 hM kx0
        replace hM : b_X7_go_103 a0 a1 a2 (m_X7_go_103 a0 a1 a2 n) x4_26 s27 = some (s28) := hM
        unfold b_X7_go_103 at hM
        refine x_il C 4 rfl dX7_go_103 rfl ?_
        refine x_si (v := 600) C (by decide) dX7_go_105 rfl ?_
        refine x_ic_gt (tgt := 302) C dX7_go_108 (by decide) rfl (fun hc => ?_) (fun hc => ?_)
        · replace hM := gif_pos hc hM
          cases hM
          exact x_sub [] rfl (kx0)
        · replace hM := gif_neg hc hM
          refine x_iln C 3 rfl dX7_go_111 rfl ?_
          refine x_il C 4 rfl dX7_go_112 rfl ?_
          refine x_iadd C dX7_go_114 rfl ?_
          obtain ⟨x5_29, ev, hM⟩ := gnm_ex hM
          refine x_ist (lv' := [(5, .int x5_29), (0, .ref (ad 0)), (1, .int a0), (2, .int a1), (3, .int a2), (4, .int x4_26)]) C ev (by decide) rfl dX7_go_115 rfl ?_
          refine x_ic (v := 0) C (by decide) dX7_go_117 rfl ?_
          refine x_ist (lv' := [(6, .int 0), (5, .int x5_29), (0, .ref (ad 0)), (1, .int a0), (2, .int a1), (3, .int a2), (4, .int x4_26)]) C rfl (by decide) rfl dX7_go_118 rfl ?_
          have L120 : ∀ (n : Nat) (x6_30 : Int32) (s31 : gMem) (s32 : gMem), m_X7_go_120 a0 x5_29 n x6_30 s31 = some (s32) → (wx κ (gGM D ad cy b) (gA (gGM D ad cy b)) 8 s32 182 [(0, .ref (ad 0)), (1, .int a0), (2, .int a1), (3, .int a2), (4, .int x4_26), (5, .int x5_29)] []) → wx κ (gGM D ad cy b) (gA (gGM D ad cy b)) 8 s31 120 [(0, .ref (ad 0)), (1, .int a0), (2, .int a1), (3, .int a2), (4, .int x4_26), (5, .int x5_29), (6, .int x6_30)] [] := by
            clear hM
            intro n
            induction n with
            | zero => intro _ _ _ hM; cases hM
            | succ n ih =>
              intro x6_30 s31 s32 hM kx0
              replace hM : b_X7_go_120 a0 x5_29 (m_X7_go_120 a0 x5_29 n) x6_30 s31 = some (s32) := hM
              unfold b_X7_go_120 at hM
              refine x_il C 6 rfl dX7_go_120 rfl ?_
              refine x_bi (v := 96) C (by decide) dX7_go_122 rfl ?_
              refine x_ic_ge (tgt := 182) C dX7_go_124 (by decide) rfl (fun hc => ?_) (fun hc => ?_)
              · replace hM := gif_pos hc hM
                cases hM
                exact x_sub [0, 1, 2, 3, 4, 5] rfl (kx0)
              · replace hM := gif_neg hc hM
                refine x_aln C 0 rfl dX7_go_127 rfl ?_
                refine gMg_0_is C kf_X7_31 dX7_go_128 rfl ?_
                refine x_il C 6 rfl dX7_go_131 rfl ?_
                refine x_aln C 0 rfl dX7_go_133 rfl ?_
                refine gMg_0_is C kf_X7_31 dX7_go_134 rfl ?_
                refine x_il C 6 rfl dX7_go_137 rfl ?_
                obtain ⟨h33, hM⟩ := gck_some hM
                refine gMa_8 C h33 dX7_go_139 rfl ?_
                refine x_if_eq (tgt := 174) C dX7_go_140 (by decide) rfl (fun hc => ?_) (fun hc => ?_)
                · replace hM := gif_pos hc hM
                  refine x_ic (v := 0) C (by decide) dX7_go_174 rfl ?_
                  obtain ⟨h34, hM⟩ := gck_some hM
                  obtain ⟨s35, ev, hM⟩ := gnm_ex hM
                  refine gMs_8 C ev rfl h34 dX7_go_175 rfl ?_
                  obtain ⟨x6_36, ev, hM⟩ := gnm_ex hM
                  refine x_iinc (j := 6) (w := 1) (lv' := [(6, .int x6_36), (0, .ref (ad 0)), (1, .int a0), (2, .int a1), (3, .int a2), (4, .int x4_26), (5, .int x5_29)]) C rfl ev (by decide) (by decide) rfl dX7_go_176 rfl ?_
                  refine x_goto (tgt := 120) C dX7_go_179 (by decide) ?_
                  exact x_sub [1, 2, 3, 4, 5, 6, 0] rfl (ih x6_36 s35 _ hM kx0)
                · replace hM := gif_neg hc hM
                  refine x_aln C 0 rfl dX7_go_143 rfl ?_
                  refine x_iln C 1 rfl dX7_go_144 rfl ?_
                  refine x_aln C 0 rfl dX7_go_145 rfl ?_
                  refine x_iln C 1 rfl dX7_go_146 rfl ?_
                  refine x_il C 6 rfl dX7_go_147 rfl ?_
                  refine x_bi (v := 7) C (by decide) dX7_go_149 rfl ?_
                  refine x_iand C dX7_go_151 rfl ?_
                  obtain ⟨r38, h37, hM⟩ := gb1_some hM
                  refine x_cvi (As := [.int a0, .int (x6_30 &&& 7)]) (rest := [.int a0, .ref (ad 0), .int x6_30, .ref (ad 8)]) C E.2.2.2.2.2 2 (c_X7_lengthWith hG h37) (gBv km_X7_182 kin_X7_lengthWith ksel_X7_lengthWith kini_X7 kc_X7_lengthWith) rfl rfl rfl ⟨rfl, by decide +kernel, by decide +kernel, by decide +kernel⟩ ⟨Nat.le_of_ble_eq_true rfl, Nat.le_of_ble_eq_true rfl⟩ (by show 0 < 14; decide) rfl rfl rfl rfl (Nat.le_of_ble_eq_true rfl) dX7_go_152 rfl ?_
                  refine x_il C 6 rfl dX7_go_155 rfl ?_
                  refine x_ic (v := 3) C (by decide) dX7_go_157 rfl ?_
                  refine x_ishr C dX7_go_158 rfl ?_
                  refine x_il C 5 rfl dX7_go_159 rfl ?_
                  obtain ⟨r40, h39, hM⟩ := gb1_some hM
                  refine x_csi (As := [.int x5_29]) (rest := [.int (x6_30 >>> (3 &&& 31)), .int r38, .int a0, .ref (ad 0), .int x6_30, .ref (ad 8)]) C E.2.2.2.2.2 1 (c_X7_hourOf hG h39) (gBs km_X7_179 kst_X7_hourOf kini_X7 kc_X7_hourOf) rfl rfl rfl ⟨by decide +kernel, by decide +kernel, by decide +kernel⟩ ⟨Nat.le_of_ble_eq_true rfl, Nat.le_of_ble_eq_true rfl⟩ rfl rfl (Nat.le_of_ble_eq_true rfl) dX7_go_161 rfl ?_
                  obtain ⟨r42, h41, hM⟩ := gb1_some hM
                  refine x_cvi (As := [.int a0, .int r38, .int (x6_30 >>> (3 &&& 31)), .int r40]) (rest := [.int x6_30, .ref (ad 8)]) C E.2.2.2.2.2 4 (c_X7_would hG h41) (gBv km_X7_164 kin_X7_would ksel_X7_would kini_X7 kc_X7_would) rfl rfl rfl ⟨rfl, by decide +kernel, by decide +kernel, by decide +kernel⟩ ⟨Nat.le_of_ble_eq_true rfl, Nat.le_of_ble_eq_true rfl⟩ (by show 0 < 14; decide) rfl rfl rfl rfl (Nat.le_of_ble_eq_true rfl) dX7_go_164 rfl ?_
                  refine x_if_eq (tgt := 174) C dX7_go_167 (by decide) rfl (fun hc => ?_) (fun hc => ?_)
                  · replace hM := gif_pos hc hM
                    refine x_ic (v := 0) C (by decide) dX7_go_174 rfl ?_
                    obtain ⟨h43, hM⟩ := gck_some hM
                    obtain ⟨s44, ev, hM⟩ := gnm_ex hM
                    refine gMs_8 C ev rfl h43 dX7_go_175 rfl ?_
                    obtain ⟨x6_45, ev, hM⟩ := gnm_ex hM
                    refine x_iinc (j := 6) (w := 1) (lv' := [(6, .int x6_45), (0, .ref (ad 0)), (1, .int a0), (2, .int a1), (3, .int a2), (4, .int x4_26), (5, .int x5_29)]) C rfl ev (by decide) (by decide) rfl dX7_go_176 rfl ?_
                    refine x_goto (tgt := 120) C dX7_go_179 (by decide) ?_
                    exact x_sub [1, 2, 3, 4, 5, 6, 0] rfl (ih x6_45 s44 _ hM kx0)
                  · replace hM := gif_neg hc hM
                    refine x_ic (v := 1) C (by decide) dX7_go_170 rfl ?_
                    refine x_goto (tgt := 175) C dX7_go_171 (by decide) ?_
                    obtain ⟨h46, hM⟩ := gck_some hM
                    obtain ⟨s47, ev, hM⟩ := gnm_ex hM
                    refine gMs_8 C ev rfl h46 dX7_go_175 rfl ?_
                    obtain ⟨x6_48, ev, hM⟩ := gnm_ex hM
                    refine x_iinc (j := 6) (w := 1) (lv' := [(6, .int x6_48), (0, .ref (ad 0)), (1, .int a0), (2, .int a1), (3, .int a2), (4, .int x4_26), (5, .int x5_29)]) C rfl ev (by decide) (by decide) rfl dX7_go_176 rfl ?_
                    refine x_goto (tgt := 120) C dX7_go_179 (by decide) ?_
                    exact x_sub [1, 2, 3, 4, 5, 6, 0] rfl (ih x6_48 s47 _ hM kx0)
          obtain ⟨s32, hL49, hM⟩ := gb1_some hM
          refine x_sub [2, 3, 4, 5, 6, 1, 0] rfl (L120 gFU 0 s27 _ hL49 ?_)
          clear L120
          refine x_ic (v := 0) C (by decide) dX7_go_182 rfl ?_
          refine x_ist (lv' := [(6, .int 0), (0, .ref (ad 0)), (1, .int a0), (2, .int a1), (3, .int a2), (4, .int x4_26), (5, .int x5_29)]) C rfl (by decide) rfl dX7_go_183 rfl ?_
          have L185 : ∀ (n : Nat) (x6_50 : Int32) (s51 : gMem) (s52 : gMem), m_X7_go_185 a0 x4_26 x5_29 n x6_50 s51 = some (s52) → (wx κ (gGM D ad cy b) (gA (gGM D ad cy b)) 8 s52 245 [(0, .ref (ad 0)), (1, .int a0), (2, .int a1), (3, .int a2), (4, .int x4_26), (5, .int x5_29)] []) → wx κ (gGM D ad cy b) (gA (gGM D ad cy b)) 8 s51 185 [(0, .ref (ad 0)), (1, .int a0), (2, .int a1), (3, .int a2), (4, .int x4_26), (5, .int x5_29), (6, .int x6_50)] [] := by
            clear hM
            intro n
            induction n with
            | zero => intro _ _ _ hM; cases hM
            | succ n ih =>
              intro x6_50 s51 s52 hM kx0
              replace hM : b_X7_go_185 a0 x4_26 x5_29 (m_X7_go_185 a0 x4_26 x5_29 n) x6_50 s51 = some (s52) := hM
              unfold b_X7_go_185 at hM
              refine x_il C 6 rfl dX7_go_185 rfl ?_
              refine x_bi (v := 96) C (by decide) dX7_go_187 rfl ?_
              refine x_ic_ge (tgt := 245) C dX7_go_189 (by decide) rfl (fun hc => ?_) (fun hc => ?_)
              · replace hM := gif_pos hc hM
                cases hM
                exact x_sub [0, 1, 2, 3, 4, 5] rfl (kx0)
              · replace hM := gif_neg hc hM
                refine x_bi (v := 96) C (by decide) dX7_go_192 rfl ?_
                refine x_il C 4 rfl dX7_go_194 rfl ?_
                refine x_bi (v := 61) C (by decide) dX7_go_196 rfl ?_
                refine x_irem C (by decide) dX7_go_198 rfl ?_
                refine x_imul C dX7_go_199 rfl ?_
                refine x_il C 6 rfl dX7_go_200 rfl ?_
                refine x_iadd C dX7_go_202 rfl ?_
                obtain ⟨x7_53, ev, hM⟩ := gnm_ex hM
                refine x_ist (lv' := [(7, .int x7_53), (0, .ref (ad 0)), (1, .int a0), (2, .int a1), (3, .int a2), (4, .int x4_26), (5, .int x5_29), (6, .int x6_50)]) C ev (by decide) rfl dX7_go_203 rfl ?_
                refine x_aln C 1 rfl dX7_go_205 rfl ?_
                refine gMg_0_comes C kf_X7_35 dX7_go_206 rfl ?_
                refine x_il C 0 rfl dX7_go_209 rfl ?_
                obtain ⟨h54, hM⟩ := gck_some hM
                refine gMa_9 C h54 dX7_go_211 rfl ?_
                refine x_if_eq (tgt := 239) C dX7_go_212 (by decide) rfl (fun hc => ?_) (fun hc => ?_)
                · replace hM := gif_pos hc hM
                  obtain ⟨x6_55, ev, hM⟩ := gnm_ex hM
                  refine x_iinc (j := 7) (w := 1) (lv' := [(6, .int x6_55), (7, .int x7_53), (0, .ref (ad 0)), (1, .int a0), (2, .int a1), (3, .int a2), (4, .int x4_26), (5, .int x5_29)]) C rfl ev (by decide) (by decide) rfl dX7_go_239 rfl ?_
                  refine x_goto (tgt := 185) C dX7_go_242 (by decide) ?_
                  exact x_sub [2, 3, 4, 5, 6, 7, 0] rfl (ih x6_55 s51 _ hM kx0)
                · replace hM := gif_neg hc hM
                  refine x_aln C 1 rfl dX7_go_215 rfl ?_
                  refine x_iln C 2 rfl dX7_go_216 rfl ?_
                  refine x_il C 7 rfl dX7_go_217 rfl ?_
                  refine x_ic (v := 3) C (by decide) dX7_go_219 rfl ?_
                  refine x_ishr C dX7_go_220 rfl ?_
                  refine x_il C 7 rfl dX7_go_221 rfl ?_
                  refine x_bi (v := 7) C (by decide) dX7_go_223 rfl ?_
                  refine x_iand C dX7_go_225 rfl ?_
                  refine x_il C 6 rfl dX7_go_226 rfl ?_
                  obtain ⟨s57, h56, hM⟩ := gb1_some hM
                  refine x_cvv (As := [.int a0, .int (x6_50 >>> (3 &&& 31)), .int (x6_50 &&& 7), .int x5_29]) (rest := []) C E.2.2.2.2.2 4 (c_X7_arrives hG h56) (gBv km_X7_198 kin_X7_arrives ksel_X7_arrives kini_X7 kc_X7_arrives) rfl rfl rfl ⟨rfl, by decide +kernel, by decide +kernel, by decide +kernel⟩ ⟨Nat.le_of_ble_eq_true rfl, Nat.le_of_ble_eq_true rfl⟩ (by show 0 < 14; decide) rfl rfl rfl rfl (Nat.le_of_ble_eq_true rfl) dX7_go_228 rfl ?_
                  refine x_aln C 1 rfl dX7_go_231 rfl ?_
                  refine gMg_0_comes C kf_X7_35 dX7_go_232 rfl ?_
                  refine x_il C 0 rfl dX7_go_235 rfl ?_
                  refine x_ic (v := 0) C (by decide) dX7_go_237 rfl ?_
                  obtain ⟨h58, hM⟩ := gck_some hM
                  obtain ⟨s59, ev, hM⟩ := gnm_ex hM
                  refine gMs_9 C ev rfl h58 dX7_go_238 rfl ?_
                  obtain ⟨x6_60, ev, hM⟩ := gnm_ex hM
                  refine x_iinc (j := 7) (w := 1) (lv' := [(6, .int x6_60), (7, .int x7_53), (0, .ref (ad 0)), (1, .int a0), (2, .int a1), (3, .int a2), (4, .int x4_26), (5, .int x5_29)]) C rfl ev (by decide) (by decide) rfl dX7_go_239 rfl ?_
                  refine x_goto (tgt := 185) C dX7_go_242 (by decide) ?_
                  exact x_sub [2, 3, 4, 5, 6, 7, 0] rfl (ih x6_60 s59 _ hM kx0)
          obtain ⟨s52, hL61, hM⟩ := gb1_some hM
          refine x_sub [1, 2, 3, 4, 5, 6, 0] rfl (L185 gFU 0 s32 _ hL61 ?_)
          clear L185
          refine x_aln C 0 rfl dX7_go_245 rfl ?_
          refine x_iln C 2 rfl dX7_go_246 rfl ?_
          refine x_il C 4 rfl dX7_go_247 rfl ?_
          obtain ⟨s63, h62, hM⟩ := gb1_some hM
          refine x_cvv (As := [.int a1, .int x4_26]) (rest := []) C E.2.2.2.2.2 2 (c_X7_look hG h62) (gBv km_X7_202 kin_X7_look ksel_X7_look kini_X7 kc_X7_look) rfl rfl rfl ⟨rfl, by decide +kernel, by decide +kernel, by decide +kernel⟩ ⟨Nat.le_of_ble_eq_true rfl, Nat.le_of_ble_eq_true rfl⟩ (by show 0 < 14; decide) rfl rfl rfl rfl (Nat.le_of_ble_eq_true rfl) dX7_go_249 rfl ?_
          refine x_ic (v := 0) C (by decide) dX7_go_252 rfl ?_
          refine x_ist (lv' := [(6, .int 0), (0, .ref (ad 0)), (1, .int a0), (2, .int a1), (3, .int a2), (4, .int x4_26), (5, .int x5_29)]) C rfl (by decide) rfl dX7_go_253 rfl ?_
          have L255 : ∀ (n : Nat) (x6_64 : Int32) (s65 : gMem) (s66 : gMem), m_X7_go_255 a0 x4_26 x5_29 n x6_64 s65 = some (s66) → (wx κ (gGM D ad cy b) (gA (gGM D ad cy b)) 8 s66 296 [(0, .ref (ad 0)), (1, .int a0), (2, .int a1), (3, .int a2), (4, .int x4_26)] []) → wx κ (gGM D ad cy b) (gA (gGM D ad cy b)) 8 s65 255 [(0, .ref (ad 0)), (1, .int a0), (2, .int a1), (3, .int a2), (4, .int x4_26), (5, .int x5_29), (6, .int x6_64)] [] := by
            clear hM
            intro n
            induction n with
            | zero => intro _ _ _ hM; cases hM
            | succ n ih =>
              intro x6_64 s65 s66 hM kx0
              replace hM : b_X7_go_255 a0 x4_26 x5_29 (m_X7_go_255 a0 x4_26 x5_29 n) x6_64 s65 = some (s66) := hM
              unfold b_X7_go_255 at hM
              refine x_il C 6 rfl dX7_go_255 rfl ?_
              refine x_bi (v := 96) C (by decide) dX7_go_257 rfl ?_
              refine x_ic_ge (tgt := 296) C dX7_go_259 (by decide) rfl (fun hc => ?_) (fun hc => ?_)
              · replace hM := gif_pos hc hM
                cases hM
                exact x_sub [0, 1, 2, 3, 4] rfl (kx0)
              · replace hM := gif_neg hc hM
                refine x_aln C 0 rfl dX7_go_262 rfl ?_
                refine gMg_0_is C kf_X7_31 dX7_go_263 rfl ?_
                refine x_il C 6 rfl dX7_go_266 rfl ?_
                obtain ⟨h67, hM⟩ := gck_some hM
                refine gMa_8 C h67 dX7_go_268 rfl ?_
                refine x_if_eq (tgt := 290) C dX7_go_269 (by decide) rfl (fun hc => ?_) (fun hc => ?_)
                · replace hM := gif_pos hc hM
                  obtain ⟨x6_68, ev, hM⟩ := gnm_ex hM
                  refine x_iinc (j := 6) (w := 1) (lv' := [(6, .int x6_68), (0, .ref (ad 0)), (1, .int a0), (2, .int a1), (3, .int a2), (4, .int x4_26), (5, .int x5_29)]) C rfl ev (by decide) (by decide) rfl dX7_go_290 rfl ?_
                  refine x_goto (tgt := 255) C dX7_go_293 (by decide) ?_
                  exact x_sub [1, 2, 3, 4, 5, 6, 0] rfl (ih x6_68 s65 _ hM kx0)
                · replace hM := gif_neg hc hM
                  refine x_aln C 0 rfl dX7_go_272 rfl ?_
                  refine x_iln C 1 rfl dX7_go_273 rfl ?_
                  refine x_il C 6 rfl dX7_go_274 rfl ?_
                  refine x_ic (v := 3) C (by decide) dX7_go_276 rfl ?_
                  refine x_ishr C dX7_go_277 rfl ?_
                  refine x_il C 6 rfl dX7_go_278 rfl ?_
                  refine x_bi (v := 7) C (by decide) dX7_go_280 rfl ?_
                  refine x_iand C dX7_go_282 rfl ?_
                  refine x_il C 4 rfl dX7_go_283 rfl ?_
                  refine x_il C 5 rfl dX7_go_285 rfl ?_
                  obtain ⟨s70, h69, hM⟩ := gb1_some hM
                  refine x_cvv (As := [.int a0, .int (x6_64 >>> (3 &&& 31)), .int (x6_64 &&& 7), .int x4_26, .int x5_29]) (rest := []) C E.2.2.2.2.2 5 (c_X7_leaves hG h69) (gBv km_X7_205 kin_X7_leaves ksel_X7_leaves kini_X7 kc_X7_leaves) rfl rfl rfl ⟨rfl, by decide +kernel, by decide +kernel, by decide +kernel⟩ ⟨Nat.le_of_ble_eq_true rfl, Nat.le_of_ble_eq_true rfl⟩ (by show 0 < 14; decide) rfl rfl rfl rfl (Nat.le_of_ble_eq_true rfl) dX7_go_287 rfl ?_
                  obtain ⟨x6_71, ev, hM⟩ := gnm_ex hM
                  refine x_iinc (j := 6) (w := 1) (lv' := [(6, .int x6_71), (0, .ref (ad 0)), (1, .int a0), (2, .int a1), (3, .int a2), (4, .int x4_26), (5, .int x5_29)]) C rfl ev (by decide) (by decide) rfl dX7_go_290 rfl ?_
                  refine x_goto (tgt := 255) C dX7_go_293 (by decide) ?_
                  exact x_sub [1, 2, 3, 4, 5, 6, 0] rfl (ih x6_71 s70 _ hM kx0)
          obtain ⟨s66, hL72, hM⟩ := gb1_some hM
          refine x_sub [1, 2, 3, 4, 5, 6, 0] rfl (L255 gFU 0 s63 _ hL72 ?_)
          clear L255
          obtain ⟨x4_73, ev, hM⟩ := gnm_ex hM
          refine x_iinc (j := 4) (w := 1) (lv' := [(4, .int x4_73), (0, .ref (ad 0)), (1, .int a0), (2, .int a1), (3, .int a2)]) C rfl ev (by decide) (by decide) rfl dX7_go_296 rfl ?_
          refine x_goto (tgt := 103) C dX7_go_299 (by decide) ?_
          exact x_sub [1, 2, 3, 4, 0] rfl (ih x4_73 s66 _ hM kx0)
    obtain ⟨s28, hL74, hM⟩ := gb1_some hM
    refine x_sub [1, 2, 3, 4, 0] rfl (L103 gFU 0 s22 _ hL74 ?_)
    clear L103
    exact x_vret C E (gs1 hM) dX7_go_302
  clear hM
  have hM := hJ75
  clear hJ75
  refine x_if_eq (tgt := 100) C dX7_go_79 (by decide) rfl (fun hc => ?_) (fun hc => ?_)
  · replace hM := gif_pos hc hM
    cases hM
    exact x_sub [0, 1, 2, 3] rfl J3
  · replace hM := gif_neg hc hM
    refine x_aln C 0 rfl dX7_go_82 rfl ?_
    refine gMg_0_comes C kf_X7_35 dX7_go_83 rfl ?_
    refine x_bi (v := 8) C (by decide) dX7_go_86 rfl ?_
    refine x_aln C 0 rfl dX7_go_88 rfl ?_
    refine gMg_0_z C kf_X7_7 dX7_go_89 rfl ?_
    refine x_bi (v := 82) C (by decide) dX7_go_92 rfl ?_
    refine x_iln C 1 rfl dX7_go_94 rfl ?_
    refine x_iadd C dX7_go_95 rfl ?_
    obtain ⟨h23, hM⟩ := gck_some hM
    refine gMa_1 C h23 dX7_go_96 rfl ?_
    refine x_imul C dX7_go_97 rfl ?_
    refine x_ic (v := 1) C (by decide) dX7_go_98 rfl ?_
    obtain ⟨h24, hM⟩ := gck_some hM
    obtain ⟨s25, ev, hM⟩ := gnm_ex hM
    refine gMs_9 C ev rfl h24 dX7_go_99 rfl ?_
    cases hM
    exact x_sub [0, 1, 2, 3] rfl J3
set_option maxRecDepth 100000 in
set_option maxHeartbeats 4000000 in
theorem c_X7_way {l : Launch} {D : va_G} {ad : Nat → Nat} {cy : Nat → ClassId} {b : Nat} (hG : gInj (gGM D ad cy b)) {a0 : Int32} {a1 : Int32} {a2 : Int32} {a3 : Int32} {σ : gMem} {r0 : Int32} {σ0 : gMem} (hM : m_X7_way a0 a1 a2 a3 σ = some (r0, σ0)) : gMi l yX7_way (Cond.code yX7_way cX7_way 5 (some .int) :: gBig) { frames := 6, cells := 0, slots := 0, locals := 151 } (gGM D ad cy b) [.ref (ad 0), .int a0, .int a1, .int a2, .int a3] σ r0 σ0 := by
  refine gIntro (own := RX7) hG (by decide +kernel) rfl rfl (Nat.le_of_ble_eq_true rfl) (lv := [(0, .ref (ad 0)), (1, .int a0), (2, .int a1), (3, .int a2), (4, .int a3)]) rfl (fun κ C E => ?_)
  unfold m_X7_way at hM
  refine x_aln C 0 rfl dX7_way_0 rfl ?_
  refine x_iln C 1 rfl dX7_way_1 rfl ?_
  obtain ⟨r2, h1, hM⟩ := gb1_some hM
  refine x_cvi (As := [.int a0]) (rest := []) C E.2.2.2.2.2 1 (c_X7_isPerson hG h1) (gBv km_X7_95 kin_X7_isPerson ksel_X7_isPerson kini_X7 kc_X7_isPerson) rfl rfl rfl ⟨rfl, by decide +kernel, by decide +kernel, by decide +kernel⟩ ⟨Nat.le_of_ble_eq_true rfl, Nat.le_of_ble_eq_true rfl⟩ (by show 0 < 14; decide) rfl rfl rfl rfl (Nat.le_of_ble_eq_true rfl) dX7_way_2 rfl ?_
  refine x_if_eq (tgt := 39) C dX7_way_5 (by decide) rfl (fun hc => ?_) (fun hc => ?_)
  · replace hM := gif_pos hc hM
    refine x_ic (v := (-1)) C (by decide) dX7_way_39 rfl ?_
    exact x_iret C E (gs2 hM) dX7_way_40
  · replace hM := gif_neg hc hM
    refine x_aln C 0 rfl dX7_way_8 rfl ?_
    refine x_iln C 2 rfl dX7_way_9 rfl ?_
    obtain ⟨r4, h3, hM⟩ := gb1_some hM
    refine x_cvi (As := [.int a1]) (rest := []) C E.2.2.2.2.2 1 (c_X7_isPlace hG h3) (gBv km_X7_70 kin_X7_isPlace ksel_X7_isPlace kini_X7 kc_X7_isPlace) rfl rfl rfl ⟨rfl, by decide +kernel, by decide +kernel, by decide +kernel⟩ ⟨Nat.le_of_ble_eq_true rfl, Nat.le_of_ble_eq_true rfl⟩ (by show 0 < 14; decide) rfl rfl rfl rfl (Nat.le_of_ble_eq_true rfl) dX7_way_10 rfl ?_
    refine x_if_eq (tgt := 39) C dX7_way_13 (by decide) rfl (fun hc => ?_) (fun hc => ?_)
    · replace hM := gif_pos hc hM
      refine x_ic (v := (-1)) C (by decide) dX7_way_39 rfl ?_
      exact x_iret C E (gs2 hM) dX7_way_40
    · replace hM := gif_neg hc hM
      refine x_iln C 3 rfl dX7_way_16 rfl ?_
      refine x_i2l C dX7_way_17 rfl ?_
      refine x_lc (v := 0) C (by decide) dX7_way_18 rfl ?_
      refine x_ldc2 (v := 1439) C (gBc kk_X7_209) dX7_way_19 rfl ?_
      obtain ⟨r6, h5, hM⟩ := gb1_some hM
      refine x_csi (As := [.long a2.toInt64, .long 0, .long 1439]) (rest := []) C E.2.2.2.2.2 3 (c_X7_in hG h5) (gBs km_X7_50 kst_X7_in kini_X7 kc_X7_in) rfl rfl rfl ⟨by decide +kernel, by decide +kernel, by decide +kernel⟩ ⟨Nat.le_of_ble_eq_true rfl, Nat.le_of_ble_eq_true rfl⟩ rfl rfl (Nat.le_of_ble_eq_true rfl) dX7_way_22 rfl ?_
      refine x_if_eq (tgt := 39) C dX7_way_25 (by decide) rfl (fun hc => ?_) (fun hc => ?_)
      · replace hM := gif_pos hc hM
        refine x_ic (v := (-1)) C (by decide) dX7_way_39 rfl ?_
        exact x_iret C E (gs2 hM) dX7_way_40
      · replace hM := gif_neg hc hM
        refine x_il C 4 rfl dX7_way_28 rfl ?_
        refine x_i2l C dX7_way_30 rfl ?_
        refine x_lc (v := 0) C (by decide) dX7_way_31 rfl ?_
        refine x_lc (v := 1) C (by decide) dX7_way_32 rfl ?_
        obtain ⟨r8, h7, hM⟩ := gb1_some hM
        refine x_csi (As := [.long a3.toInt64, .long 0, .long 1]) (rest := []) C E.2.2.2.2.2 3 (c_X7_in hG h7) (gBs km_X7_50 kst_X7_in kini_X7 kc_X7_in) rfl rfl rfl ⟨by decide +kernel, by decide +kernel, by decide +kernel⟩ ⟨Nat.le_of_ble_eq_true rfl, Nat.le_of_ble_eq_true rfl⟩ rfl rfl (Nat.le_of_ble_eq_true rfl) dX7_way_33 rfl ?_
        refine x_if_ne (tgt := 41) C dX7_way_36 (by decide) rfl (fun hc => ?_) (fun hc => ?_)
        · replace hM := gif_neg hc hM
          refine x_aln C 0 rfl dX7_way_41 rfl ?_
          refine x_iln C 1 rfl dX7_way_42 rfl ?_
          refine x_iln C 2 rfl dX7_way_43 rfl ?_
          refine x_iln C 3 rfl dX7_way_44 rfl ?_
          obtain ⟨s10, h9, hM⟩ := gb1_some hM
          refine x_cvv (As := [.int a0, .int a1, .int a2]) (rest := []) C E.2.2.2.2.2 3 (c_X7_go hG h9) (gBv km_X7_211 kin_X7_go ksel_X7_go kini_X7 kc_X7_go) rfl rfl rfl ⟨rfl, by decide +kernel, by decide +kernel, by decide +kernel⟩ ⟨Nat.le_of_ble_eq_true rfl, Nat.le_of_ble_eq_true rfl⟩ (by show 0 < 14; decide) rfl rfl rfl rfl (Nat.le_of_ble_eq_true rfl) dX7_way_45 rfl ?_
          refine x_il C 4 rfl dX7_way_48 rfl ?_
          refine x_if_ne (tgt := 60) C dX7_way_50 (by decide) rfl (fun hc => ?_) (fun hc => ?_)
          · replace hM := gif_neg hc hM
            refine x_aln C 0 rfl dX7_way_60 rfl ?_
            refine gMg_0_light C kf_X7_192 dX7_way_61 rfl ?_
            exact x_iret C E (gs2 hM) dX7_way_64
          · replace hM := gif_pos hc hM
            refine x_aln C 0 rfl dX7_way_53 rfl ?_
            refine gMg_0_soon C kf_X7_189 dX7_way_54 rfl ?_
            refine x_goto (tgt := 64) C dX7_way_57 (by decide) ?_
            exact x_iret C E (gs2 hM) dX7_way_64
        · replace hM := gif_pos hc hM
          refine x_ic (v := (-1)) C (by decide) dX7_way_39 rfl ?_
          exact x_iret C E (gs2 hM) dX7_way_40
set_option maxRecDepth 100000 in
set_option maxHeartbeats 4000000 in
theorem c_X7_isSet {l : Launch} {D : va_G} {ad : Nat → Nat} {cy : Nat → ClassId} {b : Nat} (hG : gInj (gGM D ad cy b)) {a0 : Int32} {σ : gMem} {r0 : Int32} (hM : m_X7_isSet a0 σ = some r0) : gMi l yX7_isSet (Cond.code yX7_isSet cX7_isSet 2 (some .boolean) :: gBig) { frames := 1, cells := 0, slots := 0, locals := 25 } (gGM D ad cy b) [.ref (ad 0), .int a0] σ r0 σ := by
  refine gIntro (own := RX7) hG (by decide +kernel) rfl rfl (Nat.le_of_ble_eq_true rfl) (lv := [(0, .ref (ad 0)), (1, .int a0)]) rfl (fun κ C E => ?_)
  unfold m_X7_isSet at hM
  refine x_iln C 1 rfl dX7_isSet_0 rfl ?_
  refine x_i2l C dX7_isSet_1 rfl ?_
  refine x_lc (v := 1) C (by decide) dX7_isSet_2 rfl ?_
  refine x_ic (v := 1) C (by decide) dX7_isSet_3 rfl ?_
  refine x_aln C 0 rfl dX7_isSet_4 rfl ?_
  refine gMg_0_z C kf_X7_7 dX7_isSet_5 rfl ?_
  refine x_bi (v := 63) C (by decide) dX7_isSet_8 rfl ?_
  obtain ⟨h1, hM⟩ := gck_some hM
  refine gMa_1 C h1 dX7_isSet_10 rfl ?_
  refine x_ishl C dX7_isSet_11 rfl ?_
  refine x_ic (v := 1) C (by decide) dX7_isSet_12 rfl ?_
  refine x_isub C dX7_isSet_13 rfl ?_
  refine x_i2l C dX7_isSet_14 rfl ?_
  obtain ⟨r3, h2, hM⟩ := gb1_some hM
  refine x_csi (As := [.long a0.toInt64, .long 1, .long ((((1 : Int32) <<< ((σ 1 (63 : Int32).toNatClampNeg) &&& 31)) - 1).toInt64)]) (rest := []) C E.2.2.2.2.2 3 (c_X7_in hG h2) (gBs km_X7_50 kst_X7_in kini_X7 kc_X7_in) rfl rfl rfl ⟨by decide +kernel, by decide +kernel, by decide +kernel⟩ ⟨Nat.le_of_ble_eq_true rfl, Nat.le_of_ble_eq_true rfl⟩ rfl rfl (Nat.le_of_ble_eq_true rfl) dX7_isSet_15 rfl ?_
  obtain ⟨h4, hM⟩ := gck_some hM
  exact x_zret C E h4 ⟨gs1 hM, rfl⟩ dX7_isSet_18
set_option maxRecDepth 100000 in
set_option maxHeartbeats 4000000 in
theorem c_X7_race {l : Launch} {D : va_G} {ad : Nat → Nat} {cy : Nat → ClassId} {b : Nat} (hG : gInj (gGM D ad cy b)) {a0 : Int32} {a1 : Int32} {a2 : Int32} {a3 : Int32} {σ : gMem} {r0 : Int32} {σ0 : gMem} (hM : m_X7_race a0 a1 a2 a3 σ = some (r0, σ0)) : gMi l yX7_race (Cond.code yX7_race cX7_race 9 (some .int) :: gBig) { frames := 6, cells := 0, slots := 0, locals := 151 } (gGM D ad cy b) [.ref (ad 0), .int a0, .int a1, .int a2, .int a3] σ r0 σ0 := by
  refine gIntro (own := RX7) hG (by decide +kernel) rfl rfl (Nat.le_of_ble_eq_true rfl) (lv := [(0, .ref (ad 0)), (1, .int a0), (2, .int a1), (3, .int a2), (4, .int a3)]) rfl (fun κ C E => ?_)
  unfold m_X7_race at hM
  refine x_aln C 0 rfl dX7_race_0 rfl ?_
  refine x_iln C 1 rfl dX7_race_1 rfl ?_
  obtain ⟨r2, h1, hM⟩ := gb1_some hM
  refine x_cvi (As := [.int a0]) (rest := []) C E.2.2.2.2.2 1 (c_X7_isSet hG h1) (gBv km_X7_214 kin_X7_isSet ksel_X7_isSet kini_X7 kc_X7_isSet) rfl rfl rfl ⟨rfl, by decide +kernel, by decide +kernel, by decide +kernel⟩ ⟨Nat.le_of_ble_eq_true rfl, Nat.le_of_ble_eq_true rfl⟩ (by show 0 < 14; decide) rfl rfl rfl rfl (Nat.le_of_ble_eq_true rfl) dX7_race_2 rfl ?_
  refine x_if_eq (tgt := 39) C dX7_race_5 (by decide) rfl (fun hc => ?_) (fun hc => ?_)
  · replace hM := gif_pos hc hM
    refine x_ic (v := (-1)) C (by decide) dX7_race_39 rfl ?_
    exact x_iret C E (gs2 hM) dX7_race_40
  · replace hM := gif_neg hc hM
    refine x_aln C 0 rfl dX7_race_8 rfl ?_
    refine x_iln C 2 rfl dX7_race_9 rfl ?_
    obtain ⟨r4, h3, hM⟩ := gb1_some hM
    refine x_cvi (As := [.int a1]) (rest := []) C E.2.2.2.2.2 1 (c_X7_isPlace hG h3) (gBv km_X7_70 kin_X7_isPlace ksel_X7_isPlace kini_X7 kc_X7_isPlace) rfl rfl rfl ⟨rfl, by decide +kernel, by decide +kernel, by decide +kernel⟩ ⟨Nat.le_of_ble_eq_true rfl, Nat.le_of_ble_eq_true rfl⟩ (by show 0 < 14; decide) rfl rfl rfl rfl (Nat.le_of_ble_eq_true rfl) dX7_race_10 rfl ?_
    refine x_if_eq (tgt := 39) C dX7_race_13 (by decide) rfl (fun hc => ?_) (fun hc => ?_)
    · replace hM := gif_pos hc hM
      refine x_ic (v := (-1)) C (by decide) dX7_race_39 rfl ?_
      exact x_iret C E (gs2 hM) dX7_race_40
    · replace hM := gif_neg hc hM
      refine x_iln C 3 rfl dX7_race_16 rfl ?_
      refine x_i2l C dX7_race_17 rfl ?_
      refine x_lc (v := 0) C (by decide) dX7_race_18 rfl ?_
      refine x_ldc2 (v := 1439) C (gBc kk_X7_209) dX7_race_19 rfl ?_
      obtain ⟨r6, h5, hM⟩ := gb1_some hM
      refine x_csi (As := [.long a2.toInt64, .long 0, .long 1439]) (rest := []) C E.2.2.2.2.2 3 (c_X7_in hG h5) (gBs km_X7_50 kst_X7_in kini_X7 kc_X7_in) rfl rfl rfl ⟨by decide +kernel, by decide +kernel, by decide +kernel⟩ ⟨Nat.le_of_ble_eq_true rfl, Nat.le_of_ble_eq_true rfl⟩ rfl rfl (Nat.le_of_ble_eq_true rfl) dX7_race_22 rfl ?_
      refine x_if_eq (tgt := 39) C dX7_race_25 (by decide) rfl (fun hc => ?_) (fun hc => ?_)
      · replace hM := gif_pos hc hM
        refine x_ic (v := (-1)) C (by decide) dX7_race_39 rfl ?_
        exact x_iret C E (gs2 hM) dX7_race_40
      · replace hM := gif_neg hc hM
        refine x_il C 4 rfl dX7_race_28 rfl ?_
        refine x_i2l C dX7_race_30 rfl ?_
        refine x_lc (v := 0) C (by decide) dX7_race_31 rfl ?_
        refine x_lc (v := 1) C (by decide) dX7_race_32 rfl ?_
        obtain ⟨r8, h7, hM⟩ := gb1_some hM
        refine x_csi (As := [.long a3.toInt64, .long 0, .long 1]) (rest := []) C E.2.2.2.2.2 3 (c_X7_in hG h7) (gBs km_X7_50 kst_X7_in kini_X7 kc_X7_in) rfl rfl rfl ⟨by decide +kernel, by decide +kernel, by decide +kernel⟩ ⟨Nat.le_of_ble_eq_true rfl, Nat.le_of_ble_eq_true rfl⟩ rfl rfl (Nat.le_of_ble_eq_true rfl) dX7_race_33 rfl ?_
        refine x_if_ne (tgt := 41) C dX7_race_36 (by decide) rfl (fun hc => ?_) (fun hc => ?_)
        · replace hM := gif_neg hc hM
          refine x_bi (v := (-4)) C (by decide) dX7_race_41 rfl ?_
          refine x_ist (lv' := [(5, .int (-4)), (0, .ref (ad 0)), (1, .int a0), (2, .int a1), (3, .int a2), (4, .int a3)]) C rfl (by decide) rfl dX7_race_43 rfl ?_
          refine x_si (v := 601) C (by decide) dX7_race_45 rfl ?_
          refine x_ist (lv' := [(6, .int 601), (5, .int (-4)), (0, .ref (ad 0)), (1, .int a0), (2, .int a1), (3, .int a2), (4, .int a3)]) C rfl (by decide) rfl dX7_race_48 rfl ?_
          refine x_ic (v := 0) C (by decide) dX7_race_50 rfl ?_
          refine x_ist (lv' := [(7, .int 0), (6, .int 601), (5, .int (-4)), (0, .ref (ad 0)), (1, .int a0), (2, .int a1), (3, .int a2), (4, .int a3)]) C rfl (by decide) rfl dX7_race_51 rfl ?_
          refine x_ic (v := 0) C (by decide) dX7_race_53 rfl ?_
          refine x_ist (lv' := [(8, .int 0), (7, .int 0), (6, .int 601), (5, .int (-4)), (0, .ref (ad 0)), (1, .int a0), (2, .int a1), (3, .int a2), (4, .int a3)]) C rfl (by decide) rfl dX7_race_54 rfl ?_
          have L56 : ∀ (n : Nat) (x5_9 : Int32) (x6_10 : Int32) (x7_11 : Int32) (x8_12 : Int32) (s13 : gMem) (x5_14 : Int32) (x7_15 : Int32) (s16 : gMem), m_X7_race_56 a0 a1 a2 n x5_9 x6_10 x7_11 x8_12 s13 = some (x5_14, x7_15, s16) → (wx κ (gGM D ad cy b) (gA (gGM D ad cy b)) 9 s16 135 [(4, .int a3), (5, .int x5_14), (7, .int x7_15)] []) → wx κ (gGM D ad cy b) (gA (gGM D ad cy b)) 9 s13 56 [(0, .ref (ad 0)), (1, .int a0), (2, .int a1), (3, .int a2), (4, .int a3), (5, .int x5_9), (6, .int x6_10), (7, .int x7_11), (8, .int x8_12)] [] := by
            clear hM
            intro n
            induction n with
            | zero => intro _ _ _ _ _ _ _ _ hM; cases hM
            | succ n ih =>
              intro x5_9 x6_10 x7_11 x8_12 s13 x5_14 x7_15 s16 hM kx0
              replace hM : b_X7_race_56 a0 a1 a2 (m_X7_race_56 a0 a1 a2 n) x5_9 x6_10 x7_11 x8_12 s13 = some (x5_14, x7_15, s16) := hM
              unfold b_X7_race_56 at hM
              refine x_il C 8 rfl dX7_race_56 rfl ?_
              refine x_aln C 0 rfl dX7_race_58 rfl ?_
              refine gMg_0_z C kf_X7_7 dX7_race_59 rfl ?_
              refine x_bi (v := 63) C (by decide) dX7_race_62 rfl ?_
              obtain ⟨h17, hM⟩ := gck_some hM
              refine gMa_1 C h17 dX7_race_64 rfl ?_
              refine x_ic_ge (tgt := 135) C dX7_race_65 (by decide) rfl (fun hc => ?_) (fun hc => ?_)
              · replace hM := gif_pos hc hM
                cases hM
                exact x_sub [4, 5, 7] rfl (kx0)
              · replace hM := gif_neg hc hM
                refine x_iln C 1 rfl dX7_race_68 rfl ?_
                refine x_il C 8 rfl dX7_race_69 rfl ?_
                refine x_ishr C dX7_race_71 rfl ?_
                refine x_ic (v := 1) C (by decide) dX7_race_72 rfl ?_
                refine x_iand C dX7_race_73 rfl ?_
                refine x_ic (v := 1) C (by decide) dX7_race_74 rfl ?_
                refine x_ic_ne (tgt := 129) C dX7_race_75 (by decide) rfl (fun hc => ?_) (fun hc => ?_)
                · replace hM := gif_neg hc hM
                  obtain ⟨x8_18, ev, hM⟩ := gnm_ex hM
                  refine x_iinc (j := 8) (w := 1) (lv' := [(8, .int x8_18), (0, .ref (ad 0)), (1, .int a0), (2, .int a1), (3, .int a2), (4, .int a3), (5, .int x5_9), (6, .int x6_10), (7, .int x7_11)]) C rfl ev (by decide) (by decide) rfl dX7_race_129 rfl ?_
                  refine x_goto (tgt := 56) C dX7_race_132 (by decide) ?_
                  exact x_sub [1, 2, 3, 4, 5, 6, 7, 8, 0] rfl (ih x5_9 x6_10 x7_11 x8_18 s13 _ _ _ hM kx0)
                · replace hM := gif_pos hc hM
                  refine x_aln C 0 rfl dX7_race_78 rfl ?_
                  refine x_il C 8 rfl dX7_race_79 rfl ?_
                  refine x_iln C 2 rfl dX7_race_81 rfl ?_
                  refine x_iln C 3 rfl dX7_race_82 rfl ?_
                  obtain ⟨s20, h19, hM⟩ := gb1_some hM
                  refine x_cvv (As := [.int x8_12, .int a1, .int a2]) (rest := []) C E.2.2.2.2.2 3 (c_X7_go hG h19) (gBv km_X7_211 kin_X7_go ksel_X7_go kini_X7 kc_X7_go) rfl rfl rfl ⟨rfl, by decide +kernel, by decide +kernel, by decide +kernel⟩ ⟨Nat.le_of_ble_eq_true rfl, Nat.le_of_ble_eq_true rfl⟩ (by show 0 < 14; decide) rfl rfl rfl rfl (Nat.le_of_ble_eq_true rfl) dX7_race_83 rfl ?_
                  refine x_il C 7 rfl dX7_race_86 rfl ?_
                  refine x_aln C 0 rfl dX7_race_88 rfl ?_
                  refine gMg_0_soon C kf_X7_189 dX7_race_89 rfl ?_
                  obtain ⟨w21, hJ27, hM⟩ := gb1_some hM
                  have J1 : wx κ (gGM D ad cy b) (gA (gGM D ad cy b)) 9 s20 100 [(0, .ref (ad 0)), (1, .int a0), (2, .int a1), (3, .int a2), (4, .int a3), (5, .int x5_9), (6, .int x6_10), (8, .int x8_12)] [.int w21, .int x7_11] := by
                    refine x_iadd C dX7_race_100 rfl ?_
                    obtain ⟨x7_22, ev, hM⟩ := gnm_ex hM
                    refine x_ist (lv' := [(7, .int x7_22), (0, .ref (ad 0)), (1, .int a0), (2, .int a1), (3, .int a2), (4, .int a3), (5, .int x5_9), (6, .int x6_10), (8, .int x8_12)]) C ev (by decide) rfl dX7_race_101 rfl ?_
                    refine x_aln C 1 rfl dX7_race_103 rfl ?_
                    refine gMg_0_soon C kf_X7_189 dX7_race_104 rfl ?_
                    refine x_if_lt (tgt := 129) C dX7_race_107 (by decide) rfl (fun hc => ?_) (fun hc => ?_)
                    · replace hM := gif_pos hc hM
                      obtain ⟨x8_23, ev, hM⟩ := gnm_ex hM
                      refine x_iinc (j := 8) (w := 1) (lv' := [(8, .int x8_23), (7, .int x7_22), (0, .ref (ad 0)), (1, .int a0), (2, .int a1), (3, .int a2), (4, .int a3), (5, .int x5_9), (6, .int x6_10)]) C rfl ev (by decide) (by decide) rfl dX7_race_129 rfl ?_
                      refine x_goto (tgt := 56) C dX7_race_132 (by decide) ?_
                      exact x_sub [2, 3, 4, 5, 6, 7, 8, 1, 0] rfl (ih x5_9 x6_10 x7_22 x8_23 s20 _ _ _ hM kx0)
                    · replace hM := gif_neg hc hM
                      refine x_aln C 1 rfl dX7_race_110 rfl ?_
                      refine gMg_0_soon C kf_X7_189 dX7_race_111 rfl ?_
                      refine x_il C 7 rfl dX7_race_114 rfl ?_
                      refine x_ic_ge (tgt := 129) C dX7_race_116 (by decide) rfl (fun hc => ?_) (fun hc => ?_)
                      · replace hM := gif_pos hc hM
                        obtain ⟨x8_24, ev, hM⟩ := gnm_ex hM
                        refine x_iinc (j := 8) (w := 1) (lv' := [(8, .int x8_24), (7, .int x7_22), (0, .ref (ad 0)), (1, .int a0), (2, .int a1), (3, .int a2), (4, .int a3), (5, .int x5_9), (6, .int x6_10)]) C rfl ev (by decide) (by decide) rfl dX7_race_129 rfl ?_
                        refine x_goto (tgt := 56) C dX7_race_132 (by decide) ?_
                        exact x_sub [2, 3, 4, 5, 6, 7, 8, 1, 0] rfl (ih x5_9 x6_10 x7_22 x8_24 s20 _ _ _ hM kx0)
                      · replace hM := gif_neg hc hM
                        refine x_aln C 1 rfl dX7_race_119 rfl ?_
                        refine gMg_0_soon C kf_X7_189 dX7_race_120 rfl ?_
                        obtain ⟨x6_25, ev, hM⟩ := gnm_ex hM
                        refine x_ist (lv' := [(6, .int x6_25), (7, .int x7_22), (0, .ref (ad 0)), (1, .int a0), (2, .int a1), (3, .int a2), (4, .int a3), (5, .int x5_9), (8, .int x8_12)]) C ev (by decide) rfl dX7_race_123 rfl ?_
                        refine x_il C 8 rfl dX7_race_125 rfl ?_
                        refine x_ist (lv' := [(5, .int x8_12), (6, .int x6_25), (7, .int x7_22), (0, .ref (ad 0)), (1, .int a0), (2, .int a1), (3, .int a2), (4, .int a3), (8, .int x8_12)]) C rfl (by decide) rfl dX7_race_127 rfl ?_
                        obtain ⟨x8_26, ev, hM⟩ := gnm_ex hM
                        refine x_iinc (j := 8) (w := 1) (lv' := [(8, .int x8_26), (5, .int x8_12), (6, .int x6_25), (7, .int x7_22), (0, .ref (ad 0)), (1, .int a0), (2, .int a1), (3, .int a2), (4, .int a3)]) C rfl ev (by decide) (by decide) rfl dX7_race_129 rfl ?_
                        refine x_goto (tgt := 56) C dX7_race_132 (by decide) ?_
                        exact x_sub [4, 5, 6, 7, 8, 1, 2, 3, 0] rfl (ih x8_12 x6_25 x7_22 x8_26 s20 _ _ _ hM kx0)
                  clear hM
                  have hM := hJ27
                  clear hJ27
                  refine x_if_lt (tgt := 99) C dX7_race_92 (by decide) rfl (fun hc => ?_) (fun hc => ?_)
                  · replace hM := gif_pos hc hM
                    refine x_ic (v := 0) C (by decide) dX7_race_99 rfl ?_
                    cases hM
                    exact x_sub [0, 1, 2, 3, 4, 5, 6, 8] rfl J1
                  · replace hM := gif_neg hc hM
                    refine x_ic (v := 1) C (by decide) dX7_race_95 rfl ?_
                    refine x_goto (tgt := 100) C dX7_race_96 (by decide) ?_
                    cases hM
                    exact x_sub [0, 1, 2, 3, 4, 5, 6, 8] rfl J1
          obtain ⟨x5_14, x7_15, s16, hL28, hM⟩ := gb3_some hM
          refine x_sub [4, 5, 6, 7, 8, 3, 2, 1, 0] rfl (L56 gFU (-4) 601 0 0 σ _ _ _ hL28 ?_)
          clear L56
          refine x_il C 0 rfl dX7_race_135 rfl ?_
          refine x_if_ne (tgt := 145) C dX7_race_137 (by decide) rfl (fun hc => ?_) (fun hc => ?_)
          · replace hM := gif_neg hc hM
            refine x_il C 2 rfl dX7_race_145 rfl ?_
            exact x_iret C E (gs2 hM) dX7_race_147
          · replace hM := gif_pos hc hM
            refine x_il C 1 rfl dX7_race_140 rfl ?_
            refine x_goto (tgt := 147) C dX7_race_142 (by decide) ?_
            exact x_iret C E (gs2 hM) dX7_race_147
        · replace hM := gif_pos hc hM
          refine x_ic (v := (-1)) C (by decide) dX7_race_39 rfl ?_
          exact x_iret C E (gs2 hM) dX7_race_40
set_option maxRecDepth 100000 in
set_option maxHeartbeats 4000000 in
theorem c_X7_need {l : Launch} {D : va_G} {ad : Nat → Nat} {cy : Nat → ClassId} {b : Nat} (hG : gInj (gGM D ad cy b)) {a0 : Int32} {a1 : Int32} {a2 : Int32} {σ : gMem} {r0 : Int32} {σ0 : gMem} (hM : m_X7_need a0 a1 a2 σ = some (r0, σ0)) : gMi l yX7_need (Cond.code yX7_need cX7_need 5 (some .int) :: gBig) { frames := 2, cells := 0, slots := 0, locals := 46 } (gGM D ad cy b) [.ref (ad 0), .int a0, .int a1, .int a2] σ r0 σ0 := by
  refine gIntro (own := RX7) hG (by decide +kernel) rfl rfl (Nat.le_of_ble_eq_true rfl) (lv := [(0, .ref (ad 0)), (1, .int a0), (2, .int a1), (3, .int a2)]) rfl (fun κ C E => ?_)
  unfold m_X7_need at hM
  refine x_aln C 0 rfl dX7_need_0 rfl ?_
  refine x_iln C 1 rfl dX7_need_1 rfl ?_
  obtain ⟨r2, h1, hM⟩ := gb1_some hM
  refine x_cvi (As := [.int a0]) (rest := []) C E.2.2.2.2.2 1 (c_X7_isPerson hG h1) (gBv km_X7_95 kin_X7_isPerson ksel_X7_isPerson kini_X7 kc_X7_isPerson) rfl rfl rfl ⟨rfl, by decide +kernel, by decide +kernel, by decide +kernel⟩ ⟨Nat.le_of_ble_eq_true rfl, Nat.le_of_ble_eq_true rfl⟩ (by show 0 < 14; decide) rfl rfl rfl rfl (Nat.le_of_ble_eq_true rfl) dX7_need_2 rfl ?_
  refine x_if_eq (tgt := 23) C dX7_need_5 (by decide) rfl (fun hc => ?_) (fun hc => ?_)
  · replace hM := gif_pos hc hM
    refine x_ic (v := (-1)) C (by decide) dX7_need_23 rfl ?_
    exact x_iret C E (gs2 hM) dX7_need_24
  · replace hM := gif_neg hc hM
    refine x_aln C 0 rfl dX7_need_8 rfl ?_
    refine x_iln C 2 rfl dX7_need_9 rfl ?_
    obtain ⟨r4, h3, hM⟩ := gb1_some hM
    refine x_cvi (As := [.int a1]) (rest := []) C E.2.2.2.2.2 1 (c_X7_isPlace hG h3) (gBv km_X7_70 kin_X7_isPlace ksel_X7_isPlace kini_X7 kc_X7_isPlace) rfl rfl rfl ⟨rfl, by decide +kernel, by decide +kernel, by decide +kernel⟩ ⟨Nat.le_of_ble_eq_true rfl, Nat.le_of_ble_eq_true rfl⟩ (by show 0 < 14; decide) rfl rfl rfl rfl (Nat.le_of_ble_eq_true rfl) dX7_need_10 rfl ?_
    refine x_if_eq (tgt := 23) C dX7_need_13 (by decide) rfl (fun hc => ?_) (fun hc => ?_)
    · replace hM := gif_pos hc hM
      refine x_ic (v := (-1)) C (by decide) dX7_need_23 rfl ?_
      exact x_iret C E (gs2 hM) dX7_need_24
    · replace hM := gif_neg hc hM
      refine x_iln C 3 rfl dX7_need_16 rfl ?_
      obtain ⟨r6, h5, hM⟩ := gb1_some hM
      refine x_csi (As := [.int a2]) (rest := []) C E.2.2.2.2.2 1 (c_X7_isHour hG h5) (gBs km_X7_88 kst_X7_isHour kini_X7 kc_X7_isHour) rfl rfl rfl ⟨by decide +kernel, by decide +kernel, by decide +kernel⟩ ⟨Nat.le_of_ble_eq_true rfl, Nat.le_of_ble_eq_true rfl⟩ rfl rfl (Nat.le_of_ble_eq_true rfl) dX7_need_17 rfl ?_
      refine x_if_ne (tgt := 25) C dX7_need_20 (by decide) rfl (fun hc => ?_) (fun hc => ?_)
      · replace hM := gif_neg hc hM
        refine x_aln C 0 rfl dX7_need_25 rfl ?_
        refine gMg_0_z C kf_X7_7 dX7_need_26 rfl ?_
        refine x_bi (v := 64) C (by decide) dX7_need_29 rfl ?_
        obtain ⟨h7, hM⟩ := gck_some hM
        refine gMa_1 C h7 dX7_need_31 rfl ?_
        refine x_bi (v := 10) C (by decide) dX7_need_32 rfl ?_
        refine x_ic_ne (tgt := 40) C dX7_need_34 (by decide) rfl (fun hc => ?_) (fun hc => ?_)
        · replace hM := gif_neg hc hM
          refine x_aln C 0 rfl dX7_need_40 rfl ?_
          refine gMg_0_z C kf_X7_7 dX7_need_41 rfl ?_
          refine x_bi (v := 64) C (by decide) dX7_need_44 rfl ?_
          obtain ⟨h8, hM⟩ := gck_some hM
          refine gMa_1 C h8 dX7_need_46 rfl ?_
          obtain ⟨x4_9, ev, hM⟩ := gnm_ex hM
          refine x_ist (lv' := [(4, .int x4_9), (0, .ref (ad 0)), (1, .int a0), (2, .int a1), (3, .int a2)]) C ev (by decide) rfl dX7_need_47 rfl ?_
          refine x_aln C 1 rfl dX7_need_49 rfl ?_
          refine gMg_0_z C kf_X7_7 dX7_need_50 rfl ?_
          refine x_bi (v := 90) C (by decide) dX7_need_53 rfl ?_
          refine x_il C 0 rfl dX7_need_55 rfl ?_
          refine x_iadd C dX7_need_57 rfl ?_
          refine x_iln C 2 rfl dX7_need_58 rfl ?_
          obtain ⟨h10, hM⟩ := gck_some hM
          obtain ⟨s11, ev, hM⟩ := gnm_ex hM
          refine gMs_1 C ev h10 dX7_need_59 rfl ?_
          refine x_aln C 1 rfl dX7_need_60 rfl ?_
          refine gMg_0_z C kf_X7_7 dX7_need_61 rfl ?_
          refine x_bi (v := 100) C (by decide) dX7_need_64 rfl ?_
          refine x_il C 0 rfl dX7_need_66 rfl ?_
          refine x_iadd C dX7_need_68 rfl ?_
          refine x_iln C 3 rfl dX7_need_69 rfl ?_
          obtain ⟨h12, hM⟩ := gck_some hM
          obtain ⟨s13, ev, hM⟩ := gnm_ex hM
          refine gMs_1 C ev h12 dX7_need_70 rfl ?_
          refine x_aln C 1 rfl dX7_need_71 rfl ?_
          refine gMg_0_z C kf_X7_7 dX7_need_72 rfl ?_
          refine x_bi (v := 110) C (by decide) dX7_need_75 rfl ?_
          refine x_il C 0 rfl dX7_need_77 rfl ?_
          refine x_iadd C dX7_need_79 rfl ?_
          refine x_iln C 4 rfl dX7_need_80 rfl ?_
          obtain ⟨h14, hM⟩ := gck_some hM
          obtain ⟨s15, ev, hM⟩ := gnm_ex hM
          refine gMs_1 C ev h14 dX7_need_81 rfl ?_
          refine x_aln C 1 rfl dX7_need_82 rfl ?_
          refine gMg_0_z C kf_X7_7 dX7_need_83 rfl ?_
          refine x_bi (v := 64) C (by decide) dX7_need_86 rfl ?_
          refine x_dup2 C rfl rfl dX7_need_88 rfl ?_
          obtain ⟨h16, hM⟩ := gck_some hM
          refine gMa_1 C h16 dX7_need_89 rfl ?_
          refine x_ic (v := 1) C (by decide) dX7_need_90 rfl ?_
          refine x_iadd C dX7_need_91 rfl ?_
          obtain ⟨h17, hM⟩ := gck_some hM
          obtain ⟨s18, ev, hM⟩ := gnm_ex hM
          refine gMs_1 C ev h17 dX7_need_92 rfl ?_
          refine x_il C 0 rfl dX7_need_93 rfl ?_
          exact x_iret C E (gs2 hM) dX7_need_95
        · replace hM := gif_pos hc hM
          refine x_bi (v := (-3)) C (by decide) dX7_need_37 rfl ?_
          exact x_iret C E (gs2 hM) dX7_need_39
      · replace hM := gif_pos hc hM
        refine x_ic (v := (-1)) C (by decide) dX7_need_23 rfl ?_
        exact x_iret C E (gs2 hM) dX7_need_24
set_option maxRecDepth 100000 in
set_option maxHeartbeats 4000000 in
theorem c_X7_met {l : Launch} {D : va_G} {ad : Nat → Nat} {cy : Nat → ClassId} {b : Nat} (hG : gInj (gGM D ad cy b))  {σ : gMem} {r0 : Int32} (hM : m_X7_met  σ = some r0) : gMi l yX7_met (Cond.code yX7_met cX7_met 3 (some .int) :: gBig) { frames := 4, cells := 0, slots := 0, locals := 93 } (gGM D ad cy b) [.ref (ad 0)] σ r0 σ := by
  refine gIntro (own := RX7) hG (by decide +kernel) rfl rfl (Nat.le_of_ble_eq_true rfl) (lv := [(0, .ref (ad 0))]) rfl (fun κ C E => ?_)
  unfold m_X7_met at hM
  refine x_ic (v := 0) C (by decide) dX7_met_0 rfl ?_
  refine x_istn (lv' := [(1, .int 0), (0, .ref (ad 0))]) C rfl rfl (by decide) rfl dX7_met_1 rfl ?_
  refine x_ic (v := 0) C (by decide) dX7_met_2 rfl ?_
  refine x_istn (lv' := [(2, .int 0), (1, .int 0), (0, .ref (ad 0))]) C rfl rfl (by decide) rfl dX7_met_3 rfl ?_
  have L4 : ∀ (n : Nat) (x1_1 : Int32) (x2_2 : Int32) (x1_3 : Int32), m_X7_met_4 σ n x1_1 x2_2 = some (x1_3) → (wx κ (gGM D ad cy b) (gA (gGM D ad cy b)) 3 σ 65 [(1, .int x1_3)] []) → wx κ (gGM D ad cy b) (gA (gGM D ad cy b)) 3 σ 4 [(0, .ref (ad 0)), (1, .int x1_1), (2, .int x2_2)] [] := by
    clear hM
    intro n
    induction n with
    | zero => intro _ _ _ hM; cases hM
    | succ n ih =>
      intro x1_1 x2_2 x1_3 hM kx0
      replace hM : b_X7_met_4 σ (m_X7_met_4 σ n) x1_1 x2_2 = some (x1_3) := hM
      unfold b_X7_met_4 at hM
      refine x_iln C 2 rfl dX7_met_4 rfl ?_
      refine x_aln C 0 rfl dX7_met_5 rfl ?_
      refine gMg_0_z C kf_X7_7 dX7_met_6 rfl ?_
      refine x_bi (v := 64) C (by decide) dX7_met_9 rfl ?_
      obtain ⟨h4, hM⟩ := gck_some hM
      refine gMa_1 C h4 dX7_met_11 rfl ?_
      refine x_ic_ge (tgt := 65) C dX7_met_12 (by decide) rfl (fun hc => ?_) (fun hc => ?_)
      · replace hM := gif_pos hc hM
        cases hM
        exact x_sub [1] rfl (kx0)
      · replace hM := gif_neg hc hM
        refine x_iln C 1 rfl dX7_met_15 rfl ?_
        refine x_aln C 0 rfl dX7_met_16 rfl ?_
        refine x_aln C 0 rfl dX7_met_17 rfl ?_
        refine gMg_0_z C kf_X7_7 dX7_met_18 rfl ?_
        refine x_bi (v := 90) C (by decide) dX7_met_21 rfl ?_
        refine x_iln C 2 rfl dX7_met_23 rfl ?_
        refine x_iadd C dX7_met_24 rfl ?_
        obtain ⟨h5, hM⟩ := gck_some hM
        refine gMa_1 C h5 dX7_met_25 rfl ?_
        refine x_aln C 0 rfl dX7_met_26 rfl ?_
        refine gMg_0_z C kf_X7_7 dX7_met_27 rfl ?_
        refine x_bi (v := 100) C (by decide) dX7_met_30 rfl ?_
        refine x_iln C 2 rfl dX7_met_32 rfl ?_
        refine x_iadd C dX7_met_33 rfl ?_
        obtain ⟨h6, hM⟩ := gck_some hM
        refine gMa_1 C h6 dX7_met_34 rfl ?_
        refine x_aln C 0 rfl dX7_met_35 rfl ?_
        refine gMg_0_z C kf_X7_7 dX7_met_36 rfl ?_
        refine x_bi (v := 110) C (by decide) dX7_met_39 rfl ?_
        refine x_iln C 2 rfl dX7_met_41 rfl ?_
        refine x_iadd C dX7_met_42 rfl ?_
        obtain ⟨h7, hM⟩ := gck_some hM
        refine gMa_1 C h7 dX7_met_43 rfl ?_
        obtain ⟨r9, h8, hM⟩ := gb1_some hM
        refine x_cvi (As := [.int (σ 1 (90 + x2_2).toNatClampNeg), .int (σ 1 (100 + x2_2).toNatClampNeg), .int (σ 1 (110 + x2_2).toNatClampNeg)]) (rest := [.int x1_1]) C E.2.2.2.2.2 3 (c_X7_does hG h8) (gBv km_X7_167 kin_X7_does ksel_X7_does kini_X7 kc_X7_does) rfl rfl rfl ⟨rfl, by decide +kernel, by decide +kernel, by decide +kernel⟩ ⟨Nat.le_of_ble_eq_true rfl, Nat.le_of_ble_eq_true rfl⟩ (by show 0 < 14; decide) rfl rfl rfl rfl (Nat.le_of_ble_eq_true rfl) dX7_met_44 rfl ?_
        refine x_if_eq (tgt := 56) C dX7_met_47 (by decide) rfl (fun hc => ?_) (fun hc => ?_)
        · replace hM := gif_pos hc hM
          refine x_ic (v := 0) C (by decide) dX7_met_56 rfl ?_
          refine x_ior C dX7_met_57 rfl ?_
          obtain ⟨x1_10, ev, hM⟩ := gnm_ex hM
          refine x_istn (lv' := [(1, .int x1_10), (0, .ref (ad 0)), (2, .int x2_2)]) C rfl ev (by decide) rfl dX7_met_58 rfl ?_
          obtain ⟨x2_11, ev, hM⟩ := gnm_ex hM
          refine x_iinc (j := 2) (w := 1) (lv' := [(2, .int x2_11), (1, .int x1_10), (0, .ref (ad 0))]) C rfl ev (by decide) (by decide) rfl dX7_met_59 rfl ?_
          refine x_goto (tgt := 4) C dX7_met_62 (by decide) ?_
          exact x_sub [2, 1, 0] rfl (ih x1_10 x2_11 _ hM kx0)
        · replace hM := gif_neg hc hM
          refine x_ic (v := 1) C (by decide) dX7_met_50 rfl ?_
          refine x_iln C 2 rfl dX7_met_51 rfl ?_
          refine x_ishl C dX7_met_52 rfl ?_
          refine x_goto (tgt := 57) C dX7_met_53 (by decide) ?_
          refine x_ior C dX7_met_57 rfl ?_
          obtain ⟨x1_12, ev, hM⟩ := gnm_ex hM
          refine x_istn (lv' := [(1, .int x1_12), (0, .ref (ad 0)), (2, .int x2_2)]) C rfl ev (by decide) rfl dX7_met_58 rfl ?_
          obtain ⟨x2_13, ev, hM⟩ := gnm_ex hM
          refine x_iinc (j := 2) (w := 1) (lv' := [(2, .int x2_13), (1, .int x1_12), (0, .ref (ad 0))]) C rfl ev (by decide) (by decide) rfl dX7_met_59 rfl ?_
          refine x_goto (tgt := 4) C dX7_met_62 (by decide) ?_
          exact x_sub [2, 1, 0] rfl (ih x1_12 x2_13 _ hM kx0)
  obtain ⟨x1_3, hL14, hM⟩ := gb1_some hM
  refine x_sub [2, 1, 0] rfl (L4 gFU 0 0 _ hL14 ?_)
  clear L4
  refine x_iln C 0 rfl dX7_met_65 rfl ?_
  exact x_iret C E ⟨gs1 hM, rfl⟩ dX7_met_66
set_option maxRecDepth 100000 in
set_option maxHeartbeats 4000000 in
theorem c_X7_needy {l : Launch} {D : va_G} {ad : Nat → Nat} {cy : Nat → ClassId} {b : Nat} (hG : gInj (gGM D ad cy b))  {σ : gMem} {r0 : Int32} (hM : m_X7_needy  σ = some r0) : gMi l yX7_needy (Cond.code yX7_needy cX7_needy 3 (some .int) :: gBig) { frames := 0, cells := 0, slots := 0, locals := 0 } (gGM D ad cy b) [.ref (ad 0)] σ r0 σ := by
  refine gIntro (own := RX7) hG (by decide +kernel) rfl rfl (Nat.le_of_ble_eq_true rfl) (lv := [(0, .ref (ad 0))]) rfl (fun κ C E => ?_)
  unfold m_X7_needy at hM
  refine x_ic (v := 0) C (by decide) dX7_needy_0 rfl ?_
  refine x_istn (lv' := [(1, .int 0), (0, .ref (ad 0))]) C rfl rfl (by decide) rfl dX7_needy_1 rfl ?_
  refine x_ic (v := 0) C (by decide) dX7_needy_2 rfl ?_
  refine x_istn (lv' := [(2, .int 0), (1, .int 0), (0, .ref (ad 0))]) C rfl rfl (by decide) rfl dX7_needy_3 rfl ?_
  have L4 : ∀ (n : Nat) (x1_1 : Int32) (x2_2 : Int32) (x1_3 : Int32), m_X7_needy_4 σ n x1_1 x2_2 = some (x1_3) → (wx κ (gGM D ad cy b) (gA (gGM D ad cy b)) 3 σ 35 [(1, .int x1_3)] []) → wx κ (gGM D ad cy b) (gA (gGM D ad cy b)) 3 σ 4 [(0, .ref (ad 0)), (1, .int x1_1), (2, .int x2_2)] [] := by
    clear hM
    intro n
    induction n with
    | zero => intro _ _ _ hM; cases hM
    | succ n ih =>
      intro x1_1 x2_2 x1_3 hM kx0
      replace hM : b_X7_needy_4 σ (m_X7_needy_4 σ n) x1_1 x2_2 = some (x1_3) := hM
      unfold b_X7_needy_4 at hM
      refine x_iln C 2 rfl dX7_needy_4 rfl ?_
      refine x_aln C 0 rfl dX7_needy_5 rfl ?_
      refine gMg_0_z C kf_X7_7 dX7_needy_6 rfl ?_
      refine x_bi (v := 64) C (by decide) dX7_needy_9 rfl ?_
      obtain ⟨h4, hM⟩ := gck_some hM
      refine gMa_1 C h4 dX7_needy_11 rfl ?_
      refine x_ic_ge (tgt := 35) C dX7_needy_12 (by decide) rfl (fun hc => ?_) (fun hc => ?_)
      · replace hM := gif_pos hc hM
        cases hM
        exact x_sub [1] rfl (kx0)
      · replace hM := gif_neg hc hM
        refine x_iln C 1 rfl dX7_needy_15 rfl ?_
        refine x_ic (v := 1) C (by decide) dX7_needy_16 rfl ?_
        refine x_aln C 0 rfl dX7_needy_17 rfl ?_
        refine gMg_0_z C kf_X7_7 dX7_needy_18 rfl ?_
        refine x_bi (v := 90) C (by decide) dX7_needy_21 rfl ?_
        refine x_iln C 2 rfl dX7_needy_23 rfl ?_
        refine x_iadd C dX7_needy_24 rfl ?_
        obtain ⟨h5, hM⟩ := gck_some hM
        refine gMa_1 C h5 dX7_needy_25 rfl ?_
        refine x_ishl C dX7_needy_26 rfl ?_
        refine x_ior C dX7_needy_27 rfl ?_
        obtain ⟨x1_6, ev, hM⟩ := gnm_ex hM
        refine x_istn (lv' := [(1, .int x1_6), (0, .ref (ad 0)), (2, .int x2_2)]) C rfl ev (by decide) rfl dX7_needy_28 rfl ?_
        obtain ⟨x2_7, ev, hM⟩ := gnm_ex hM
        refine x_iinc (j := 2) (w := 1) (lv' := [(2, .int x2_7), (1, .int x1_6), (0, .ref (ad 0))]) C rfl ev (by decide) (by decide) rfl dX7_needy_29 rfl ?_
        refine x_goto (tgt := 4) C dX7_needy_32 (by decide) ?_
        exact x_sub [2, 1, 0] rfl (ih x1_6 x2_7 _ hM kx0)
  obtain ⟨x1_3, hL8, hM⟩ := gb1_some hM
  refine x_sub [2, 1, 0] rfl (L4 gFU 0 0 _ hL8 ?_)
  clear L4
  refine x_iln C 0 rfl dX7_needy_35 rfl ?_
  exact x_iret C E ⟨gs1 hM, rfl⟩ dX7_needy_36
set_option maxRecDepth 100000 in
set_option maxHeartbeats 4000000 in
theorem c_X7_doesFor {l : Launch} {D : va_G} {ad : Nat → Nat} {cy : Nat → ClassId} {b : Nat} (hG : gInj (gGM D ad cy b)) {a0 : Int32} {σ : gMem} {r0 : Int32} (hM : m_X7_doesFor a0 σ = some r0) : gMi l yX7_doesFor (Cond.code yX7_doesFor cX7_doesFor 4 (some .int) :: gBig) { frames := 3, cells := 0, slots := 0, locals := 70 } (gGM D ad cy b) [.ref (ad 0), .int a0] σ r0 σ := by
  refine gIntro (own := RX7) hG (by decide +kernel) rfl rfl (Nat.le_of_ble_eq_true rfl) (lv := [(0, .ref (ad 0)), (1, .int a0)]) rfl (fun κ C E => ?_)
  unfold m_X7_doesFor at hM
  refine x_aln C 0 rfl dX7_doesFor_0 rfl ?_
  obtain ⟨r2, h1, hM⟩ := gb1_some hM
  refine x_cvi (As := []) (rest := []) C E.2.2.2.2.2 0 (c_X7_needy hG h1) (gBv km_X7_217 kin_X7_needy ksel_X7_needy kini_X7 kc_X7_needy) rfl rfl rfl ⟨rfl, by decide +kernel, by decide +kernel, by decide +kernel⟩ ⟨Nat.le_of_ble_eq_true rfl, Nat.le_of_ble_eq_true rfl⟩ (by show 0 < 14; decide) rfl rfl rfl rfl (Nat.le_of_ble_eq_true rfl) dX7_doesFor_1 rfl ?_
  refine x_istn (lv' := [(2, .int r2), (0, .ref (ad 0)), (1, .int a0)]) C rfl rfl (by decide) rfl dX7_doesFor_4 rfl ?_
  refine x_ic (v := 0) C (by decide) dX7_doesFor_5 rfl ?_
  refine x_istn (lv' := [(3, .int 0), (2, .int r2), (0, .ref (ad 0)), (1, .int a0)]) C rfl rfl (by decide) rfl dX7_doesFor_6 rfl ?_
  have L7 : ∀ (n : Nat) (x2_3 : Int32) (x3_4 : Int32) (x2_5 : Int32), m_X7_doesFor_7 a0 σ n x2_3 x3_4 = some (x2_5) → (wx κ (gGM D ad cy b) (gA (gGM D ad cy b)) 4 σ 75 [(2, .int x2_5)] []) → wx κ (gGM D ad cy b) (gA (gGM D ad cy b)) 4 σ 7 [(0, .ref (ad 0)), (1, .int a0), (2, .int x2_3), (3, .int x3_4)] [] := by
    clear hM
    intro n
    induction n with
    | zero => intro _ _ _ hM; cases hM
    | succ n ih =>
      intro x2_3 x3_4 x2_5 hM kx0
      replace hM : b_X7_doesFor_7 a0 σ (m_X7_doesFor_7 a0 σ n) x2_3 x3_4 = some (x2_5) := hM
      unfold b_X7_doesFor_7 at hM
      refine x_iln C 3 rfl dX7_doesFor_7 rfl ?_
      refine x_aln C 0 rfl dX7_doesFor_8 rfl ?_
      refine gMg_0_z C kf_X7_7 dX7_doesFor_9 rfl ?_
      refine x_bi (v := 64) C (by decide) dX7_doesFor_12 rfl ?_
      obtain ⟨h6, hM⟩ := gck_some hM
      refine gMa_1 C h6 dX7_doesFor_14 rfl ?_
      refine x_ic_ge (tgt := 75) C dX7_doesFor_15 (by decide) rfl (fun hc => ?_) (fun hc => ?_)
      · replace hM := gif_pos hc hM
        cases hM
        exact x_sub [2] rfl (kx0)
      · replace hM := gif_neg hc hM
        refine x_aln C 0 rfl dX7_doesFor_18 rfl ?_
        refine x_aln C 0 rfl dX7_doesFor_19 rfl ?_
        refine gMg_0_z C kf_X7_7 dX7_doesFor_20 rfl ?_
        refine x_bi (v := 90) C (by decide) dX7_doesFor_23 rfl ?_
        refine x_iln C 3 rfl dX7_doesFor_25 rfl ?_
        refine x_iadd C dX7_doesFor_26 rfl ?_
        obtain ⟨h7, hM⟩ := gck_some hM
        refine gMa_1 C h7 dX7_doesFor_27 rfl ?_
        refine x_iln C 1 rfl dX7_doesFor_28 rfl ?_
        refine x_aln C 0 rfl dX7_doesFor_29 rfl ?_
        refine gMg_0_z C kf_X7_7 dX7_doesFor_30 rfl ?_
        refine x_bi (v := 100) C (by decide) dX7_doesFor_33 rfl ?_
        refine x_iln C 3 rfl dX7_doesFor_35 rfl ?_
        refine x_iadd C dX7_doesFor_36 rfl ?_
        obtain ⟨h8, hM⟩ := gck_some hM
        refine gMa_1 C h8 dX7_doesFor_37 rfl ?_
        refine x_aln C 0 rfl dX7_doesFor_38 rfl ?_
        refine gMg_0_z C kf_X7_7 dX7_doesFor_39 rfl ?_
        refine x_bi (v := 110) C (by decide) dX7_doesFor_42 rfl ?_
        refine x_iln C 3 rfl dX7_doesFor_44 rfl ?_
        refine x_iadd C dX7_doesFor_45 rfl ?_
        obtain ⟨h9, hM⟩ := gck_some hM
        refine gMa_1 C h9 dX7_doesFor_46 rfl ?_
        obtain ⟨r11, h10, hM⟩ := gb1_some hM
        refine x_cvi (As := [.int (σ 1 (90 + x3_4).toNatClampNeg), .int a0, .int (σ 1 (100 + x3_4).toNatClampNeg), .int (σ 1 (110 + x3_4).toNatClampNeg)]) (rest := []) C E.2.2.2.2.2 4 (c_X7_would hG h10) (gBv km_X7_164 kin_X7_would ksel_X7_would kini_X7 kc_X7_would) rfl rfl rfl ⟨rfl, by decide +kernel, by decide +kernel, by decide +kernel⟩ ⟨Nat.le_of_ble_eq_true rfl, Nat.le_of_ble_eq_true rfl⟩ (by show 0 < 14; decide) rfl rfl rfl rfl (Nat.le_of_ble_eq_true rfl) dX7_doesFor_47 rfl ?_
        refine x_if_ne (tgt := 69) C dX7_doesFor_50 (by decide) rfl (fun hc => ?_) (fun hc => ?_)
        · replace hM := gif_neg hc hM
          obtain ⟨x3_12, ev, hM⟩ := gnm_ex hM
          refine x_iinc (j := 3) (w := 1) (lv' := [(3, .int x3_12), (0, .ref (ad 0)), (1, .int a0), (2, .int x2_3)]) C rfl ev (by decide) (by decide) rfl dX7_doesFor_69 rfl ?_
          refine x_goto (tgt := 7) C dX7_doesFor_72 (by decide) ?_
          exact x_sub [1, 2, 3, 0] rfl (ih x2_3 x3_12 _ hM kx0)
        · replace hM := gif_pos hc hM
          refine x_iln C 2 rfl dX7_doesFor_53 rfl ?_
          refine x_ic (v := 1) C (by decide) dX7_doesFor_54 rfl ?_
          refine x_aln C 0 rfl dX7_doesFor_55 rfl ?_
          refine gMg_0_z C kf_X7_7 dX7_doesFor_56 rfl ?_
          refine x_bi (v := 90) C (by decide) dX7_doesFor_59 rfl ?_
          refine x_iln C 3 rfl dX7_doesFor_61 rfl ?_
          refine x_iadd C dX7_doesFor_62 rfl ?_
          obtain ⟨h13, hM⟩ := gck_some hM
          refine gMa_1 C h13 dX7_doesFor_63 rfl ?_
          refine x_ishl C dX7_doesFor_64 rfl ?_
          refine x_ic (v := (-1)) C (by decide) dX7_doesFor_65 rfl ?_
          refine x_ixor C dX7_doesFor_66 rfl ?_
          refine x_iand C dX7_doesFor_67 rfl ?_
          obtain ⟨x2_14, ev, hM⟩ := gnm_ex hM
          refine x_istn (lv' := [(2, .int x2_14), (0, .ref (ad 0)), (1, .int a0), (3, .int x3_4)]) C rfl ev (by decide) rfl dX7_doesFor_68 rfl ?_
          obtain ⟨x3_15, ev, hM⟩ := gnm_ex hM
          refine x_iinc (j := 3) (w := 1) (lv' := [(3, .int x3_15), (2, .int x2_14), (0, .ref (ad 0)), (1, .int a0)]) C rfl ev (by decide) (by decide) rfl dX7_doesFor_69 rfl ?_
          refine x_goto (tgt := 7) C dX7_doesFor_72 (by decide) ?_
          exact x_sub [2, 3, 1, 0] rfl (ih x2_14 x3_15 _ hM kx0)
  obtain ⟨x2_5, hL16, hM⟩ := gb1_some hM
  refine x_sub [2, 3, 1, 0] rfl (L7 gFU r2 0 _ hL16 ?_)
  clear L7
  refine x_iln C 0 rfl dX7_doesFor_75 rfl ?_
  exact x_iret C E ⟨gs1 hM, rfl⟩ dX7_doesFor_76
set_option maxRecDepth 100000 in
set_option maxHeartbeats 4000000 in
theorem c_X7_fewest {l : Launch} {D : va_G} {ad : Nat → Nat} {cy : Nat → ClassId} {b : Nat} (hG : gInj (gGM D ad cy b))  {σ : gMem} {σ0 : gMem} (hM : m_X7_fewest  σ = some σ0) : gMv l yX7_fewest (Cond.code yX7_fewest cX7_fewest 5 none :: gBig) { frames := 4, cells := 0, slots := 0, locals := 93 } (gGM D ad cy b) [.ref (ad 0)] σ σ0 := by
  refine gIntro (own := RX7) hG (by decide +kernel) rfl rfl (Nat.le_of_ble_eq_true rfl) (lv := [(0, .ref (ad 0))]) rfl (fun κ C E => ?_)
  unfold m_X7_fewest at hM
  refine x_ic (v := 0) C (by decide) dX7_fewest_0 rfl ?_
  refine x_istn (lv' := [(1, .int 0), (0, .ref (ad 0))]) C rfl rfl (by decide) rfl dX7_fewest_1 rfl ?_
  have L2 : ∀ (n : Nat) (x1_1 : Int32) (s2 : gMem) (s3 : gMem), m_X7_fewest_2 n x1_1 s2 = some (s3) → (wx κ (gGM D ad cy b) (gA (gGM D ad cy b)) 5 s3 35 [(0, .ref (ad 0))] []) → wx κ (gGM D ad cy b) (gA (gGM D ad cy b)) 5 s2 2 [(0, .ref (ad 0)), (1, .int x1_1)] [] := by
    clear hM
    intro n
    induction n with
    | zero => intro _ _ _ hM; cases hM
    | succ n ih =>
      intro x1_1 s2 s3 hM kx0
      replace hM : b_X7_fewest_2 (m_X7_fewest_2 n) x1_1 s2 = some (s3) := hM
      unfold b_X7_fewest_2 at hM
      refine x_iln C 1 rfl dX7_fewest_2 rfl ?_
      refine x_si (v := 256) C (by decide) dX7_fewest_3 rfl ?_
      refine x_ic_ge (tgt := 35) C dX7_fewest_6 (by decide) rfl (fun hc => ?_) (fun hc => ?_)
      · replace hM := gif_pos hc hM
        cases hM
        exact x_sub [0] rfl (kx0)
      · replace hM := gif_neg hc hM
        refine x_aln C 0 rfl dX7_fewest_9 rfl ?_
        refine gMg_0_more C kf_X7_38 dX7_fewest_10 rfl ?_
        refine x_si (v := 15616) C (by decide) dX7_fewest_13 rfl ?_
        refine x_iln C 1 rfl dX7_fewest_16 rfl ?_
        refine x_iadd C dX7_fewest_17 rfl ?_
        refine x_iln C 1 rfl dX7_fewest_18 rfl ?_
        refine x_if_ne (tgt := 26) C dX7_fewest_19 (by decide) rfl (fun hc => ?_) (fun hc => ?_)
        · replace hM := gif_neg hc hM
          refine x_bi (v := 99) C (by decide) dX7_fewest_26 rfl ?_
          obtain ⟨h4, hM⟩ := gck_some hM
          obtain ⟨s5, ev, hM⟩ := gnm_ex hM
          refine gMs_10 C ev h4 dX7_fewest_28 rfl ?_
          obtain ⟨x1_6, ev, hM⟩ := gnm_ex hM
          refine x_iinc (j := 1) (w := 1) (lv' := [(1, .int x1_6), (0, .ref (ad 0))]) C rfl ev (by decide) (by decide) rfl dX7_fewest_29 rfl ?_
          refine x_goto (tgt := 2) C dX7_fewest_32 (by decide) ?_
          exact x_sub [1, 0] rfl (ih x1_6 s5 _ hM kx0)
        · replace hM := gif_pos hc hM
          refine x_ic (v := 0) C (by decide) dX7_fewest_22 rfl ?_
          refine x_goto (tgt := 28) C dX7_fewest_23 (by decide) ?_
          obtain ⟨h7, hM⟩ := gck_some hM
          obtain ⟨s8, ev, hM⟩ := gnm_ex hM
          refine gMs_10 C ev h7 dX7_fewest_28 rfl ?_
          obtain ⟨x1_9, ev, hM⟩ := gnm_ex hM
          refine x_iinc (j := 1) (w := 1) (lv' := [(1, .int x1_9), (0, .ref (ad 0))]) C rfl ev (by decide) (by decide) rfl dX7_fewest_29 rfl ?_
          refine x_goto (tgt := 2) C dX7_fewest_32 (by decide) ?_
          exact x_sub [1, 0] rfl (ih x1_9 s8 _ hM kx0)
  obtain ⟨s3, hL10, hM⟩ := gb1_some hM
  refine x_sub [1, 0] rfl (L2 gFU 0 σ _ hL10 ?_)
  clear L2
  refine x_bi (v := 60) C (by decide) dX7_fewest_35 rfl ?_
  refine x_istn (lv' := [(1, .int 60), (0, .ref (ad 0))]) C rfl rfl (by decide) rfl dX7_fewest_37 rfl ?_
  have L38 : ∀ (n : Nat) (x1_11 : Int32) (s12 : gMem) (s13 : gMem), m_X7_fewest_38 n x1_11 s12 = some (s13) → (wx κ (gGM D ad cy b) (gA (gGM D ad cy b)) 5 s13 140 [] []) → wx κ (gGM D ad cy b) (gA (gGM D ad cy b)) 5 s12 38 [(0, .ref (ad 0)), (1, .int x1_11)] [] := by
    clear hM
    intro n
    induction n with
    | zero => intro _ _ _ hM; cases hM
    | succ n ih =>
      intro x1_11 s12 s13 hM kx0
      replace hM : b_X7_fewest_38 (m_X7_fewest_38 n) x1_11 s12 = some (s13) := hM
      unfold b_X7_fewest_38 at hM
      refine x_iln C 1 rfl dX7_fewest_38 rfl ?_
      refine x_if_lt (tgt := 140) C dX7_fewest_39 (by decide) rfl (fun hc => ?_) (fun hc => ?_)
      · replace hM := gif_pos hc hM
        cases hM
        exact x_sub [] rfl (kx0)
      · replace hM := gif_neg hc hM
        refine x_aln C 0 rfl dX7_fewest_42 rfl ?_
        refine gMg_0_helps C kf_X7_41 dX7_fewest_43 rfl ?_
        refine x_iln C 1 rfl dX7_fewest_46 rfl ?_
        refine x_aln C 0 rfl dX7_fewest_47 rfl ?_
        refine x_iln C 1 rfl dX7_fewest_48 rfl ?_
        obtain ⟨r15, h14, hM⟩ := gb1_some hM
        refine x_cvi (As := [.int x1_11]) (rest := [.int x1_11, .ref (ad 11)]) C E.2.2.2.2.2 1 (c_X7_doesFor hG h14) (gBv km_X7_220 kin_X7_doesFor ksel_X7_doesFor kini_X7 kc_X7_doesFor) rfl rfl rfl ⟨rfl, by decide +kernel, by decide +kernel, by decide +kernel⟩ ⟨Nat.le_of_ble_eq_true rfl, Nat.le_of_ble_eq_true rfl⟩ (by show 0 < 14; decide) rfl rfl rfl rfl (Nat.le_of_ble_eq_true rfl) dX7_fewest_49 rfl ?_
        obtain ⟨h16, hM⟩ := gck_some hM
        obtain ⟨s17, ev, hM⟩ := gnm_ex hM
        refine gMs_11 C ev h16 dX7_fewest_52 rfl ?_
        refine x_ic (v := 0) C (by decide) dX7_fewest_53 rfl ?_
        refine x_istn (lv' := [(2, .int 0), (0, .ref (ad 0)), (1, .int x1_11)]) C rfl rfl (by decide) rfl dX7_fewest_54 rfl ?_
        have L55 : ∀ (n : Nat) (x2_18 : Int32) (s19 : gMem) (s20 : gMem), m_X7_fewest_55 x1_11 n x2_18 s19 = some (s20) → (wx κ (gGM D ad cy b) (gA (gGM D ad cy b)) 5 s20 134 [(0, .ref (ad 0)), (1, .int x1_11)] []) → wx κ (gGM D ad cy b) (gA (gGM D ad cy b)) 5 s19 55 [(0, .ref (ad 0)), (1, .int x1_11), (2, .int x2_18)] [] := by
          clear hM
          intro n
          induction n with
          | zero => intro _ _ _ hM; cases hM
          | succ n ih =>
            intro x2_18 s19 s20 hM kx0
            replace hM : b_X7_fewest_55 x1_11 (m_X7_fewest_55 x1_11 n) x2_18 s19 = some (s20) := hM
            unfold b_X7_fewest_55 at hM
            refine x_iln C 2 rfl dX7_fewest_55 rfl ?_
            refine x_si (v := 256) C (by decide) dX7_fewest_56 rfl ?_
            refine x_ic_ge (tgt := 134) C dX7_fewest_59 (by decide) rfl (fun hc => ?_) (fun hc => ?_)
            · replace hM := gif_pos hc hM
              cases hM
              exact x_sub [0, 1] rfl (kx0)
            · replace hM := gif_neg hc hM
              refine x_ic (v := 1) C (by decide) dX7_fewest_62 rfl ?_
              refine x_aln C 0 rfl dX7_fewest_63 rfl ?_
              refine gMg_0_more C kf_X7_38 dX7_fewest_64 rfl ?_
              refine x_si (v := 256) C (by decide) dX7_fewest_67 rfl ?_
              refine x_iln C 1 rfl dX7_fewest_70 rfl ?_
              refine x_ic (v := 1) C (by decide) dX7_fewest_71 rfl ?_
              refine x_iadd C dX7_fewest_72 rfl ?_
              refine x_imul C dX7_fewest_73 rfl ?_
              refine x_iln C 2 rfl dX7_fewest_74 rfl ?_
              refine x_aln C 0 rfl dX7_fewest_75 rfl ?_
              refine gMg_0_helps C kf_X7_41 dX7_fewest_76 rfl ?_
              refine x_iln C 1 rfl dX7_fewest_79 rfl ?_
              obtain ⟨h21, hM⟩ := gck_some hM
              refine gMa_11 C h21 dX7_fewest_80 rfl ?_
              refine x_ic (v := (-1)) C (by decide) dX7_fewest_81 rfl ?_
              refine x_ixor C dX7_fewest_82 rfl ?_
              refine x_iand C dX7_fewest_83 rfl ?_
              refine x_iadd C dX7_fewest_84 rfl ?_
              obtain ⟨h22, hM⟩ := gck_some hM
              refine gMa_10 C h22 dX7_fewest_85 rfl ?_
              refine x_iadd C dX7_fewest_86 rfl ?_
              obtain ⟨x3_23, ev, hM⟩ := gnm_ex hM
              refine x_istn (lv' := [(3, .int x3_23), (0, .ref (ad 0)), (1, .int x1_11), (2, .int x2_18)]) C rfl ev (by decide) rfl dX7_fewest_87 rfl ?_
              refine x_aln C 1 rfl dX7_fewest_88 rfl ?_
              refine gMg_0_more C kf_X7_38 dX7_fewest_89 rfl ?_
              refine x_si (v := 256) C (by decide) dX7_fewest_92 rfl ?_
              refine x_iln C 2 rfl dX7_fewest_95 rfl ?_
              refine x_ic (v := 1) C (by decide) dX7_fewest_96 rfl ?_
              refine x_iadd C dX7_fewest_97 rfl ?_
              refine x_imul C dX7_fewest_98 rfl ?_
              refine x_iln C 3 rfl dX7_fewest_99 rfl ?_
              refine x_iadd C dX7_fewest_100 rfl ?_
              obtain ⟨h24, hM⟩ := gck_some hM
              refine gMa_10 C h24 dX7_fewest_101 rfl ?_
              obtain ⟨x4_25, ev, hM⟩ := gnm_ex hM
              refine x_ist (lv' := [(4, .int x4_25), (3, .int x3_23), (0, .ref (ad 0)), (1, .int x1_11), (2, .int x2_18)]) C ev (by decide) rfl dX7_fewest_102 rfl ?_
              refine x_aln C 2 rfl dX7_fewest_104 rfl ?_
              refine gMg_0_more C kf_X7_38 dX7_fewest_105 rfl ?_
              refine x_si (v := 256) C (by decide) dX7_fewest_108 rfl ?_
              refine x_iln C 3 rfl dX7_fewest_111 rfl ?_
              refine x_imul C dX7_fewest_112 rfl ?_
              refine x_iln C 4 rfl dX7_fewest_113 rfl ?_
              refine x_iadd C dX7_fewest_114 rfl ?_
              refine x_iln C 1 rfl dX7_fewest_115 rfl ?_
              refine x_il C 0 rfl dX7_fewest_116 rfl ?_
              refine x_ic_ge (tgt := 125) C dX7_fewest_118 (by decide) rfl (fun hc => ?_) (fun hc => ?_)
              · replace hM := gif_pos hc hM
                refine x_il C 0 rfl dX7_fewest_125 rfl ?_
                obtain ⟨h26, hM⟩ := gck_some hM
                obtain ⟨s27, ev, hM⟩ := gnm_ex hM
                refine gMs_10 C ev h26 dX7_fewest_127 rfl ?_
                obtain ⟨x2_28, ev, hM⟩ := gnm_ex hM
                refine x_iinc (j := 4) (w := 1) (lv' := [(2, .int x2_28), (4, .int x4_25), (3, .int x3_23), (0, .ref (ad 0)), (1, .int x1_11)]) C rfl ev (by decide) (by decide) rfl dX7_fewest_128 rfl ?_
                refine x_goto (tgt := 55) C dX7_fewest_131 (by decide) ?_
                exact x_sub [3, 4, 0] rfl (ih x2_28 s27 _ hM kx0)
              · replace hM := gif_neg hc hM
                refine x_iln C 1 rfl dX7_fewest_121 rfl ?_
                refine x_goto (tgt := 127) C dX7_fewest_122 (by decide) ?_
                obtain ⟨h29, hM⟩ := gck_some hM
                obtain ⟨s30, ev, hM⟩ := gnm_ex hM
                refine gMs_10 C ev h29 dX7_fewest_127 rfl ?_
                obtain ⟨x2_31, ev, hM⟩ := gnm_ex hM
                refine x_iinc (j := 4) (w := 1) (lv' := [(2, .int x2_31), (4, .int x4_25), (3, .int x3_23), (0, .ref (ad 0)), (1, .int x1_11)]) C rfl ev (by decide) (by decide) rfl dX7_fewest_128 rfl ?_
                refine x_goto (tgt := 55) C dX7_fewest_131 (by decide) ?_
                exact x_sub [3, 4, 0] rfl (ih x2_31 s30 _ hM kx0)
        obtain ⟨s20, hL32, hM⟩ := gb1_some hM
        refine x_sub [1, 2, 0] rfl (L55 gFU 0 s17 _ hL32 ?_)
        clear L55
        obtain ⟨x1_33, ev, hM⟩ := gnm_ex hM
        refine x_iinc (j := 1) (w := (-1)) (lv' := [(1, .int x1_33), (0, .ref (ad 0))]) C rfl ev (by decide) (by decide) rfl dX7_fewest_134 rfl ?_
        refine x_goto (tgt := 38) C dX7_fewest_137 (by decide) ?_
        exact x_sub [1, 0] rfl (ih x1_33 s20 _ hM kx0)
  obtain ⟨s13, hL34, hM⟩ := gb1_some hM
  refine x_sub [1, 0] rfl (L38 gFU 60 s3 _ hL34 ?_)
  clear L38
  exact x_vret C E (gs1 hM) dX7_fewest_140
set_option maxRecDepth 100000 in
set_option maxHeartbeats 4000000 in
theorem c_X7_lengths {l : Launch} {D : va_G} {ad : Nat → Nat} {cy : Nat → ClassId} {b : Nat} (hG : gInj (gGM D ad cy b)) {a0 : Int32} {σ : gMem} {r0 : Int32} {σ0 : gMem} (hM : m_X7_lengths a0 σ = some (r0, σ0)) : gMi l yX7_lengths (Cond.code yX7_lengths cX7_lengths 6 (some .int) :: gBig) { frames := 5, cells := 0, slots := 0, locals := 117 } (gGM D ad cy b) [.ref (ad 0), .int a0] σ r0 σ0 := by
  refine gIntro (own := RX7) hG (by decide +kernel) rfl rfl (Nat.le_of_ble_eq_true rfl) (lv := [(0, .ref (ad 0)), (1, .int a0)]) rfl (fun κ C E => ?_)
  unfold m_X7_lengths at hM
  refine x_iln C 1 rfl dX7_lengths_0 rfl ?_
  refine x_ic (v := (-1)) C (by decide) dX7_lengths_1 rfl ?_
  refine x_ic_ge (tgt := 7) C dX7_lengths_2 (by decide) rfl (fun hc => ?_) (fun hc => ?_)
  · replace hM := gif_pos hc hM
    refine x_aln C 0 rfl dX7_lengths_7 rfl ?_
    refine gMg_0_z C kf_X7_7 dX7_lengths_8 rfl ?_
    refine x_bi (v := 64) C (by decide) dX7_lengths_11 rfl ?_
    obtain ⟨h1, hM⟩ := gck_some hM
    refine gMa_1 C h1 dX7_lengths_13 rfl ?_
    refine x_if_ne (tgt := 20) C dX7_lengths_14 (by decide) rfl (fun hc => ?_) (fun hc => ?_)
    · replace hM := gif_neg hc hM
      refine x_aln C 0 rfl dX7_lengths_20 rfl ?_
      obtain ⟨s3, h2, hM⟩ := gb1_some hM
      refine x_cvv (As := []) (rest := []) C E.2.2.2.2.2 0 (c_X7_fewest hG h2) (gBv km_X7_223 kin_X7_fewest ksel_X7_fewest kini_X7 kc_X7_fewest) rfl rfl rfl ⟨rfl, by decide +kernel, by decide +kernel, by decide +kernel⟩ ⟨Nat.le_of_ble_eq_true rfl, Nat.le_of_ble_eq_true rfl⟩ (by show 0 < 14; decide) rfl rfl rfl rfl (Nat.le_of_ble_eq_true rfl) dX7_lengths_21 rfl ?_
      refine x_aln C 0 rfl dX7_lengths_24 rfl ?_
      obtain ⟨r5, h4, hM⟩ := gb1_some hM
      refine x_cvi (As := []) (rest := []) C E.2.2.2.2.2 0 (c_X7_needy hG h4) (gBv km_X7_217 kin_X7_needy ksel_X7_needy kini_X7 kc_X7_needy) rfl rfl rfl ⟨rfl, by decide +kernel, by decide +kernel, by decide +kernel⟩ ⟨Nat.le_of_ble_eq_true rfl, Nat.le_of_ble_eq_true rfl⟩ (by show 0 < 14; decide) rfl rfl rfl rfl (Nat.le_of_ble_eq_true rfl) dX7_lengths_25 rfl ?_
      refine x_istn (lv' := [(2, .int r5), (0, .ref (ad 0)), (1, .int a0)]) C rfl rfl (by decide) rfl dX7_lengths_28 rfl ?_
      refine x_aln C 1 rfl dX7_lengths_29 rfl ?_
      refine gMg_0_more C kf_X7_38 dX7_lengths_30 rfl ?_
      refine x_iln C 0 rfl dX7_lengths_33 rfl ?_
      obtain ⟨h6, hM⟩ := gck_some hM
      refine gMa_10 C h6 dX7_lengths_34 rfl ?_
      obtain ⟨x3_7, ev, hM⟩ := gnm_ex hM
      refine x_istn (lv' := [(3, .int x3_7), (2, .int r5), (0, .ref (ad 0)), (1, .int a0)]) C rfl ev (by decide) rfl dX7_lengths_35 rfl ?_
      refine x_iln C 0 rfl dX7_lengths_36 rfl ?_
      refine x_bi (v := 60) C (by decide) dX7_lengths_37 rfl ?_
      refine x_ic_le (tgt := 45) C dX7_lengths_39 (by decide) rfl (fun hc => ?_) (fun hc => ?_)
      · replace hM := gif_pos hc hM
        refine x_iln C 3 rfl dX7_lengths_45 rfl ?_
        refine x_ic (v := (-1)) C (by decide) dX7_lengths_46 rfl ?_
        refine x_ic_eq (tgt := 55) C dX7_lengths_47 (by decide) rfl (fun hc => ?_) (fun hc => ?_)
        · replace hM := gif_pos hc hM
          refine x_iln C 3 rfl dX7_lengths_55 rfl ?_
          refine x_ic (v := (-1)) C (by decide) dX7_lengths_56 rfl ?_
          refine x_ic_ne (tgt := 64) C dX7_lengths_57 (by decide) rfl (fun hc => ?_) (fun hc => ?_)
          · replace hM := gif_neg hc hM
            refine x_bi (v := (-4)) C (by decide) dX7_lengths_64 rfl ?_
            exact x_iret C E (gs2 hM) dX7_lengths_66
          · replace hM := gif_pos hc hM
            refine x_iln C 0 rfl dX7_lengths_60 rfl ?_
            refine x_goto (tgt := 66) C dX7_lengths_61 (by decide) ?_
            exact x_iret C E (gs2 hM) dX7_lengths_66
        · replace hM := gif_neg hc hM
          refine x_iln C 3 rfl dX7_lengths_50 rfl ?_
          refine x_iln C 0 rfl dX7_lengths_51 rfl ?_
          refine x_ic_lt (tgt := 67) C dX7_lengths_52 (by decide) rfl (fun hc => ?_) (fun hc => ?_)
          · replace hM := gif_pos hc hM
            refine x_ic (v := (-1)) C (by decide) dX7_lengths_67 rfl ?_
            refine x_ist (lv' := [(4, .int (-1)), (3, .int x3_7), (2, .int r5), (0, .ref (ad 0)), (1, .int a0)]) C rfl (by decide) rfl dX7_lengths_68 rfl ?_
            refine x_ic (v := 0) C (by decide) dX7_lengths_70 rfl ?_
            refine x_ist (lv' := [(5, .int 0), (4, .int (-1)), (3, .int x3_7), (2, .int r5), (0, .ref (ad 0)), (1, .int a0)]) C rfl (by decide) rfl dX7_lengths_71 rfl ?_
            have L73 : ∀ (n : Nat) (x2_8 : Int32) (x4_9 : Int32) (x5_10 : Int32) (t12 : Nat) (x5_11 : Int32), m_X7_lengths_73 a0 s3 n x2_8 x4_9 x5_10 = some (t12, x5_11) → (t12 = 0 → wx κ (gGM D ad cy b) (gA (gGM D ad cy b)) 6 s3 144 [(5, .int x5_11)] []) → (t12 = 1 → wx κ (gGM D ad cy b) (gA (gGM D ad cy b)) 6 s3 153 [] []) → wx κ (gGM D ad cy b) (gA (gGM D ad cy b)) 6 s3 73 [(0, .ref (ad 0)), (1, .int a0), (2, .int x2_8), (4, .int x4_9), (5, .int x5_10)] [] := by
              clear hM
              intro n
              induction n with
              | zero => intro _ _ _ _ _ hM; cases hM
              | succ n ih =>
                intro x2_8 x4_9 x5_10 t12 x5_11 hM kx0 kx1
                replace hM : b_X7_lengths_73 a0 s3 (m_X7_lengths_73 a0 s3 n) x2_8 x4_9 x5_10 = some (t12, x5_11) := hM
                unfold b_X7_lengths_73 at hM
                refine x_il C 4 rfl dX7_lengths_73 rfl ?_
                refine x_bi (v := 60) C (by decide) dX7_lengths_75 rfl ?_
                refine x_ic_gt (tgt := 153) C dX7_lengths_77 (by decide) rfl (fun hc => ?_) (fun hc => ?_)
                · replace hM := gif_pos hc hM
                  cases hM
                  exact x_sub [] rfl (kx1 rfl)
                · replace hM := gif_neg hc hM
                  refine x_aln C 0 rfl dX7_lengths_80 rfl ?_
                  refine gMg_0_more C kf_X7_38 dX7_lengths_81 rfl ?_
                  refine x_si (v := 256) C (by decide) dX7_lengths_84 rfl ?_
                  refine x_il C 4 rfl dX7_lengths_87 rfl ?_
                  refine x_imul C dX7_lengths_89 rfl ?_
                  refine x_iln C 2 rfl dX7_lengths_90 rfl ?_
                  refine x_iadd C dX7_lengths_91 rfl ?_
                  obtain ⟨h13, hM⟩ := gck_some hM
                  refine gMa_10 C h13 dX7_lengths_92 rfl ?_
                  refine x_ic (v := 1) C (by decide) dX7_lengths_93 rfl ?_
                  refine x_aln C 0 rfl dX7_lengths_94 rfl ?_
                  refine gMg_0_more C kf_X7_38 dX7_lengths_95 rfl ?_
                  refine x_si (v := 256) C (by decide) dX7_lengths_98 rfl ?_
                  refine x_il C 4 rfl dX7_lengths_101 rfl ?_
                  refine x_ic (v := 1) C (by decide) dX7_lengths_103 rfl ?_
                  refine x_iadd C dX7_lengths_104 rfl ?_
                  refine x_imul C dX7_lengths_105 rfl ?_
                  refine x_iln C 2 rfl dX7_lengths_106 rfl ?_
                  refine x_aln C 0 rfl dX7_lengths_107 rfl ?_
                  refine gMg_0_helps C kf_X7_41 dX7_lengths_108 rfl ?_
                  refine x_il C 4 rfl dX7_lengths_111 rfl ?_
                  obtain ⟨h14, hM⟩ := gck_some hM
                  refine gMa_11 C h14 dX7_lengths_113 rfl ?_
                  refine x_ic (v := (-1)) C (by decide) dX7_lengths_114 rfl ?_
                  refine x_ixor C dX7_lengths_115 rfl ?_
                  refine x_iand C dX7_lengths_116 rfl ?_
                  refine x_iadd C dX7_lengths_117 rfl ?_
                  obtain ⟨h15, hM⟩ := gck_some hM
                  refine gMa_10 C h15 dX7_lengths_118 rfl ?_
                  refine x_iadd C dX7_lengths_119 rfl ?_
                  refine x_ic_ne (tgt := 147) C dX7_lengths_120 (by decide) rfl (fun hc => ?_) (fun hc => ?_)
                  · replace hM := gif_neg hc hM
                    obtain ⟨x5_16, ev, hM⟩ := gnm_ex hM
                    refine x_iinc (j := 4) (w := 1) (lv' := [(5, .int x5_16), (0, .ref (ad 0)), (1, .int a0), (2, .int x2_8), (4, .int x4_9)]) C rfl ev (by decide) (by decide) rfl dX7_lengths_147 rfl ?_
                    refine x_goto (tgt := 73) C dX7_lengths_150 (by decide) ?_
                    exact x_sub [1, 2, 3, 4, 0] rfl (ih x2_8 x4_9 x5_16 _ _ hM kx0 kx1)
                  · replace hM := gif_pos hc hM
                    obtain ⟨x4_17, ev, hM⟩ := gnm_ex hM
                    refine x_iinc (j := 3) (w := 1) (lv' := [(4, .int x4_17), (0, .ref (ad 0)), (1, .int a0), (2, .int x2_8), (5, .int x5_10)]) C rfl ev (by decide) (by decide) rfl dX7_lengths_123 rfl ?_
                    refine x_iln C 3 rfl dX7_lengths_126 rfl ?_
                    refine x_aln C 1 rfl dX7_lengths_127 rfl ?_
                    refine gMg_0_helps C kf_X7_41 dX7_lengths_128 rfl ?_
                    refine x_il C 4 rfl dX7_lengths_131 rfl ?_
                    obtain ⟨h18, hM⟩ := gck_some hM
                    refine gMa_11 C h18 dX7_lengths_133 rfl ?_
                    refine x_ic (v := (-1)) C (by decide) dX7_lengths_134 rfl ?_
                    refine x_ixor C dX7_lengths_135 rfl ?_
                    refine x_iand C dX7_lengths_136 rfl ?_
                    obtain ⟨x2_19, ev, hM⟩ := gnm_ex hM
                    refine x_istn (lv' := [(2, .int x2_19), (4, .int x4_17), (0, .ref (ad 0)), (1, .int a0), (5, .int x5_10)]) C rfl ev (by decide) rfl dX7_lengths_137 rfl ?_
                    refine x_il C 1 rfl dX7_lengths_138 rfl ?_
                    refine x_iln C 3 rfl dX7_lengths_140 rfl ?_
                    refine x_ic_ne (tgt := 147) C dX7_lengths_141 (by decide) rfl (fun hc => ?_) (fun hc => ?_)
                    · replace hM := gif_neg hc hM
                      obtain ⟨x5_20, ev, hM⟩ := gnm_ex hM
                      refine x_iinc (j := 4) (w := 1) (lv' := [(5, .int x5_20), (2, .int x2_19), (4, .int x4_17), (0, .ref (ad 0)), (1, .int a0)]) C rfl ev (by decide) (by decide) rfl dX7_lengths_147 rfl ?_
                      refine x_goto (tgt := 73) C dX7_lengths_150 (by decide) ?_
                      exact x_sub [3, 4, 1, 2, 0] rfl (ih x2_19 x4_17 x5_20 _ _ hM kx0 kx1)
                    · replace hM := gif_pos hc hM
                      cases hM
                      exact x_sub [4] rfl (kx0 rfl)
            obtain ⟨t12, x5_11, hL21, hM⟩ := gb2_some hM
            refine x_sub [4, 5, 3, 1, 0] rfl (L73 gFU r5 (-1) 0 _ _ hL21 (fun ht => ?_) (fun ht => ?_))
            · clear L73
              replace hM := gif_pos ht hM
              refine x_il C 0 rfl dX7_lengths_144 rfl ?_
              exact x_iret C E (gs2 hM) dX7_lengths_146
            · clear L73
              replace hM := gif_neg (by omega : ¬ t12 = 0) hM
              refine x_bi (v := (-4)) C (by decide) dX7_lengths_153 rfl ?_
              exact x_iret C E (gs2 hM) dX7_lengths_155
          · replace hM := gif_neg hc hM
            refine x_iln C 3 rfl dX7_lengths_55 rfl ?_
            refine x_ic (v := (-1)) C (by decide) dX7_lengths_56 rfl ?_
            refine x_ic_ne (tgt := 64) C dX7_lengths_57 (by decide) rfl (fun hc => ?_) (fun hc => ?_)
            · replace hM := gif_neg hc hM
              refine x_bi (v := (-4)) C (by decide) dX7_lengths_64 rfl ?_
              exact x_iret C E (gs2 hM) dX7_lengths_66
            · replace hM := gif_pos hc hM
              refine x_iln C 0 rfl dX7_lengths_60 rfl ?_
              refine x_goto (tgt := 66) C dX7_lengths_61 (by decide) ?_
              exact x_iret C E (gs2 hM) dX7_lengths_66
      · replace hM := gif_neg hc hM
        refine x_bi (v := (-4)) C (by decide) dX7_lengths_42 rfl ?_
        exact x_iret C E (gs2 hM) dX7_lengths_44
    · replace hM := gif_pos hc hM
      refine x_bi (v := (-2)) C (by decide) dX7_lengths_17 rfl ?_
      exact x_iret C E (gs2 hM) dX7_lengths_19
  · replace hM := gif_neg hc hM
    refine x_ic (v := (-1)) C (by decide) dX7_lengths_5 rfl ?_
    exact x_iret C E (gs2 hM) dX7_lengths_6
set_option maxRecDepth 100000 in
set_option maxHeartbeats 4000000 in
theorem c_X7_meeting {l : Launch} {D : va_G} {ad : Nat → Nat} {cy : Nat → ClassId} {b : Nat} (hG : gInj (gGM D ad cy b)) {a0 : Int32} {σ : gMem} {r0 : Int32} (hM : m_X7_meeting a0 σ = some r0) : gMi l yX7_meeting (Cond.code yX7_meeting cX7_meeting 9 (some .int) :: gBig) { frames := 4, cells := 0, slots := 0, locals := 93 } (gGM D ad cy b) [.ref (ad 0), .int a0] σ r0 σ := by
  refine gIntro (own := RX7) hG (by decide +kernel) rfl rfl (Nat.le_of_ble_eq_true rfl) (lv := [(0, .ref (ad 0)), (1, .int a0)]) rfl (fun κ C E => ?_)
  unfold m_X7_meeting at hM
  refine x_iln C 1 rfl dX7_meeting_0 rfl ?_
  refine x_i2l C dX7_meeting_1 rfl ?_
  refine x_lc (v := 0) C (by decide) dX7_meeting_2 rfl ?_
  refine x_ldc2 (v := 2) C (gBc kk_X7_226) dX7_meeting_3 rfl ?_
  obtain ⟨r2, h1, hM⟩ := gb1_some hM
  refine x_csi (As := [.long a0.toInt64, .long 0, .long 2]) (rest := []) C E.2.2.2.2.2 3 (c_X7_in hG h1) (gBs km_X7_50 kst_X7_in kini_X7 kc_X7_in) rfl rfl rfl ⟨by decide +kernel, by decide +kernel, by decide +kernel⟩ ⟨Nat.le_of_ble_eq_true rfl, Nat.le_of_ble_eq_true rfl⟩ rfl rfl (Nat.le_of_ble_eq_true rfl) dX7_meeting_6 rfl ?_
  refine x_if_ne (tgt := 14) C dX7_meeting_9 (by decide) rfl (fun hc => ?_) (fun hc => ?_)
  · replace hM := gif_neg hc hM
    refine x_bi (v := (-4)) C (by decide) dX7_meeting_14 rfl ?_
    refine x_istn (lv' := [(2, .int (-4)), (0, .ref (ad 0)), (1, .int a0)]) C rfl rfl (by decide) rfl dX7_meeting_16 rfl ?_
    refine x_bi (v := (-4)) C (by decide) dX7_meeting_17 rfl ?_
    refine x_istn (lv' := [(3, .int (-4)), (2, .int (-4)), (0, .ref (ad 0)), (1, .int a0)]) C rfl rfl (by decide) rfl dX7_meeting_19 rfl ?_
    refine x_ic (v := (-1)) C (by decide) dX7_meeting_20 rfl ?_
    refine x_ist (lv' := [(4, .int (-1)), (3, .int (-4)), (2, .int (-4)), (0, .ref (ad 0)), (1, .int a0)]) C rfl (by decide) rfl dX7_meeting_21 rfl ?_
    refine x_ic (v := 0) C (by decide) dX7_meeting_23 rfl ?_
    refine x_ist (lv' := [(5, .int 0), (4, .int (-1)), (3, .int (-4)), (2, .int (-4)), (0, .ref (ad 0)), (1, .int a0)]) C rfl (by decide) rfl dX7_meeting_24 rfl ?_
    have L26 : ∀ (n : Nat) (x2_3 : Int32) (x3_4 : Int32) (x4_5 : Int32) (x5_6 : Int32) (x2_7 : Int32) (x3_8 : Int32) (x4_9 : Int32), m_X7_meeting_26 σ n x2_3 x3_4 x4_5 x5_6 = some (x2_7, x3_8, x4_9) → (wx κ (gGM D ad cy b) (gA (gGM D ad cy b)) 9 σ 136 [(1, .int a0), (2, .int x2_7), (3, .int x3_8), (4, .int x4_9)] []) → wx κ (gGM D ad cy b) (gA (gGM D ad cy b)) 9 σ 26 [(0, .ref (ad 0)), (1, .int a0), (2, .int x2_3), (3, .int x3_4), (4, .int x4_5), (5, .int x5_6)] [] := by
      clear hM
      intro n
      induction n with
      | zero => intro _ _ _ _ _ _ _ hM; cases hM
      | succ n ih =>
        intro x2_3 x3_4 x4_5 x5_6 x2_7 x3_8 x4_9 hM kx0
        replace hM : b_X7_meeting_26 σ (m_X7_meeting_26 σ n) x2_3 x3_4 x4_5 x5_6 = some (x2_7, x3_8, x4_9) := hM
        unfold b_X7_meeting_26 at hM
        refine x_il C 5 rfl dX7_meeting_26 rfl ?_
        refine x_bi (v := 24) C (by decide) dX7_meeting_28 rfl ?_
        refine x_ic_ge (tgt := 136) C dX7_meeting_30 (by decide) rfl (fun hc => ?_) (fun hc => ?_)
        · replace hM := gif_pos hc hM
          cases hM
          exact x_sub [1, 2, 3, 4] rfl (kx0)
        · replace hM := gif_neg hc hM
          refine x_ic (v := 0) C (by decide) dX7_meeting_33 rfl ?_
          refine x_ist (lv' := [(6, .int 0), (0, .ref (ad 0)), (1, .int a0), (2, .int x2_3), (3, .int x3_4), (4, .int x4_5), (5, .int x5_6)]) C rfl (by decide) rfl dX7_meeting_34 rfl ?_
          have L36 : ∀ (n : Nat) (x2_10 : Int32) (x3_11 : Int32) (x4_12 : Int32) (x6_13 : Int32) (x2_14 : Int32) (x3_15 : Int32) (x4_16 : Int32), m_X7_meeting_36 x5_6 σ n x2_10 x3_11 x4_12 x6_13 = some (x2_14, x3_15, x4_16) → (wx κ (gGM D ad cy b) (gA (gGM D ad cy b)) 9 σ 130 [(0, .ref (ad 0)), (1, .int a0), (2, .int x2_14), (3, .int x3_15), (4, .int x4_16), (5, .int x5_6)] []) → wx κ (gGM D ad cy b) (gA (gGM D ad cy b)) 9 σ 36 [(0, .ref (ad 0)), (1, .int a0), (2, .int x2_10), (3, .int x3_11), (4, .int x4_12), (5, .int x5_6), (6, .int x6_13)] [] := by
            clear hM
            intro n
            induction n with
            | zero => intro _ _ _ _ _ _ _ hM; cases hM
            | succ n ih =>
              intro x2_10 x3_11 x4_12 x6_13 x2_14 x3_15 x4_16 hM kx0
              replace hM : b_X7_meeting_36 x5_6 σ (m_X7_meeting_36 x5_6 σ n) x2_10 x3_11 x4_12 x6_13 = some (x2_14, x3_15, x4_16) := hM
              unfold b_X7_meeting_36 at hM
              refine x_il C 6 rfl dX7_meeting_36 rfl ?_
              refine x_aln C 0 rfl dX7_meeting_38 rfl ?_
              refine gMg_0_z C kf_X7_7 dX7_meeting_39 rfl ?_
              refine x_bi (v := 62) C (by decide) dX7_meeting_42 rfl ?_
              obtain ⟨h17, hM⟩ := gck_some hM
              refine gMa_1 C h17 dX7_meeting_44 rfl ?_
              refine x_ic_ge (tgt := 130) C dX7_meeting_45 (by decide) rfl (fun hc => ?_) (fun hc => ?_)
              · replace hM := gif_pos hc hM
                cases hM
                exact x_sub [0, 1, 2, 3, 4, 5] rfl (kx0)
              · replace hM := gif_neg hc hM
                refine x_ic (v := 0) C (by decide) dX7_meeting_48 rfl ?_
                refine x_ist (lv' := [(7, .int 0), (0, .ref (ad 0)), (1, .int a0), (2, .int x2_10), (3, .int x3_11), (4, .int x4_12), (5, .int x5_6), (6, .int x6_13)]) C rfl (by decide) rfl dX7_meeting_49 rfl ?_
                refine x_ic (v := 0) C (by decide) dX7_meeting_51 rfl ?_
                refine x_ist (lv' := [(8, .int 0), (7, .int 0), (0, .ref (ad 0)), (1, .int a0), (2, .int x2_10), (3, .int x3_11), (4, .int x4_12), (5, .int x5_6), (6, .int x6_13)]) C rfl (by decide) rfl dX7_meeting_52 rfl ?_
                have L54 : ∀ (n : Nat) (x7_18 : Int32) (x8_19 : Int32) (x7_20 : Int32), m_X7_meeting_54 x5_6 x6_13 σ n x7_18 x8_19 = some (x7_20) → (wx κ (gGM D ad cy b) (gA (gGM D ad cy b)) 9 σ 95 [(0, .ref (ad 0)), (1, .int a0), (2, .int x2_10), (3, .int x3_11), (4, .int x4_12), (5, .int x5_6), (6, .int x6_13), (7, .int x7_20)] []) → wx κ (gGM D ad cy b) (gA (gGM D ad cy b)) 9 σ 54 [(0, .ref (ad 0)), (1, .int a0), (2, .int x2_10), (3, .int x3_11), (4, .int x4_12), (5, .int x5_6), (6, .int x6_13), (7, .int x7_18), (8, .int x8_19)] [] := by
                  clear hM
                  intro n
                  induction n with
                  | zero => intro _ _ _ hM; cases hM
                  | succ n ih =>
                    intro x7_18 x8_19 x7_20 hM kx0
                    replace hM : b_X7_meeting_54 x5_6 x6_13 σ (m_X7_meeting_54 x5_6 x6_13 σ n) x7_18 x8_19 = some (x7_20) := hM
                    unfold b_X7_meeting_54 at hM
                    refine x_il C 8 rfl dX7_meeting_54 rfl ?_
                    refine x_aln C 0 rfl dX7_meeting_56 rfl ?_
                    refine gMg_0_z C kf_X7_7 dX7_meeting_57 rfl ?_
                    refine x_bi (v := 63) C (by decide) dX7_meeting_60 rfl ?_
                    obtain ⟨h21, hM⟩ := gck_some hM
                    refine gMa_1 C h21 dX7_meeting_62 rfl ?_
                    refine x_ic_ge (tgt := 95) C dX7_meeting_63 (by decide) rfl (fun hc => ?_) (fun hc => ?_)
                    · replace hM := gif_pos hc hM
                      cases hM
                      exact x_sub [0, 1, 2, 3, 4, 5, 6, 7] rfl (kx0)
                    · replace hM := gif_neg hc hM
                      refine x_il C 7 rfl dX7_meeting_66 rfl ?_
                      refine x_aln C 0 rfl dX7_meeting_68 rfl ?_
                      refine x_il C 8 rfl dX7_meeting_69 rfl ?_
                      refine x_il C 6 rfl dX7_meeting_71 rfl ?_
                      refine x_il C 5 rfl dX7_meeting_73 rfl ?_
                      obtain ⟨r23, h22, hM⟩ := gb1_some hM
                      refine x_cvi (As := [.int x8_19, .int x6_13, .int x5_6]) (rest := [.int x7_18]) C E.2.2.2.2.2 3 (c_X7_does hG h22) (gBv km_X7_167 kin_X7_does ksel_X7_does kini_X7 kc_X7_does) rfl rfl rfl ⟨rfl, by decide +kernel, by decide +kernel, by decide +kernel⟩ ⟨Nat.le_of_ble_eq_true rfl, Nat.le_of_ble_eq_true rfl⟩ (by show 0 < 14; decide) rfl rfl rfl rfl (Nat.le_of_ble_eq_true rfl) dX7_meeting_75 rfl ?_
                      refine x_if_eq (tgt := 85) C dX7_meeting_78 (by decide) rfl (fun hc => ?_) (fun hc => ?_)
                      · replace hM := gif_pos hc hM
                        refine x_ic (v := 0) C (by decide) dX7_meeting_85 rfl ?_
                        refine x_iadd C dX7_meeting_86 rfl ?_
                        obtain ⟨x7_24, ev, hM⟩ := gnm_ex hM
                        refine x_ist (lv' := [(7, .int x7_24), (0, .ref (ad 0)), (1, .int a0), (2, .int x2_10), (3, .int x3_11), (4, .int x4_12), (5, .int x5_6), (6, .int x6_13), (8, .int x8_19)]) C ev (by decide) rfl dX7_meeting_87 rfl ?_
                        obtain ⟨x8_25, ev, hM⟩ := gnm_ex hM
                        refine x_iinc (j := 8) (w := 1) (lv' := [(8, .int x8_25), (7, .int x7_24), (0, .ref (ad 0)), (1, .int a0), (2, .int x2_10), (3, .int x3_11), (4, .int x4_12), (5, .int x5_6), (6, .int x6_13)]) C rfl ev (by decide) (by decide) rfl dX7_meeting_89 rfl ?_
                        refine x_goto (tgt := 54) C dX7_meeting_92 (by decide) ?_
                        exact x_sub [2, 3, 4, 5, 6, 7, 8, 1, 0] rfl (ih x7_24 x8_25 _ hM kx0)
                      · replace hM := gif_neg hc hM
                        refine x_ic (v := 1) C (by decide) dX7_meeting_81 rfl ?_
                        refine x_goto (tgt := 86) C dX7_meeting_82 (by decide) ?_
                        refine x_iadd C dX7_meeting_86 rfl ?_
                        obtain ⟨x7_26, ev, hM⟩ := gnm_ex hM
                        refine x_ist (lv' := [(7, .int x7_26), (0, .ref (ad 0)), (1, .int a0), (2, .int x2_10), (3, .int x3_11), (4, .int x4_12), (5, .int x5_6), (6, .int x6_13), (8, .int x8_19)]) C ev (by decide) rfl dX7_meeting_87 rfl ?_
                        obtain ⟨x8_27, ev, hM⟩ := gnm_ex hM
                        refine x_iinc (j := 8) (w := 1) (lv' := [(8, .int x8_27), (7, .int x7_26), (0, .ref (ad 0)), (1, .int a0), (2, .int x2_10), (3, .int x3_11), (4, .int x4_12), (5, .int x5_6), (6, .int x6_13)]) C rfl ev (by decide) (by decide) rfl dX7_meeting_89 rfl ?_
                        refine x_goto (tgt := 54) C dX7_meeting_92 (by decide) ?_
                        exact x_sub [2, 3, 4, 5, 6, 7, 8, 1, 0] rfl (ih x7_26 x8_27 _ hM kx0)
                obtain ⟨x7_20, hL28, hM⟩ := gb1_some hM
                refine x_sub [2, 3, 4, 5, 6, 7, 8, 1, 0] rfl (L54 gFU 0 0 _ hL28 ?_)
                clear L54
                refine x_aln C 0 rfl dX7_meeting_95 rfl ?_
                refine gMg_0_z C kf_X7_7 dX7_meeting_96 rfl ?_
                refine x_ic (v := 0) C (by decide) dX7_meeting_99 rfl ?_
                refine x_il C 6 rfl dX7_meeting_100 rfl ?_
                refine x_iadd C dX7_meeting_102 rfl ?_
                obtain ⟨h29, hM⟩ := gck_some hM
                refine gMa_1 C h29 dX7_meeting_103 rfl ?_
                refine x_if_ge (tgt := 124) C dX7_meeting_104 (by decide) rfl (fun hc => ?_) (fun hc => ?_)
                · replace hM := gif_pos hc hM
                  obtain ⟨x6_30, ev, hM⟩ := gnm_ex hM
                  refine x_iinc (j := 6) (w := 1) (lv' := [(6, .int x6_30), (0, .ref (ad 0)), (1, .int a0), (2, .int x2_10), (3, .int x3_11), (4, .int x4_12), (5, .int x5_6), (7, .int x7_20)]) C rfl ev (by decide) (by decide) rfl dX7_meeting_124 rfl ?_
                  refine x_goto (tgt := 36) C dX7_meeting_127 (by decide) ?_
                  exact x_sub [1, 2, 3, 4, 5, 6, 0] rfl (ih x2_10 x3_11 x4_12 x6_30 _ _ _ hM kx0)
                · replace hM := gif_neg hc hM
                  refine x_il C 7 rfl dX7_meeting_107 rfl ?_
                  refine x_il C 4 rfl dX7_meeting_109 rfl ?_
                  refine x_ic_le (tgt := 124) C dX7_meeting_111 (by decide) rfl (fun hc => ?_) (fun hc => ?_)
                  · replace hM := gif_pos hc hM
                    obtain ⟨x6_31, ev, hM⟩ := gnm_ex hM
                    refine x_iinc (j := 6) (w := 1) (lv' := [(6, .int x6_31), (0, .ref (ad 0)), (1, .int a0), (2, .int x2_10), (3, .int x3_11), (4, .int x4_12), (5, .int x5_6), (7, .int x7_20)]) C rfl ev (by decide) (by decide) rfl dX7_meeting_124 rfl ?_
                    refine x_goto (tgt := 36) C dX7_meeting_127 (by decide) ?_
                    exact x_sub [1, 2, 3, 4, 5, 6, 0] rfl (ih x2_10 x3_11 x4_12 x6_31 _ _ _ hM kx0)
                  · replace hM := gif_neg hc hM
                    refine x_il C 7 rfl dX7_meeting_114 rfl ?_
                    refine x_ist (lv' := [(4, .int x7_20), (0, .ref (ad 0)), (1, .int a0), (2, .int x2_10), (3, .int x3_11), (5, .int x5_6), (6, .int x6_13), (7, .int x7_20)]) C rfl (by decide) rfl dX7_meeting_116 rfl ?_
                    refine x_il C 6 rfl dX7_meeting_118 rfl ?_
                    refine x_istn (lv' := [(2, .int x6_13), (4, .int x7_20), (0, .ref (ad 0)), (1, .int a0), (3, .int x3_11), (5, .int x5_6), (6, .int x6_13), (7, .int x7_20)]) C rfl rfl (by decide) rfl dX7_meeting_120 rfl ?_
                    refine x_il C 5 rfl dX7_meeting_121 rfl ?_
                    refine x_istn (lv' := [(3, .int x5_6), (2, .int x6_13), (4, .int x7_20), (0, .ref (ad 0)), (1, .int a0), (5, .int x5_6), (6, .int x6_13), (7, .int x7_20)]) C rfl rfl (by decide) rfl dX7_meeting_123 rfl ?_
                    obtain ⟨x6_32, ev, hM⟩ := gnm_ex hM
                    refine x_iinc (j := 6) (w := 1) (lv' := [(6, .int x6_32), (3, .int x5_6), (2, .int x6_13), (4, .int x7_20), (0, .ref (ad 0)), (1, .int a0), (5, .int x5_6), (7, .int x7_20)]) C rfl ev (by decide) (by decide) rfl dX7_meeting_124 rfl ?_
                    refine x_goto (tgt := 36) C dX7_meeting_127 (by decide) ?_
                    exact x_sub [4, 5, 2, 1, 3, 6, 0] rfl (ih x6_13 x5_6 x7_20 x6_32 _ _ _ hM kx0)
          obtain ⟨x2_14, x3_15, x4_16, hL33, hM⟩ := gb3_some hM
          refine x_sub [1, 2, 3, 4, 5, 6, 0] rfl (L36 gFU x2_3 x3_4 x4_5 0 _ _ _ hL33 ?_)
          clear L36
          obtain ⟨x5_34, ev, hM⟩ := gnm_ex hM
          refine x_iinc (j := 5) (w := 1) (lv' := [(5, .int x5_34), (0, .ref (ad 0)), (1, .int a0), (2, .int x2_14), (3, .int x3_15), (4, .int x4_16)]) C rfl ev (by decide) (by decide) rfl dX7_meeting_130 rfl ?_
          refine x_goto (tgt := 26) C dX7_meeting_133 (by decide) ?_
          exact x_sub [1, 2, 3, 4, 5, 0] rfl (ih x2_14 x3_15 x4_16 x5_34 _ _ _ hM kx0)
    obtain ⟨x2_7, x3_8, x4_9, hL35, hM⟩ := gb3_some hM
    refine x_sub [4, 5, 3, 2, 1, 0] rfl (L26 gFU (-4) (-4) (-1) 0 _ _ _ hL35 ?_)
    clear L26
    refine x_il C 3 rfl dX7_meeting_136 rfl ?_
    refine x_if_ge (tgt := 146) C dX7_meeting_138 (by decide) rfl (fun hc => ?_) (fun hc => ?_)
    · replace hM := gif_pos hc hM
      refine x_iln C 0 rfl dX7_meeting_146 rfl ?_
      refine x_if_ne (tgt := 154) C dX7_meeting_147 (by decide) rfl (fun hc => ?_) (fun hc => ?_)
      · replace hM := gif_neg hc hM
        refine x_iln C 0 rfl dX7_meeting_154 rfl ?_
        refine x_ic (v := 1) C (by decide) dX7_meeting_155 rfl ?_
        refine x_ic_ne (tgt := 163) C dX7_meeting_156 (by decide) rfl (fun hc => ?_) (fun hc => ?_)
        · replace hM := gif_neg hc hM
          refine x_il C 3 rfl dX7_meeting_163 rfl ?_
          exact x_iret C E ⟨gs1 hM, rfl⟩ dX7_meeting_165
        · replace hM := gif_pos hc hM
          refine x_iln C 2 rfl dX7_meeting_159 rfl ?_
          refine x_goto (tgt := 165) C dX7_meeting_160 (by decide) ?_
          exact x_iret C E ⟨gs1 hM, rfl⟩ dX7_meeting_165
      · replace hM := gif_pos hc hM
        refine x_iln C 1 rfl dX7_meeting_150 rfl ?_
        refine x_goto (tgt := 165) C dX7_meeting_151 (by decide) ?_
        exact x_iret C E ⟨gs1 hM, rfl⟩ dX7_meeting_165
    · replace hM := gif_neg hc hM
      refine x_bi (v := (-4)) C (by decide) dX7_meeting_141 rfl ?_
      refine x_goto (tgt := 165) C dX7_meeting_143 (by decide) ?_
      exact x_iret C E ⟨gs1 hM, rfl⟩ dX7_meeting_165
  · replace hM := gif_pos hc hM
    refine x_ic (v := (-1)) C (by decide) dX7_meeting_12 rfl ?_
    exact x_iret C E ⟨gs1 hM, rfl⟩ dX7_meeting_13
set_option maxRecDepth 100000 in
set_option maxHeartbeats 4000000 in
theorem c_X7_pairs {l : Launch} {D : va_G} {ad : Nat → Nat} {cy : Nat → ClassId} {b : Nat} (hG : gInj (gGM D ad cy b)) {a0 : Int32} {σ : gMem} {r0 : Int32} {σ0 : gMem} (hM : m_X7_pairs a0 σ = some (r0, σ0)) : gMi l yX7_pairs (Cond.code yX7_pairs cX7_pairs 8 (some .int) :: gBig) { frames := 3, cells := 0, slots := 0, locals := 68 } (gGM D ad cy b) [.ref (ad 0), .int a0] σ r0 σ0 := by
  refine gIntro (own := RX7) hG (by decide +kernel) rfl rfl (Nat.le_of_ble_eq_true rfl) (lv := [(0, .ref (ad 0)), (1, .int a0)]) rfl (fun κ C E => ?_)
  unfold m_X7_pairs at hM
  refine x_iln C 1 rfl dX7_pairs_0 rfl ?_
  refine x_i2l C dX7_pairs_1 rfl ?_
  refine x_lc (v := 0) C (by decide) dX7_pairs_2 rfl ?_
  refine x_ldc2 (v := 60) C (gBc kk_X7_58) dX7_pairs_3 rfl ?_
  obtain ⟨r2, h1, hM⟩ := gb1_some hM
  refine x_csi (As := [.long a0.toInt64, .long 0, .long 60]) (rest := []) C E.2.2.2.2.2 3 (c_X7_in hG h1) (gBs km_X7_50 kst_X7_in kini_X7 kc_X7_in) rfl rfl rfl ⟨by decide +kernel, by decide +kernel, by decide +kernel⟩ ⟨Nat.le_of_ble_eq_true rfl, Nat.le_of_ble_eq_true rfl⟩ rfl rfl (Nat.le_of_ble_eq_true rfl) dX7_pairs_6 rfl ?_
  refine x_if_ne (tgt := 14) C dX7_pairs_9 (by decide) rfl (fun hc => ?_) (fun hc => ?_)
  · replace hM := gif_neg hc hM
    refine x_ic (v := 1) C (by decide) dX7_pairs_14 rfl ?_
    refine x_aln C 0 rfl dX7_pairs_15 rfl ?_
    refine gMg_0_z C kf_X7_7 dX7_pairs_16 rfl ?_
    refine x_bi (v := 63) C (by decide) dX7_pairs_19 rfl ?_
    obtain ⟨h3, hM⟩ := gck_some hM
    refine gMa_1 C h3 dX7_pairs_21 rfl ?_
    refine x_ishl C dX7_pairs_22 rfl ?_
    obtain ⟨x2_4, ev, hM⟩ := gnm_ex hM
    refine x_istn (lv' := [(2, .int x2_4), (0, .ref (ad 0)), (1, .int a0)]) C rfl ev (by decide) rfl dX7_pairs_23 rfl ?_
    refine x_ic (v := 0) C (by decide) dX7_pairs_24 rfl ?_
    refine x_istn (lv' := [(3, .int 0), (2, .int x2_4), (0, .ref (ad 0)), (1, .int a0)]) C rfl rfl (by decide) rfl dX7_pairs_25 rfl ?_
    have L26 : ∀ (n : Nat) (x3_5 : Int32) (s6 : gMem) (s7 : gMem), m_X7_pairs_26 a0 x2_4 n x3_5 s6 = some (s7) → (wx κ (gGM D ad cy b) (gA (gGM D ad cy b)) 8 s7 244 [(0, .ref (ad 0)), (2, .int x2_4)] []) → wx κ (gGM D ad cy b) (gA (gGM D ad cy b)) 8 s6 26 [(0, .ref (ad 0)), (1, .int a0), (2, .int x2_4), (3, .int x3_5)] [] := by
      clear hM
      intro n
      induction n with
      | zero => intro _ _ _ hM; cases hM
      | succ n ih =>
        intro x3_5 s6 s7 hM kx0
        replace hM : b_X7_pairs_26 a0 x2_4 (m_X7_pairs_26 a0 x2_4 n) x3_5 s6 = some (s7) := hM
        unfold b_X7_pairs_26 at hM
        refine x_iln C 3 rfl dX7_pairs_26 rfl ?_
        refine x_iln C 2 rfl dX7_pairs_27 rfl ?_
        refine x_ic_ge (tgt := 244) C dX7_pairs_28 (by decide) rfl (fun hc => ?_) (fun hc => ?_)
        · replace hM := gif_pos hc hM
          cases hM
          exact x_sub [0, 2] rfl (kx0)
        · replace hM := gif_neg hc hM
          refine x_aln C 0 rfl dX7_pairs_31 rfl ?_
          refine gMg_0_most C kf_X7_44 dX7_pairs_32 rfl ?_
          refine x_iln C 3 rfl dX7_pairs_35 rfl ?_
          refine x_ic (v := 0) C (by decide) dX7_pairs_36 rfl ?_
          obtain ⟨h8, hM⟩ := gck_some hM
          obtain ⟨s9, ev, hM⟩ := gnm_ex hM
          refine gMs_12 C ev h8 dX7_pairs_37 rfl ?_
          refine x_ic (v := 0) C (by decide) dX7_pairs_38 rfl ?_
          refine x_ist (lv' := [(4, .int 0), (0, .ref (ad 0)), (1, .int a0), (2, .int x2_4), (3, .int x3_5)]) C rfl (by decide) rfl dX7_pairs_39 rfl ?_
          have L41 : ∀ (n : Nat) (x4_10 : Int32) (s11 : gMem) (s12 : gMem), m_X7_pairs_41 a0 x3_5 n x4_10 s11 = some (s12) → (wx κ (gGM D ad cy b) (gA (gGM D ad cy b)) 8 s12 166 [(0, .ref (ad 0)), (1, .int a0), (2, .int x2_4), (3, .int x3_5)] []) → wx κ (gGM D ad cy b) (gA (gGM D ad cy b)) 8 s11 41 [(0, .ref (ad 0)), (1, .int a0), (2, .int x2_4), (3, .int x3_5), (4, .int x4_10)] [] := by
            clear hM
            intro n
            induction n with
            | zero => intro _ _ _ hM; cases hM
            | succ n ih =>
              intro x4_10 s11 s12 hM kx0
              replace hM : b_X7_pairs_41 a0 x3_5 (m_X7_pairs_41 a0 x3_5 n) x4_10 s11 = some (s12) := hM
              unfold b_X7_pairs_41 at hM
              refine x_il C 4 rfl dX7_pairs_41 rfl ?_
              refine x_aln C 0 rfl dX7_pairs_43 rfl ?_
              refine gMg_0_z C kf_X7_7 dX7_pairs_44 rfl ?_
              refine x_bi (v := 63) C (by decide) dX7_pairs_47 rfl ?_
              obtain ⟨h13, hM⟩ := gck_some hM
              refine gMa_1 C h13 dX7_pairs_49 rfl ?_
              refine x_ic_ge (tgt := 166) C dX7_pairs_50 (by decide) rfl (fun hc => ?_) (fun hc => ?_)
              · replace hM := gif_pos hc hM
                cases hM
                exact x_sub [0, 1, 2, 3] rfl (kx0)
              · replace hM := gif_neg hc hM
                refine x_ic (v := 0) C (by decide) dX7_pairs_53 rfl ?_
                refine x_ist (lv' := [(5, .int 0), (0, .ref (ad 0)), (1, .int a0), (2, .int x2_4), (3, .int x3_5), (4, .int x4_10)]) C rfl (by decide) rfl dX7_pairs_54 rfl ?_
                have L56 : ∀ (n : Nat) (x5_14 : Int32) (s15 : gMem) (s16 : gMem), m_X7_pairs_56 a0 x3_5 x4_10 n x5_14 s15 = some (s16) → (wx κ (gGM D ad cy b) (gA (gGM D ad cy b)) 8 s16 160 [(0, .ref (ad 0)), (1, .int a0), (2, .int x2_4), (3, .int x3_5), (4, .int x4_10)] []) → wx κ (gGM D ad cy b) (gA (gGM D ad cy b)) 8 s15 56 [(0, .ref (ad 0)), (1, .int a0), (2, .int x2_4), (3, .int x3_5), (4, .int x4_10), (5, .int x5_14)] [] := by
                  clear hM
                  intro n
                  induction n with
                  | zero => intro _ _ _ hM; cases hM
                  | succ n ih =>
                    intro x5_14 s15 s16 hM kx0
                    replace hM : b_X7_pairs_56 a0 x3_5 x4_10 (m_X7_pairs_56 a0 x3_5 x4_10 n) x5_14 s15 = some (s16) := hM
                    unfold b_X7_pairs_56 at hM
                    refine x_il C 5 rfl dX7_pairs_56 rfl ?_
                    refine x_il C 4 rfl dX7_pairs_58 rfl ?_
                    refine x_ic_ge (tgt := 160) C dX7_pairs_60 (by decide) rfl (fun hc => ?_) (fun hc => ?_)
                    · replace hM := gif_pos hc hM
                      cases hM
                      exact x_sub [0, 1, 2, 3, 4] rfl (kx0)
                    · replace hM := gif_neg hc hM
                      refine x_ic (v := 1) C (by decide) dX7_pairs_63 rfl ?_
                      refine x_il C 4 rfl dX7_pairs_64 rfl ?_
                      refine x_ishl C dX7_pairs_66 rfl ?_
                      refine x_ic (v := 1) C (by decide) dX7_pairs_67 rfl ?_
                      refine x_il C 5 rfl dX7_pairs_68 rfl ?_
                      refine x_ishl C dX7_pairs_70 rfl ?_
                      refine x_ior C dX7_pairs_71 rfl ?_
                      obtain ⟨x6_17, ev, hM⟩ := gnm_ex hM
                      refine x_ist (lv' := [(6, .int x6_17), (0, .ref (ad 0)), (1, .int a0), (2, .int x2_4), (3, .int x3_5), (4, .int x4_10), (5, .int x5_14)]) C ev (by decide) rfl dX7_pairs_72 rfl ?_
                      refine x_aln C 1 rfl dX7_pairs_74 rfl ?_
                      refine x_il C 5 rfl dX7_pairs_75 rfl ?_
                      refine x_ic (v := 2) C (by decide) dX7_pairs_77 rfl ?_
                      obtain ⟨r19, h18, hM⟩ := gb1_some hM
                      refine x_cvi (As := [.int x4_10, .int 2]) (rest := []) C E.2.2.2.2.2 2 (c_X7_of hG h18) (gBv km_X7_228 kin_X7_of ksel_X7_of kini_X7 kc_X7_of) rfl rfl rfl ⟨rfl, by decide +kernel, by decide +kernel, by decide +kernel⟩ ⟨Nat.le_of_ble_eq_true rfl, Nat.le_of_ble_eq_true rfl⟩ (by show 0 < 14; decide) rfl rfl rfl rfl (Nat.le_of_ble_eq_true rfl) dX7_pairs_78 rfl ?_
                      refine x_aln C 1 rfl dX7_pairs_81 rfl ?_
                      refine x_il C 6 rfl dX7_pairs_82 rfl ?_
                      refine x_ic (v := 2) C (by decide) dX7_pairs_84 rfl ?_
                      obtain ⟨r21, h20, hM⟩ := gb1_some hM
                      refine x_cvi (As := [.int x5_14, .int 2]) (rest := [.int r19]) C E.2.2.2.2.2 2 (c_X7_of hG h20) (gBv km_X7_228 kin_X7_of ksel_X7_of kini_X7 kc_X7_of) rfl rfl rfl ⟨rfl, by decide +kernel, by decide +kernel, by decide +kernel⟩ ⟨Nat.le_of_ble_eq_true rfl, Nat.le_of_ble_eq_true rfl⟩ (by show 0 < 14; decide) rfl rfl rfl rfl (Nat.le_of_ble_eq_true rfl) dX7_pairs_85 rfl ?_
                      refine x_isub C dX7_pairs_88 rfl ?_
                      obtain ⟨x7_22, ev, hM⟩ := gnm_ex hM
                      refine x_ist (lv' := [(7, .int x7_22), (6, .int x6_17), (0, .ref (ad 0)), (1, .int a0), (2, .int x2_4), (3, .int x3_5), (4, .int x4_10), (5, .int x5_14)]) C ev (by decide) rfl dX7_pairs_89 rfl ?_
                      refine x_iln C 5 rfl dX7_pairs_91 rfl ?_
                      refine x_il C 1 rfl dX7_pairs_92 rfl ?_
                      refine x_iand C dX7_pairs_94 rfl ?_
                      refine x_il C 1 rfl dX7_pairs_95 rfl ?_
                      refine x_ic_ne (tgt := 154) C dX7_pairs_97 (by decide) rfl (fun hc => ?_) (fun hc => ?_)
                      · replace hM := gif_neg hc hM
                        obtain ⟨x5_23, ev, hM⟩ := gnm_ex hM
                        refine x_iinc (j := 7) (w := 1) (lv' := [(5, .int x5_23), (7, .int x7_22), (6, .int x6_17), (0, .ref (ad 0)), (1, .int a0), (2, .int x2_4), (3, .int x3_5), (4, .int x4_10)]) C rfl ev (by decide) (by decide) rfl dX7_pairs_154 rfl ?_
                        refine x_goto (tgt := 56) C dX7_pairs_157 (by decide) ?_
                        exact x_sub [3, 4, 5, 6, 7, 0] rfl (ih x5_23 s15 _ hM kx0)
                      · replace hM := gif_pos hc hM
                        refine x_il C 0 rfl dX7_pairs_100 rfl ?_
                        refine x_iln C 3 rfl dX7_pairs_102 rfl ?_
                        refine x_ic_gt (tgt := 154) C dX7_pairs_103 (by decide) rfl (fun hc => ?_) (fun hc => ?_)
                        · replace hM := gif_pos hc hM
                          obtain ⟨x5_24, ev, hM⟩ := gnm_ex hM
                          refine x_iinc (j := 7) (w := 1) (lv' := [(5, .int x5_24), (7, .int x7_22), (6, .int x6_17), (0, .ref (ad 0)), (1, .int a0), (2, .int x2_4), (3, .int x3_5), (4, .int x4_10)]) C rfl ev (by decide) (by decide) rfl dX7_pairs_154 rfl ?_
                          refine x_goto (tgt := 56) C dX7_pairs_157 (by decide) ?_
                          exact x_sub [3, 4, 5, 6, 7, 0] rfl (ih x5_24 s15 _ hM kx0)
                        · replace hM := gif_neg hc hM
                          refine x_il C 0 rfl dX7_pairs_106 rfl ?_
                          refine x_ineg C dX7_pairs_108 rfl ?_
                          refine x_iln C 3 rfl dX7_pairs_109 rfl ?_
                          refine x_ic_gt (tgt := 154) C dX7_pairs_110 (by decide) rfl (fun hc => ?_) (fun hc => ?_)
                          · replace hM := gif_pos hc hM
                            obtain ⟨x5_25, ev, hM⟩ := gnm_ex hM
                            refine x_iinc (j := 7) (w := 1) (lv' := [(5, .int x5_25), (7, .int x7_22), (6, .int x6_17), (0, .ref (ad 0)), (1, .int a0), (2, .int x2_4), (3, .int x3_5), (4, .int x4_10)]) C rfl ev (by decide) (by decide) rfl dX7_pairs_154 rfl ?_
                            refine x_goto (tgt := 56) C dX7_pairs_157 (by decide) ?_
                            exact x_sub [3, 4, 5, 6, 7, 0] rfl (ih x5_25 s15 _ hM kx0)
                          · replace hM := gif_neg hc hM
                            refine x_aln C 2 rfl dX7_pairs_113 rfl ?_
                            refine gMg_0_most C kf_X7_44 dX7_pairs_114 rfl ?_
                            refine x_iln C 5 rfl dX7_pairs_117 rfl ?_
                            refine x_il C 1 rfl dX7_pairs_118 rfl ?_
                            refine x_ic (v := (-1)) C (by decide) dX7_pairs_120 rfl ?_
                            refine x_ixor C dX7_pairs_121 rfl ?_
                            refine x_iand C dX7_pairs_122 rfl ?_
                            obtain ⟨h26, hM⟩ := gck_some hM
                            refine gMa_12 C h26 dX7_pairs_123 rfl ?_
                            refine x_ic (v := 1) C (by decide) dX7_pairs_124 rfl ?_
                            refine x_iadd C dX7_pairs_125 rfl ?_
                            refine x_aln C 2 rfl dX7_pairs_126 rfl ?_
                            refine gMg_0_most C kf_X7_44 dX7_pairs_127 rfl ?_
                            refine x_iln C 5 rfl dX7_pairs_130 rfl ?_
                            obtain ⟨h27, hM⟩ := gck_some hM
                            refine gMa_12 C h27 dX7_pairs_131 rfl ?_
                            refine x_ic_le (tgt := 154) C dX7_pairs_132 (by decide) rfl (fun hc => ?_) (fun hc => ?_)
                            · replace hM := gif_pos hc hM
                              obtain ⟨x5_28, ev, hM⟩ := gnm_ex hM
                              refine x_iinc (j := 7) (w := 1) (lv' := [(5, .int x5_28), (7, .int x7_22), (6, .int x6_17), (0, .ref (ad 0)), (1, .int a0), (2, .int x2_4), (3, .int x3_5), (4, .int x4_10)]) C rfl ev (by decide) (by decide) rfl dX7_pairs_154 rfl ?_
                              refine x_goto (tgt := 56) C dX7_pairs_157 (by decide) ?_
                              exact x_sub [3, 4, 5, 6, 7, 0] rfl (ih x5_28 s15 _ hM kx0)
                            · replace hM := gif_neg hc hM
                              refine x_aln C 2 rfl dX7_pairs_135 rfl ?_
                              refine gMg_0_most C kf_X7_44 dX7_pairs_136 rfl ?_
                              refine x_iln C 5 rfl dX7_pairs_139 rfl ?_
                              refine x_aln C 2 rfl dX7_pairs_140 rfl ?_
                              refine gMg_0_most C kf_X7_44 dX7_pairs_141 rfl ?_
                              refine x_iln C 5 rfl dX7_pairs_144 rfl ?_
                              refine x_il C 1 rfl dX7_pairs_145 rfl ?_
                              refine x_ic (v := (-1)) C (by decide) dX7_pairs_147 rfl ?_
                              refine x_ixor C dX7_pairs_148 rfl ?_
                              refine x_iand C dX7_pairs_149 rfl ?_
                              obtain ⟨h29, hM⟩ := gck_some hM
                              refine gMa_12 C h29 dX7_pairs_150 rfl ?_
                              refine x_ic (v := 1) C (by decide) dX7_pairs_151 rfl ?_
                              refine x_iadd C dX7_pairs_152 rfl ?_
                              obtain ⟨h30, hM⟩ := gck_some hM
                              obtain ⟨s31, ev, hM⟩ := gnm_ex hM
                              refine gMs_12 C ev h30 dX7_pairs_153 rfl ?_
                              obtain ⟨x5_32, ev, hM⟩ := gnm_ex hM
                              refine x_iinc (j := 7) (w := 1) (lv' := [(5, .int x5_32), (7, .int x7_22), (6, .int x6_17), (0, .ref (ad 0)), (1, .int a0), (2, .int x2_4), (3, .int x3_5), (4, .int x4_10)]) C rfl ev (by decide) (by decide) rfl dX7_pairs_154 rfl ?_
                              refine x_goto (tgt := 56) C dX7_pairs_157 (by decide) ?_
                              exact x_sub [3, 4, 5, 6, 7, 0] rfl (ih x5_32 s31 _ hM kx0)
                obtain ⟨s16, hL33, hM⟩ := gb1_some hM
                refine x_sub [1, 2, 3, 4, 5, 0] rfl (L56 gFU 0 s11 _ hL33 ?_)
                clear L56
                obtain ⟨x4_34, ev, hM⟩ := gnm_ex hM
                refine x_iinc (j := 4) (w := 1) (lv' := [(4, .int x4_34), (0, .ref (ad 0)), (1, .int a0), (2, .int x2_4), (3, .int x3_5)]) C rfl ev (by decide) (by decide) rfl dX7_pairs_160 rfl ?_
                refine x_goto (tgt := 41) C dX7_pairs_163 (by decide) ?_
                exact x_sub [1, 2, 3, 4, 0] rfl (ih x4_34 s16 _ hM kx0)
          obtain ⟨s12, hL35, hM⟩ := gb1_some hM
          refine x_sub [1, 2, 3, 4, 0] rfl (L41 gFU 0 s9 _ hL35 ?_)
          clear L41
          refine x_ic (v := 0) C (by decide) dX7_pairs_166 rfl ?_
          refine x_ist (lv' := [(4, .int 0), (0, .ref (ad 0)), (1, .int a0), (2, .int x2_4), (3, .int x3_5)]) C rfl (by decide) rfl dX7_pairs_167 rfl ?_
          have L169 : ∀ (n : Nat) (x4_36 : Int32) (s37 : gMem) (s38 : gMem), m_X7_pairs_169 x3_5 n x4_36 s37 = some (s38) → (wx κ (gGM D ad cy b) (gA (gGM D ad cy b)) 8 s38 238 [(0, .ref (ad 0)), (1, .int a0), (2, .int x2_4), (3, .int x3_5)] []) → wx κ (gGM D ad cy b) (gA (gGM D ad cy b)) 8 s37 169 [(0, .ref (ad 0)), (1, .int a0), (2, .int x2_4), (3, .int x3_5), (4, .int x4_36)] [] := by
            clear hM
            intro n
            induction n with
            | zero => intro _ _ _ hM; cases hM
            | succ n ih =>
              intro x4_36 s37 s38 hM kx0
              replace hM : b_X7_pairs_169 x3_5 (m_X7_pairs_169 x3_5 n) x4_36 s37 = some (s38) := hM
              unfold b_X7_pairs_169 at hM
              refine x_il C 4 rfl dX7_pairs_169 rfl ?_
              refine x_aln C 0 rfl dX7_pairs_171 rfl ?_
              refine gMg_0_z C kf_X7_7 dX7_pairs_172 rfl ?_
              refine x_bi (v := 63) C (by decide) dX7_pairs_175 rfl ?_
              obtain ⟨h39, hM⟩ := gck_some hM
              refine gMa_1 C h39 dX7_pairs_177 rfl ?_
              refine x_ic_ge (tgt := 238) C dX7_pairs_178 (by decide) rfl (fun hc => ?_) (fun hc => ?_)
              · replace hM := gif_pos hc hM
                cases hM
                exact x_sub [0, 1, 2, 3] rfl (kx0)
              · replace hM := gif_neg hc hM
                refine x_iln C 3 rfl dX7_pairs_181 rfl ?_
                refine x_il C 4 rfl dX7_pairs_182 rfl ?_
                refine x_ishr C dX7_pairs_184 rfl ?_
                refine x_ic (v := 1) C (by decide) dX7_pairs_185 rfl ?_
                refine x_iand C dX7_pairs_186 rfl ?_
                refine x_ic (v := 1) C (by decide) dX7_pairs_187 rfl ?_
                refine x_ic_ne (tgt := 232) C dX7_pairs_188 (by decide) rfl (fun hc => ?_) (fun hc => ?_)
                · replace hM := gif_neg hc hM
                  obtain ⟨x4_40, ev, hM⟩ := gnm_ex hM
                  refine x_iinc (j := 4) (w := 1) (lv' := [(4, .int x4_40), (0, .ref (ad 0)), (1, .int a0), (2, .int x2_4), (3, .int x3_5)]) C rfl ev (by decide) (by decide) rfl dX7_pairs_232 rfl ?_
                  refine x_goto (tgt := 169) C dX7_pairs_235 (by decide) ?_
                  exact x_sub [1, 2, 3, 4, 0] rfl (ih x4_40 s37 _ hM kx0)
                · replace hM := gif_pos hc hM
                  refine x_aln C 0 rfl dX7_pairs_191 rfl ?_
                  refine gMg_0_most C kf_X7_44 dX7_pairs_192 rfl ?_
                  refine x_iln C 3 rfl dX7_pairs_195 rfl ?_
                  refine x_ic (v := 1) C (by decide) dX7_pairs_196 rfl ?_
                  refine x_il C 4 rfl dX7_pairs_197 rfl ?_
                  refine x_ishl C dX7_pairs_199 rfl ?_
                  refine x_ic (v := (-1)) C (by decide) dX7_pairs_200 rfl ?_
                  refine x_ixor C dX7_pairs_201 rfl ?_
                  refine x_iand C dX7_pairs_202 rfl ?_
                  obtain ⟨h41, hM⟩ := gck_some hM
                  refine gMa_12 C h41 dX7_pairs_203 rfl ?_
                  refine x_aln C 0 rfl dX7_pairs_204 rfl ?_
                  refine gMg_0_most C kf_X7_44 dX7_pairs_205 rfl ?_
                  refine x_iln C 3 rfl dX7_pairs_208 rfl ?_
                  obtain ⟨h42, hM⟩ := gck_some hM
                  refine gMa_12 C h42 dX7_pairs_209 rfl ?_
                  refine x_ic_le (tgt := 232) C dX7_pairs_210 (by decide) rfl (fun hc => ?_) (fun hc => ?_)
                  · replace hM := gif_pos hc hM
                    obtain ⟨x4_43, ev, hM⟩ := gnm_ex hM
                    refine x_iinc (j := 4) (w := 1) (lv' := [(4, .int x4_43), (0, .ref (ad 0)), (1, .int a0), (2, .int x2_4), (3, .int x3_5)]) C rfl ev (by decide) (by decide) rfl dX7_pairs_232 rfl ?_
                    refine x_goto (tgt := 169) C dX7_pairs_235 (by decide) ?_
                    exact x_sub [1, 2, 3, 4, 0] rfl (ih x4_43 s37 _ hM kx0)
                  · replace hM := gif_neg hc hM
                    refine x_aln C 0 rfl dX7_pairs_213 rfl ?_
                    refine gMg_0_most C kf_X7_44 dX7_pairs_214 rfl ?_
                    refine x_iln C 3 rfl dX7_pairs_217 rfl ?_
                    refine x_aln C 0 rfl dX7_pairs_218 rfl ?_
                    refine gMg_0_most C kf_X7_44 dX7_pairs_219 rfl ?_
                    refine x_iln C 3 rfl dX7_pairs_222 rfl ?_
                    refine x_ic (v := 1) C (by decide) dX7_pairs_223 rfl ?_
                    refine x_il C 4 rfl dX7_pairs_224 rfl ?_
                    refine x_ishl C dX7_pairs_226 rfl ?_
                    refine x_ic (v := (-1)) C (by decide) dX7_pairs_227 rfl ?_
                    refine x_ixor C dX7_pairs_228 rfl ?_
                    refine x_iand C dX7_pairs_229 rfl ?_
                    obtain ⟨h44, hM⟩ := gck_some hM
                    refine gMa_12 C h44 dX7_pairs_230 rfl ?_
                    obtain ⟨h45, hM⟩ := gck_some hM
                    obtain ⟨s46, ev, hM⟩ := gnm_ex hM
                    refine gMs_12 C ev h45 dX7_pairs_231 rfl ?_
                    obtain ⟨x4_47, ev, hM⟩ := gnm_ex hM
                    refine x_iinc (j := 4) (w := 1) (lv' := [(4, .int x4_47), (0, .ref (ad 0)), (1, .int a0), (2, .int x2_4), (3, .int x3_5)]) C rfl ev (by decide) (by decide) rfl dX7_pairs_232 rfl ?_
                    refine x_goto (tgt := 169) C dX7_pairs_235 (by decide) ?_
                    exact x_sub [1, 2, 3, 4, 0] rfl (ih x4_47 s46 _ hM kx0)
          obtain ⟨s38, hL48, hM⟩ := gb1_some hM
          refine x_sub [1, 2, 3, 4, 0] rfl (L169 gFU 0 s12 _ hL48 ?_)
          clear L169
          obtain ⟨x3_49, ev, hM⟩ := gnm_ex hM
          refine x_iinc (j := 3) (w := 1) (lv' := [(3, .int x3_49), (0, .ref (ad 0)), (1, .int a0), (2, .int x2_4)]) C rfl ev (by decide) (by decide) rfl dX7_pairs_238 rfl ?_
          refine x_goto (tgt := 26) C dX7_pairs_241 (by decide) ?_
          exact x_sub [1, 2, 3, 0] rfl (ih x3_49 s38 _ hM kx0)
    obtain ⟨s7, hL50, hM⟩ := gb1_some hM
    refine x_sub [2, 3, 1, 0] rfl (L26 gFU 0 σ _ hL50 ?_)
    clear L26
    refine x_aln C 0 rfl dX7_pairs_244 rfl ?_
    refine gMg_0_most C kf_X7_44 dX7_pairs_245 rfl ?_
    refine x_iln C 1 rfl dX7_pairs_248 rfl ?_
    refine x_ic (v := 1) C (by decide) dX7_pairs_249 rfl ?_
    refine x_isub C dX7_pairs_250 rfl ?_
    obtain ⟨h51, hM⟩ := gck_some hM
    refine gMa_12 C h51 dX7_pairs_251 rfl ?_
    exact x_iret C E (gs2 hM) dX7_pairs_252
  · replace hM := gif_pos hc hM
    refine x_ic (v := (-1)) C (by decide) dX7_pairs_12 rfl ?_
    exact x_iret C E (gs2 hM) dX7_pairs_13
set_option maxRecDepth 100000 in
set_option maxHeartbeats 4000000 in
theorem c_X7_isDry {l : Launch} {D : va_G} {ad : Nat → Nat} {cy : Nat → ClassId} {b : Nat} (hG : gInj (gGM D ad cy b)) {a0 : Int32} {a1 : Int32} {a2 : Int32} {σ : gMem} {r0 : Int32} (hM : m_X7_isDry a0 a1 a2 σ = some r0) : gMi l yX7_isDry (Cond.code yX7_isDry cX7_isDry 5 (some .boolean) :: gBig) { frames := 2, cells := 0, slots := 0, locals := 46 } (gGM D ad cy b) [.ref (ad 0), .int a0, .int a1, .int a2] σ r0 σ := by
  refine gIntro (own := RX7) hG (by decide +kernel) rfl rfl (Nat.le_of_ble_eq_true rfl) (lv := [(0, .ref (ad 0)), (1, .int a0), (2, .int a1), (3, .int a2)]) rfl (fun κ C E => ?_)
  unfold m_X7_isDry at hM
  refine x_ic (v := 0) C (by decide) dX7_isDry_0 rfl ?_
  refine x_ist (lv' := [(4, .int 0), (0, .ref (ad 0)), (1, .int a0), (2, .int a1), (3, .int a2)]) C rfl (by decide) rfl dX7_isDry_1 rfl ?_
  have L3 : ∀ (n : Nat) (x4_1 : Int32) (t2 : Nat), m_X7_isDry_3 a0 a1 a2 σ n x4_1 = some (t2) → (t2 = 0 → wx κ (gGM D ad cy b) (gA (gGM D ad cy b)) 5 σ 57 [] []) → (t2 = 1 → wx κ (gGM D ad cy b) (gA (gGM D ad cy b)) 5 σ 65 [] []) → wx κ (gGM D ad cy b) (gA (gGM D ad cy b)) 5 σ 3 [(0, .ref (ad 0)), (1, .int a0), (2, .int a1), (3, .int a2), (4, .int x4_1)] [] := by
    clear hM
    intro n
    induction n with
    | zero => intro _ _ hM; cases hM
    | succ n ih =>
      intro x4_1 t2 hM kx0 kx1
      replace hM : b_X7_isDry_3 a0 a1 a2 σ (m_X7_isDry_3 a0 a1 a2 σ n) x4_1 = some (t2) := hM
      unfold b_X7_isDry_3 at hM
      refine x_il C 4 rfl dX7_isDry_3 rfl ?_
      refine x_bi (v := 24) C (by decide) dX7_isDry_5 rfl ?_
      refine x_ic_ge (tgt := 65) C dX7_isDry_7 (by decide) rfl (fun hc => ?_) (fun hc => ?_)
      · replace hM := gif_pos hc hM
        cases hM
        exact x_sub [] rfl (kx1 rfl)
      · replace hM := gif_neg hc hM
        refine x_aln C 0 rfl dX7_isDry_10 rfl ?_
        refine x_aln C 0 rfl dX7_isDry_11 rfl ?_
        refine gMg_0_z C kf_X7_7 dX7_isDry_12 rfl ?_
        refine x_bi (v := 66) C (by decide) dX7_isDry_15 rfl ?_
        refine x_iln C 1 rfl dX7_isDry_17 rfl ?_
        refine x_iadd C dX7_isDry_18 rfl ?_
        obtain ⟨h3, hM⟩ := gck_some hM
        refine gMa_1 C h3 dX7_isDry_19 rfl ?_
        refine x_iln C 2 rfl dX7_isDry_20 rfl ?_
        refine x_aln C 0 rfl dX7_isDry_21 rfl ?_
        refine gMg_0_z C kf_X7_7 dX7_isDry_22 rfl ?_
        refine x_bi (v := 65) C (by decide) dX7_isDry_25 rfl ?_
        obtain ⟨h4, hM⟩ := gck_some hM
        refine gMa_1 C h4 dX7_isDry_27 rfl ?_
        refine x_aln C 0 rfl dX7_isDry_28 rfl ?_
        refine x_aln C 0 rfl dX7_isDry_29 rfl ?_
        refine gMg_0_z C kf_X7_7 dX7_isDry_30 rfl ?_
        refine x_ic (v := 0) C (by decide) dX7_isDry_33 rfl ?_
        refine x_aln C 0 rfl dX7_isDry_34 rfl ?_
        refine gMg_0_z C kf_X7_7 dX7_isDry_35 rfl ?_
        refine x_bi (v := 82) C (by decide) dX7_isDry_38 rfl ?_
        refine x_iln C 1 rfl dX7_isDry_40 rfl ?_
        refine x_iadd C dX7_isDry_41 rfl ?_
        obtain ⟨h5, hM⟩ := gck_some hM
        refine gMa_1 C h5 dX7_isDry_42 rfl ?_
        refine x_iadd C dX7_isDry_43 rfl ?_
        obtain ⟨h6, hM⟩ := gck_some hM
        refine gMa_1 C h6 dX7_isDry_44 rfl ?_
        refine x_il C 4 rfl dX7_isDry_45 rfl ?_
        refine x_iln C 3 rfl dX7_isDry_47 rfl ?_
        obtain ⟨r8, h7, hM⟩ := gb1_some hM
        refine x_cvi (As := [.int (σ 1 (0 + (σ 1 (82 + a0).toNatClampNeg)).toNatClampNeg), .int x4_1, .int a2]) (rest := [.int (σ 1 (65 : Int32).toNatClampNeg), .int a1, .int (σ 1 (66 + a0).toNatClampNeg), .ref (ad 0)]) C E.2.2.2.2.2 3 (c_X7_waterBy hG h7) (gBv km_X7_157 kin_X7_waterBy ksel_X7_waterBy kini_X7 kc_X7_waterBy) rfl rfl rfl ⟨rfl, by decide +kernel, by decide +kernel, by decide +kernel⟩ ⟨Nat.le_of_ble_eq_true rfl, Nat.le_of_ble_eq_true rfl⟩ (by show 0 < 14; decide) rfl rfl rfl rfl (Nat.le_of_ble_eq_true rfl) dX7_isDry_48 rfl ?_
        obtain ⟨r10, h9, hM⟩ := gb1_some hM
        refine x_cvi (As := [.int (σ 1 (66 + a0).toNatClampNeg), .int a1, .int (σ 1 (65 : Int32).toNatClampNeg), .int r8]) (rest := []) C E.2.2.2.2.2 4 (c_X7_standsBy hG h9) (gBv km_X7_160 kin_X7_standsBy ksel_X7_standsBy kini_X7 kc_X7_standsBy) rfl rfl rfl ⟨rfl, by decide +kernel, by decide +kernel, by decide +kernel⟩ ⟨Nat.le_of_ble_eq_true rfl, Nat.le_of_ble_eq_true rfl⟩ (by show 0 < 14; decide) rfl rfl rfl rfl (Nat.le_of_ble_eq_true rfl) dX7_isDry_51 rfl ?_
        refine x_if_ne (tgt := 59) C dX7_isDry_54 (by decide) rfl (fun hc => ?_) (fun hc => ?_)
        · replace hM := gif_neg hc hM
          obtain ⟨x4_11, ev, hM⟩ := gnm_ex hM
          refine x_iinc (j := 4) (w := 1) (lv' := [(4, .int x4_11), (0, .ref (ad 0)), (1, .int a0), (2, .int a1), (3, .int a2)]) C rfl ev (by decide) (by decide) rfl dX7_isDry_59 rfl ?_
          refine x_goto (tgt := 3) C dX7_isDry_62 (by decide) ?_
          exact x_sub [1, 2, 3, 4, 0] rfl (ih x4_11 _ hM kx0 kx1)
        · replace hM := gif_pos hc hM
          cases hM
          exact x_sub [] rfl (kx0 rfl)
  obtain ⟨t2, hL12, hM⟩ := gb1_some hM
  refine x_sub [1, 2, 3, 4, 0] rfl (L3 gFU 0 _ hL12 (fun ht => ?_) (fun ht => ?_))
  · clear L3
    replace hM := gif_pos ht hM
    refine x_ic (v := 0) C (by decide) dX7_isDry_57 rfl ?_
    exact x_zret C E (by decide) ⟨gs1 hM, rfl⟩ dX7_isDry_58
  · clear L3
    replace hM := gif_neg (by omega : ¬ t2 = 0) hM
    refine x_ic (v := 1) C (by decide) dX7_isDry_65 rfl ?_
    exact x_zret C E (by decide) ⟨gs1 hM, rfl⟩ dX7_isDry_66
set_option maxRecDepth 100000 in
set_option maxHeartbeats 4000000 in
theorem c_X7_dry {l : Launch} {D : va_G} {ad : Nat → Nat} {cy : Nat → ClassId} {b : Nat} (hG : gInj (gGM D ad cy b)) {a0 : Int32} {a1 : Int32} {a2 : Int32} {σ : gMem} {r0 : Int32} (hM : m_X7_dry a0 a1 a2 σ = some r0) : gMi l yX7_dry (Cond.code yX7_dry cX7_dry 4 (some .int) :: gBig) { frames := 3, cells := 0, slots := 0, locals := 70 } (gGM D ad cy b) [.ref (ad 0), .int a0, .int a1, .int a2] σ r0 σ := by
  refine gIntro (own := RX7) hG (by decide +kernel) rfl rfl (Nat.le_of_ble_eq_true rfl) (lv := [(0, .ref (ad 0)), (1, .int a0), (2, .int a1), (3, .int a2)]) rfl (fun κ C E => ?_)
  unfold m_X7_dry at hM
  refine x_aln C 0 rfl dX7_dry_0 rfl ?_
  refine x_iln C 1 rfl dX7_dry_1 rfl ?_
  refine x_aln C 0 rfl dX7_dry_2 rfl ?_
  refine gMg_0_z C kf_X7_7 dX7_dry_3 rfl ?_
  refine x_bi (v := 74) C (by decide) dX7_dry_6 rfl ?_
  refine x_iln C 2 rfl dX7_dry_8 rfl ?_
  refine x_iadd C dX7_dry_9 rfl ?_
  obtain ⟨h1, hM⟩ := gck_some hM
  refine gMa_1 C h1 dX7_dry_10 rfl ?_
  refine x_iln C 3 rfl dX7_dry_11 rfl ?_
  obtain ⟨r3, h2, hM⟩ := gb1_some hM
  refine x_cvi (As := [.int a0, .int (σ 1 (74 + a1).toNatClampNeg), .int a2]) (rest := []) C E.2.2.2.2.2 3 (c_X7_isDry hG h2) (gBv km_X7_231 kin_X7_isDry ksel_X7_isDry kini_X7 kc_X7_isDry) rfl rfl rfl ⟨rfl, by decide +kernel, by decide +kernel, by decide +kernel⟩ ⟨Nat.le_of_ble_eq_true rfl, Nat.le_of_ble_eq_true rfl⟩ (by show 0 < 14; decide) rfl rfl rfl rfl (Nat.le_of_ble_eq_true rfl) dX7_dry_12 rfl ?_
  refine x_if_eq (tgt := 22) C dX7_dry_15 (by decide) rfl (fun hc => ?_) (fun hc => ?_)
  · replace hM := gif_pos hc hM
    refine x_ic (v := 0) C (by decide) dX7_dry_22 rfl ?_
    exact x_iret C E ⟨gs1 hM, rfl⟩ dX7_dry_23
  · replace hM := gif_neg hc hM
    refine x_ic (v := 1) C (by decide) dX7_dry_18 rfl ?_
    refine x_goto (tgt := 23) C dX7_dry_19 (by decide) ?_
    exact x_iret C E ⟨gs1 hM, rfl⟩ dX7_dry_23
set_option maxRecDepth 100000 in
set_option maxHeartbeats 4000000 in
theorem c_X7_share {l : Launch} {D : va_G} {ad : Nat → Nat} {cy : Nat → ClassId} {b : Nat} (hG : gInj (gGM D ad cy b)) {a0 : Int32} {σ : gMem} {σ0 : gMem} (hM : m_X7_share a0 σ = some σ0) : gMv l yX7_share (Cond.code yX7_share cX7_share 7 none :: gBig) { frames := 4, cells := 0, slots := 0, locals := 93 } (gGM D ad cy b) [.ref (ad 0), .int a0] σ σ0 := by
  refine gIntro (own := RX7) hG (by decide +kernel) rfl rfl (Nat.le_of_ble_eq_true rfl) (lv := [(0, .ref (ad 0)), (1, .int a0)]) rfl (fun κ C E => ?_)
  unfold m_X7_share at hM
  refine x_aln C 0 rfl dX7_share_0 rfl ?_
  refine gMg_0_z C kf_X7_7 dX7_share_1 rfl ?_
  refine x_bi (v := 63) C (by decide) dX7_share_4 rfl ?_
  obtain ⟨h1, hM⟩ := gck_some hM
  refine gMa_1 C h1 dX7_share_6 rfl ?_
  obtain ⟨x2_2, ev, hM⟩ := gnm_ex hM
  refine x_istn (lv' := [(2, .int x2_2), (0, .ref (ad 0)), (1, .int a0)]) C rfl ev (by decide) rfl dX7_share_7 rfl ?_
  refine x_ic (v := 0) C (by decide) dX7_share_8 rfl ?_
  refine x_istn (lv' := [(3, .int 0), (2, .int x2_2), (0, .ref (ad 0)), (1, .int a0)]) C rfl rfl (by decide) rfl dX7_share_9 rfl ?_
  have L10 : ∀ (n : Nat) (x3_3 : Int32) (s4 : gMem) (s5 : gMem), m_X7_share_10 a0 x2_2 n x3_3 s4 = some (s5) → (wx κ (gGM D ad cy b) (gA (gGM D ad cy b)) 7 s5 124 [(0, .ref (ad 0)), (1, .int a0), (2, .int x2_2)] []) → wx κ (gGM D ad cy b) (gA (gGM D ad cy b)) 7 s4 10 [(0, .ref (ad 0)), (1, .int a0), (2, .int x2_2), (3, .int x3_3)] [] := by
    clear hM
    intro n
    induction n with
    | zero => intro _ _ _ hM; cases hM
    | succ n ih =>
      intro x3_3 s4 s5 hM kx0
      replace hM : b_X7_share_10 a0 x2_2 (m_X7_share_10 a0 x2_2 n) x3_3 s4 = some (s5) := hM
      unfold b_X7_share_10 at hM
      refine x_iln C 3 rfl dX7_share_10 rfl ?_
      refine x_ic (v := 1) C (by decide) dX7_share_11 rfl ?_
      refine x_iln C 2 rfl dX7_share_12 rfl ?_
      refine x_ishl C dX7_share_13 rfl ?_
      refine x_ic_ge (tgt := 124) C dX7_share_14 (by decide) rfl (fun hc => ?_) (fun hc => ?_)
      · replace hM := gif_pos hc hM
        cases hM
        exact x_sub [0, 1, 2] rfl (kx0)
      · replace hM := gif_neg hc hM
        refine x_aln C 0 rfl dX7_share_17 rfl ?_
        refine gMg_0_most C kf_X7_44 dX7_share_18 rfl ?_
        refine x_iln C 3 rfl dX7_share_21 rfl ?_
        refine x_iln C 3 rfl dX7_share_22 rfl ?_
        obtain ⟨w6, hJ30, hM⟩ := gb1_some hM
        have J1 : wx κ (gGM D ad cy b) (gA (gGM D ad cy b)) 7 s4 31 [(0, .ref (ad 0)), (1, .int a0), (2, .int x2_2), (3, .int x3_3)] [.int w6, .int x3_3, .ref (ad 12)] := by
          obtain ⟨h7, hM⟩ := gck_some hM
          obtain ⟨s8, ev, hM⟩ := gnm_ex hM
          refine gMs_12 C ev h7 dX7_share_31 rfl ?_
          refine x_iln C 2 rfl dX7_share_32 rfl ?_
          refine x_iln C 3 rfl dX7_share_33 rfl ?_
          obtain ⟨r10, h9, hM⟩ := gb1_some hM
          refine x_csi (As := [.int x3_3]) (rest := [.int x2_2]) C E.2.2.2.2.2 1 (c_X7_bits hG h9) (gBs km_X7_195 kst_X7_bits kini_X7 kc_X7_bits) rfl rfl rfl ⟨by decide +kernel, by decide +kernel, by decide +kernel⟩ ⟨Nat.le_of_ble_eq_true rfl, Nat.le_of_ble_eq_true rfl⟩ rfl rfl (Nat.le_of_ble_eq_true rfl) dX7_share_34 rfl ?_
          refine x_isub C dX7_share_37 rfl ?_
          obtain ⟨x4_11, ev, hM⟩ := gnm_ex hM
          refine x_ist (lv' := [(4, .int x4_11), (0, .ref (ad 0)), (1, .int a0), (2, .int x2_2), (3, .int x3_3)]) C ev (by decide) rfl dX7_share_38 rfl ?_
          refine x_ic (v := 0) C (by decide) dX7_share_40 rfl ?_
          refine x_ist (lv' := [(5, .int 0), (4, .int x4_11), (0, .ref (ad 0)), (1, .int a0), (2, .int x2_2), (3, .int x3_3)]) C rfl (by decide) rfl dX7_share_41 rfl ?_
          have L43 : ∀ (n : Nat) (x5_12 : Int32) (s13 : gMem) (s14 : gMem), m_X7_share_43 a0 x2_2 x3_3 x4_11 n x5_12 s13 = some (s14) → (wx κ (gGM D ad cy b) (gA (gGM D ad cy b)) 7 s14 118 [(0, .ref (ad 0)), (1, .int a0), (2, .int x2_2), (3, .int x3_3)] []) → wx κ (gGM D ad cy b) (gA (gGM D ad cy b)) 7 s13 43 [(0, .ref (ad 0)), (1, .int a0), (2, .int x2_2), (3, .int x3_3), (4, .int x4_11), (5, .int x5_12)] [] := by
            clear hM
            intro n
            induction n with
            | zero => intro _ _ _ hM; cases hM
            | succ n ih =>
              intro x5_12 s13 s14 hM kx0
              replace hM : b_X7_share_43 a0 x2_2 x3_3 x4_11 (m_X7_share_43 a0 x2_2 x3_3 x4_11 n) x5_12 s13 = some (s14) := hM
              unfold b_X7_share_43 at hM
              refine x_il C 5 rfl dX7_share_43 rfl ?_
              refine x_iln C 2 rfl dX7_share_45 rfl ?_
              refine x_ic_ge (tgt := 118) C dX7_share_46 (by decide) rfl (fun hc => ?_) (fun hc => ?_)
              · replace hM := gif_pos hc hM
                cases hM
                exact x_sub [0, 1, 2, 3] rfl (kx0)
              · replace hM := gif_neg hc hM
                refine x_iln C 3 rfl dX7_share_49 rfl ?_
                refine x_il C 5 rfl dX7_share_50 rfl ?_
                refine x_ishr C dX7_share_52 rfl ?_
                refine x_ic (v := 1) C (by decide) dX7_share_53 rfl ?_
                refine x_iand C dX7_share_54 rfl ?_
                refine x_ic (v := 1) C (by decide) dX7_share_55 rfl ?_
                refine x_ic_ne (tgt := 112) C dX7_share_56 (by decide) rfl (fun hc => ?_) (fun hc => ?_)
                · replace hM := gif_neg hc hM
                  obtain ⟨x5_15, ev, hM⟩ := gnm_ex hM
                  refine x_iinc (j := 5) (w := 1) (lv' := [(5, .int x5_15), (0, .ref (ad 0)), (1, .int a0), (2, .int x2_2), (3, .int x3_3), (4, .int x4_11)]) C rfl ev (by decide) (by decide) rfl dX7_share_112 rfl ?_
                  refine x_goto (tgt := 43) C dX7_share_115 (by decide) ?_
                  exact x_sub [1, 2, 3, 4, 5, 0] rfl (ih x5_15 s13 _ hM kx0)
                · replace hM := gif_pos hc hM
                  refine x_aln C 0 rfl dX7_share_59 rfl ?_
                  refine gMg_0_most C kf_X7_44 dX7_share_60 rfl ?_
                  refine x_iln C 3 rfl dX7_share_63 rfl ?_
                  refine x_ic (v := 1) C (by decide) dX7_share_64 rfl ?_
                  refine x_il C 5 rfl dX7_share_65 rfl ?_
                  refine x_ishl C dX7_share_67 rfl ?_
                  refine x_ic (v := (-1)) C (by decide) dX7_share_68 rfl ?_
                  refine x_ixor C dX7_share_69 rfl ?_
                  refine x_iand C dX7_share_70 rfl ?_
                  obtain ⟨h16, hM⟩ := gck_some hM
                  refine gMa_12 C h16 dX7_share_71 rfl ?_
                  refine x_aln C 0 rfl dX7_share_72 rfl ?_
                  refine x_il C 4 rfl dX7_share_73 rfl ?_
                  refine x_il C 5 rfl dX7_share_75 rfl ?_
                  refine x_iln C 1 rfl dX7_share_77 rfl ?_
                  obtain ⟨r18, h17, hM⟩ := gb1_some hM
                  refine x_cvi (As := [.int x4_11, .int x5_12, .int a0]) (rest := [.int (s13 12 (x3_3 &&& (((1 : Int32) <<< (x5_12 &&& 31)) ^^^ (-1))).toNatClampNeg)]) C E.2.2.2.2.2 3 (c_X7_dry hG h17) (gBv km_X7_234 kin_X7_dry ksel_X7_dry kini_X7 kc_X7_dry) rfl rfl rfl ⟨rfl, by decide +kernel, by decide +kernel, by decide +kernel⟩ ⟨Nat.le_of_ble_eq_true rfl, Nat.le_of_ble_eq_true rfl⟩ (by show 0 < 14; decide) rfl rfl rfl rfl (Nat.le_of_ble_eq_true rfl) dX7_share_78 rfl ?_
                  refine x_iadd C dX7_share_81 rfl ?_
                  obtain ⟨x6_19, ev, hM⟩ := gnm_ex hM
                  refine x_ist (lv' := [(6, .int x6_19), (0, .ref (ad 0)), (1, .int a0), (2, .int x2_2), (3, .int x3_3), (4, .int x4_11), (5, .int x5_12)]) C ev (by decide) rfl dX7_share_82 rfl ?_
                  refine x_aln C 1 rfl dX7_share_84 rfl ?_
                  refine gMg_0_most C kf_X7_44 dX7_share_85 rfl ?_
                  refine x_iln C 4 rfl dX7_share_88 rfl ?_
                  refine x_il C 0 rfl dX7_share_89 rfl ?_
                  refine x_aln C 1 rfl dX7_share_91 rfl ?_
                  refine gMg_0_most C kf_X7_44 dX7_share_92 rfl ?_
                  refine x_iln C 4 rfl dX7_share_95 rfl ?_
                  obtain ⟨h20, hM⟩ := gck_some hM
                  refine gMa_12 C h20 dX7_share_96 rfl ?_
                  refine x_ic_le (tgt := 105) C dX7_share_97 (by decide) rfl (fun hc => ?_) (fun hc => ?_)
                  · replace hM := gif_pos hc hM
                    refine x_aln C 1 rfl dX7_share_105 rfl ?_
                    refine gMg_0_most C kf_X7_44 dX7_share_106 rfl ?_
                    refine x_iln C 4 rfl dX7_share_109 rfl ?_
                    obtain ⟨h21, hM⟩ := gck_some hM
                    refine gMa_12 C h21 dX7_share_110 rfl ?_
                    obtain ⟨h22, hM⟩ := gck_some hM
                    obtain ⟨s23, ev, hM⟩ := gnm_ex hM
                    refine gMs_12 C ev h22 dX7_share_111 rfl ?_
                    obtain ⟨x5_24, ev, hM⟩ := gnm_ex hM
                    refine x_iinc (j := 6) (w := 1) (lv' := [(5, .int x5_24), (6, .int x6_19), (0, .ref (ad 0)), (1, .int a0), (2, .int x2_2), (3, .int x3_3), (4, .int x4_11)]) C rfl ev (by decide) (by decide) rfl dX7_share_112 rfl ?_
                    refine x_goto (tgt := 43) C dX7_share_115 (by decide) ?_
                    exact x_sub [2, 3, 4, 5, 6, 0] rfl (ih x5_24 s23 _ hM kx0)
                  · replace hM := gif_neg hc hM
                    refine x_il C 0 rfl dX7_share_100 rfl ?_
                    refine x_goto (tgt := 111) C dX7_share_102 (by decide) ?_
                    obtain ⟨h25, hM⟩ := gck_some hM
                    obtain ⟨s26, ev, hM⟩ := gnm_ex hM
                    refine gMs_12 C ev h25 dX7_share_111 rfl ?_
                    obtain ⟨x5_27, ev, hM⟩ := gnm_ex hM
                    refine x_iinc (j := 6) (w := 1) (lv' := [(5, .int x5_27), (6, .int x6_19), (0, .ref (ad 0)), (1, .int a0), (2, .int x2_2), (3, .int x3_3), (4, .int x4_11)]) C rfl ev (by decide) (by decide) rfl dX7_share_112 rfl ?_
                    refine x_goto (tgt := 43) C dX7_share_115 (by decide) ?_
                    exact x_sub [2, 3, 4, 5, 6, 0] rfl (ih x5_27 s26 _ hM kx0)
          obtain ⟨s14, hL28, hM⟩ := gb1_some hM
          refine x_sub [2, 3, 4, 5, 1, 0] rfl (L43 gFU 0 s8 _ hL28 ?_)
          clear L43
          obtain ⟨x3_29, ev, hM⟩ := gnm_ex hM
          refine x_iinc (j := 3) (w := 1) (lv' := [(3, .int x3_29), (0, .ref (ad 0)), (1, .int a0), (2, .int x2_2)]) C rfl ev (by decide) (by decide) rfl dX7_share_118 rfl ?_
          refine x_goto (tgt := 10) C dX7_share_121 (by decide) ?_
          exact x_sub [1, 2, 3, 0] rfl (ih x3_29 s14 _ hM kx0)
        clear hM
        have hM := hJ30
        clear hJ30
        refine x_if_ne (tgt := 30) C dX7_share_23 (by decide) rfl (fun hc => ?_) (fun hc => ?_)
        · replace hM := gif_neg hc hM
          refine x_ic (v := (-1)) C (by decide) dX7_share_30 rfl ?_
          cases hM
          exact x_sub [0, 1, 2, 3] rfl J1
        · replace hM := gif_pos hc hM
          refine x_ic (v := 0) C (by decide) dX7_share_26 rfl ?_
          refine x_goto (tgt := 31) C dX7_share_27 (by decide) ?_
          cases hM
          exact x_sub [0, 1, 2, 3] rfl J1
  obtain ⟨s5, hL31, hM⟩ := gb1_some hM
  refine x_sub [2, 3, 1, 0] rfl (L10 gFU 0 σ _ hL31 ?_)
  clear L10
  refine x_ic (v := 1) C (by decide) dX7_share_124 rfl ?_
  refine x_iln C 2 rfl dX7_share_125 rfl ?_
  refine x_ishl C dX7_share_126 rfl ?_
  refine x_ic (v := 1) C (by decide) dX7_share_127 rfl ?_
  refine x_isub C dX7_share_128 rfl ?_
  obtain ⟨x3_32, ev, hM⟩ := gnm_ex hM
  refine x_istn (lv' := [(3, .int x3_32), (0, .ref (ad 0)), (1, .int a0), (2, .int x2_2)]) C rfl ev (by decide) rfl dX7_share_129 rfl ?_
  refine x_ic (v := 0) C (by decide) dX7_share_130 rfl ?_
  refine x_ist (lv' := [(4, .int 0), (3, .int x3_32), (0, .ref (ad 0)), (1, .int a0), (2, .int x2_2)]) C rfl (by decide) rfl dX7_share_131 rfl ?_
  have L133 : ∀ (n : Nat) (x3_33 : Int32) (x4_34 : Int32) (s35 : gMem) (s36 : gMem), m_X7_share_133 a0 x2_2 n x3_33 x4_34 s35 = some (s36) → (wx κ (gGM D ad cy b) (gA (gGM D ad cy b)) 7 s36 213 [] []) → wx κ (gGM D ad cy b) (gA (gGM D ad cy b)) 7 s35 133 [(0, .ref (ad 0)), (1, .int a0), (2, .int x2_2), (3, .int x3_33), (4, .int x4_34)] [] := by
    clear hM
    intro n
    induction n with
    | zero => intro _ _ _ _ hM; cases hM
    | succ n ih =>
      intro x3_33 x4_34 s35 s36 hM kx0
      replace hM : b_X7_share_133 a0 x2_2 (m_X7_share_133 a0 x2_2 n) x3_33 x4_34 s35 = some (s36) := hM
      unfold b_X7_share_133 at hM
      refine x_il C 4 rfl dX7_share_133 rfl ?_
      refine x_iln C 2 rfl dX7_share_135 rfl ?_
      refine x_ic_ge (tgt := 213) C dX7_share_136 (by decide) rfl (fun hc => ?_) (fun hc => ?_)
      · replace hM := gif_pos hc hM
        cases hM
        exact x_sub [] rfl (kx0)
      · replace hM := gif_neg hc hM
        refine x_ic (v := 0) C (by decide) dX7_share_139 rfl ?_
        refine x_ist (lv' := [(5, .int 0), (0, .ref (ad 0)), (1, .int a0), (2, .int x2_2), (3, .int x3_33), (4, .int x4_34)]) C rfl (by decide) rfl dX7_share_140 rfl ?_
        have L142 : ∀ (n : Nat) (x5_37 : Int32) (x5_38 : Int32), m_X7_share_142 a0 x3_33 x4_34 s35 n x5_37 = some (x5_38) → (wx κ (gGM D ad cy b) (gA (gGM D ad cy b)) 7 s35 189 [(0, .ref (ad 0)), (1, .int a0), (2, .int x2_2), (3, .int x3_33), (4, .int x4_34), (5, .int x5_38)] []) → wx κ (gGM D ad cy b) (gA (gGM D ad cy b)) 7 s35 142 [(0, .ref (ad 0)), (1, .int a0), (2, .int x2_2), (3, .int x3_33), (4, .int x4_34), (5, .int x5_37)] [] := by
          clear hM
          intro n
          induction n with
          | zero => intro _ _ hM; cases hM
          | succ n ih =>
            intro x5_37 x5_38 hM kx0
            replace hM : b_X7_share_142 a0 x3_33 x4_34 s35 (m_X7_share_142 a0 x3_33 x4_34 s35 n) x5_37 = some (x5_38) := hM
            unfold b_X7_share_142 at hM
            refine x_iln C 3 rfl dX7_share_142 rfl ?_
            refine x_il C 5 rfl dX7_share_143 rfl ?_
            refine x_ishr C dX7_share_145 rfl ?_
            refine x_ic (v := 1) C (by decide) dX7_share_146 rfl ?_
            refine x_iand C dX7_share_147 rfl ?_
            refine x_if_eq (tgt := 183) C dX7_share_148 (by decide) rfl (fun hc => ?_) (fun hc => ?_)
            · replace hM := gif_pos hc hM
              obtain ⟨x5_39, ev, hM⟩ := gnm_ex hM
              refine x_iinc (j := 5) (w := 1) (lv' := [(5, .int x5_39), (0, .ref (ad 0)), (1, .int a0), (2, .int x2_2), (3, .int x3_33), (4, .int x4_34)]) C rfl ev (by decide) (by decide) rfl dX7_share_183 rfl ?_
              refine x_goto (tgt := 142) C dX7_share_186 (by decide) ?_
              exact x_sub [1, 2, 3, 4, 5, 0] rfl (ih x5_39 _ hM kx0)
            · replace hM := gif_neg hc hM
              refine x_aln C 0 rfl dX7_share_151 rfl ?_
              refine gMg_0_most C kf_X7_44 dX7_share_152 rfl ?_
              refine x_iln C 3 rfl dX7_share_155 rfl ?_
              refine x_ic (v := 1) C (by decide) dX7_share_156 rfl ?_
              refine x_il C 5 rfl dX7_share_157 rfl ?_
              refine x_ishl C dX7_share_159 rfl ?_
              refine x_ic (v := (-1)) C (by decide) dX7_share_160 rfl ?_
              refine x_ixor C dX7_share_161 rfl ?_
              refine x_iand C dX7_share_162 rfl ?_
              obtain ⟨h40, hM⟩ := gck_some hM
              refine gMa_12 C h40 dX7_share_163 rfl ?_
              refine x_aln C 0 rfl dX7_share_164 rfl ?_
              refine x_il C 4 rfl dX7_share_165 rfl ?_
              refine x_il C 5 rfl dX7_share_167 rfl ?_
              refine x_iln C 1 rfl dX7_share_169 rfl ?_
              obtain ⟨r42, h41, hM⟩ := gb1_some hM
              refine x_cvi (As := [.int x4_34, .int x5_37, .int a0]) (rest := [.int (s35 12 (x3_33 &&& (((1 : Int32) <<< (x5_37 &&& 31)) ^^^ (-1))).toNatClampNeg)]) C E.2.2.2.2.2 3 (c_X7_dry hG h41) (gBv km_X7_234 kin_X7_dry ksel_X7_dry kini_X7 kc_X7_dry) rfl rfl rfl ⟨rfl, by decide +kernel, by decide +kernel, by decide +kernel⟩ ⟨Nat.le_of_ble_eq_true rfl, Nat.le_of_ble_eq_true rfl⟩ (by show 0 < 14; decide) rfl rfl rfl rfl (Nat.le_of_ble_eq_true rfl) dX7_share_170 rfl ?_
              refine x_iadd C dX7_share_173 rfl ?_
              refine x_aln C 0 rfl dX7_share_174 rfl ?_
              refine gMg_0_most C kf_X7_44 dX7_share_175 rfl ?_
              refine x_iln C 3 rfl dX7_share_178 rfl ?_
              obtain ⟨h43, hM⟩ := gck_some hM
              refine gMa_12 C h43 dX7_share_179 rfl ?_
              refine x_ic_eq (tgt := 189) C dX7_share_180 (by decide) rfl (fun hc => ?_) (fun hc => ?_)
              · replace hM := gif_pos hc hM
                cases hM
                exact x_sub [0, 1, 2, 3, 4, 5] rfl (kx0)
              · replace hM := gif_neg hc hM
                obtain ⟨x5_44, ev, hM⟩ := gnm_ex hM
                refine x_iinc (j := 5) (w := 1) (lv' := [(5, .int x5_44), (0, .ref (ad 0)), (1, .int a0), (2, .int x2_2), (3, .int x3_33), (4, .int x4_34)]) C rfl ev (by decide) (by decide) rfl dX7_share_183 rfl ?_
                refine x_goto (tgt := 142) C dX7_share_186 (by decide) ?_
                exact x_sub [1, 2, 3, 4, 5, 0] rfl (ih x5_44 _ hM kx0)
        obtain ⟨x5_38, hL45, hM⟩ := gb1_some hM
        refine x_sub [1, 2, 3, 4, 5, 0] rfl (L142 gFU 0 _ hL45 ?_)
        clear L142
        refine x_aln C 0 rfl dX7_share_189 rfl ?_
        refine gMg_0_given C kf_X7_47 dX7_share_190 rfl ?_
        refine x_il C 4 rfl dX7_share_193 rfl ?_
        refine x_il C 5 rfl dX7_share_195 rfl ?_
        obtain ⟨h46, hM⟩ := gck_some hM
        obtain ⟨s47, ev, hM⟩ := gnm_ex hM
        refine gMs_13 C ev h46 dX7_share_197 rfl ?_
        refine x_iln C 3 rfl dX7_share_198 rfl ?_
        refine x_ic (v := 1) C (by decide) dX7_share_199 rfl ?_
        refine x_il C 5 rfl dX7_share_200 rfl ?_
        refine x_ishl C dX7_share_202 rfl ?_
        refine x_ic (v := (-1)) C (by decide) dX7_share_203 rfl ?_
        refine x_ixor C dX7_share_204 rfl ?_
        refine x_iand C dX7_share_205 rfl ?_
        obtain ⟨x3_48, ev, hM⟩ := gnm_ex hM
        refine x_istn (lv' := [(3, .int x3_48), (0, .ref (ad 0)), (1, .int a0), (2, .int x2_2), (4, .int x4_34), (5, .int x5_38)]) C rfl ev (by decide) rfl dX7_share_206 rfl ?_
        obtain ⟨x4_49, ev, hM⟩ := gnm_ex hM
        refine x_iinc (j := 4) (w := 1) (lv' := [(4, .int x4_49), (3, .int x3_48), (0, .ref (ad 0)), (1, .int a0), (2, .int x2_2), (5, .int x5_38)]) C rfl ev (by decide) (by decide) rfl dX7_share_207 rfl ?_
        refine x_goto (tgt := 133) C dX7_share_210 (by decide) ?_
        exact x_sub [2, 3, 4, 1, 0] rfl (ih x3_48 x4_49 s47 _ hM kx0)
  obtain ⟨s36, hL50, hM⟩ := gb1_some hM
  refine x_sub [2, 3, 4, 1, 0] rfl (L133 gFU x3_32 0 s5 _ hL50 ?_)
  clear L133
  exact x_vret C E (gs1 hM) dX7_share_213
set_option maxRecDepth 100000 in
set_option maxHeartbeats 4000000 in
theorem c_X7_flood {l : Launch} {D : va_G} {ad : Nat → Nat} {cy : Nat → ClassId} {b : Nat} (hG : gInj (gGM D ad cy b)) {a0 : Int32} {a1 : Int32} {σ : gMem} {r0 : Int32} {σ0 : gMem} (hM : m_X7_flood a0 a1 σ = some (r0, σ0)) : gMi l yX7_flood (Cond.code yX7_flood cX7_flood 5 (some .int) :: gBig) { frames := 5, cells := 0, slots := 0, locals := 119 } (gGM D ad cy b) [.ref (ad 0), .int a0, .int a1] σ r0 σ0 := by
  refine gIntro (own := RX7) hG (by decide +kernel) rfl rfl (Nat.le_of_ble_eq_true rfl) (lv := [(0, .ref (ad 0)), (1, .int a0), (2, .int a1)]) rfl (fun κ C E => ?_)
  unfold m_X7_flood at hM
  refine x_iln C 1 rfl dX7_flood_0 rfl ?_
  refine x_i2l C dX7_flood_1 rfl ?_
  refine x_lc (v := 0) C (by decide) dX7_flood_2 rfl ?_
  refine x_ldc2 (v := 40) C (gBc kk_X7_91) dX7_flood_3 rfl ?_
  obtain ⟨r2, h1, hM⟩ := gb1_some hM
  refine x_csi (As := [.long a0.toInt64, .long 0, .long 40]) (rest := []) C E.2.2.2.2.2 3 (c_X7_in hG h1) (gBs km_X7_50 kst_X7_in kini_X7 kc_X7_in) rfl rfl rfl ⟨by decide +kernel, by decide +kernel, by decide +kernel⟩ ⟨Nat.le_of_ble_eq_true rfl, Nat.le_of_ble_eq_true rfl⟩ rfl rfl (Nat.le_of_ble_eq_true rfl) dX7_flood_6 rfl ?_
  refine x_if_eq (tgt := 33) C dX7_flood_9 (by decide) rfl (fun hc => ?_) (fun hc => ?_)
  · replace hM := gif_pos hc hM
    refine x_ic (v := (-1)) C (by decide) dX7_flood_33 rfl ?_
    exact x_iret C E (gs2 hM) dX7_flood_34
  · replace hM := gif_neg hc hM
    refine x_iln C 2 rfl dX7_flood_12 rfl ?_
    refine x_i2l C dX7_flood_13 rfl ?_
    refine x_ldc2 (v := (-2)) C (gBc kk_X7_237) dX7_flood_14 rfl ?_
    refine x_aln C 0 rfl dX7_flood_17 rfl ?_
    refine gMg_0_z C kf_X7_7 dX7_flood_18 rfl ?_
    refine x_bi (v := 63) C (by decide) dX7_flood_21 rfl ?_
    obtain ⟨h3, hM⟩ := gck_some hM
    refine gMa_1 C h3 dX7_flood_23 rfl ?_
    refine x_ic (v := 1) C (by decide) dX7_flood_24 rfl ?_
    refine x_isub C dX7_flood_25 rfl ?_
    refine x_i2l C dX7_flood_26 rfl ?_
    obtain ⟨r5, h4, hM⟩ := gb1_some hM
    refine x_csi (As := [.long a1.toInt64, .long (-2), .long (((σ 1 (63 : Int32).toNatClampNeg) - 1).toInt64)]) (rest := []) C E.2.2.2.2.2 3 (c_X7_in hG h4) (gBs km_X7_50 kst_X7_in kini_X7 kc_X7_in) rfl rfl rfl ⟨by decide +kernel, by decide +kernel, by decide +kernel⟩ ⟨Nat.le_of_ble_eq_true rfl, Nat.le_of_ble_eq_true rfl⟩ rfl rfl (Nat.le_of_ble_eq_true rfl) dX7_flood_27 rfl ?_
    refine x_if_ne (tgt := 35) C dX7_flood_30 (by decide) rfl (fun hc => ?_) (fun hc => ?_)
    · replace hM := gif_neg hc hM
      refine x_iln C 2 rfl dX7_flood_35 rfl ?_
      refine x_ic (v := (-1)) C (by decide) dX7_flood_36 rfl ?_
      refine x_ic_ne (tgt := 82) C dX7_flood_37 (by decide) rfl (fun hc => ?_) (fun hc => ?_)
      · replace hM := gif_neg hc hM
        refine x_aln C 0 rfl dX7_flood_82 rfl ?_
        refine x_iln C 1 rfl dX7_flood_83 rfl ?_
        obtain ⟨s7, h6, hM⟩ := gb1_some hM
        refine x_cvv (As := [.int a0]) (rest := []) C E.2.2.2.2.2 1 (c_X7_share hG h6) (gBv km_X7_239 kin_X7_share ksel_X7_share kini_X7 kc_X7_share) rfl rfl rfl ⟨rfl, by decide +kernel, by decide +kernel, by decide +kernel⟩ ⟨Nat.le_of_ble_eq_true rfl, Nat.le_of_ble_eq_true rfl⟩ (by show 0 < 14; decide) rfl rfl rfl rfl (Nat.le_of_ble_eq_true rfl) dX7_flood_84 rfl ?_
        refine x_iln C 2 rfl dX7_flood_87 rfl ?_
        refine x_bi (v := (-2)) C (by decide) dX7_flood_88 rfl ?_
        refine x_ic_ne (tgt := 120) C dX7_flood_90 (by decide) rfl (fun hc => ?_) (fun hc => ?_)
        · replace hM := gif_neg hc hM
          refine x_aln C 0 rfl dX7_flood_120 rfl ?_
          refine gMg_0_given C kf_X7_47 dX7_flood_121 rfl ?_
          refine x_iln C 2 rfl dX7_flood_124 rfl ?_
          obtain ⟨h8, hM⟩ := gck_some hM
          refine gMa_13 C h8 dX7_flood_125 rfl ?_
          exact x_iret C E (gs2 hM) dX7_flood_126
        · replace hM := gif_pos hc hM
          refine x_aln C 0 rfl dX7_flood_93 rfl ?_
          refine gMg_0_z C kf_X7_7 dX7_flood_94 rfl ?_
          refine x_bi (v := 63) C (by decide) dX7_flood_97 rfl ?_
          obtain ⟨h9, hM⟩ := gck_some hM
          refine gMa_1 C h9 dX7_flood_99 rfl ?_
          refine x_aln C 0 rfl dX7_flood_100 rfl ?_
          refine gMg_0_most C kf_X7_44 dX7_flood_101 rfl ?_
          refine x_ic (v := 1) C (by decide) dX7_flood_104 rfl ?_
          refine x_aln C 0 rfl dX7_flood_105 rfl ?_
          refine gMg_0_z C kf_X7_7 dX7_flood_106 rfl ?_
          refine x_bi (v := 63) C (by decide) dX7_flood_109 rfl ?_
          obtain ⟨h10, hM⟩ := gck_some hM
          refine gMa_1 C h10 dX7_flood_111 rfl ?_
          refine x_ishl C dX7_flood_112 rfl ?_
          refine x_ic (v := 1) C (by decide) dX7_flood_113 rfl ?_
          refine x_isub C dX7_flood_114 rfl ?_
          obtain ⟨h11, hM⟩ := gck_some hM
          refine gMa_12 C h11 dX7_flood_115 rfl ?_
          refine x_isub C dX7_flood_116 rfl ?_
          refine x_goto (tgt := 126) C dX7_flood_117 (by decide) ?_
          exact x_iret C E (gs2 hM) dX7_flood_126
      · replace hM := gif_pos hc hM
        refine x_ic (v := 0) C (by decide) dX7_flood_40 rfl ?_
        refine x_istn (lv' := [(3, .int 0), (0, .ref (ad 0)), (1, .int a0), (2, .int a1)]) C rfl rfl (by decide) rfl dX7_flood_41 rfl ?_
        refine x_ic (v := 0) C (by decide) dX7_flood_42 rfl ?_
        refine x_ist (lv' := [(4, .int 0), (3, .int 0), (0, .ref (ad 0)), (1, .int a0), (2, .int a1)]) C rfl (by decide) rfl dX7_flood_43 rfl ?_
        have L45 : ∀ (n : Nat) (x3_12 : Int32) (x4_13 : Int32) (x3_14 : Int32), m_X7_flood_45 a0 σ n x3_12 x4_13 = some (x3_14) → (wx κ (gGM D ad cy b) (gA (gGM D ad cy b)) 5 σ 80 [(3, .int x3_14)] []) → wx κ (gGM D ad cy b) (gA (gGM D ad cy b)) 5 σ 45 [(0, .ref (ad 0)), (1, .int a0), (3, .int x3_12), (4, .int x4_13)] [] := by
          clear hM
          intro n
          induction n with
          | zero => intro _ _ _ hM; cases hM
          | succ n ih =>
            intro x3_12 x4_13 x3_14 hM kx0
            replace hM : b_X7_flood_45 a0 σ (m_X7_flood_45 a0 σ n) x3_12 x4_13 = some (x3_14) := hM
            unfold b_X7_flood_45 at hM
            refine x_il C 3 rfl dX7_flood_45 rfl ?_
            refine x_aln C 0 rfl dX7_flood_47 rfl ?_
            refine gMg_0_z C kf_X7_7 dX7_flood_48 rfl ?_
            refine x_bi (v := 63) C (by decide) dX7_flood_51 rfl ?_
            obtain ⟨h15, hM⟩ := gck_some hM
            refine gMa_1 C h15 dX7_flood_53 rfl ?_
            refine x_ic_ge (tgt := 80) C dX7_flood_54 (by decide) rfl (fun hc => ?_) (fun hc => ?_)
            · replace hM := gif_pos hc hM
              cases hM
              exact x_sub [2] rfl (kx0)
            · replace hM := gif_neg hc hM
              refine x_iln C 2 rfl dX7_flood_57 rfl ?_
              refine x_ic (v := 1) C (by decide) dX7_flood_58 rfl ?_
              refine x_aln C 0 rfl dX7_flood_59 rfl ?_
              refine x_il C 3 rfl dX7_flood_60 rfl ?_
              refine x_il C 3 rfl dX7_flood_62 rfl ?_
              refine x_iln C 1 rfl dX7_flood_64 rfl ?_
              obtain ⟨r17, h16, hM⟩ := gb1_some hM
              refine x_cvi (As := [.int x4_13, .int x4_13, .int a0]) (rest := [.int 1, .int x3_12]) C E.2.2.2.2.2 3 (c_X7_dry hG h16) (gBv km_X7_234 kin_X7_dry ksel_X7_dry kini_X7 kc_X7_dry) rfl rfl rfl ⟨rfl, by decide +kernel, by decide +kernel, by decide +kernel⟩ ⟨Nat.le_of_ble_eq_true rfl, Nat.le_of_ble_eq_true rfl⟩ (by show 0 < 14; decide) rfl rfl rfl rfl (Nat.le_of_ble_eq_true rfl) dX7_flood_65 rfl ?_
              refine x_isub C dX7_flood_68 rfl ?_
              refine x_il C 3 rfl dX7_flood_69 rfl ?_
              refine x_ishl C dX7_flood_71 rfl ?_
              refine x_ior C dX7_flood_72 rfl ?_
              obtain ⟨x3_18, ev, hM⟩ := gnm_ex hM
              refine x_istn (lv' := [(3, .int x3_18), (0, .ref (ad 0)), (1, .int a0), (4, .int x4_13)]) C rfl ev (by decide) rfl dX7_flood_73 rfl ?_
              obtain ⟨x4_19, ev, hM⟩ := gnm_ex hM
              refine x_iinc (j := 3) (w := 1) (lv' := [(4, .int x4_19), (3, .int x3_18), (0, .ref (ad 0)), (1, .int a0)]) C rfl ev (by decide) (by decide) rfl dX7_flood_74 rfl ?_
              refine x_goto (tgt := 45) C dX7_flood_77 (by decide) ?_
              exact x_sub [2, 3, 1, 0] rfl (ih x3_18 x4_19 _ hM kx0)
        obtain ⟨x3_14, hL20, hM⟩ := gb1_some hM
        refine x_sub [2, 3, 1, 0] rfl (L45 gFU 0 0 _ hL20 ?_)
        clear L45
        refine x_iln C 0 rfl dX7_flood_80 rfl ?_
        exact x_iret C E (gs2 hM) dX7_flood_81
    · replace hM := gif_pos hc hM
      refine x_ic (v := (-1)) C (by decide) dX7_flood_33 rfl ?_
      exact x_iret C E (gs2 hM) dX7_flood_34
set_option maxRecDepth 100000 in
set_option maxHeartbeats 4000000 in
theorem c_X7_carried {l : Launch} {D : va_G} {ad : Nat → Nat} {cy : Nat → ClassId} {b : Nat} (hG : gInj (gGM D ad cy b)) {a0 : Int32} {a1 : Int32} {a2 : Int32} {σ : gMem} {r0 : Int32} (hM : m_X7_carried a0 a1 a2 σ = some r0) : gMi l yX7_carried (Cond.code yX7_carried cX7_carried 8 (some .int) :: gBig) { frames := 4, cells := 0, slots := 0, locals := 93 } (gGM D ad cy b) [.ref (ad 0), .int a0, .int a1, .int a2] σ r0 σ := by
  refine gIntro (own := RX7) hG (by decide +kernel) rfl rfl (Nat.le_of_ble_eq_true rfl) (lv := [(0, .ref (ad 0)), (1, .int a0), (2, .int a1), (3, .int a2)]) rfl (fun κ C E => ?_)
  unfold m_X7_carried at hM
  refine x_aln C 0 rfl dX7_carried_0 rfl ?_
  refine x_iln C 1 rfl dX7_carried_1 rfl ?_
  obtain ⟨r2, h1, hM⟩ := gb1_some hM
  refine x_cvi (As := [.int a0]) (rest := []) C E.2.2.2.2.2 1 (c_X7_isSet hG h1) (gBv km_X7_214 kin_X7_isSet ksel_X7_isSet kini_X7 kc_X7_isSet) rfl rfl rfl ⟨rfl, by decide +kernel, by decide +kernel, by decide +kernel⟩ ⟨Nat.le_of_ble_eq_true rfl, Nat.le_of_ble_eq_true rfl⟩ (by show 0 < 14; decide) rfl rfl rfl rfl (Nat.le_of_ble_eq_true rfl) dX7_carried_2 rfl ?_
  refine x_if_eq (tgt := 23) C dX7_carried_5 (by decide) rfl (fun hc => ?_) (fun hc => ?_)
  · replace hM := gif_pos hc hM
    refine x_ic (v := (-1)) C (by decide) dX7_carried_23 rfl ?_
    exact x_iret C E ⟨gs1 hM, rfl⟩ dX7_carried_24
  · replace hM := gif_neg hc hM
    refine x_aln C 0 rfl dX7_carried_8 rfl ?_
    refine x_iln C 2 rfl dX7_carried_9 rfl ?_
    obtain ⟨r4, h3, hM⟩ := gb1_some hM
    refine x_cvi (As := [.int a1]) (rest := []) C E.2.2.2.2.2 1 (c_X7_isPlace hG h3) (gBv km_X7_70 kin_X7_isPlace ksel_X7_isPlace kini_X7 kc_X7_isPlace) rfl rfl rfl ⟨rfl, by decide +kernel, by decide +kernel, by decide +kernel⟩ ⟨Nat.le_of_ble_eq_true rfl, Nat.le_of_ble_eq_true rfl⟩ (by show 0 < 14; decide) rfl rfl rfl rfl (Nat.le_of_ble_eq_true rfl) dX7_carried_10 rfl ?_
    refine x_if_eq (tgt := 23) C dX7_carried_13 (by decide) rfl (fun hc => ?_) (fun hc => ?_)
    · replace hM := gif_pos hc hM
      refine x_ic (v := (-1)) C (by decide) dX7_carried_23 rfl ?_
      exact x_iret C E ⟨gs1 hM, rfl⟩ dX7_carried_24
    · replace hM := gif_neg hc hM
      refine x_iln C 3 rfl dX7_carried_16 rfl ?_
      obtain ⟨r6, h5, hM⟩ := gb1_some hM
      refine x_csi (As := [.int a2]) (rest := []) C E.2.2.2.2.2 1 (c_X7_isHour hG h5) (gBs km_X7_88 kst_X7_isHour kini_X7 kc_X7_isHour) rfl rfl rfl ⟨by decide +kernel, by decide +kernel, by decide +kernel⟩ ⟨Nat.le_of_ble_eq_true rfl, Nat.le_of_ble_eq_true rfl⟩ rfl rfl (Nat.le_of_ble_eq_true rfl) dX7_carried_17 rfl ?_
      refine x_if_ne (tgt := 25) C dX7_carried_20 (by decide) rfl (fun hc => ?_) (fun hc => ?_)
      · replace hM := gif_neg hc hM
        refine x_ic (v := 0) C (by decide) dX7_carried_25 rfl ?_
        refine x_ist (lv' := [(4, .int 0), (0, .ref (ad 0)), (1, .int a0), (2, .int a1), (3, .int a2)]) C rfl (by decide) rfl dX7_carried_26 rfl ?_
        refine x_ic (v := 0) C (by decide) dX7_carried_28 rfl ?_
        refine x_ist (lv' := [(5, .int 0), (4, .int 0), (0, .ref (ad 0)), (1, .int a0), (2, .int a1), (3, .int a2)]) C rfl (by decide) rfl dX7_carried_29 rfl ?_
        refine x_ic (v := 0) C (by decide) dX7_carried_31 rfl ?_
        refine x_ist (lv' := [(6, .int 0), (5, .int 0), (4, .int 0), (0, .ref (ad 0)), (1, .int a0), (2, .int a1), (3, .int a2)]) C rfl (by decide) rfl dX7_carried_32 rfl ?_
        have L34 : ∀ (n : Nat) (x4_7 : Int32) (x5_8 : Int32) (x6_9 : Int32) (x4_10 : Int32) (x5_11 : Int32), m_X7_carried_34 a0 a1 a2 σ n x4_7 x5_8 x6_9 = some (x4_10, x5_11) → (wx κ (gGM D ad cy b) (gA (gGM D ad cy b)) 8 σ 104 [(4, .int x4_10), (5, .int x5_11)] []) → wx κ (gGM D ad cy b) (gA (gGM D ad cy b)) 8 σ 34 [(0, .ref (ad 0)), (1, .int a0), (2, .int a1), (3, .int a2), (4, .int x4_7), (5, .int x5_8), (6, .int x6_9)] [] := by
          clear hM
          intro n
          induction n with
          | zero => intro _ _ _ _ _ hM; cases hM
          | succ n ih =>
            intro x4_7 x5_8 x6_9 x4_10 x5_11 hM kx0
            replace hM : b_X7_carried_34 a0 a1 a2 σ (m_X7_carried_34 a0 a1 a2 σ n) x4_7 x5_8 x6_9 = some (x4_10, x5_11) := hM
            unfold b_X7_carried_34 at hM
            refine x_il C 6 rfl dX7_carried_34 rfl ?_
            refine x_aln C 0 rfl dX7_carried_36 rfl ?_
            refine gMg_0_z C kf_X7_7 dX7_carried_37 rfl ?_
            refine x_bi (v := 63) C (by decide) dX7_carried_40 rfl ?_
            obtain ⟨h12, hM⟩ := gck_some hM
            refine gMa_1 C h12 dX7_carried_42 rfl ?_
            refine x_ic_ge (tgt := 104) C dX7_carried_43 (by decide) rfl (fun hc => ?_) (fun hc => ?_)
            · replace hM := gif_pos hc hM
              cases hM
              exact x_sub [4, 5] rfl (kx0)
            · replace hM := gif_neg hc hM
              refine x_iln C 1 rfl dX7_carried_46 rfl ?_
              refine x_il C 6 rfl dX7_carried_47 rfl ?_
              refine x_ishr C dX7_carried_49 rfl ?_
              refine x_ic (v := 1) C (by decide) dX7_carried_50 rfl ?_
              refine x_iand C dX7_carried_51 rfl ?_
              obtain ⟨x7_13, ev, hM⟩ := gnm_ex hM
              refine x_ist (lv' := [(7, .int x7_13), (0, .ref (ad 0)), (1, .int a0), (2, .int a1), (3, .int a2), (4, .int x4_7), (5, .int x5_8), (6, .int x6_9)]) C ev (by decide) rfl dX7_carried_52 rfl ?_
              refine x_il C 5 rfl dX7_carried_54 rfl ?_
              refine x_aln C 1 rfl dX7_carried_56 rfl ?_
              refine x_il C 7 rfl dX7_carried_57 rfl ?_
              refine x_iln C 3 rfl dX7_carried_59 rfl ?_
              refine x_iln C 4 rfl dX7_carried_60 rfl ?_
              obtain ⟨r15, h14, hM⟩ := gb1_some hM
              refine x_cvi (As := [.int x6_9, .int a1, .int a2]) (rest := [.int x4_7]) C E.2.2.2.2.2 3 (c_X7_does hG h14) (gBv km_X7_167 kin_X7_does ksel_X7_does kini_X7 kc_X7_does) rfl rfl rfl ⟨rfl, by decide +kernel, by decide +kernel, by decide +kernel⟩ ⟨Nat.le_of_ble_eq_true rfl, Nat.le_of_ble_eq_true rfl⟩ (by show 0 < 14; decide) rfl rfl rfl rfl (Nat.le_of_ble_eq_true rfl) dX7_carried_61 rfl ?_
              obtain ⟨w16, hJ24, hM⟩ := gb1_some hM
              have J1 : wx κ (gGM D ad cy b) (gA (gGM D ad cy b)) 8 σ 73 [(0, .ref (ad 0)), (1, .int a0), (2, .int a1), (3, .int a2), (5, .int x5_8), (6, .int x6_9), (7, .int x7_13)] [.int w16, .int x4_7] := by
                refine x_iadd C dX7_carried_73 rfl ?_
                obtain ⟨x4_17, ev, hM⟩ := gnm_ex hM
                refine x_ist (lv' := [(4, .int x4_17), (0, .ref (ad 0)), (1, .int a0), (2, .int a1), (3, .int a2), (5, .int x5_8), (6, .int x6_9), (7, .int x7_13)]) C ev (by decide) rfl dX7_carried_74 rfl ?_
                refine x_il C 5 rfl dX7_carried_76 rfl ?_
                refine x_aln C 1 rfl dX7_carried_78 rfl ?_
                refine x_il C 6 rfl dX7_carried_79 rfl ?_
                refine x_iln C 3 rfl dX7_carried_81 rfl ?_
                refine x_iln C 4 rfl dX7_carried_82 rfl ?_
                obtain ⟨r19, h18, hM⟩ := gb1_some hM
                refine x_cvi (As := [.int x6_9, .int a1, .int a2]) (rest := [.int x5_8]) C E.2.2.2.2.2 3 (c_X7_does hG h18) (gBv km_X7_167 kin_X7_does ksel_X7_does kini_X7 kc_X7_does) rfl rfl rfl ⟨rfl, by decide +kernel, by decide +kernel, by decide +kernel⟩ ⟨Nat.le_of_ble_eq_true rfl, Nat.le_of_ble_eq_true rfl⟩ (by show 0 < 14; decide) rfl rfl rfl rfl (Nat.le_of_ble_eq_true rfl) dX7_carried_83 rfl ?_
                refine x_if_eq (tgt := 93) C dX7_carried_86 (by decide) rfl (fun hc => ?_) (fun hc => ?_)
                · replace hM := gif_pos hc hM
                  refine x_il C 7 rfl dX7_carried_93 rfl ?_
                  refine x_iadd C dX7_carried_95 rfl ?_
                  obtain ⟨x5_20, ev, hM⟩ := gnm_ex hM
                  refine x_ist (lv' := [(5, .int x5_20), (4, .int x4_17), (0, .ref (ad 0)), (1, .int a0), (2, .int a1), (3, .int a2), (6, .int x6_9), (7, .int x7_13)]) C ev (by decide) rfl dX7_carried_96 rfl ?_
                  obtain ⟨x6_21, ev, hM⟩ := gnm_ex hM
                  refine x_iinc (j := 6) (w := 1) (lv' := [(6, .int x6_21), (5, .int x5_20), (4, .int x4_17), (0, .ref (ad 0)), (1, .int a0), (2, .int a1), (3, .int a2), (7, .int x7_13)]) C rfl ev (by decide) (by decide) rfl dX7_carried_98 rfl ?_
                  refine x_goto (tgt := 34) C dX7_carried_101 (by decide) ?_
                  exact x_sub [3, 4, 5, 6, 2, 1, 0] rfl (ih x4_17 x5_20 x6_21 _ _ hM kx0)
                · replace hM := gif_neg hc hM
                  refine x_ic (v := 0) C (by decide) dX7_carried_89 rfl ?_
                  refine x_goto (tgt := 95) C dX7_carried_90 (by decide) ?_
                  refine x_iadd C dX7_carried_95 rfl ?_
                  obtain ⟨x5_22, ev, hM⟩ := gnm_ex hM
                  refine x_ist (lv' := [(5, .int x5_22), (4, .int x4_17), (0, .ref (ad 0)), (1, .int a0), (2, .int a1), (3, .int a2), (6, .int x6_9), (7, .int x7_13)]) C ev (by decide) rfl dX7_carried_96 rfl ?_
                  obtain ⟨x6_23, ev, hM⟩ := gnm_ex hM
                  refine x_iinc (j := 6) (w := 1) (lv' := [(6, .int x6_23), (5, .int x5_22), (4, .int x4_17), (0, .ref (ad 0)), (1, .int a0), (2, .int a1), (3, .int a2), (7, .int x7_13)]) C rfl ev (by decide) (by decide) rfl dX7_carried_98 rfl ?_
                  refine x_goto (tgt := 34) C dX7_carried_101 (by decide) ?_
                  exact x_sub [3, 4, 5, 6, 2, 1, 0] rfl (ih x4_17 x5_22 x6_23 _ _ hM kx0)
              clear hM
              have hM := hJ24
              clear hJ24
              refine x_if_eq (tgt := 72) C dX7_carried_64 (by decide) rfl (fun hc => ?_) (fun hc => ?_)
              · replace hM := gif_pos hc hM
                refine x_ic (v := 0) C (by decide) dX7_carried_72 rfl ?_
                cases hM
                exact x_sub [1, 2, 3, 4, 6, 7, 0] rfl J1
              · replace hM := gif_neg hc hM
                refine x_il C 0 rfl dX7_carried_67 rfl ?_
                refine x_goto (tgt := 73) C dX7_carried_69 (by decide) ?_
                cases hM
                exact x_sub [1, 2, 3, 4, 6, 7, 0] rfl J1
        obtain ⟨x4_10, x5_11, hL25, hM⟩ := gb2_some hM
        refine x_sub [3, 4, 5, 6, 2, 1, 0] rfl (L34 gFU 0 0 0 _ _ hL25 ?_)
        clear L34
        refine x_ic (v := 1) C (by decide) dX7_carried_104 rfl ?_
        refine x_ist (lv' := [(6, .int 1), (4, .int x4_10), (5, .int x5_11)]) C rfl (by decide) rfl dX7_carried_105 rfl ?_
        refine x_ic (v := 0) C (by decide) dX7_carried_107 rfl ?_
        refine x_ist (lv' := [(7, .int 0), (6, .int 1), (4, .int x4_10), (5, .int x5_11)]) C rfl (by decide) rfl dX7_carried_108 rfl ?_
        have L110 : ∀ (n : Nat) (x6_26 : Int32) (x7_27 : Int32) (x6_28 : Int32), m_X7_carried_110 x4_10 x5_11 n x6_26 x7_27 = some (x6_28) → (wx κ (gGM D ad cy b) (gA (gGM D ad cy b)) 8 σ 144 [(6, .int x6_28)] []) → wx κ (gGM D ad cy b) (gA (gGM D ad cy b)) 8 σ 110 [(4, .int x4_10), (5, .int x5_11), (6, .int x6_26), (7, .int x7_27)] [] := by
          clear hM
          intro n
          induction n with
          | zero => intro _ _ _ hM; cases hM
          | succ n ih =>
            intro x6_26 x7_27 x6_28 hM kx0
            replace hM : b_X7_carried_110 x4_10 x5_11 (m_X7_carried_110 x4_10 x5_11 n) x6_26 x7_27 = some (x6_28) := hM
            unfold b_X7_carried_110 at hM
            refine x_il C 3 rfl dX7_carried_110 rfl ?_
            refine x_il C 1 rfl dX7_carried_112 rfl ?_
            refine x_ic_ge (tgt := 144) C dX7_carried_114 (by decide) rfl (fun hc => ?_) (fun hc => ?_)
            · replace hM := gif_pos hc hM
              cases hM
              exact x_sub [2] rfl (kx0)
            · replace hM := gif_neg hc hM
              refine x_il C 2 rfl dX7_carried_117 rfl ?_
              refine x_il C 0 rfl dX7_carried_119 rfl ?_
              refine x_il C 3 rfl dX7_carried_121 rfl ?_
              refine x_ic_le (tgt := 134) C dX7_carried_123 (by decide) rfl (fun hc => ?_) (fun hc => ?_)
              · replace hM := gif_pos hc hM
                refine x_ic (v := 0) C (by decide) dX7_carried_134 rfl ?_
                refine x_imul C dX7_carried_135 rfl ?_
                obtain ⟨x6_29, ev, hM⟩ := gnm_ex hM
                refine x_ist (lv' := [(6, .int x6_29), (4, .int x4_10), (5, .int x5_11), (7, .int x7_27)]) C ev (by decide) rfl dX7_carried_136 rfl ?_
                obtain ⟨x7_30, ev, hM⟩ := gnm_ex hM
                refine x_iinc (j := 3) (w := 1) (lv' := [(7, .int x7_30), (6, .int x6_29), (4, .int x4_10), (5, .int x5_11)]) C rfl ev (by decide) (by decide) rfl dX7_carried_138 rfl ?_
                refine x_goto (tgt := 110) C dX7_carried_141 (by decide) ?_
                exact x_sub [2, 3, 1, 0] rfl (ih x6_29 x7_30 _ hM kx0)
              · replace hM := gif_neg hc hM
                refine x_il C 0 rfl dX7_carried_126 rfl ?_
                refine x_il C 3 rfl dX7_carried_128 rfl ?_
                refine x_isub C dX7_carried_130 rfl ?_
                refine x_goto (tgt := 135) C dX7_carried_131 (by decide) ?_
                refine x_imul C dX7_carried_135 rfl ?_
                obtain ⟨x6_31, ev, hM⟩ := gnm_ex hM
                refine x_ist (lv' := [(6, .int x6_31), (4, .int x4_10), (5, .int x5_11), (7, .int x7_27)]) C ev (by decide) rfl dX7_carried_136 rfl ?_
                obtain ⟨x7_32, ev, hM⟩ := gnm_ex hM
                refine x_iinc (j := 3) (w := 1) (lv' := [(7, .int x7_32), (6, .int x6_31), (4, .int x4_10), (5, .int x5_11)]) C rfl ev (by decide) (by decide) rfl dX7_carried_138 rfl ?_
                refine x_goto (tgt := 110) C dX7_carried_141 (by decide) ?_
                exact x_sub [2, 3, 1, 0] rfl (ih x6_31 x7_32 _ hM kx0)
        obtain ⟨x6_28, hL33, hM⟩ := gb1_some hM
        refine x_sub [2, 3, 1, 0] rfl (L110 gFU 1 0 _ hL33 ?_)
        clear L110
        refine x_il C 0 rfl dX7_carried_144 rfl ?_
        exact x_iret C E ⟨gs1 hM, rfl⟩ dX7_carried_146
      · replace hM := gif_pos hc hM
        refine x_ic (v := (-1)) C (by decide) dX7_carried_23 rfl ?_
        exact x_iret C E ⟨gs1 hM, rfl⟩ dX7_carried_24
set_option maxRecDepth 100000 in
set_option maxHeartbeats 4000000 in
theorem c_X7_wrong {l : Launch} {D : va_G} {ad : Nat → Nat} {cy : Nat → ClassId} {b : Nat} (hG : gInj (gGM D ad cy b)) {a0 : Int32} {a1 : Int32} {σ : gMem} {r0 : Int32} (hM : m_X7_wrong a0 a1 σ = some r0) : gMi l yX7_wrong (Cond.code yX7_wrong cX7_wrong 8 (some .int) :: gBig) { frames := 4, cells := 0, slots := 0, locals := 93 } (gGM D ad cy b) [.ref (ad 0), .int a0, .int a1] σ r0 σ := by
  refine gIntro (own := RX7) hG (by decide +kernel) rfl rfl (Nat.le_of_ble_eq_true rfl) (lv := [(0, .ref (ad 0)), (1, .int a0), (2, .int a1)]) rfl (fun κ C E => ?_)
  unfold m_X7_wrong at hM
  refine x_iln C 1 rfl dX7_wrong_0 rfl ?_
  refine x_i2l C dX7_wrong_1 rfl ?_
  refine x_lc (v := 1) C (by decide) dX7_wrong_2 rfl ?_
  refine x_ldc2 (v := 30) C (gBc kk_X7_171) dX7_wrong_3 rfl ?_
  obtain ⟨r2, h1, hM⟩ := gb1_some hM
  refine x_csi (As := [.long a0.toInt64, .long 1, .long 30]) (rest := []) C E.2.2.2.2.2 3 (c_X7_in hG h1) (gBs km_X7_50 kst_X7_in kini_X7 kc_X7_in) rfl rfl rfl ⟨by decide +kernel, by decide +kernel, by decide +kernel⟩ ⟨Nat.le_of_ble_eq_true rfl, Nat.le_of_ble_eq_true rfl⟩ rfl rfl (Nat.le_of_ble_eq_true rfl) dX7_wrong_6 rfl ?_
  refine x_if_eq (tgt := 19) C dX7_wrong_9 (by decide) rfl (fun hc => ?_) (fun hc => ?_)
  · replace hM := gif_pos hc hM
    refine x_ic (v := (-1)) C (by decide) dX7_wrong_19 rfl ?_
    exact x_iret C E ⟨gs1 hM, rfl⟩ dX7_wrong_20
  · replace hM := gif_neg hc hM
    refine x_iln C 2 rfl dX7_wrong_12 rfl ?_
    obtain ⟨r4, h3, hM⟩ := gb1_some hM
    refine x_csi (As := [.int a1]) (rest := []) C E.2.2.2.2.2 1 (c_X7_isHour hG h3) (gBs km_X7_88 kst_X7_isHour kini_X7 kc_X7_isHour) rfl rfl rfl ⟨by decide +kernel, by decide +kernel, by decide +kernel⟩ ⟨Nat.le_of_ble_eq_true rfl, Nat.le_of_ble_eq_true rfl⟩ rfl rfl (Nat.le_of_ble_eq_true rfl) dX7_wrong_13 rfl ?_
    refine x_if_ne (tgt := 21) C dX7_wrong_16 (by decide) rfl (fun hc => ?_) (fun hc => ?_)
    · replace hM := gif_neg hc hM
      refine x_ic (v := 0) C (by decide) dX7_wrong_21 rfl ?_
      refine x_istn (lv' := [(3, .int 0), (0, .ref (ad 0)), (1, .int a0), (2, .int a1)]) C rfl rfl (by decide) rfl dX7_wrong_22 rfl ?_
      refine x_ic (v := 0) C (by decide) dX7_wrong_23 rfl ?_
      refine x_ist (lv' := [(4, .int 0), (3, .int 0), (0, .ref (ad 0)), (1, .int a0), (2, .int a1)]) C rfl (by decide) rfl dX7_wrong_24 rfl ?_
      have L26 : ∀ (n : Nat) (x3_5 : Int32) (x4_6 : Int32) (x3_7 : Int32), m_X7_wrong_26 a0 a1 σ n x3_5 x4_6 = some (x3_7) → (wx κ (gGM D ad cy b) (gA (gGM D ad cy b)) 8 σ 176 [(3, .int x3_7)] []) → wx κ (gGM D ad cy b) (gA (gGM D ad cy b)) 8 σ 26 [(0, .ref (ad 0)), (1, .int a0), (2, .int a1), (3, .int x3_5), (4, .int x4_6)] [] := by
        clear hM
        intro n
        induction n with
        | zero => intro _ _ _ hM; cases hM
        | succ n ih =>
          intro x3_5 x4_6 x3_7 hM kx0
          replace hM : b_X7_wrong_26 a0 a1 σ (m_X7_wrong_26 a0 a1 σ n) x3_5 x4_6 = some (x3_7) := hM
          unfold b_X7_wrong_26 at hM
          refine x_il C 4 rfl dX7_wrong_26 rfl ?_
          refine x_aln C 0 rfl dX7_wrong_28 rfl ?_
          refine gMg_0_z C kf_X7_7 dX7_wrong_29 rfl ?_
          refine x_bi (v := 63) C (by decide) dX7_wrong_32 rfl ?_
          obtain ⟨h8, hM⟩ := gck_some hM
          refine gMa_1 C h8 dX7_wrong_34 rfl ?_
          refine x_ic_ge (tgt := 176) C dX7_wrong_35 (by decide) rfl (fun hc => ?_) (fun hc => ?_)
          · replace hM := gif_pos hc hM
            cases hM
            exact x_sub [3] rfl (kx0)
          · replace hM := gif_neg hc hM
            refine x_aln C 0 rfl dX7_wrong_38 rfl ?_
            refine gMg_0_z C kf_X7_7 dX7_wrong_39 rfl ?_
            refine x_bi (v := 82) C (by decide) dX7_wrong_42 rfl ?_
            refine x_il C 4 rfl dX7_wrong_44 rfl ?_
            refine x_iadd C dX7_wrong_46 rfl ?_
            obtain ⟨h9, hM⟩ := gck_some hM
            refine gMa_1 C h9 dX7_wrong_47 rfl ?_
            obtain ⟨x5_10, ev, hM⟩ := gnm_ex hM
            refine x_ist (lv' := [(5, .int x5_10), (0, .ref (ad 0)), (1, .int a0), (2, .int a1), (3, .int x3_5), (4, .int x4_6)]) C ev (by decide) rfl dX7_wrong_48 rfl ?_
            refine x_aln C 1 rfl dX7_wrong_50 rfl ?_
            refine gMg_0_z C kf_X7_7 dX7_wrong_51 rfl ?_
            refine x_ic (v := 0) C (by decide) dX7_wrong_54 rfl ?_
            refine x_il C 0 rfl dX7_wrong_55 rfl ?_
            refine x_iadd C dX7_wrong_57 rfl ?_
            obtain ⟨h11, hM⟩ := gck_some hM
            refine gMa_1 C h11 dX7_wrong_58 rfl ?_
            obtain ⟨x6_12, ev, hM⟩ := gnm_ex hM
            refine x_ist (lv' := [(6, .int x6_12), (5, .int x5_10), (0, .ref (ad 0)), (1, .int a0), (2, .int a1), (3, .int x3_5), (4, .int x4_6)]) C ev (by decide) rfl dX7_wrong_59 rfl ?_
            refine x_ic (v := 0) C (by decide) dX7_wrong_61 rfl ?_
            refine x_ist (lv' := [(7, .int 0), (6, .int x6_12), (5, .int x5_10), (0, .ref (ad 0)), (1, .int a0), (2, .int a1), (3, .int x3_5), (4, .int x4_6)]) C rfl (by decide) rfl dX7_wrong_62 rfl ?_
            have L64 : ∀ (n : Nat) (x6_13 : Int32) (x7_14 : Int32) (x6_15 : Int32), m_X7_wrong_64 a0 x5_10 σ n x6_13 x7_14 = some (x6_15) → (wx κ (gGM D ad cy b) (gA (gGM D ad cy b)) 8 σ 93 [(0, .ref (ad 0)), (1, .int a0), (2, .int a1), (3, .int x3_5), (4, .int x4_6), (5, .int x5_10), (6, .int x6_15)] []) → wx κ (gGM D ad cy b) (gA (gGM D ad cy b)) 8 σ 64 [(0, .ref (ad 0)), (1, .int a0), (2, .int a1), (3, .int x3_5), (4, .int x4_6), (5, .int x5_10), (6, .int x6_13), (7, .int x7_14)] [] := by
              clear hM
              intro n
              induction n with
              | zero => intro _ _ _ hM; cases hM
              | succ n ih =>
                intro x6_13 x7_14 x6_15 hM kx0
                replace hM : b_X7_wrong_64 a0 x5_10 σ (m_X7_wrong_64 a0 x5_10 σ n) x6_13 x7_14 = some (x6_15) := hM
                unfold b_X7_wrong_64 at hM
                refine x_il C 7 rfl dX7_wrong_64 rfl ?_
                refine x_iln C 1 rfl dX7_wrong_66 rfl ?_
                refine x_ic_ge (tgt := 93) C dX7_wrong_67 (by decide) rfl (fun hc => ?_) (fun hc => ?_)
                · replace hM := gif_pos hc hM
                  cases hM
                  exact x_sub [0, 1, 2, 3, 4, 5, 6] rfl (kx0)
                · replace hM := gif_neg hc hM
                  refine x_il C 6 rfl dX7_wrong_70 rfl ?_
                  refine x_aln C 0 rfl dX7_wrong_72 rfl ?_
                  refine gMg_0_z C kf_X7_7 dX7_wrong_73 rfl ?_
                  refine x_bi (v := 24) C (by decide) dX7_wrong_76 rfl ?_
                  refine x_il C 5 rfl dX7_wrong_78 rfl ?_
                  refine x_iadd C dX7_wrong_80 rfl ?_
                  obtain ⟨h16, hM⟩ := gck_some hM
                  refine gMa_1 C h16 dX7_wrong_81 rfl ?_
                  obtain ⟨r18, h17, hM⟩ := gb1_some hM
                  refine x_csi (As := [.int x6_13, .int (σ 1 (24 + x5_10).toNatClampNeg)]) (rest := []) C E.2.2.2.2.2 2 (c_X7_silted hG h17) (gBs km_X7_173 kst_X7_silted kini_X7 kc_X7_silted) rfl rfl rfl ⟨by decide +kernel, by decide +kernel, by decide +kernel⟩ ⟨Nat.le_of_ble_eq_true rfl, Nat.le_of_ble_eq_true rfl⟩ rfl rfl (Nat.le_of_ble_eq_true rfl) dX7_wrong_82 rfl ?_
                  refine x_ist (lv' := [(6, .int r18), (0, .ref (ad 0)), (1, .int a0), (2, .int a1), (3, .int x3_5), (4, .int x4_6), (5, .int x5_10), (7, .int x7_14)]) C rfl (by decide) rfl dX7_wrong_85 rfl ?_
                  obtain ⟨x7_19, ev, hM⟩ := gnm_ex hM
                  refine x_iinc (j := 7) (w := 1) (lv' := [(7, .int x7_19), (6, .int r18), (0, .ref (ad 0)), (1, .int a0), (2, .int a1), (3, .int x3_5), (4, .int x4_6), (5, .int x5_10)]) C rfl ev (by decide) (by decide) rfl dX7_wrong_87 rfl ?_
                  refine x_goto (tgt := 64) C dX7_wrong_90 (by decide) ?_
                  exact x_sub [2, 3, 4, 5, 6, 7, 1, 0] rfl (ih r18 x7_19 _ hM kx0)
            obtain ⟨x6_15, hL20, hM⟩ := gb1_some hM
            refine x_sub [3, 4, 5, 6, 7, 2, 1, 0] rfl (L64 gFU x6_12 0 _ hL20 ?_)
            clear L64
            refine x_aln C 0 rfl dX7_wrong_93 rfl ?_
            refine x_aln C 0 rfl dX7_wrong_94 rfl ?_
            refine gMg_0_z C kf_X7_7 dX7_wrong_95 rfl ?_
            refine x_bi (v := 66) C (by decide) dX7_wrong_98 rfl ?_
            refine x_il C 4 rfl dX7_wrong_100 rfl ?_
            refine x_iadd C dX7_wrong_102 rfl ?_
            obtain ⟨h21, hM⟩ := gck_some hM
            refine gMa_1 C h21 dX7_wrong_103 rfl ?_
            refine x_aln C 0 rfl dX7_wrong_104 rfl ?_
            refine gMg_0_z C kf_X7_7 dX7_wrong_105 rfl ?_
            refine x_bi (v := 74) C (by decide) dX7_wrong_108 rfl ?_
            refine x_il C 4 rfl dX7_wrong_110 rfl ?_
            refine x_iadd C dX7_wrong_112 rfl ?_
            obtain ⟨h22, hM⟩ := gck_some hM
            refine gMa_1 C h22 dX7_wrong_113 rfl ?_
            refine x_aln C 0 rfl dX7_wrong_114 rfl ?_
            refine gMg_0_z C kf_X7_7 dX7_wrong_115 rfl ?_
            refine x_bi (v := 65) C (by decide) dX7_wrong_118 rfl ?_
            obtain ⟨h23, hM⟩ := gck_some hM
            refine gMa_1 C h23 dX7_wrong_120 rfl ?_
            refine x_iln C 1 rfl dX7_wrong_121 rfl ?_
            refine x_iadd C dX7_wrong_122 rfl ?_
            refine x_aln C 0 rfl dX7_wrong_123 rfl ?_
            refine x_il C 6 rfl dX7_wrong_124 rfl ?_
            refine x_iln C 2 rfl dX7_wrong_126 rfl ?_
            refine x_aln C 0 rfl dX7_wrong_127 rfl ?_
            refine gMg_0_z C kf_X7_7 dX7_wrong_128 rfl ?_
            refine x_bi (v := 60) C (by decide) dX7_wrong_131 rfl ?_
            obtain ⟨h24, hM⟩ := gck_some hM
            refine gMa_1 C h24 dX7_wrong_133 rfl ?_
            obtain ⟨r26, h25, hM⟩ := gb1_some hM
            refine x_cvi (As := [.int x6_15, .int a1, .int (σ 1 (60 : Int32).toNatClampNeg)]) (rest := [.int ((σ 1 (65 : Int32).toNatClampNeg) + a0), .int (σ 1 (74 + x4_6).toNatClampNeg), .int (σ 1 (66 + x4_6).toNatClampNeg), .ref (ad 0)]) C E.2.2.2.2.2 3 (c_X7_waterBy hG h25) (gBv km_X7_157 kin_X7_waterBy ksel_X7_waterBy kini_X7 kc_X7_waterBy) rfl rfl rfl ⟨rfl, by decide +kernel, by decide +kernel, by decide +kernel⟩ ⟨Nat.le_of_ble_eq_true rfl, Nat.le_of_ble_eq_true rfl⟩ (by show 0 < 14; decide) rfl rfl rfl rfl (Nat.le_of_ble_eq_true rfl) dX7_wrong_134 rfl ?_
            obtain ⟨r28, h27, hM⟩ := gb1_some hM
            refine x_cvi (As := [.int (σ 1 (66 + x4_6).toNatClampNeg), .int (σ 1 (74 + x4_6).toNatClampNeg), .int ((σ 1 (65 : Int32).toNatClampNeg) + a0), .int r26]) (rest := []) C E.2.2.2.2.2 4 (c_X7_standsBy hG h27) (gBv km_X7_160 kin_X7_standsBy ksel_X7_standsBy kini_X7 kc_X7_standsBy) rfl rfl rfl ⟨rfl, by decide +kernel, by decide +kernel, by decide +kernel⟩ ⟨Nat.le_of_ble_eq_true rfl, Nat.le_of_ble_eq_true rfl⟩ (by show 0 < 14; decide) rfl rfl rfl rfl (Nat.le_of_ble_eq_true rfl) dX7_wrong_137 rfl ?_
            refine x_ist (lv' := [(7, .int r28), (0, .ref (ad 0)), (1, .int a0), (2, .int a1), (3, .int x3_5), (4, .int x4_6), (5, .int x5_10), (6, .int x6_15)]) C rfl (by decide) rfl dX7_wrong_140 rfl ?_
            refine x_iln C 4 rfl dX7_wrong_142 rfl ?_
            refine x_aln C 1 rfl dX7_wrong_143 rfl ?_
            refine x_il C 5 rfl dX7_wrong_144 rfl ?_
            refine x_il C 6 rfl dX7_wrong_146 rfl ?_
            refine x_iln C 3 rfl dX7_wrong_148 rfl ?_
            obtain ⟨r30, h29, hM⟩ := gb1_some hM
            refine x_cvi (As := [.int x4_6, .int x5_10, .int a1]) (rest := [.int x3_5]) C E.2.2.2.2.2 3 (c_X7_does hG h29) (gBv km_X7_167 kin_X7_does ksel_X7_does kini_X7 kc_X7_does) rfl rfl rfl ⟨rfl, by decide +kernel, by decide +kernel, by decide +kernel⟩ ⟨Nat.le_of_ble_eq_true rfl, Nat.le_of_ble_eq_true rfl⟩ (by show 0 < 14; decide) rfl rfl rfl rfl (Nat.le_of_ble_eq_true rfl) dX7_wrong_149 rfl ?_
            refine x_if_eq (tgt := 167) C dX7_wrong_152 (by decide) rfl (fun hc => ?_) (fun hc => ?_)
            · replace hM := gif_pos hc hM
              refine x_ic (v := 0) C (by decide) dX7_wrong_167 rfl ?_
              refine x_ior C dX7_wrong_168 rfl ?_
              obtain ⟨x3_31, ev, hM⟩ := gnm_ex hM
              refine x_istn (lv' := [(3, .int x3_31), (7, .int r28), (0, .ref (ad 0)), (1, .int a0), (2, .int a1), (4, .int x4_6), (5, .int x5_10), (6, .int x6_15)]) C rfl ev (by decide) rfl dX7_wrong_169 rfl ?_
              obtain ⟨x4_32, ev, hM⟩ := gnm_ex hM
              refine x_iinc (j := 5) (w := 1) (lv' := [(4, .int x4_32), (3, .int x3_31), (7, .int r28), (0, .ref (ad 0)), (1, .int a0), (2, .int a1), (5, .int x5_10), (6, .int x6_15)]) C rfl ev (by decide) (by decide) rfl dX7_wrong_170 rfl ?_
              refine x_goto (tgt := 26) C dX7_wrong_173 (by decide) ?_
              exact x_sub [3, 4, 5, 1, 0] rfl (ih x3_31 x4_32 _ hM kx0)
            · replace hM := gif_neg hc hM
              refine x_il C 0 rfl dX7_wrong_155 rfl ?_
              refine x_if_ne (tgt := 167) C dX7_wrong_157 (by decide) rfl (fun hc => ?_) (fun hc => ?_)
              · replace hM := gif_neg hc hM
                refine x_ic (v := 0) C (by decide) dX7_wrong_167 rfl ?_
                refine x_ior C dX7_wrong_168 rfl ?_
                obtain ⟨x3_33, ev, hM⟩ := gnm_ex hM
                refine x_istn (lv' := [(3, .int x3_33), (7, .int r28), (0, .ref (ad 0)), (1, .int a0), (2, .int a1), (4, .int x4_6), (5, .int x5_10), (6, .int x6_15)]) C rfl ev (by decide) rfl dX7_wrong_169 rfl ?_
                obtain ⟨x4_34, ev, hM⟩ := gnm_ex hM
                refine x_iinc (j := 5) (w := 1) (lv' := [(4, .int x4_34), (3, .int x3_33), (7, .int r28), (0, .ref (ad 0)), (1, .int a0), (2, .int a1), (5, .int x5_10), (6, .int x6_15)]) C rfl ev (by decide) (by decide) rfl dX7_wrong_170 rfl ?_
                refine x_goto (tgt := 26) C dX7_wrong_173 (by decide) ?_
                exact x_sub [3, 4, 5, 1, 0] rfl (ih x3_33 x4_34 _ hM kx0)
              · replace hM := gif_pos hc hM
                refine x_ic (v := 1) C (by decide) dX7_wrong_160 rfl ?_
                refine x_il C 5 rfl dX7_wrong_161 rfl ?_
                refine x_ishl C dX7_wrong_163 rfl ?_
                refine x_goto (tgt := 168) C dX7_wrong_164 (by decide) ?_
                refine x_ior C dX7_wrong_168 rfl ?_
                obtain ⟨x3_35, ev, hM⟩ := gnm_ex hM
                refine x_istn (lv' := [(3, .int x3_35), (7, .int r28), (0, .ref (ad 0)), (1, .int a0), (2, .int a1), (4, .int x4_6), (5, .int x5_10), (6, .int x6_15)]) C rfl ev (by decide) rfl dX7_wrong_169 rfl ?_
                obtain ⟨x4_36, ev, hM⟩ := gnm_ex hM
                refine x_iinc (j := 5) (w := 1) (lv' := [(4, .int x4_36), (3, .int x3_35), (7, .int r28), (0, .ref (ad 0)), (1, .int a0), (2, .int a1), (5, .int x5_10), (6, .int x6_15)]) C rfl ev (by decide) (by decide) rfl dX7_wrong_170 rfl ?_
                refine x_goto (tgt := 26) C dX7_wrong_173 (by decide) ?_
                exact x_sub [3, 4, 5, 1, 0] rfl (ih x3_35 x4_36 _ hM kx0)
      obtain ⟨x3_7, hL37, hM⟩ := gb1_some hM
      refine x_sub [2, 3, 4, 1, 0] rfl (L26 gFU 0 0 _ hL37 ?_)
      clear L26
      refine x_iln C 0 rfl dX7_wrong_176 rfl ?_
      exact x_iret C E ⟨gs1 hM, rfl⟩ dX7_wrong_177
    · replace hM := gif_pos hc hM
      refine x_ic (v := (-1)) C (by decide) dX7_wrong_19 rfl ?_
      exact x_iret C E ⟨gs1 hM, rfl⟩ dX7_wrong_20
set_option maxRecDepth 100000 in
set_option maxHeartbeats 4000000 in
theorem c_X7_clear {l : Launch} {D : va_G} {ad : Nat → Nat} {cy : Nat → ClassId} {b : Nat} (hG : gInj (gGM D ad cy b))  {σ : gMem} {r0 : Int32} {σ0 : gMem} (hM : m_X7_clear  σ = some (r0, σ0)) : gMi l yX7_clear (Cond.code yX7_clear cX7_clear 2 (some .int) :: gBig) { frames := 0, cells := 0, slots := 0, locals := 0 } (gGM D ad cy b) [.ref (ad 0)] σ r0 σ0 := by
  refine gIntro (own := RX7) hG (by decide +kernel) rfl rfl (Nat.le_of_ble_eq_true rfl) (lv := [(0, .ref (ad 0))]) rfl (fun κ C E => ?_)
  unfold m_X7_clear at hM
  refine x_aln C 0 rfl dX7_clear_0 rfl ?_
  refine gMg_0_z C kf_X7_7 dX7_clear_1 rfl ?_
  refine x_bi (v := 63) C (by decide) dX7_clear_4 rfl ?_
  obtain ⟨h1, hM⟩ := gck_some hM
  refine gMa_1 C h1 dX7_clear_6 rfl ?_
  obtain ⟨x1_2, ev, hM⟩ := gnm_ex hM
  refine x_istn (lv' := [(1, .int x1_2), (0, .ref (ad 0))]) C rfl ev (by decide) rfl dX7_clear_7 rfl ?_
  refine x_aln C 1 rfl dX7_clear_8 rfl ?_
  refine gMg_0_z C kf_X7_7 dX7_clear_9 rfl ?_
  refine x_bi (v := 63) C (by decide) dX7_clear_12 rfl ?_
  refine x_ic (v := 0) C (by decide) dX7_clear_14 rfl ?_
  obtain ⟨h3, hM⟩ := gck_some hM
  obtain ⟨s4, ev, hM⟩ := gnm_ex hM
  refine gMs_1 C ev h3 dX7_clear_15 rfl ?_
  refine x_aln C 1 rfl dX7_clear_16 rfl ?_
  refine gMg_0_z C kf_X7_7 dX7_clear_17 rfl ?_
  refine x_bi (v := 64) C (by decide) dX7_clear_20 rfl ?_
  refine x_ic (v := 0) C (by decide) dX7_clear_22 rfl ?_
  obtain ⟨h5, hM⟩ := gck_some hM
  obtain ⟨s6, ev, hM⟩ := gnm_ex hM
  refine gMs_1 C ev h5 dX7_clear_23 rfl ?_
  refine x_iln C 0 rfl dX7_clear_24 rfl ?_
  exact x_iret C E (gs2 hM) dX7_clear_25
set_option maxRecDepth 100000 in
set_option maxHeartbeats 4000000 in
theorem c_X7_image {l : Launch} {D : va_G} {ad : Nat → Nat} {cy : Nat → ClassId} {b : Nat} (hG : gInj (gGM D ad cy b))  {σ : gMem} {r0 : Int32} {σ0 : gMem} (hM : m_X7_image  σ = some (r0, σ0)) : gMi l yX7_image (Cond.code yX7_image cX7_image 2 (some .int) :: gBig) { frames := 0, cells := 0, slots := 0, locals := 0 } (gGM D ad cy b) [.ref (ad 0)] σ r0 σ0 := by
  refine gIntro (own := RX7) hG (by decide +kernel) rfl rfl (Nat.le_of_ble_eq_true rfl) (lv := [(0, .ref (ad 0))]) rfl (fun κ C E => ?_)
  unfold m_X7_image at hM
  refine x_ic (v := 0) C (by decide) dX7_image_0 rfl ?_
  refine x_istn (lv' := [(1, .int 0), (0, .ref (ad 0))]) C rfl rfl (by decide) rfl dX7_image_1 rfl ?_
  have L2 : ∀ (n : Nat) (x1_1 : Int32) (s2 : gMem) (s3 : gMem), m_X7_image_2 n x1_1 s2 = some (s3) → (wx κ (gGM D ad cy b) (gA (gGM D ad cy b)) 2 s3 31 [(0, .ref (ad 0))] []) → wx κ (gGM D ad cy b) (gA (gGM D ad cy b)) 2 s2 2 [(0, .ref (ad 0)), (1, .int x1_1)] [] := by
    clear hM
    intro n
    induction n with
    | zero => intro _ _ _ hM; cases hM
    | succ n ih =>
      intro x1_1 s2 s3 hM kx0
      replace hM : b_X7_image_2 (m_X7_image_2 n) x1_1 s2 = some (s3) := hM
      unfold b_X7_image_2 at hM
      refine x_iln C 1 rfl dX7_image_2 rfl ?_
      refine x_si (v := 264) C (by decide) dX7_image_3 rfl ?_
      refine x_ic_ge (tgt := 31) C dX7_image_6 (by decide) rfl (fun hc => ?_) (fun hc => ?_)
      · replace hM := gif_pos hc hM
        cases hM
        exact x_sub [0] rfl (kx0)
      · replace hM := gif_neg hc hM
        refine x_aln C 0 rfl dX7_image_9 rfl ?_
        refine gMg_0_z C kf_X7_7 dX7_image_10 rfl ?_
        refine x_si (v := 264) C (by decide) dX7_image_13 rfl ?_
        refine x_iln C 1 rfl dX7_image_16 rfl ?_
        refine x_iadd C dX7_image_17 rfl ?_
        refine x_aln C 0 rfl dX7_image_18 rfl ?_
        refine gMg_0_z C kf_X7_7 dX7_image_19 rfl ?_
        refine x_iln C 1 rfl dX7_image_22 rfl ?_
        obtain ⟨h4, hM⟩ := gck_some hM
        refine gMa_1 C h4 dX7_image_23 rfl ?_
        obtain ⟨h5, hM⟩ := gck_some hM
        obtain ⟨s6, ev, hM⟩ := gnm_ex hM
        refine gMs_1 C ev h5 dX7_image_24 rfl ?_
        obtain ⟨x1_7, ev, hM⟩ := gnm_ex hM
        refine x_iinc (j := 1) (w := 1) (lv' := [(1, .int x1_7), (0, .ref (ad 0))]) C rfl ev (by decide) (by decide) rfl dX7_image_25 rfl ?_
        refine x_goto (tgt := 2) C dX7_image_28 (by decide) ?_
        exact x_sub [1, 0] rfl (ih x1_7 s6 _ hM kx0)
  obtain ⟨s3, hL8, hM⟩ := gb1_some hM
  refine x_sub [1, 0] rfl (L2 gFU 0 σ _ hL8 ?_)
  clear L2
  refine x_aln C 0 rfl dX7_image_31 rfl ?_
  refine x_ic (v := 1) C (by decide) dX7_image_32 rfl ?_
  obtain ⟨s9, ev, hM⟩ := gnm_ex hM
  refine gMp_0_isKept C ev rfl rfl kf_X7_242 dX7_image_33 rfl ?_
  refine x_ic (v := 1) C (by decide) dX7_image_36 rfl ?_
  exact x_iret C E (gs2 hM) dX7_image_37
set_option maxRecDepth 100000 in
set_option maxHeartbeats 4000000 in
theorem c_X7_restore {l : Launch} {D : va_G} {ad : Nat → Nat} {cy : Nat → ClassId} {b : Nat} (hG : gInj (gGM D ad cy b))  {σ : gMem} {r0 : Int32} {σ0 : gMem} (hM : m_X7_restore  σ = some (r0, σ0)) : gMi l yX7_restore (Cond.code yX7_restore cX7_restore 2 (some .int) :: gBig) { frames := 0, cells := 0, slots := 0, locals := 0 } (gGM D ad cy b) [.ref (ad 0)] σ r0 σ0 := by
  refine gIntro (own := RX7) hG (by decide +kernel) rfl rfl (Nat.le_of_ble_eq_true rfl) (lv := [(0, .ref (ad 0))]) rfl (fun κ C E => ?_)
  unfold m_X7_restore at hM
  refine x_aln C 0 rfl dX7_restore_0 rfl ?_
  refine gMg_0_isKept C kf_X7_242 dX7_restore_1 rfl ?_
  refine x_if_ne (tgt := 10) C dX7_restore_4 (by decide) rfl (fun hc => ?_) (fun hc => ?_)
  · replace hM := gif_neg hc hM
    refine x_ic (v := 0) C (by decide) dX7_restore_10 rfl ?_
    refine x_istn (lv' := [(1, .int 0), (0, .ref (ad 0))]) C rfl rfl (by decide) rfl dX7_restore_11 rfl ?_
    have L12 : ∀ (n : Nat) (x1_1 : Int32) (s2 : gMem) (s3 : gMem), m_X7_restore_12 n x1_1 s2 = some (s3) → (wx κ (gGM D ad cy b) (gA (gGM D ad cy b)) 2 s3 41 [] []) → wx κ (gGM D ad cy b) (gA (gGM D ad cy b)) 2 s2 12 [(0, .ref (ad 0)), (1, .int x1_1)] [] := by
      clear hM
      intro n
      induction n with
      | zero => intro _ _ _ hM; cases hM
      | succ n ih =>
        intro x1_1 s2 s3 hM kx0
        replace hM : b_X7_restore_12 (m_X7_restore_12 n) x1_1 s2 = some (s3) := hM
        unfold b_X7_restore_12 at hM
        refine x_iln C 1 rfl dX7_restore_12 rfl ?_
        refine x_si (v := 264) C (by decide) dX7_restore_13 rfl ?_
        refine x_ic_ge (tgt := 41) C dX7_restore_16 (by decide) rfl (fun hc => ?_) (fun hc => ?_)
        · replace hM := gif_pos hc hM
          cases hM
          exact x_sub [] rfl (kx0)
        · replace hM := gif_neg hc hM
          refine x_aln C 0 rfl dX7_restore_19 rfl ?_
          refine gMg_0_z C kf_X7_7 dX7_restore_20 rfl ?_
          refine x_iln C 1 rfl dX7_restore_23 rfl ?_
          refine x_aln C 0 rfl dX7_restore_24 rfl ?_
          refine gMg_0_z C kf_X7_7 dX7_restore_25 rfl ?_
          refine x_si (v := 264) C (by decide) dX7_restore_28 rfl ?_
          refine x_iln C 1 rfl dX7_restore_31 rfl ?_
          refine x_iadd C dX7_restore_32 rfl ?_
          obtain ⟨h4, hM⟩ := gck_some hM
          refine gMa_1 C h4 dX7_restore_33 rfl ?_
          obtain ⟨h5, hM⟩ := gck_some hM
          obtain ⟨s6, ev, hM⟩ := gnm_ex hM
          refine gMs_1 C ev h5 dX7_restore_34 rfl ?_
          obtain ⟨x1_7, ev, hM⟩ := gnm_ex hM
          refine x_iinc (j := 1) (w := 1) (lv' := [(1, .int x1_7), (0, .ref (ad 0))]) C rfl ev (by decide) (by decide) rfl dX7_restore_35 rfl ?_
          refine x_goto (tgt := 12) C dX7_restore_38 (by decide) ?_
          exact x_sub [1, 0] rfl (ih x1_7 s6 _ hM kx0)
    obtain ⟨s3, hL8, hM⟩ := gb1_some hM
    refine x_sub [1, 0] rfl (L12 gFU 0 σ _ hL8 ?_)
    clear L12
    refine x_ic (v := 1) C (by decide) dX7_restore_41 rfl ?_
    exact x_iret C E (gs2 hM) dX7_restore_42
  · replace hM := gif_pos hc hM
    refine x_bi (v := (-4)) C (by decide) dX7_restore_7 rfl ?_
    exact x_iret C E (gs2 hM) dX7_restore_9
set_option maxRecDepth 100000 in
set_option maxHeartbeats 4000000 in
theorem c_X7_isSheet {l : Launch} {D : va_G} {ad : Nat → Nat} {cy : Nat → ClassId} {b : Nat} (hG : gInj (gGM D ad cy b)) {a0 : Int32} {σ : gMem} {r0 : Int32} (hM : m_X7_isSheet a0 σ = some r0) : gMi l yX7_isSheet (Cond.code yX7_isSheet cX7_isSheet 1 (some .boolean) :: gBig) { frames := 1, cells := 0, slots := 0, locals := 25 } (gGM D ad cy b) [.int a0] σ r0 σ := by
  refine gIntro (own := RX7) hG (by decide +kernel) rfl rfl (Nat.le_of_ble_eq_true rfl) (lv := [(0, .int a0)]) rfl (fun κ C E => ?_)
  unfold m_X7_isSheet at hM
  refine x_iln C 0 rfl dX7_isSheet_0 rfl ?_
  refine x_i2l C dX7_isSheet_1 rfl ?_
  refine x_lc (v := 0) C (by decide) dX7_isSheet_2 rfl ?_
  refine x_ldc2 (v := 3) C (gBc kk_X7_93) dX7_isSheet_3 rfl ?_
  obtain ⟨r2, h1, hM⟩ := gb1_some hM
  refine x_csi (As := [.long a0.toInt64, .long 0, .long 3]) (rest := []) C E.2.2.2.2.2 3 (c_X7_in hG h1) (gBs km_X7_50 kst_X7_in kini_X7 kc_X7_in) rfl rfl rfl ⟨by decide +kernel, by decide +kernel, by decide +kernel⟩ ⟨Nat.le_of_ble_eq_true rfl, Nat.le_of_ble_eq_true rfl⟩ rfl rfl (Nat.le_of_ble_eq_true rfl) dX7_isSheet_6 rfl ?_
  obtain ⟨h3, hM⟩ := gck_some hM
  exact x_zret C E h3 ⟨gs1 hM, rfl⟩ dX7_isSheet_9
set_option maxRecDepth 100000 in
set_option maxHeartbeats 4000000 in
theorem c_X7_isLane {l : Launch} {D : va_G} {ad : Nat → Nat} {cy : Nat → ClassId} {b : Nat} (hG : gInj (gGM D ad cy b)) {a0 : Int32} {σ : gMem} {r0 : Int32} (hM : m_X7_isLane a0 σ = some r0) : gMi l yX7_isLane (Cond.code yX7_isLane cX7_isLane 1 (some .boolean) :: gBig) { frames := 1, cells := 0, slots := 0, locals := 25 } (gGM D ad cy b) [.int a0] σ r0 σ := by
  refine gIntro (own := RX7) hG (by decide +kernel) rfl rfl (Nat.le_of_ble_eq_true rfl) (lv := [(0, .int a0)]) rfl (fun κ C E => ?_)
  unfold m_X7_isLane at hM
  refine x_iln C 0 rfl dX7_isLane_0 rfl ?_
  refine x_i2l C dX7_isLane_1 rfl ?_
  refine x_lc (v := 0) C (by decide) dX7_isLane_2 rfl ?_
  refine x_ldc2 (v := 2) C (gBc kk_X7_226) dX7_isLane_3 rfl ?_
  obtain ⟨r2, h1, hM⟩ := gb1_some hM
  refine x_csi (As := [.long a0.toInt64, .long 0, .long 2]) (rest := []) C E.2.2.2.2.2 3 (c_X7_in hG h1) (gBs km_X7_50 kst_X7_in kini_X7 kc_X7_in) rfl rfl rfl ⟨by decide +kernel, by decide +kernel, by decide +kernel⟩ ⟨Nat.le_of_ble_eq_true rfl, Nat.le_of_ble_eq_true rfl⟩ rfl rfl (Nat.le_of_ble_eq_true rfl) dX7_isLane_6 rfl ?_
  obtain ⟨h3, hM⟩ := gck_some hM
  exact x_zret C E h3 ⟨gs1 hM, rfl⟩ dX7_isLane_9
set_option maxRecDepth 100000 in
set_option maxHeartbeats 4000000 in
theorem c_X7_tides {l : Launch} {D : va_G} {ad : Nat → Nat} {cy : Nat → ClassId} {b : Nat} (hG : gInj (gGM D ad cy b)) {a0 : Int32} {a1 : Int32} {σ : gMem} {r0 : Int32} {σ0 : gMem} (hM : m_X7_tides a0 a1 σ = some (r0, σ0)) : gMi l yX7_tides (Cond.code yX7_tides cX7_tides 4 (some .int) :: gBig) { frames := 2, cells := 0, slots := 0, locals := 45 } (gGM D ad cy b) [.ref (ad 0), .int a0, .int a1] σ r0 σ0 := by
  refine gIntro (own := RX7) hG (by decide +kernel) rfl rfl (Nat.le_of_ble_eq_true rfl) (lv := [(0, .ref (ad 0)), (1, .int a0), (2, .int a1)]) rfl (fun κ C E => ?_)
  unfold m_X7_tides at hM
  refine x_iln C 1 rfl dX7_tides_0 rfl ?_
  obtain ⟨r2, h1, hM⟩ := gb1_some hM
  refine x_csi (As := [.int a0]) (rest := []) C E.2.2.2.2.2 1 (c_X7_isSheet hG h1) (gBs km_X7_246 kst_X7_isSheet kini_X7 kc_X7_isSheet) rfl rfl rfl ⟨by decide +kernel, by decide +kernel, by decide +kernel⟩ ⟨Nat.le_of_ble_eq_true rfl, Nat.le_of_ble_eq_true rfl⟩ rfl rfl (Nat.le_of_ble_eq_true rfl) dX7_tides_1 rfl ?_
  refine x_if_eq (tgt := 14) C dX7_tides_4 (by decide) rfl (fun hc => ?_) (fun hc => ?_)
  · replace hM := gif_pos hc hM
    refine x_ic (v := (-1)) C (by decide) dX7_tides_14 rfl ?_
    exact x_iret C E (gs2 hM) dX7_tides_15
  · replace hM := gif_neg hc hM
    refine x_iln C 2 rfl dX7_tides_7 rfl ?_
    obtain ⟨r4, h3, hM⟩ := gb1_some hM
    refine x_csi (As := [.int a1]) (rest := []) C E.2.2.2.2.2 1 (c_X7_isLane hG h3) (gBs km_X7_249 kst_X7_isLane kini_X7 kc_X7_isLane) rfl rfl rfl ⟨by decide +kernel, by decide +kernel, by decide +kernel⟩ ⟨Nat.le_of_ble_eq_true rfl, Nat.le_of_ble_eq_true rfl⟩ rfl rfl (Nat.le_of_ble_eq_true rfl) dX7_tides_8 rfl ?_
    refine x_if_ne (tgt := 16) C dX7_tides_11 (by decide) rfl (fun hc => ?_) (fun hc => ?_)
    · replace hM := gif_neg hc hM
      refine x_aln C 0 rfl dX7_tides_16 rfl ?_
      refine gMg_0_lanes C kf_X7_22 dX7_tides_17 rfl ?_
      refine x_iln C 1 rfl dX7_tides_20 rfl ?_
      obtain ⟨h5, hM⟩ := gck_some hM
      refine gMa_5 C h5 dX7_tides_21 rfl ?_
      refine x_if_lt (tgt := 35) C dX7_tides_22 (by decide) rfl (fun hc => ?_) (fun hc => ?_)
      · replace hM := gif_pos hc hM
        refine x_aln C 0 rfl dX7_tides_35 rfl ?_
        refine gMg_0_lanes C kf_X7_22 dX7_tides_36 rfl ?_
        refine x_iln C 1 rfl dX7_tides_39 rfl ?_
        obtain ⟨h6, hM⟩ := gck_some hM
        refine gMa_5 C h6 dX7_tides_40 rfl ?_
        refine x_if_ge (tgt := 49) C dX7_tides_41 (by decide) rfl (fun hc => ?_) (fun hc => ?_)
        · replace hM := gif_pos hc hM
          refine x_bi (v := (-12)) C (by decide) dX7_tides_49 rfl ?_
          exact x_iret C E (gs2 hM) dX7_tides_51
        · replace hM := gif_neg hc hM
          refine x_bi (v := (-11)) C (by decide) dX7_tides_44 rfl ?_
          refine x_goto (tgt := 51) C dX7_tides_46 (by decide) ?_
          exact x_iret C E (gs2 hM) dX7_tides_51
      · replace hM := gif_neg hc hM
        refine x_aln C 0 rfl dX7_tides_25 rfl ?_
        refine gMg_0_lanes C kf_X7_22 dX7_tides_26 rfl ?_
        refine x_iln C 1 rfl dX7_tides_29 rfl ?_
        obtain ⟨h7, hM⟩ := gck_some hM
        refine gMa_5 C h7 dX7_tides_30 rfl ?_
        refine x_iln C 2 rfl dX7_tides_31 rfl ?_
        refine x_ic_eq (tgt := 52) C dX7_tides_32 (by decide) rfl (fun hc => ?_) (fun hc => ?_)
        · replace hM := gif_pos hc hM
          refine x_aln C 0 rfl dX7_tides_52 rfl ?_
          refine gMg_0_sizes C kf_X7_25 dX7_tides_53 rfl ?_
          refine x_iln C 1 rfl dX7_tides_56 rfl ?_
          obtain ⟨h8, hM⟩ := gck_some hM
          refine gMa_6 C h8 dX7_tides_57 rfl ?_
          refine x_bi (v := 24) C (by decide) dX7_tides_58 rfl ?_
          refine x_ic_ge (tgt := 66) C dX7_tides_60 (by decide) rfl (fun hc => ?_) (fun hc => ?_)
          · replace hM := gif_pos hc hM
            refine x_ic (v := 0) C (by decide) dX7_tides_66 rfl ?_
            refine x_istn (lv' := [(3, .int 0), (0, .ref (ad 0)), (1, .int a0), (2, .int a1)]) C rfl rfl (by decide) rfl dX7_tides_67 rfl ?_
            have L68 : ∀ (n : Nat) (x3_9 : Int32) (t10 : Nat), m_X7_tides_68 a0 σ n x3_9 = some (t10) → (t10 = 0 → wx κ (gGM D ad cy b) (gA (gGM D ad cy b)) 4 σ 98 [] []) → (t10 = 1 → wx κ (gGM D ad cy b) (gA (gGM D ad cy b)) 4 σ 107 [(0, .ref (ad 0)), (1, .int a0)] []) → wx κ (gGM D ad cy b) (gA (gGM D ad cy b)) 4 σ 68 [(0, .ref (ad 0)), (1, .int a0), (3, .int x3_9)] [] := by
              clear hM
              intro n
              induction n with
              | zero => intro _ _ hM; cases hM
              | succ n ih =>
                intro x3_9 t10 hM kx0 kx1
                replace hM : b_X7_tides_68 a0 σ (m_X7_tides_68 a0 σ n) x3_9 = some (t10) := hM
                unfold b_X7_tides_68 at hM
                refine x_iln C 2 rfl dX7_tides_68 rfl ?_
                refine x_bi (v := 24) C (by decide) dX7_tides_69 rfl ?_
                refine x_ic_ge (tgt := 107) C dX7_tides_71 (by decide) rfl (fun hc => ?_) (fun hc => ?_)
                · replace hM := gif_pos hc hM
                  cases hM
                  exact x_sub [0, 1] rfl (kx1 rfl)
                · replace hM := gif_neg hc hM
                  refine x_aln C 0 rfl dX7_tides_74 rfl ?_
                  refine gMg_0_items C kf_X7_19 dX7_tides_75 rfl ?_
                  refine x_bi (v := 24) C (by decide) dX7_tides_78 rfl ?_
                  refine x_iln C 1 rfl dX7_tides_80 rfl ?_
                  refine x_imul C dX7_tides_81 rfl ?_
                  refine x_iln C 2 rfl dX7_tides_82 rfl ?_
                  refine x_iadd C dX7_tides_83 rfl ?_
                  obtain ⟨h11, hM⟩ := gck_some hM
                  refine gMa_4 C h11 dX7_tides_84 rfl ?_
                  refine x_i2l C dX7_tides_85 rfl ?_
                  refine x_ldc2 (v := (-20)) C (gBc kk_X7_56) dX7_tides_86 rfl ?_
                  refine x_ldc2 (v := 20) C (gBc kk_X7_64) dX7_tides_89 rfl ?_
                  obtain ⟨r13, h12, hM⟩ := gb1_some hM
                  refine x_csi (As := [.long ((σ 4 ((24 * a0) + x3_9).toNatClampNeg).toInt64), .long (-20), .long 20]) (rest := []) C E.2.2.2.2.2 3 (c_X7_in hG h12) (gBs km_X7_50 kst_X7_in kini_X7 kc_X7_in) rfl rfl rfl ⟨by decide +kernel, by decide +kernel, by decide +kernel⟩ ⟨Nat.le_of_ble_eq_true rfl, Nat.le_of_ble_eq_true rfl⟩ rfl rfl (Nat.le_of_ble_eq_true rfl) dX7_tides_92 rfl ?_
                  refine x_if_ne (tgt := 101) C dX7_tides_95 (by decide) rfl (fun hc => ?_) (fun hc => ?_)
                  · replace hM := gif_neg hc hM
                    obtain ⟨x3_14, ev, hM⟩ := gnm_ex hM
                    refine x_iinc (j := 2) (w := 1) (lv' := [(3, .int x3_14), (0, .ref (ad 0)), (1, .int a0)]) C rfl ev (by decide) (by decide) rfl dX7_tides_101 rfl ?_
                    refine x_goto (tgt := 68) C dX7_tides_104 (by decide) ?_
                    exact x_sub [1, 2, 0] rfl (ih x3_14 _ hM kx0 kx1)
                  · replace hM := gif_pos hc hM
                    cases hM
                    exact x_sub [] rfl (kx0 rfl)
            obtain ⟨t10, hL15, hM⟩ := gb1_some hM
            refine x_sub [1, 2, 0] rfl (L68 gFU 0 _ hL15 (fun ht => ?_) (fun ht => ?_))
            · clear L68
              replace hM := gif_pos ht hM
              refine x_bi (v := (-2)) C (by decide) dX7_tides_98 rfl ?_
              exact x_iret C E (gs2 hM) dX7_tides_100
            · clear L68
              replace hM := gif_neg (by omega : ¬ t10 = 0) hM
              refine x_ic (v := 0) C (by decide) dX7_tides_107 rfl ?_
              refine x_istn (lv' := [(3, .int 0), (0, .ref (ad 0)), (1, .int a0)]) C rfl rfl (by decide) rfl dX7_tides_108 rfl ?_
              have L109 : ∀ (n : Nat) (x3_16 : Int32) (s17 : gMem) (s18 : gMem), m_X7_tides_109 a0 n x3_16 s17 = some (s18) → (wx κ (gGM D ad cy b) (gA (gGM D ad cy b)) 4 s18 141 [] []) → wx κ (gGM D ad cy b) (gA (gGM D ad cy b)) 4 s17 109 [(0, .ref (ad 0)), (1, .int a0), (3, .int x3_16)] [] := by
                clear hM
                intro n
                induction n with
                | zero => intro _ _ _ hM; cases hM
                | succ n ih =>
                  intro x3_16 s17 s18 hM kx0
                  replace hM : b_X7_tides_109 a0 (m_X7_tides_109 a0 n) x3_16 s17 = some (s18) := hM
                  unfold b_X7_tides_109 at hM
                  refine x_iln C 2 rfl dX7_tides_109 rfl ?_
                  refine x_bi (v := 24) C (by decide) dX7_tides_110 rfl ?_
                  refine x_ic_ge (tgt := 141) C dX7_tides_112 (by decide) rfl (fun hc => ?_) (fun hc => ?_)
                  · replace hM := gif_pos hc hM
                    cases hM
                    exact x_sub [] rfl (kx0)
                  · replace hM := gif_neg hc hM
                    refine x_aln C 0 rfl dX7_tides_115 rfl ?_
                    refine gMg_0_z C kf_X7_7 dX7_tides_116 rfl ?_
                    refine x_bi (v := 36) C (by decide) dX7_tides_119 rfl ?_
                    refine x_iln C 2 rfl dX7_tides_121 rfl ?_
                    refine x_iadd C dX7_tides_122 rfl ?_
                    refine x_aln C 0 rfl dX7_tides_123 rfl ?_
                    refine gMg_0_items C kf_X7_19 dX7_tides_124 rfl ?_
                    refine x_bi (v := 24) C (by decide) dX7_tides_127 rfl ?_
                    refine x_iln C 1 rfl dX7_tides_129 rfl ?_
                    refine x_imul C dX7_tides_130 rfl ?_
                    refine x_iln C 2 rfl dX7_tides_131 rfl ?_
                    refine x_iadd C dX7_tides_132 rfl ?_
                    obtain ⟨h19, hM⟩ := gck_some hM
                    refine gMa_4 C h19 dX7_tides_133 rfl ?_
                    obtain ⟨h20, hM⟩ := gck_some hM
                    obtain ⟨s21, ev, hM⟩ := gnm_ex hM
                    refine gMs_1 C ev h20 dX7_tides_134 rfl ?_
                    obtain ⟨x3_22, ev, hM⟩ := gnm_ex hM
                    refine x_iinc (j := 2) (w := 1) (lv' := [(3, .int x3_22), (0, .ref (ad 0)), (1, .int a0)]) C rfl ev (by decide) (by decide) rfl dX7_tides_135 rfl ?_
                    refine x_goto (tgt := 109) C dX7_tides_138 (by decide) ?_
                    exact x_sub [1, 2, 0] rfl (ih x3_22 s21 _ hM kx0)
              obtain ⟨s18, hL23, hM⟩ := gb1_some hM
              refine x_sub [1, 2, 0] rfl (L109 gFU 0 σ _ hL23 ?_)
              clear L109
              refine x_ic (v := 1) C (by decide) dX7_tides_141 rfl ?_
              exact x_iret C E (gs2 hM) dX7_tides_142
          · replace hM := gif_neg hc hM
            refine x_bi (v := (-13)) C (by decide) dX7_tides_63 rfl ?_
            exact x_iret C E (gs2 hM) dX7_tides_65
        · replace hM := gif_neg hc hM
          refine x_aln C 0 rfl dX7_tides_35 rfl ?_
          refine gMg_0_lanes C kf_X7_22 dX7_tides_36 rfl ?_
          refine x_iln C 1 rfl dX7_tides_39 rfl ?_
          obtain ⟨h24, hM⟩ := gck_some hM
          refine gMa_5 C h24 dX7_tides_40 rfl ?_
          refine x_if_ge (tgt := 49) C dX7_tides_41 (by decide) rfl (fun hc => ?_) (fun hc => ?_)
          · replace hM := gif_pos hc hM
            refine x_bi (v := (-12)) C (by decide) dX7_tides_49 rfl ?_
            exact x_iret C E (gs2 hM) dX7_tides_51
          · replace hM := gif_neg hc hM
            refine x_bi (v := (-11)) C (by decide) dX7_tides_44 rfl ?_
            refine x_goto (tgt := 51) C dX7_tides_46 (by decide) ?_
            exact x_iret C E (gs2 hM) dX7_tides_51
    · replace hM := gif_pos hc hM
      refine x_ic (v := (-1)) C (by decide) dX7_tides_14 rfl ?_
      exact x_iret C E (gs2 hM) dX7_tides_15
set_option maxRecDepth 100000 in
set_option maxHeartbeats 4000000 in
theorem c_X7_sheet {l : Launch} {D : va_G} {ad : Nat → Nat} {cy : Nat → ClassId} {b : Nat} (hG : gInj (gGM D ad cy b)) {a0 : Int32} {a1 : Int32} {a2 : Int32} {σ : gMem} {r0 : Int32} {σ0 : gMem} (hM : m_X7_sheet a0 a1 a2 σ = some (r0, σ0)) : gMi l yX7_sheet (Cond.code yX7_sheet cX7_sheet 5 (some .int) :: gBig) { frames := 2, cells := 0, slots := 0, locals := 45 } (gGM D ad cy b) [.ref (ad 0), .int a0, .int a1, .int a2] σ r0 σ0 := by
  refine gIntro (own := RX7) hG (by decide +kernel) rfl rfl (Nat.le_of_ble_eq_true rfl) (lv := [(0, .ref (ad 0)), (1, .int a0), (2, .int a1), (3, .int a2)]) rfl (fun κ C E => ?_)
  unfold m_X7_sheet at hM
  refine x_iln C 1 rfl dX7_sheet_0 rfl ?_
  obtain ⟨r2, h1, hM⟩ := gb1_some hM
  refine x_csi (As := [.int a0]) (rest := []) C E.2.2.2.2.2 1 (c_X7_isSheet hG h1) (gBs km_X7_246 kst_X7_isSheet kini_X7 kc_X7_isSheet) rfl rfl rfl ⟨by decide +kernel, by decide +kernel, by decide +kernel⟩ ⟨Nat.le_of_ble_eq_true rfl, Nat.le_of_ble_eq_true rfl⟩ rfl rfl (Nat.le_of_ble_eq_true rfl) dX7_sheet_1 rfl ?_
  refine x_if_eq (tgt := 20) C dX7_sheet_4 (by decide) rfl (fun hc => ?_) (fun hc => ?_)
  · replace hM := gif_pos hc hM
    refine x_ic (v := (-1)) C (by decide) dX7_sheet_20 rfl ?_
    exact x_iret C E (gs2 hM) dX7_sheet_21
  · replace hM := gif_neg hc hM
    refine x_iln C 2 rfl dX7_sheet_7 rfl ?_
    obtain ⟨r4, h3, hM⟩ := gb1_some hM
    refine x_csi (As := [.int a1]) (rest := []) C E.2.2.2.2.2 1 (c_X7_isLane hG h3) (gBs km_X7_249 kst_X7_isLane kini_X7 kc_X7_isLane) rfl rfl rfl ⟨by decide +kernel, by decide +kernel, by decide +kernel⟩ ⟨Nat.le_of_ble_eq_true rfl, Nat.le_of_ble_eq_true rfl⟩ rfl rfl (Nat.le_of_ble_eq_true rfl) dX7_sheet_8 rfl ?_
    refine x_if_eq (tgt := 20) C dX7_sheet_11 (by decide) rfl (fun hc => ?_) (fun hc => ?_)
    · replace hM := gif_pos hc hM
      refine x_ic (v := (-1)) C (by decide) dX7_sheet_20 rfl ?_
      exact x_iret C E (gs2 hM) dX7_sheet_21
    · replace hM := gif_neg hc hM
      refine x_iln C 3 rfl dX7_sheet_14 rfl ?_
      refine x_bi (v := 24) C (by decide) dX7_sheet_15 rfl ?_
      refine x_ic_le (tgt := 22) C dX7_sheet_17 (by decide) rfl (fun hc => ?_) (fun hc => ?_)
      · replace hM := gif_pos hc hM
        refine x_iln C 3 rfl dX7_sheet_22 rfl ?_
        refine x_if_ge (tgt := 29) C dX7_sheet_23 (by decide) rfl (fun hc => ?_) (fun hc => ?_)
        · replace hM := gif_pos hc hM
          refine x_aln C 0 rfl dX7_sheet_29 rfl ?_
          refine gMg_0_lanes C kf_X7_22 dX7_sheet_30 rfl ?_
          refine x_iln C 1 rfl dX7_sheet_33 rfl ?_
          refine x_iln C 2 rfl dX7_sheet_34 rfl ?_
          obtain ⟨h5, hM⟩ := gck_some hM
          obtain ⟨s6, ev, hM⟩ := gnm_ex hM
          refine gMs_5 C ev h5 dX7_sheet_35 rfl ?_
          refine x_aln C 0 rfl dX7_sheet_36 rfl ?_
          refine gMg_0_sizes C kf_X7_25 dX7_sheet_37 rfl ?_
          refine x_iln C 1 rfl dX7_sheet_40 rfl ?_
          refine x_iln C 3 rfl dX7_sheet_41 rfl ?_
          obtain ⟨h7, hM⟩ := gck_some hM
          obtain ⟨s8, ev, hM⟩ := gnm_ex hM
          refine gMs_6 C ev h7 dX7_sheet_42 rfl ?_
          refine x_ic (v := 0) C (by decide) dX7_sheet_43 rfl ?_
          refine x_ist (lv' := [(4, .int 0), (0, .ref (ad 0)), (1, .int a0), (2, .int a1), (3, .int a2)]) C rfl (by decide) rfl dX7_sheet_44 rfl ?_
          have L46 : ∀ (n : Nat) (x4_9 : Int32) (s10 : gMem) (s11 : gMem), m_X7_sheet_46 a0 a2 n x4_9 s10 = some (s11) → (wx κ (gGM D ad cy b) (gA (gGM D ad cy b)) 5 s11 71 [(3, .int a2)] []) → wx κ (gGM D ad cy b) (gA (gGM D ad cy b)) 5 s10 46 [(0, .ref (ad 0)), (1, .int a0), (3, .int a2), (4, .int x4_9)] [] := by
            clear hM
            intro n
            induction n with
            | zero => intro _ _ _ hM; cases hM
            | succ n ih =>
              intro x4_9 s10 s11 hM kx0
              replace hM : b_X7_sheet_46 a0 a2 (m_X7_sheet_46 a0 a2 n) x4_9 s10 = some (s11) := hM
              unfold b_X7_sheet_46 at hM
              refine x_il C 3 rfl dX7_sheet_46 rfl ?_
              refine x_iln C 2 rfl dX7_sheet_48 rfl ?_
              refine x_ic_ge (tgt := 71) C dX7_sheet_49 (by decide) rfl (fun hc => ?_) (fun hc => ?_)
              · replace hM := gif_pos hc hM
                cases hM
                exact x_sub [2] rfl (kx0)
              · replace hM := gif_neg hc hM
                refine x_aln C 0 rfl dX7_sheet_52 rfl ?_
                refine gMg_0_items C kf_X7_19 dX7_sheet_53 rfl ?_
                refine x_bi (v := 24) C (by decide) dX7_sheet_56 rfl ?_
                refine x_iln C 1 rfl dX7_sheet_58 rfl ?_
                refine x_imul C dX7_sheet_59 rfl ?_
                refine x_il C 3 rfl dX7_sheet_60 rfl ?_
                refine x_iadd C dX7_sheet_62 rfl ?_
                refine x_ic (v := 0) C (by decide) dX7_sheet_63 rfl ?_
                obtain ⟨h12, hM⟩ := gck_some hM
                obtain ⟨s13, ev, hM⟩ := gnm_ex hM
                refine gMs_4 C ev h12 dX7_sheet_64 rfl ?_
                obtain ⟨x4_14, ev, hM⟩ := gnm_ex hM
                refine x_iinc (j := 3) (w := 1) (lv' := [(4, .int x4_14), (0, .ref (ad 0)), (1, .int a0), (3, .int a2)]) C rfl ev (by decide) (by decide) rfl dX7_sheet_65 rfl ?_
                refine x_goto (tgt := 46) C dX7_sheet_68 (by decide) ?_
                exact x_sub [1, 2, 3, 0] rfl (ih x4_14 s13 _ hM kx0)
          obtain ⟨s11, hL15, hM⟩ := gb1_some hM
          refine x_sub [1, 2, 4, 0] rfl (L46 gFU 0 s8 _ hL15 ?_)
          clear L46
          refine x_iln C 0 rfl dX7_sheet_71 rfl ?_
          exact x_iret C E (gs2 hM) dX7_sheet_72
        · replace hM := gif_neg hc hM
          refine x_bi (v := (-14)) C (by decide) dX7_sheet_26 rfl ?_
          exact x_iret C E (gs2 hM) dX7_sheet_28
      · replace hM := gif_neg hc hM
        refine x_ic (v := (-1)) C (by decide) dX7_sheet_20 rfl ?_
        exact x_iret C E (gs2 hM) dX7_sheet_21
set_option maxRecDepth 100000 in
set_option maxHeartbeats 4000000 in
theorem c_X7_drop {l : Launch} {D : va_G} {ad : Nat → Nat} {cy : Nat → ClassId} {b : Nat} (hG : gInj (gGM D ad cy b)) {a0 : Int32} {σ : gMem} {r0 : Int32} {σ0 : gMem} (hM : m_X7_drop a0 σ = some (r0, σ0)) : gMi l yX7_drop (Cond.code yX7_drop cX7_drop 2 (some .int) :: gBig) { frames := 2, cells := 0, slots := 0, locals := 45 } (gGM D ad cy b) [.ref (ad 0), .int a0] σ r0 σ0 := by
  refine gIntro (own := RX7) hG (by decide +kernel) rfl rfl (Nat.le_of_ble_eq_true rfl) (lv := [(0, .ref (ad 0)), (1, .int a0)]) rfl (fun κ C E => ?_)
  unfold m_X7_drop at hM
  refine x_iln C 1 rfl dX7_drop_0 rfl ?_
  obtain ⟨r2, h1, hM⟩ := gb1_some hM
  refine x_csi (As := [.int a0]) (rest := []) C E.2.2.2.2.2 1 (c_X7_isSheet hG h1) (gBs km_X7_246 kst_X7_isSheet kini_X7 kc_X7_isSheet) rfl rfl rfl ⟨by decide +kernel, by decide +kernel, by decide +kernel⟩ ⟨Nat.le_of_ble_eq_true rfl, Nat.le_of_ble_eq_true rfl⟩ rfl rfl (Nat.le_of_ble_eq_true rfl) dX7_drop_1 rfl ?_
  refine x_if_ne (tgt := 9) C dX7_drop_4 (by decide) rfl (fun hc => ?_) (fun hc => ?_)
  · replace hM := gif_neg hc hM
    refine x_aln C 0 rfl dX7_drop_9 rfl ?_
    refine gMg_0_lanes C kf_X7_22 dX7_drop_10 rfl ?_
    refine x_iln C 1 rfl dX7_drop_13 rfl ?_
    obtain ⟨h3, hM⟩ := gck_some hM
    refine gMa_5 C h3 dX7_drop_14 rfl ?_
    refine x_if_ge (tgt := 21) C dX7_drop_15 (by decide) rfl (fun hc => ?_) (fun hc => ?_)
    · replace hM := gif_pos hc hM
      refine x_aln C 0 rfl dX7_drop_21 rfl ?_
      refine gMg_0_lanes C kf_X7_22 dX7_drop_22 rfl ?_
      refine x_iln C 1 rfl dX7_drop_25 rfl ?_
      refine x_ic (v := (-1)) C (by decide) dX7_drop_26 rfl ?_
      obtain ⟨h4, hM⟩ := gck_some hM
      obtain ⟨s5, ev, hM⟩ := gnm_ex hM
      refine gMs_5 C ev h4 dX7_drop_27 rfl ?_
      refine x_aln C 0 rfl dX7_drop_28 rfl ?_
      refine gMg_0_sizes C kf_X7_25 dX7_drop_29 rfl ?_
      refine x_iln C 1 rfl dX7_drop_32 rfl ?_
      obtain ⟨h6, hM⟩ := gck_some hM
      refine gMa_6 C h6 dX7_drop_33 rfl ?_
      exact x_iret C E (gs2 hM) dX7_drop_34
    · replace hM := gif_neg hc hM
      refine x_bi (v := (-11)) C (by decide) dX7_drop_18 rfl ?_
      exact x_iret C E (gs2 hM) dX7_drop_20
  · replace hM := gif_pos hc hM
    refine x_ic (v := (-1)) C (by decide) dX7_drop_7 rfl ?_
    exact x_iret C E (gs2 hM) dX7_drop_8
set_option maxRecDepth 100000 in
set_option maxHeartbeats 4000000 in
theorem c_X7_item {l : Launch} {D : va_G} {ad : Nat → Nat} {cy : Nat → ClassId} {b : Nat} (hG : gInj (gGM D ad cy b)) {a0 : Int32} {a1 : Int32} {a2 : Int32} {a3 : Int32} {σ : gMem} {r0 : Int32} {σ0 : gMem} (hM : m_X7_item a0 a1 a2 a3 σ = some (r0, σ0)) : gMi l yX7_item (Cond.code yX7_item cX7_item 5 (some .int) :: gBig) { frames := 2, cells := 0, slots := 0, locals := 45 } (gGM D ad cy b) [.ref (ad 0), .int a0, .int a1, .int a2, .int a3] σ r0 σ0 := by
  refine gIntro (own := RX7) hG (by decide +kernel) rfl rfl (Nat.le_of_ble_eq_true rfl) (lv := [(0, .ref (ad 0)), (1, .int a0), (2, .int a1), (3, .int a2), (4, .int a3)]) rfl (fun κ C E => ?_)
  unfold m_X7_item at hM
  refine x_iln C 1 rfl dX7_item_0 rfl ?_
  obtain ⟨r2, h1, hM⟩ := gb1_some hM
  refine x_csi (As := [.int a0]) (rest := []) C E.2.2.2.2.2 1 (c_X7_isSheet hG h1) (gBs km_X7_246 kst_X7_isSheet kini_X7 kc_X7_isSheet) rfl rfl rfl ⟨by decide +kernel, by decide +kernel, by decide +kernel⟩ ⟨Nat.le_of_ble_eq_true rfl, Nat.le_of_ble_eq_true rfl⟩ rfl rfl (Nat.le_of_ble_eq_true rfl) dX7_item_1 rfl ?_
  refine x_if_eq (tgt := 14) C dX7_item_4 (by decide) rfl (fun hc => ?_) (fun hc => ?_)
  · replace hM := gif_pos hc hM
    refine x_ic (v := (-1)) C (by decide) dX7_item_14 rfl ?_
    exact x_iret C E (gs2 hM) dX7_item_15
  · replace hM := gif_neg hc hM
    refine x_iln C 2 rfl dX7_item_7 rfl ?_
    obtain ⟨r4, h3, hM⟩ := gb1_some hM
    refine x_csi (As := [.int a1]) (rest := []) C E.2.2.2.2.2 1 (c_X7_isLane hG h3) (gBs km_X7_249 kst_X7_isLane kini_X7 kc_X7_isLane) rfl rfl rfl ⟨by decide +kernel, by decide +kernel, by decide +kernel⟩ ⟨Nat.le_of_ble_eq_true rfl, Nat.le_of_ble_eq_true rfl⟩ rfl rfl (Nat.le_of_ble_eq_true rfl) dX7_item_8 rfl ?_
    refine x_if_ne (tgt := 16) C dX7_item_11 (by decide) rfl (fun hc => ?_) (fun hc => ?_)
    · replace hM := gif_neg hc hM
      refine x_aln C 0 rfl dX7_item_16 rfl ?_
      refine gMg_0_lanes C kf_X7_22 dX7_item_17 rfl ?_
      refine x_iln C 1 rfl dX7_item_20 rfl ?_
      obtain ⟨h5, hM⟩ := gck_some hM
      refine gMa_5 C h5 dX7_item_21 rfl ?_
      refine x_if_lt (tgt := 35) C dX7_item_22 (by decide) rfl (fun hc => ?_) (fun hc => ?_)
      · replace hM := gif_pos hc hM
        refine x_aln C 0 rfl dX7_item_35 rfl ?_
        refine gMg_0_lanes C kf_X7_22 dX7_item_36 rfl ?_
        refine x_iln C 1 rfl dX7_item_39 rfl ?_
        obtain ⟨h6, hM⟩ := gck_some hM
        refine gMa_5 C h6 dX7_item_40 rfl ?_
        refine x_if_ge (tgt := 49) C dX7_item_41 (by decide) rfl (fun hc => ?_) (fun hc => ?_)
        · replace hM := gif_pos hc hM
          refine x_bi (v := (-12)) C (by decide) dX7_item_49 rfl ?_
          exact x_iret C E (gs2 hM) dX7_item_51
        · replace hM := gif_neg hc hM
          refine x_bi (v := (-11)) C (by decide) dX7_item_44 rfl ?_
          refine x_goto (tgt := 51) C dX7_item_46 (by decide) ?_
          exact x_iret C E (gs2 hM) dX7_item_51
      · replace hM := gif_neg hc hM
        refine x_aln C 0 rfl dX7_item_25 rfl ?_
        refine gMg_0_lanes C kf_X7_22 dX7_item_26 rfl ?_
        refine x_iln C 1 rfl dX7_item_29 rfl ?_
        obtain ⟨h7, hM⟩ := gck_some hM
        refine gMa_5 C h7 dX7_item_30 rfl ?_
        refine x_iln C 2 rfl dX7_item_31 rfl ?_
        refine x_ic_eq (tgt := 52) C dX7_item_32 (by decide) rfl (fun hc => ?_) (fun hc => ?_)
        · replace hM := gif_pos hc hM
          refine x_iln C 3 rfl dX7_item_52 rfl ?_
          refine x_i2l C dX7_item_53 rfl ?_
          refine x_lc (v := 0) C (by decide) dX7_item_54 rfl ?_
          refine x_aln C 0 rfl dX7_item_55 rfl ?_
          refine gMg_0_sizes C kf_X7_25 dX7_item_56 rfl ?_
          refine x_iln C 1 rfl dX7_item_59 rfl ?_
          obtain ⟨h8, hM⟩ := gck_some hM
          refine gMa_6 C h8 dX7_item_60 rfl ?_
          refine x_ic (v := 1) C (by decide) dX7_item_61 rfl ?_
          refine x_isub C dX7_item_62 rfl ?_
          refine x_i2l C dX7_item_63 rfl ?_
          obtain ⟨r10, h9, hM⟩ := gb1_some hM
          refine x_csi (As := [.long a2.toInt64, .long 0, .long (((σ 6 a0.toNatClampNeg) - 1).toInt64)]) (rest := []) C E.2.2.2.2.2 3 (c_X7_in hG h9) (gBs km_X7_50 kst_X7_in kini_X7 kc_X7_in) rfl rfl rfl ⟨by decide +kernel, by decide +kernel, by decide +kernel⟩ ⟨Nat.le_of_ble_eq_true rfl, Nat.le_of_ble_eq_true rfl⟩ rfl rfl (Nat.le_of_ble_eq_true rfl) dX7_item_64 rfl ?_
          refine x_if_ne (tgt := 73) C dX7_item_67 (by decide) rfl (fun hc => ?_) (fun hc => ?_)
          · replace hM := gif_neg hc hM
            refine x_aln C 0 rfl dX7_item_73 rfl ?_
            refine gMg_0_items C kf_X7_19 dX7_item_74 rfl ?_
            refine x_bi (v := 24) C (by decide) dX7_item_77 rfl ?_
            refine x_iln C 1 rfl dX7_item_79 rfl ?_
            refine x_imul C dX7_item_80 rfl ?_
            refine x_iln C 3 rfl dX7_item_81 rfl ?_
            refine x_iadd C dX7_item_82 rfl ?_
            refine x_iln C 2 rfl dX7_item_83 rfl ?_
            refine x_if_ne (tgt := 93) C dX7_item_84 (by decide) rfl (fun hc => ?_) (fun hc => ?_)
            · replace hM := gif_neg hc hM
              refine x_iln C 2 rfl dX7_item_93 rfl ?_
              refine x_ic (v := 1) C (by decide) dX7_item_94 rfl ?_
              refine x_ic_ne (tgt := 104) C dX7_item_95 (by decide) rfl (fun hc => ?_) (fun hc => ?_)
              · replace hM := gif_neg hc hM
                refine x_il C 4 rfl dX7_item_104 rfl ?_
                obtain ⟨h11, hM⟩ := gck_some hM
                obtain ⟨s12, ev, hM⟩ := gnm_ex hM
                refine gMs_4 C ev h11 dX7_item_106 rfl ?_
                refine x_ic (v := 1) C (by decide) dX7_item_107 rfl ?_
                exact x_iret C E (gs2 hM) dX7_item_108
              · replace hM := gif_pos hc hM
                refine x_il C 4 rfl dX7_item_98 rfl ?_
                refine x_i2s C dX7_item_100 rfl ?_
                refine x_goto (tgt := 106) C dX7_item_101 (by decide) ?_
                obtain ⟨h13, hM⟩ := gck_some hM
                obtain ⟨s14, ev, hM⟩ := gnm_ex hM
                refine gMs_4 C ev h13 dX7_item_106 rfl ?_
                refine x_ic (v := 1) C (by decide) dX7_item_107 rfl ?_
                exact x_iret C E (gs2 hM) dX7_item_108
            · replace hM := gif_pos hc hM
              refine x_il C 4 rfl dX7_item_87 rfl ?_
              refine x_i2b C dX7_item_89 rfl ?_
              refine x_goto (tgt := 106) C dX7_item_90 (by decide) ?_
              obtain ⟨h15, hM⟩ := gck_some hM
              obtain ⟨s16, ev, hM⟩ := gnm_ex hM
              refine gMs_4 C ev h15 dX7_item_106 rfl ?_
              refine x_ic (v := 1) C (by decide) dX7_item_107 rfl ?_
              exact x_iret C E (gs2 hM) dX7_item_108
          · replace hM := gif_pos hc hM
            refine x_bi (v := (-13)) C (by decide) dX7_item_70 rfl ?_
            exact x_iret C E (gs2 hM) dX7_item_72
        · replace hM := gif_neg hc hM
          refine x_aln C 0 rfl dX7_item_35 rfl ?_
          refine gMg_0_lanes C kf_X7_22 dX7_item_36 rfl ?_
          refine x_iln C 1 rfl dX7_item_39 rfl ?_
          obtain ⟨h17, hM⟩ := gck_some hM
          refine gMa_5 C h17 dX7_item_40 rfl ?_
          refine x_if_ge (tgt := 49) C dX7_item_41 (by decide) rfl (fun hc => ?_) (fun hc => ?_)
          · replace hM := gif_pos hc hM
            refine x_bi (v := (-12)) C (by decide) dX7_item_49 rfl ?_
            exact x_iret C E (gs2 hM) dX7_item_51
          · replace hM := gif_neg hc hM
            refine x_bi (v := (-11)) C (by decide) dX7_item_44 rfl ?_
            refine x_goto (tgt := 51) C dX7_item_46 (by decide) ?_
            exact x_iret C E (gs2 hM) dX7_item_51
    · replace hM := gif_pos hc hM
      refine x_ic (v := (-1)) C (by decide) dX7_item_14 rfl ?_
      exact x_iret C E (gs2 hM) dX7_item_15
set_option maxRecDepth 100000 in
set_option maxHeartbeats 4000000 in
theorem c_X7_copy {l : Launch} {D : va_G} {ad : Nat → Nat} {cy : Nat → ClassId} {b : Nat} (hG : gInj (gGM D ad cy b)) {a0 : Int32} {a1 : Int32} {a2 : Int32} {a3 : Int32} {a4 : Int32} {σ : gMem} {r0 : Int32} {σ0 : gMem} (hM : m_X7_copy a0 a1 a2 a3 a4 σ = some (r0, σ0)) : gMi l yX7_copy (Cond.code yX7_copy cX7_copy 7 (some .int) :: gBig) { frames := 2, cells := 0, slots := 0, locals := 45 } (gGM D ad cy b) [.ref (ad 0), .int a0, .int a1, .int a2, .int a3, .int a4] σ r0 σ0 := by
  refine gIntro (own := RX7) hG (by decide +kernel) rfl rfl (Nat.le_of_ble_eq_true rfl) (lv := [(0, .ref (ad 0)), (1, .int a0), (2, .int a1), (3, .int a2), (4, .int a3), (5, .int a4)]) rfl (fun κ C E => ?_)
  unfold m_X7_copy at hM
  refine x_iln C 1 rfl dX7_copy_0 rfl ?_
  obtain ⟨r2, h1, hM⟩ := gb1_some hM
  refine x_csi (As := [.int a0]) (rest := []) C E.2.2.2.2.2 1 (c_X7_isSheet hG h1) (gBs km_X7_246 kst_X7_isSheet kini_X7 kc_X7_isSheet) rfl rfl rfl ⟨by decide +kernel, by decide +kernel, by decide +kernel⟩ ⟨Nat.le_of_ble_eq_true rfl, Nat.le_of_ble_eq_true rfl⟩ rfl rfl (Nat.le_of_ble_eq_true rfl) dX7_copy_1 rfl ?_
  refine x_if_eq (tgt := 14) C dX7_copy_4 (by decide) rfl (fun hc => ?_) (fun hc => ?_)
  · replace hM := gif_pos hc hM
    refine x_ic (v := (-1)) C (by decide) dX7_copy_14 rfl ?_
    exact x_iret C E (gs2 hM) dX7_copy_15
  · replace hM := gif_neg hc hM
    refine x_iln C 3 rfl dX7_copy_7 rfl ?_
    obtain ⟨r4, h3, hM⟩ := gb1_some hM
    refine x_csi (As := [.int a2]) (rest := []) C E.2.2.2.2.2 1 (c_X7_isSheet hG h3) (gBs km_X7_246 kst_X7_isSheet kini_X7 kc_X7_isSheet) rfl rfl rfl ⟨by decide +kernel, by decide +kernel, by decide +kernel⟩ ⟨Nat.le_of_ble_eq_true rfl, Nat.le_of_ble_eq_true rfl⟩ rfl rfl (Nat.le_of_ble_eq_true rfl) dX7_copy_8 rfl ?_
    refine x_if_ne (tgt := 16) C dX7_copy_11 (by decide) rfl (fun hc => ?_) (fun hc => ?_)
    · replace hM := gif_neg hc hM
      refine x_aln C 0 rfl dX7_copy_16 rfl ?_
      refine gMg_0_lanes C kf_X7_22 dX7_copy_17 rfl ?_
      refine x_iln C 1 rfl dX7_copy_20 rfl ?_
      obtain ⟨h5, hM⟩ := gck_some hM
      refine gMa_5 C h5 dX7_copy_21 rfl ?_
      refine x_if_lt (tgt := 34) C dX7_copy_22 (by decide) rfl (fun hc => ?_) (fun hc => ?_)
      · replace hM := gif_pos hc hM
        refine x_bi (v := (-11)) C (by decide) dX7_copy_34 rfl ?_
        exact x_iret C E (gs2 hM) dX7_copy_36
      · replace hM := gif_neg hc hM
        refine x_aln C 0 rfl dX7_copy_25 rfl ?_
        refine gMg_0_lanes C kf_X7_22 dX7_copy_26 rfl ?_
        refine x_iln C 3 rfl dX7_copy_29 rfl ?_
        obtain ⟨h6, hM⟩ := gck_some hM
        refine gMa_5 C h6 dX7_copy_30 rfl ?_
        refine x_if_ge (tgt := 37) C dX7_copy_31 (by decide) rfl (fun hc => ?_) (fun hc => ?_)
        · replace hM := gif_pos hc hM
          refine x_aln C 0 rfl dX7_copy_37 rfl ?_
          refine gMg_0_lanes C kf_X7_22 dX7_copy_38 rfl ?_
          refine x_iln C 1 rfl dX7_copy_41 rfl ?_
          obtain ⟨h7, hM⟩ := gck_some hM
          refine gMa_5 C h7 dX7_copy_42 rfl ?_
          refine x_aln C 0 rfl dX7_copy_43 rfl ?_
          refine gMg_0_lanes C kf_X7_22 dX7_copy_44 rfl ?_
          refine x_iln C 3 rfl dX7_copy_47 rfl ?_
          obtain ⟨h8, hM⟩ := gck_some hM
          refine gMa_5 C h8 dX7_copy_48 rfl ?_
          refine x_ic_eq (tgt := 55) C dX7_copy_49 (by decide) rfl (fun hc => ?_) (fun hc => ?_)
          · replace hM := gif_pos hc hM
            refine x_iln C 2 rfl dX7_copy_55 rfl ?_
            refine x_if_lt (tgt := 104) C dX7_copy_56 (by decide) rfl (fun hc => ?_) (fun hc => ?_)
            · replace hM := gif_pos hc hM
              refine x_bi (v := (-13)) C (by decide) dX7_copy_104 rfl ?_
              exact x_iret C E (gs2 hM) dX7_copy_106
            · replace hM := gif_neg hc hM
              refine x_il C 4 rfl dX7_copy_59 rfl ?_
              refine x_if_lt (tgt := 104) C dX7_copy_61 (by decide) rfl (fun hc => ?_) (fun hc => ?_)
              · replace hM := gif_pos hc hM
                refine x_bi (v := (-13)) C (by decide) dX7_copy_104 rfl ?_
                exact x_iret C E (gs2 hM) dX7_copy_106
              · replace hM := gif_neg hc hM
                refine x_il C 5 rfl dX7_copy_64 rfl ?_
                refine x_if_lt (tgt := 104) C dX7_copy_66 (by decide) rfl (fun hc => ?_) (fun hc => ?_)
                · replace hM := gif_pos hc hM
                  refine x_bi (v := (-13)) C (by decide) dX7_copy_104 rfl ?_
                  exact x_iret C E (gs2 hM) dX7_copy_106
                · replace hM := gif_neg hc hM
                  refine x_iln C 2 rfl dX7_copy_69 rfl ?_
                  refine x_i2l C dX7_copy_70 rfl ?_
                  refine x_il C 5 rfl dX7_copy_71 rfl ?_
                  refine x_i2l C dX7_copy_73 rfl ?_
                  refine x_ladd C dX7_copy_74 rfl ?_
                  refine x_aln C 0 rfl dX7_copy_75 rfl ?_
                  refine gMg_0_sizes C kf_X7_25 dX7_copy_76 rfl ?_
                  refine x_iln C 1 rfl dX7_copy_79 rfl ?_
                  obtain ⟨h9, hM⟩ := gck_some hM
                  refine gMa_6 C h9 dX7_copy_80 rfl ?_
                  refine x_i2l C dX7_copy_81 rfl ?_
                  refine x_lcmp C dX7_copy_82 rfl ?_
                  refine x_if_gt (tgt := 104) C dX7_copy_83 (by decide) rfl (fun hc => ?_) (fun hc => ?_)
                  · replace hM := gif_pos hc hM
                    refine x_bi (v := (-13)) C (by decide) dX7_copy_104 rfl ?_
                    exact x_iret C E (gs2 hM) dX7_copy_106
                  · replace hM := gif_neg hc hM
                    refine x_il C 4 rfl dX7_copy_86 rfl ?_
                    refine x_i2l C dX7_copy_88 rfl ?_
                    refine x_il C 5 rfl dX7_copy_89 rfl ?_
                    refine x_i2l C dX7_copy_91 rfl ?_
                    refine x_ladd C dX7_copy_92 rfl ?_
                    refine x_aln C 0 rfl dX7_copy_93 rfl ?_
                    refine gMg_0_sizes C kf_X7_25 dX7_copy_94 rfl ?_
                    refine x_iln C 3 rfl dX7_copy_97 rfl ?_
                    obtain ⟨h10, hM⟩ := gck_some hM
                    refine gMa_6 C h10 dX7_copy_98 rfl ?_
                    refine x_i2l C dX7_copy_99 rfl ?_
                    refine x_lcmp C dX7_copy_100 rfl ?_
                    refine x_if_le (tgt := 107) C dX7_copy_101 (by decide) rfl (fun hc => ?_) (fun hc => ?_)
                    · replace hM := gif_pos hc hM
                      refine x_ic (v := 0) C (by decide) dX7_copy_107 rfl ?_
                      refine x_ist (lv' := [(6, .int 0), (0, .ref (ad 0)), (1, .int a0), (2, .int a1), (3, .int a2), (4, .int a3), (5, .int a4)]) C rfl (by decide) rfl dX7_copy_108 rfl ?_
                      have L110 : ∀ (n : Nat) (x6_11 : Int32) (s12 : gMem) (s13 : gMem), m_X7_copy_110 a0 a1 a4 n x6_11 s12 = some (s13) → (wx κ (gGM D ad cy b) (gA (gGM D ad cy b)) 7 s13 144 [(0, .ref (ad 0)), (3, .int a2), (4, .int a3), (5, .int a4)] []) → wx κ (gGM D ad cy b) (gA (gGM D ad cy b)) 7 s12 110 [(0, .ref (ad 0)), (1, .int a0), (2, .int a1), (3, .int a2), (4, .int a3), (5, .int a4), (6, .int x6_11)] [] := by
                        clear hM
                        intro n
                        induction n with
                        | zero => intro _ _ _ hM; cases hM
                        | succ n ih =>
                          intro x6_11 s12 s13 hM kx0
                          replace hM : b_X7_copy_110 a0 a1 a4 (m_X7_copy_110 a0 a1 a4 n) x6_11 s12 = some (s13) := hM
                          unfold b_X7_copy_110 at hM
                          refine x_il C 6 rfl dX7_copy_110 rfl ?_
                          refine x_il C 5 rfl dX7_copy_112 rfl ?_
                          refine x_ic_ge (tgt := 144) C dX7_copy_114 (by decide) rfl (fun hc => ?_) (fun hc => ?_)
                          · replace hM := gif_pos hc hM
                            cases hM
                            exact x_sub [0, 3, 4, 5] rfl (kx0)
                          · replace hM := gif_neg hc hM
                            refine x_aln C 0 rfl dX7_copy_117 rfl ?_
                            refine gMg_0_moved C kf_X7_28 dX7_copy_118 rfl ?_
                            refine x_il C 6 rfl dX7_copy_121 rfl ?_
                            refine x_aln C 0 rfl dX7_copy_123 rfl ?_
                            refine gMg_0_items C kf_X7_19 dX7_copy_124 rfl ?_
                            refine x_bi (v := 24) C (by decide) dX7_copy_127 rfl ?_
                            refine x_iln C 1 rfl dX7_copy_129 rfl ?_
                            refine x_imul C dX7_copy_130 rfl ?_
                            refine x_iln C 2 rfl dX7_copy_131 rfl ?_
                            refine x_iadd C dX7_copy_132 rfl ?_
                            refine x_il C 6 rfl dX7_copy_133 rfl ?_
                            refine x_iadd C dX7_copy_135 rfl ?_
                            obtain ⟨h14, hM⟩ := gck_some hM
                            refine gMa_4 C h14 dX7_copy_136 rfl ?_
                            obtain ⟨h15, hM⟩ := gck_some hM
                            obtain ⟨s16, ev, hM⟩ := gnm_ex hM
                            refine gMs_7 C ev h15 dX7_copy_137 rfl ?_
                            obtain ⟨x6_17, ev, hM⟩ := gnm_ex hM
                            refine x_iinc (j := 6) (w := 1) (lv' := [(6, .int x6_17), (0, .ref (ad 0)), (1, .int a0), (2, .int a1), (3, .int a2), (4, .int a3), (5, .int a4)]) C rfl ev (by decide) (by decide) rfl dX7_copy_138 rfl ?_
                            refine x_goto (tgt := 110) C dX7_copy_141 (by decide) ?_
                            exact x_sub [1, 2, 3, 4, 5, 6, 0] rfl (ih x6_17 s16 _ hM kx0)
                      obtain ⟨s13, hL18, hM⟩ := gb1_some hM
                      refine x_sub [1, 2, 3, 4, 5, 6, 0] rfl (L110 gFU 0 σ _ hL18 ?_)
                      clear L110
                      refine x_ic (v := 0) C (by decide) dX7_copy_144 rfl ?_
                      refine x_ist (lv' := [(6, .int 0), (0, .ref (ad 0)), (3, .int a2), (4, .int a3), (5, .int a4)]) C rfl (by decide) rfl dX7_copy_145 rfl ?_
                      have L147 : ∀ (n : Nat) (x6_19 : Int32) (s20 : gMem) (s21 : gMem), m_X7_copy_147 a2 a3 a4 n x6_19 s20 = some (s21) → (wx κ (gGM D ad cy b) (gA (gGM D ad cy b)) 7 s21 182 [(5, .int a4)] []) → wx κ (gGM D ad cy b) (gA (gGM D ad cy b)) 7 s20 147 [(0, .ref (ad 0)), (3, .int a2), (4, .int a3), (5, .int a4), (6, .int x6_19)] [] := by
                        clear hM
                        intro n
                        induction n with
                        | zero => intro _ _ _ hM; cases hM
                        | succ n ih =>
                          intro x6_19 s20 s21 hM kx0
                          replace hM : b_X7_copy_147 a2 a3 a4 (m_X7_copy_147 a2 a3 a4 n) x6_19 s20 = some (s21) := hM
                          unfold b_X7_copy_147 at hM
                          refine x_il C 4 rfl dX7_copy_147 rfl ?_
                          refine x_il C 3 rfl dX7_copy_149 rfl ?_
                          refine x_ic_ge (tgt := 182) C dX7_copy_151 (by decide) rfl (fun hc => ?_) (fun hc => ?_)
                          · replace hM := gif_pos hc hM
                            cases hM
                            exact x_sub [3] rfl (kx0)
                          · replace hM := gif_neg hc hM
                            refine x_aln C 0 rfl dX7_copy_154 rfl ?_
                            refine gMg_0_items C kf_X7_19 dX7_copy_155 rfl ?_
                            refine x_bi (v := 24) C (by decide) dX7_copy_158 rfl ?_
                            refine x_iln C 1 rfl dX7_copy_160 rfl ?_
                            refine x_imul C dX7_copy_161 rfl ?_
                            refine x_il C 2 rfl dX7_copy_162 rfl ?_
                            refine x_iadd C dX7_copy_164 rfl ?_
                            refine x_il C 4 rfl dX7_copy_165 rfl ?_
                            refine x_iadd C dX7_copy_167 rfl ?_
                            refine x_aln C 0 rfl dX7_copy_168 rfl ?_
                            refine gMg_0_moved C kf_X7_28 dX7_copy_169 rfl ?_
                            refine x_il C 4 rfl dX7_copy_172 rfl ?_
                            obtain ⟨h22, hM⟩ := gck_some hM
                            refine gMa_7 C h22 dX7_copy_174 rfl ?_
                            obtain ⟨h23, hM⟩ := gck_some hM
                            obtain ⟨s24, ev, hM⟩ := gnm_ex hM
                            refine gMs_4 C ev h23 dX7_copy_175 rfl ?_
                            obtain ⟨x6_25, ev, hM⟩ := gnm_ex hM
                            refine x_iinc (j := 4) (w := 1) (lv' := [(6, .int x6_25), (0, .ref (ad 0)), (3, .int a2), (4, .int a3), (5, .int a4)]) C rfl ev (by decide) (by decide) rfl dX7_copy_176 rfl ?_
                            refine x_goto (tgt := 147) C dX7_copy_179 (by decide) ?_
                            exact x_sub [1, 2, 3, 4, 0] rfl (ih x6_25 s24 _ hM kx0)
                      obtain ⟨s21, hL26, hM⟩ := gb1_some hM
                      refine x_sub [1, 2, 3, 4, 0] rfl (L147 gFU 0 s13 _ hL26 ?_)
                      clear L147
                      refine x_il C 0 rfl dX7_copy_182 rfl ?_
                      exact x_iret C E (gs2 hM) dX7_copy_184
                    · replace hM := gif_neg hc hM
                      refine x_bi (v := (-13)) C (by decide) dX7_copy_104 rfl ?_
                      exact x_iret C E (gs2 hM) dX7_copy_106
          · replace hM := gif_neg hc hM
            refine x_bi (v := (-12)) C (by decide) dX7_copy_52 rfl ?_
            exact x_iret C E (gs2 hM) dX7_copy_54
        · replace hM := gif_neg hc hM
          refine x_bi (v := (-11)) C (by decide) dX7_copy_34 rfl ?_
          exact x_iret C E (gs2 hM) dX7_copy_36
    · replace hM := gif_pos hc hM
      refine x_ic (v := (-1)) C (by decide) dX7_copy_14 rfl ?_
      exact x_iret C E (gs2 hM) dX7_copy_15
