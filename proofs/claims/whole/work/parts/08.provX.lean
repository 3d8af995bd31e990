set_option maxRecDepth 100000 in
set_option maxHeartbeats 4000000 in
theorem c_X6_within {l : Launch} {D : va_G} {ad : Nat → Nat} {cy : Nat → ClassId} {b : Nat} (hG : gInj (gGX D ad cy b)) {a0 : Int32} {a1 : Int32} {a2 : Int32} {σ : gMem} {r0 : Int32} (hM : m_X6_within a0 a1 a2 σ = some r0) : gMi l yX6_within (Cond.code yX6_within cX6_within 3 (some .boolean) :: gBig) { frames := 0, cells := 0, slots := 0, locals := 0 } (gGX D ad cy b) [.int a0, .int a1, .int a2] σ r0 σ := by
  refine gIntro (own := RX6) hG (by decide +kernel) rfl rfl (by decide) (lv := [(0, .int a0), (1, .int a1), (2, .int a2)]) rfl (fun κ C E => ?_)
  unfold m_X6_within at hM
  refine x_iln C 0 rfl dX6_within_0 rfl ?_
  refine x_iln C 1 rfl dX6_within_1 rfl ?_
  refine x_ic_lt (tgt := 14) C dX6_within_2 (by decide) rfl (fun hc => ?_) (fun hc => ?_)
  · replace hM := gif_pos hc hM
    refine x_ic (v := 0) C (by decide) dX6_within_14 rfl ?_
    exact x_zret C E (by decide) ⟨gs1 hM, rfl⟩ dX6_within_15
  · replace hM := gif_neg hc hM
    refine x_iln C 0 rfl dX6_within_5 rfl ?_
    refine x_iln C 2 rfl dX6_within_6 rfl ?_
    refine x_ic_gt (tgt := 14) C dX6_within_7 (by decide) rfl (fun hc => ?_) (fun hc => ?_)
    · replace hM := gif_pos hc hM
      refine x_ic (v := 0) C (by decide) dX6_within_14 rfl ?_
      exact x_zret C E (by decide) ⟨gs1 hM, rfl⟩ dX6_within_15
    · replace hM := gif_neg hc hM
      refine x_ic (v := 1) C (by decide) dX6_within_10 rfl ?_
      refine x_goto (tgt := 15) C dX6_within_11 (by decide) ?_
      exact x_zret C E (by decide) ⟨gs1 hM, rfl⟩ dX6_within_15
set_option maxRecDepth 100000 in
set_option maxHeartbeats 4000000 in
theorem c_X1_addPlace {l : Launch} {D : va_G} {ad : Nat → Nat} {cy : Nat → ClassId} {b : Nat} (hG : gInj (gGX D ad cy b)) {a0 : Int32} {a1 : Int32} {σ : gMem} {r0 : Int32} {σ0 : gMem} (hM : m_X1_addPlace a0 a1 σ = some (r0, σ0)) : gMi l yX1_addPlace (Cond.code yX1_addPlace cX1_addPlace 3 (some .int) :: gBig) { frames := 0, cells := 0, slots := 0, locals := 0 } (gGX D ad cy b) [.ref (ad 1), .int a0, .int a1] σ r0 σ0 := by
  refine gIntro (own := RX1) hG (by decide +kernel) rfl rfl (by decide) (lv := [(0, .ref (ad 1)), (1, .int a0), (2, .int a1)]) rfl (fun κ C E => ?_)
  unfold m_X1_addPlace at hM
  refine x_aln C 0 rfl dX1_addPlace_0 rfl ?_
  refine gXg_1_depths C kf_X1_9 dX1_addPlace_1 rfl ?_
  refine x_aln C 0 rfl dX1_addPlace_4 rfl ?_
  refine gXg_1_places C kf_X1_51 dX1_addPlace_5 rfl ?_
  refine x_iln C 1 rfl dX1_addPlace_8 rfl ?_
  obtain ⟨h1, hM⟩ := gck_some hM
  obtain ⟨s2, ev, hM⟩ := gnm_ex hM
  refine gXs_2 C ev h1 dX1_addPlace_9 rfl ?_
  refine x_aln C 0 rfl dX1_addPlace_10 rfl ?_
  refine gXg_1_splices C kf_X1_15 dX1_addPlace_11 rfl ?_
  refine x_aln C 0 rfl dX1_addPlace_14 rfl ?_
  refine gXg_1_places C kf_X1_51 dX1_addPlace_15 rfl ?_
  refine x_iln C 2 rfl dX1_addPlace_18 rfl ?_
  obtain ⟨h3, hM⟩ := gck_some hM
  obtain ⟨s4, ev, hM⟩ := gnm_ex hM
  refine gXs_3 C ev h3 dX1_addPlace_19 rfl ?_
  refine x_aln C 0 rfl dX1_addPlace_20 rfl ?_
  refine gXg_1_silts C kf_X1_18 dX1_addPlace_21 rfl ?_
  refine x_aln C 0 rfl dX1_addPlace_24 rfl ?_
  refine gXg_1_places C kf_X1_51 dX1_addPlace_25 rfl ?_
  refine x_ic (v := 0) C (by decide) dX1_addPlace_28 rfl ?_
  obtain ⟨h5, hM⟩ := gck_some hM
  obtain ⟨s6, ev, hM⟩ := gnm_ex hM
  refine gXs_4 C ev h5 dX1_addPlace_29 rfl ?_
  refine x_aln C 0 rfl dX1_addPlace_30 rfl ?_
  refine x_dup C rfl dX1_addPlace_31 rfl ?_
  refine gXg_1_places C kf_X1_51 dX1_addPlace_32 rfl ?_
  refine x_dupx1 C rfl rfl dX1_addPlace_35 rfl ?_
  refine x_ic (v := 1) C (by decide) dX1_addPlace_36 rfl ?_
  refine x_iadd C dX1_addPlace_37 rfl ?_
  obtain ⟨s7, ev, hM⟩ := gnm_ex hM
  refine gXp_1_places C ev kf_X1_51 dX1_addPlace_38 rfl ?_
  exact x_iret C E (gs2 hM) dX1_addPlace_41
set_option maxRecDepth 100000 in
set_option maxHeartbeats 4000000 in
theorem c_X6_place {l : Launch} {D : va_G} {ad : Nat → Nat} {cy : Nat → ClassId} {b : Nat} (hG : gInj (gGX D ad cy b)) {a0 : Int32} {σ : gMem} {r0 : Int32} {σ0 : gMem} (hM : m_X6_place a0 σ = some (r0, σ0)) : gMi l yX6_place (Cond.code yX6_place cX6_place 2 (some .int) :: gBig) { frames := 1, cells := 0, slots := 0, locals := 22 } (gGX D ad cy b) [.ref (ad 0), .int a0] σ r0 σ0 := by
  refine gIntro (own := RX6) hG (by decide +kernel) rfl rfl (by decide) (lv := [(0, .ref (ad 0)), (1, .int a0)]) rfl (fun κ C E => ?_)
  unfold m_X6_place at hM
  refine x_iln C 1 rfl dX6_place_0 rfl ?_
  refine x_bi (v := (-20)) C (by decide) dX6_place_1 rfl ?_
  refine x_bi (v := 60) C (by decide) dX6_place_3 rfl ?_
  obtain ⟨r2, h1, hM⟩ := gb1_some hM
  refine x_csi (As := [.int a0, .int (-20), .int 60]) (rest := []) C E.2.2.2.2.2 3 (c_X6_within hG h1) (gBs km_X6_54 kst_X6_within kini_X6 kc_X6_within) rfl rfl rfl ⟨by decide +kernel, by decide +kernel, by decide +kernel⟩ ⟨Nat.le_of_ble_eq_true rfl, Nat.le_of_ble_eq_true rfl⟩ rfl rfl (by decide) dX6_place_5 rfl ?_
  refine x_if_ne (tgt := 13) C dX6_place_8 (by decide) rfl (fun hc => ?_) (fun hc => ?_)
  · replace hM := gif_neg hc hM
    refine x_aln C 0 rfl dX6_place_13 rfl ?_
    refine gXg_0_now C kf_X6_10 dX6_place_14 rfl ?_
    refine gXg_1_places C kf_X6_58 dX6_place_17 rfl ?_
    refine x_bi (v := 12) C (by decide) dX6_place_20 rfl ?_
    refine x_ic_lt (tgt := 28) C dX6_place_22 (by decide) rfl (fun hc => ?_) (fun hc => ?_)
    · replace hM := gif_pos hc hM
      refine x_aln C 0 rfl dX6_place_28 rfl ?_
      refine gXg_0_now C kf_X6_10 dX6_place_29 rfl ?_
      refine x_iln C 1 rfl dX6_place_32 rfl ?_
      refine x_ic (v := 0) C (by decide) dX6_place_33 rfl ?_
      obtain ⟨r5, s4, h3, hM⟩ := gb2_some hM
      refine x_cvi (As := [.int a0, .int 0]) (rest := []) C E.2.2.2.2.2 2 (c_X1_addPlace hG h3) (gBv km_X6_62 kin_X1_addPlace ksel_X1_addPlace kini_X1 kc_X1_addPlace) rfl rfl rfl ⟨rfl, by decide +kernel, by decide +kernel, by decide +kernel⟩ ⟨Nat.le_of_ble_eq_true rfl, Nat.le_of_ble_eq_true rfl⟩ (by show 1 < 213; decide) rfl rfl rfl rfl (by decide) dX6_place_34 rfl ?_
      exact x_iret C E (gs2 hM) dX6_place_37
    · replace hM := gif_neg hc hM
      refine x_bi (v := (-3)) C (by decide) dX6_place_25 rfl ?_
      exact x_iret C E (gs2 hM) dX6_place_27
  · replace hM := gif_pos hc hM
    refine x_ic (v := (-1)) C (by decide) dX6_place_11 rfl ?_
    exact x_iret C E (gs2 hM) dX6_place_12
set_option maxRecDepth 100000 in
set_option maxHeartbeats 4000000 in
theorem c_X1_hasPlace {l : Launch} {D : va_G} {ad : Nat → Nat} {cy : Nat → ClassId} {b : Nat} (hG : gInj (gGX D ad cy b)) {a0 : Int32} {σ : gMem} {r0 : Int32} (hM : m_X1_hasPlace a0 σ = some r0) : gMi l yX1_hasPlace (Cond.code yX1_hasPlace cX1_hasPlace 2 (some .boolean) :: gBig) { frames := 1, cells := 0, slots := 0, locals := 22 } (gGX D ad cy b) [.ref (ad 1), .int a0] σ r0 σ := by
  refine gIntro (own := RX1) hG (by decide +kernel) rfl rfl (by decide) (lv := [(0, .ref (ad 1)), (1, .int a0)]) rfl (fun κ C E => ?_)
  unfold m_X1_hasPlace at hM
  refine x_iln C 1 rfl dX1_hasPlace_0 rfl ?_
  refine x_ic (v := 0) C (by decide) dX1_hasPlace_1 rfl ?_
  refine x_aln C 0 rfl dX1_hasPlace_2 rfl ?_
  refine gXg_1_places C kf_X1_51 dX1_hasPlace_3 rfl ?_
  refine x_ic (v := 1) C (by decide) dX1_hasPlace_6 rfl ?_
  refine x_isub C dX1_hasPlace_7 rfl ?_
  obtain ⟨r2, h1, hM⟩ := gb1_some hM
  refine x_csni (As := [.int a0, .int 0, .int ((σ 1 0) - 1)]) (rest := []) C E.2.2.2.2.2 3 (c_X6_within hG h1) (gBn kc_X6_within) rfl rfl rfl (by decide +kernel) (gBc kini_X6) (gBc kst_X6_within) ⟨by decide +kernel, by decide +kernel, by decide +kernel⟩ ⟨Nat.le_of_ble_eq_true rfl, Nat.le_of_ble_eq_true rfl⟩ rfl rfl (by decide) dX1_hasPlace_8 rfl ?_
  obtain ⟨h3, hM⟩ := gck_some hM
  exact x_zret C E h3 ⟨gs1 hM, rfl⟩ dX1_hasPlace_11
set_option maxRecDepth 100000 in
set_option maxHeartbeats 4000000 in
theorem c_X6_changed_2 {l : Launch} {D : va_G} {ad : Nat → Nat} {cy : Nat → ClassId} {b : Nat} (hG : gInj (gGX D ad cy b)) {a1 : Int32} {a2 : Int32} {σ : gMem} {r0 : Int32} {σ0 : gMem} (hM : m_X6_changed_2 a1 a2 σ = some (r0, σ0)) : gMi l yX6_changed (Cond.code yX6_changed cX6_changed 4 (some .int) :: gBig) { frames := 0, cells := 0, slots := 0, locals := 0 } (gGX D ad cy b) [.ref (ad 2), .int a1, .int a2] σ r0 σ0 := by
  refine gIntro (own := RX6) hG (by decide +kernel) rfl rfl (by decide) (lv := [(0, .ref (ad 2)), (1, .int a1), (2, .int a2)]) rfl (fun κ C E => ?_)
  unfold m_X6_changed_2 at hM
  refine x_aln C 0 rfl dX6_changed_0 rfl ?_
  refine x_iln C 1 rfl dX6_changed_1 rfl ?_
  obtain ⟨h1, hM⟩ := gck_some hM
  refine gXa_2 C h1 dX6_changed_2 rfl ?_
  obtain ⟨x3_2, ev, hM⟩ := gnm_ex hM
  refine x_istn (lv' := [(3, .int x3_2), (0, .ref (ad 2)), (1, .int a1), (2, .int a2)]) C rfl ev (by decide) rfl dX6_changed_3 rfl ?_
  refine x_aln C 1 rfl dX6_changed_4 rfl ?_
  refine x_iln C 2 rfl dX6_changed_5 rfl ?_
  refine x_iln C 3 rfl dX6_changed_6 rfl ?_
  obtain ⟨h3, hM⟩ := gck_some hM
  obtain ⟨s4, ev, hM⟩ := gnm_ex hM
  refine gXs_2 C ev h3 dX6_changed_7 rfl ?_
  refine x_iln C 0 rfl dX6_changed_8 rfl ?_
  exact x_iret C E (gs2 hM) dX6_changed_9
set_option maxRecDepth 100000 in
set_option maxHeartbeats 4000000 in
theorem c_X6_changed_3 {l : Launch} {D : va_G} {ad : Nat → Nat} {cy : Nat → ClassId} {b : Nat} (hG : gInj (gGX D ad cy b)) {a1 : Int32} {a2 : Int32} {σ : gMem} {r0 : Int32} {σ0 : gMem} (hM : m_X6_changed_3 a1 a2 σ = some (r0, σ0)) : gMi l yX6_changed (Cond.code yX6_changed cX6_changed 4 (some .int) :: gBig) { frames := 0, cells := 0, slots := 0, locals := 0 } (gGX D ad cy b) [.ref (ad 3), .int a1, .int a2] σ r0 σ0 := by
  refine gIntro (own := RX6) hG (by decide +kernel) rfl rfl (by decide) (lv := [(0, .ref (ad 3)), (1, .int a1), (2, .int a2)]) rfl (fun κ C E => ?_)
  unfold m_X6_changed_3 at hM
  refine x_aln C 0 rfl dX6_changed_0 rfl ?_
  refine x_iln C 1 rfl dX6_changed_1 rfl ?_
  obtain ⟨h1, hM⟩ := gck_some hM
  refine gXa_3 C h1 dX6_changed_2 rfl ?_
  obtain ⟨x3_2, ev, hM⟩ := gnm_ex hM
  refine x_istn (lv' := [(3, .int x3_2), (0, .ref (ad 3)), (1, .int a1), (2, .int a2)]) C rfl ev (by decide) rfl dX6_changed_3 rfl ?_
  refine x_aln C 1 rfl dX6_changed_4 rfl ?_
  refine x_iln C 2 rfl dX6_changed_5 rfl ?_
  refine x_iln C 3 rfl dX6_changed_6 rfl ?_
  obtain ⟨h3, hM⟩ := gck_some hM
  obtain ⟨s4, ev, hM⟩ := gnm_ex hM
  refine gXs_3 C ev h3 dX6_changed_7 rfl ?_
  refine x_iln C 0 rfl dX6_changed_8 rfl ?_
  exact x_iret C E (gs2 hM) dX6_changed_9
set_option maxRecDepth 100000 in
set_option maxHeartbeats 4000000 in
theorem c_X1_postsBeside {l : Launch} {D : va_G} {ad : Nat → Nat} {cy : Nat → ClassId} {b : Nat} (hG : gInj (gGX D ad cy b)) {a0 : Int32} {σ : gMem} {r0 : Int32} (hM : m_X1_postsBeside a0 σ = some r0) : gMi l yX1_postsBeside (Cond.code yX1_postsBeside cX1_postsBeside 4 (some .int) :: gBig) { frames := 0, cells := 0, slots := 0, locals := 0 } (gGX D ad cy b) [.ref (ad 1), .int a0] σ r0 σ := by
  refine gIntro (own := RX1) hG (by decide +kernel) rfl rfl (by decide) (lv := [(0, .ref (ad 1)), (1, .int a0)]) rfl (fun κ C E => ?_)
  unfold m_X1_postsBeside at hM
  refine x_ic (v := 0) C (by decide) dX1_postsBeside_0 rfl ?_
  refine x_istn (lv' := [(2, .int 0), (0, .ref (ad 1)), (1, .int a0)]) C rfl rfl (by decide) rfl dX1_postsBeside_1 rfl ?_
  refine x_ic (v := 0) C (by decide) dX1_postsBeside_2 rfl ?_
  refine x_istn (lv' := [(3, .int 0), (2, .int 0), (0, .ref (ad 1)), (1, .int a0)]) C rfl rfl (by decide) rfl dX1_postsBeside_3 rfl ?_
  have L4 : ∀ (n : Nat) (x2_1 : Int32) (x3_2 : Int32) (x2_3 : Int32), m_X1_postsBeside_4 a0 σ n x2_1 x3_2 = some (x2_3) → (wx κ (gGX D ad cy b) (gA (gGX D ad cy b)) 4 σ 35 [(2, .int x2_3)] []) → wx κ (gGX D ad cy b) (gA (gGX D ad cy b)) 4 σ 4 [(0, .ref (ad 1)), (1, .int a0), (2, .int x2_1), (3, .int x3_2)] [] := by
    clear hM
    intro n
    induction n with
    | zero => intro _ _ _ hM; cases hM
    | succ n ih =>
      intro x2_1 x3_2 x2_3 hM kx0
      replace hM : b_X1_postsBeside_4 a0 σ (m_X1_postsBeside_4 a0 σ n) x2_1 x3_2 = some (x2_3) := hM
      unfold b_X1_postsBeside_4 at hM
      refine x_iln C 3 rfl dX1_postsBeside_4 rfl ?_
      refine x_aln C 0 rfl dX1_postsBeside_5 rfl ?_
      refine gXg_1_places C kf_X1_51 dX1_postsBeside_6 rfl ?_
      refine x_ic_ge (tgt := 35) C dX1_postsBeside_9 (by decide) rfl (fun hc => ?_) (fun hc => ?_)
      · replace hM := gif_pos hc hM
        cases hM
        exact x_sub [2] rfl (kx0)
      · replace hM := gif_neg hc hM
        refine x_iln C 3 rfl dX1_postsBeside_12 rfl ?_
        refine x_iln C 1 rfl dX1_postsBeside_13 rfl ?_
        refine x_ic_eq (tgt := 29) C dX1_postsBeside_14 (by decide) rfl (fun hc => ?_) (fun hc => ?_)
        · replace hM := gif_pos hc hM
          obtain ⟨x3_4, ev, hM⟩ := gnm_ex hM
          refine x_iinc (j := 3) (lv' := [(3, .int x3_4), (0, .ref (ad 1)), (1, .int a0), (2, .int x2_1)]) C rfl ev (by decide) rfl dX1_postsBeside_29 rfl ?_
          refine x_goto (tgt := 4) C dX1_postsBeside_32 (by decide) ?_
          exact x_sub [1, 2, 3, 0] rfl (ih x2_1 x3_4 _ hM kx0)
        · replace hM := gif_neg hc hM
          refine x_aln C 0 rfl dX1_postsBeside_17 rfl ?_
          refine gXg_1_splices C kf_X1_15 dX1_postsBeside_18 rfl ?_
          refine x_iln C 3 rfl dX1_postsBeside_21 rfl ?_
          obtain ⟨h5, hM⟩ := gck_some hM
          refine gXa_3 C h5 dX1_postsBeside_22 rfl ?_
          refine x_if_le (tgt := 29) C dX1_postsBeside_23 (by decide) rfl (fun hc => ?_) (fun hc => ?_)
          · replace hM := gif_pos hc hM
            obtain ⟨x3_6, ev, hM⟩ := gnm_ex hM
            refine x_iinc (j := 3) (lv' := [(3, .int x3_6), (0, .ref (ad 1)), (1, .int a0), (2, .int x2_1)]) C rfl ev (by decide) rfl dX1_postsBeside_29 rfl ?_
            refine x_goto (tgt := 4) C dX1_postsBeside_32 (by decide) ?_
            exact x_sub [1, 2, 3, 0] rfl (ih x2_1 x3_6 _ hM kx0)
          · replace hM := gif_neg hc hM
            obtain ⟨x2_7, ev, hM⟩ := gnm_ex hM
            refine x_iinc (j := 2) (lv' := [(2, .int x2_7), (0, .ref (ad 1)), (1, .int a0), (3, .int x3_2)]) C rfl ev (by decide) rfl dX1_postsBeside_26 rfl ?_
            obtain ⟨x3_8, ev, hM⟩ := gnm_ex hM
            refine x_iinc (j := 3) (lv' := [(3, .int x3_8), (2, .int x2_7), (0, .ref (ad 1)), (1, .int a0)]) C rfl ev (by decide) rfl dX1_postsBeside_29 rfl ?_
            refine x_goto (tgt := 4) C dX1_postsBeside_32 (by decide) ?_
            exact x_sub [2, 3, 1, 0] rfl (ih x2_7 x3_8 _ hM kx0)
  obtain ⟨x2_3, hL9, hM⟩ := gb1_some hM
  refine x_sub [2, 3, 1, 0] rfl (L4 gFU 0 0 _ hL9 ?_)
  clear L4
  refine x_iln C 0 rfl dX1_postsBeside_35 rfl ?_
  exact x_iret C E ⟨gs1 hM, rfl⟩ dX1_postsBeside_36
set_option maxRecDepth 100000 in
set_option maxHeartbeats 4000000 in
theorem c_X6_makeSplices {l : Launch} {D : va_G} {ad : Nat → Nat} {cy : Nat → ClassId} {b : Nat} (hG : gInj (gGX D ad cy b)) {a0 : Int32} {a1 : Int32} {σ : gMem} {r0 : Int32} {σ0 : gMem} (hM : m_X6_makeSplices a0 a1 σ = some (r0, σ0)) : gMi l yX6_makeSplices (Cond.code yX6_makeSplices cX6_makeSplices 3 (some .int) :: gBig) { frames := 1, cells := 0, slots := 0, locals := 23 } (gGX D ad cy b) [.ref (ad 0), .int a0, .int a1] σ r0 σ0 := by
  refine gIntro (own := RX6) hG (by decide +kernel) rfl rfl (by decide) (lv := [(0, .ref (ad 0)), (1, .int a0), (2, .int a1)]) rfl (fun κ C E => ?_)
  unfold m_X6_makeSplices at hM
  refine x_iln C 2 rfl dX6_makeSplices_0 rfl ?_
  refine x_ic (v := 0) C (by decide) dX6_makeSplices_1 rfl ?_
  refine x_bi (v := 20) C (by decide) dX6_makeSplices_2 rfl ?_
  obtain ⟨r2, h1, hM⟩ := gb1_some hM
  refine x_csi (As := [.int a1, .int 0, .int 20]) (rest := []) C E.2.2.2.2.2 3 (c_X6_within hG h1) (gBs km_X6_54 kst_X6_within kini_X6 kc_X6_within) rfl rfl rfl ⟨by decide +kernel, by decide +kernel, by decide +kernel⟩ ⟨Nat.le_of_ble_eq_true rfl, Nat.le_of_ble_eq_true rfl⟩ rfl rfl (by decide) dX6_makeSplices_4 rfl ?_
  refine x_if_ne (tgt := 13) C dX6_makeSplices_7 (by decide) rfl (fun hc => ?_) (fun hc => ?_)
  · replace hM := gif_neg hc hM
    refine x_iln C 2 rfl dX6_makeSplices_13 rfl ?_
    refine x_if_le (tgt := 32) C dX6_makeSplices_14 (by decide) rfl (fun hc => ?_) (fun hc => ?_)
    · replace hM := gif_pos hc hM
      refine x_aln C 0 rfl dX6_makeSplices_32 rfl ?_
      refine gXg_0_now C kf_X6_10 dX6_makeSplices_33 rfl ?_
      refine gXg_1_splices C kf_X6_90 dX6_makeSplices_36 rfl ?_
      refine x_iln C 1 rfl dX6_makeSplices_39 rfl ?_
      refine x_iln C 2 rfl dX6_makeSplices_40 rfl ?_
      obtain ⟨r5, s4, h3, hM⟩ := gb2_some hM
      refine x_csi (As := [.ref (ad 3), .int a0, .int a1]) (rest := []) C E.2.2.2.2.2 3 (c_X6_changed_3 hG h3) (gBs km_X6_75 kst_X6_changed kini_X6 kc_X6_changed) rfl rfl rfl ⟨by decide +kernel, by decide +kernel, by decide +kernel⟩ ⟨Nat.le_of_ble_eq_true rfl, Nat.le_of_ble_eq_true rfl⟩ rfl rfl (by decide) dX6_makeSplices_41 rfl ?_
      exact x_iret C E (gs2 hM) dX6_makeSplices_44
    · replace hM := gif_neg hc hM
      refine x_aln C 0 rfl dX6_makeSplices_17 rfl ?_
      refine gXg_0_now C kf_X6_10 dX6_makeSplices_18 rfl ?_
      refine x_iln C 1 rfl dX6_makeSplices_21 rfl ?_
      obtain ⟨r7, h6, hM⟩ := gb1_some hM
      refine x_cvi (As := [.int a0]) (rest := []) C E.2.2.2.2.2 1 (c_X1_postsBeside hG h6) (gBv km_X6_85 kin_X1_postsBeside ksel_X1_postsBeside kini_X1 kc_X1_postsBeside) rfl rfl rfl ⟨rfl, by decide +kernel, by decide +kernel, by decide +kernel⟩ ⟨Nat.le_of_ble_eq_true rfl, Nat.le_of_ble_eq_true rfl⟩ (by show 1 < 213; decide) rfl rfl rfl rfl (by decide) dX6_makeSplices_22 rfl ?_
      refine x_ic (v := 3) C (by decide) dX6_makeSplices_25 rfl ?_
      refine x_ic_lt (tgt := 32) C dX6_makeSplices_26 (by decide) rfl (fun hc => ?_) (fun hc => ?_)
      · replace hM := gif_pos hc hM
        refine x_aln C 0 rfl dX6_makeSplices_32 rfl ?_
        refine gXg_0_now C kf_X6_10 dX6_makeSplices_33 rfl ?_
        refine gXg_1_splices C kf_X6_90 dX6_makeSplices_36 rfl ?_
        refine x_iln C 1 rfl dX6_makeSplices_39 rfl ?_
        refine x_iln C 2 rfl dX6_makeSplices_40 rfl ?_
        obtain ⟨r10, s9, h8, hM⟩ := gb2_some hM
        refine x_csi (As := [.ref (ad 3), .int a0, .int a1]) (rest := []) C E.2.2.2.2.2 3 (c_X6_changed_3 hG h8) (gBs km_X6_75 kst_X6_changed kini_X6 kc_X6_changed) rfl rfl rfl ⟨by decide +kernel, by decide +kernel, by decide +kernel⟩ ⟨Nat.le_of_ble_eq_true rfl, Nat.le_of_ble_eq_true rfl⟩ rfl rfl (by decide) dX6_makeSplices_41 rfl ?_
        exact x_iret C E (gs2 hM) dX6_makeSplices_44
      · replace hM := gif_neg hc hM
        refine x_ldc (v := (-100003)) C (gBc kk_X6_89) dX6_makeSplices_29 rfl ?_
        exact x_iret C E (gs2 hM) dX6_makeSplices_31
  · replace hM := gif_pos hc hM
    refine x_ldc (v := (-100001)) C (gBc kk_X6_70) dX6_makeSplices_10 rfl ?_
    exact x_iret C E (gs2 hM) dX6_makeSplices_12
set_option maxRecDepth 100000 in
set_option maxHeartbeats 4000000 in
theorem c_X6_changed_4 {l : Launch} {D : va_G} {ad : Nat → Nat} {cy : Nat → ClassId} {b : Nat} (hG : gInj (gGX D ad cy b)) {a1 : Int32} {a2 : Int32} {σ : gMem} {r0 : Int32} {σ0 : gMem} (hM : m_X6_changed_4 a1 a2 σ = some (r0, σ0)) : gMi l yX6_changed (Cond.code yX6_changed cX6_changed 4 (some .int) :: gBig) { frames := 0, cells := 0, slots := 0, locals := 0 } (gGX D ad cy b) [.ref (ad 4), .int a1, .int a2] σ r0 σ0 := by
  refine gIntro (own := RX6) hG (by decide +kernel) rfl rfl (by decide) (lv := [(0, .ref (ad 4)), (1, .int a1), (2, .int a2)]) rfl (fun κ C E => ?_)
  unfold m_X6_changed_4 at hM
  refine x_aln C 0 rfl dX6_changed_0 rfl ?_
  refine x_iln C 1 rfl dX6_changed_1 rfl ?_
  obtain ⟨h1, hM⟩ := gck_some hM
  refine gXa_4 C h1 dX6_changed_2 rfl ?_
  obtain ⟨x3_2, ev, hM⟩ := gnm_ex hM
  refine x_istn (lv' := [(3, .int x3_2), (0, .ref (ad 4)), (1, .int a1), (2, .int a2)]) C rfl ev (by decide) rfl dX6_changed_3 rfl ?_
  refine x_aln C 1 rfl dX6_changed_4 rfl ?_
  refine x_iln C 2 rfl dX6_changed_5 rfl ?_
  refine x_iln C 3 rfl dX6_changed_6 rfl ?_
  obtain ⟨h3, hM⟩ := gck_some hM
  obtain ⟨s4, ev, hM⟩ := gnm_ex hM
  refine gXs_4 C ev h3 dX6_changed_7 rfl ?_
  refine x_iln C 0 rfl dX6_changed_8 rfl ?_
  exact x_iret C E (gs2 hM) dX6_changed_9
set_option maxRecDepth 100000 in
set_option maxHeartbeats 4000000 in
theorem c_X6_make {l : Launch} {D : va_G} {ad : Nat → Nat} {cy : Nat → ClassId} {b : Nat} (hG : gInj (gGX D ad cy b)) {a0 : Int32} {a1 : Int32} {a2 : Int32} {σ : gMem} {r0 : Int32} {σ0 : gMem} (hM : m_X6_make a0 a1 a2 σ = some (r0, σ0)) : gMi l yX6_make (Cond.code yX6_make cX6_make 4 (some .int) :: gBig) { frames := 2, cells := 0, slots := 0, locals := 45 } (gGX D ad cy b) [.ref (ad 0), .int a0, .int a1, .int a2] σ r0 σ0 := by
  refine gIntro (own := RX6) hG (by decide +kernel) rfl rfl (by decide) (lv := [(0, .ref (ad 0)), (1, .int a0), (2, .int a1), (3, .int a2)]) rfl (fun κ C E => ?_)
  unfold m_X6_make at hM
  refine x_aln C 0 rfl dX6_make_0 rfl ?_
  refine gXg_0_now C kf_X6_10 dX6_make_1 rfl ?_
  refine x_iln C 1 rfl dX6_make_4 rfl ?_
  obtain ⟨r2, h1, hM⟩ := gb1_some hM
  refine x_cvi (As := [.int a0]) (rest := []) C E.2.2.2.2.2 1 (c_X1_hasPlace hG h1) (gBv km_X6_66 kin_X1_hasPlace ksel_X1_hasPlace kini_X1 kc_X1_hasPlace) rfl rfl rfl ⟨rfl, by decide +kernel, by decide +kernel, by decide +kernel⟩ ⟨Nat.le_of_ble_eq_true rfl, Nat.le_of_ble_eq_true rfl⟩ (by show 1 < 213; decide) rfl rfl rfl rfl (by decide) dX6_make_5 rfl ?_
  refine x_if_ne (tgt := 14) C dX6_make_8 (by decide) rfl (fun hc => ?_) (fun hc => ?_)
  · replace hM := gif_neg hc hM
    refine x_iln C 2 rfl dX6_make_14 rfl ?_
    by_cases h8 : a1 = 0
    · have hM := gif_pos h8 hM
      refine x_swin (tgt := 40) C dX6_make_15 (by rw [h8]; decide) (by rw [h8]; decide) (by rw [h8]; rfl) (by decide) ?_
      refine x_iln C 3 rfl dX6_make_40 rfl ?_
      refine x_bi (v := (-20)) C (by decide) dX6_make_41 rfl ?_
      refine x_bi (v := 60) C (by decide) dX6_make_43 rfl ?_
      obtain ⟨r4, h3, hM⟩ := gb1_some hM
      refine x_csi (As := [.int a2, .int (-20), .int 60]) (rest := []) C E.2.2.2.2.2 3 (c_X6_within hG h3) (gBs km_X6_54 kst_X6_within kini_X6 kc_X6_within) rfl rfl rfl ⟨by decide +kernel, by decide +kernel, by decide +kernel⟩ ⟨Nat.le_of_ble_eq_true rfl, Nat.le_of_ble_eq_true rfl⟩ rfl rfl (by decide) dX6_make_45 rfl ?_
      refine x_if_eq (tgt := 66) C dX6_make_48 (by decide) rfl (fun hc => ?_) (fun hc => ?_)
      · replace hM := gif_pos hc hM
        refine x_ldc (v := (-100001)) C (gBc kk_X6_70) dX6_make_66 rfl ?_
        exact x_iret C E (gs2 hM) dX6_make_68
      · replace hM := gif_neg hc hM
        refine x_aln C 0 rfl dX6_make_51 rfl ?_
        refine gXg_0_now C kf_X6_10 dX6_make_52 rfl ?_
        refine gXg_1_depths C kf_X6_71 dX6_make_55 rfl ?_
        refine x_iln C 1 rfl dX6_make_58 rfl ?_
        refine x_iln C 3 rfl dX6_make_59 rfl ?_
        obtain ⟨r7, s6, h5, hM⟩ := gb2_some hM
        refine x_csi (As := [.ref (ad 2), .int a0, .int a2]) (rest := []) C E.2.2.2.2.2 3 (c_X6_changed_2 hG h5) (gBs km_X6_75 kst_X6_changed kini_X6 kc_X6_changed) rfl rfl rfl ⟨by decide +kernel, by decide +kernel, by decide +kernel⟩ ⟨Nat.le_of_ble_eq_true rfl, Nat.le_of_ble_eq_true rfl⟩ rfl rfl (by decide) dX6_make_60 rfl ?_
        refine x_goto (tgt := 68) C dX6_make_63 (by decide) ?_
        exact x_iret C E (gs2 hM) dX6_make_68
    replace hM := gif_neg h8 hM
    by_cases h12 : a1 = 1
    · have hM := gif_pos h12 hM
      refine x_swin (tgt := 69) C dX6_make_15 (by rw [h12]; decide) (by rw [h12]; decide) (by rw [h12]; rfl) (by decide) ?_
      refine x_aln C 0 rfl dX6_make_69 rfl ?_
      refine x_iln C 1 rfl dX6_make_70 rfl ?_
      refine x_iln C 3 rfl dX6_make_71 rfl ?_
      obtain ⟨r11, s10, h9, hM⟩ := gb2_some hM
      refine x_cvi (As := [.int a0, .int a2]) (rest := []) C E.2.2.2.2.2 2 (c_X6_makeSplices hG h9) (gBv km_X6_79 kin_X6_makeSplices ksel_X6_makeSplices kini_X6 kc_X6_makeSplices) rfl rfl rfl ⟨rfl, by decide +kernel, by decide +kernel, by decide +kernel⟩ ⟨Nat.le_of_ble_eq_true rfl, Nat.le_of_ble_eq_true rfl⟩ (by show 0 < 213; decide) rfl rfl rfl rfl (by decide) dX6_make_72 rfl ?_
      exact x_iret C E (gs2 hM) dX6_make_75
    replace hM := gif_neg h12 hM
    by_cases h18 : a1 = 2
    · have hM := gif_pos h18 hM
      refine x_swin (tgt := 76) C dX6_make_15 (by rw [h18]; decide) (by rw [h18]; decide) (by rw [h18]; rfl) (by decide) ?_
      refine x_iln C 3 rfl dX6_make_76 rfl ?_
      refine x_bi (v := (-5)) C (by decide) dX6_make_77 rfl ?_
      refine x_ic (v := 5) C (by decide) dX6_make_79 rfl ?_
      obtain ⟨r14, h13, hM⟩ := gb1_some hM
      refine x_csi (As := [.int a2, .int (-5), .int 5]) (rest := []) C E.2.2.2.2.2 3 (c_X6_within hG h13) (gBs km_X6_54 kst_X6_within kini_X6 kc_X6_within) rfl rfl rfl ⟨by decide +kernel, by decide +kernel, by decide +kernel⟩ ⟨Nat.le_of_ble_eq_true rfl, Nat.le_of_ble_eq_true rfl⟩ rfl rfl (by decide) dX6_make_80 rfl ?_
      refine x_if_eq (tgt := 101) C dX6_make_83 (by decide) rfl (fun hc => ?_) (fun hc => ?_)
      · replace hM := gif_pos hc hM
        refine x_ldc (v := (-100001)) C (gBc kk_X6_70) dX6_make_101 rfl ?_
        exact x_iret C E (gs2 hM) dX6_make_103
      · replace hM := gif_neg hc hM
        refine x_aln C 0 rfl dX6_make_86 rfl ?_
        refine gXg_0_now C kf_X6_10 dX6_make_87 rfl ?_
        refine gXg_1_silts C kf_X6_82 dX6_make_90 rfl ?_
        refine x_iln C 1 rfl dX6_make_93 rfl ?_
        refine x_iln C 3 rfl dX6_make_94 rfl ?_
        obtain ⟨r17, s16, h15, hM⟩ := gb2_some hM
        refine x_csi (As := [.ref (ad 4), .int a0, .int a2]) (rest := []) C E.2.2.2.2.2 3 (c_X6_changed_4 hG h15) (gBs km_X6_75 kst_X6_changed kini_X6 kc_X6_changed) rfl rfl rfl ⟨by decide +kernel, by decide +kernel, by decide +kernel⟩ ⟨Nat.le_of_ble_eq_true rfl, Nat.le_of_ble_eq_true rfl⟩ rfl rfl (by decide) dX6_make_95 rfl ?_
        refine x_goto (tgt := 103) C dX6_make_98 (by decide) ?_
        exact x_iret C E (gs2 hM) dX6_make_103
    replace hM := gif_neg h18 hM
    refine x_swout (tgt := 104) C dX6_make_15 (by have := gnI (k := 0) (n := 0) h8 (by decide); have := gnI (k := 1) (n := 1) h12 (by decide); have := gnI (k := 2) (n := 2) h18 (by decide); omega) (by decide) ?_
    refine x_ldc (v := (-100001)) C (gBc kk_X6_70) dX6_make_104 rfl ?_
    exact x_iret C E (gs2 hM) dX6_make_106
  · replace hM := gif_pos hc hM
    refine x_ldc (v := (-100001)) C (gBc kk_X6_70) dX6_make_11 rfl ?_
    exact x_iret C E (gs2 hM) dX6_make_13
set_option maxRecDepth 100000 in
set_option maxHeartbeats 4000000 in
theorem c_X1_join {l : Launch} {D : va_G} {ad : Nat → Nat} {cy : Nat → ClassId} {b : Nat} (hG : gInj (gGX D ad cy b)) {a0 : Int32} {a1 : Int32} {a2 : Int32} {σ : gMem} {σ0 : gMem} (hM : m_X1_join a0 a1 a2 σ = some σ0) : gMv l yX1_join (Cond.code yX1_join cX1_join 4 none :: gBig) { frames := 0, cells := 0, slots := 0, locals := 0 } (gGX D ad cy b) [.ref (ad 1), .int a0, .int a1, .int a2] σ σ0 := by
  refine gIntro (own := RX1) hG (by decide +kernel) rfl rfl (by decide) (lv := [(0, .ref (ad 1)), (1, .int a0), (2, .int a1), (3, .int a2)]) rfl (fun κ C E => ?_)
  unfold m_X1_join at hM
  refine x_aln C 0 rfl dX1_join_0 rfl ?_
  refine gXg_1_minutes C kf_X1_23 dX1_join_1 rfl ?_
  refine x_iln C 1 rfl dX1_join_4 rfl ?_
  obtain ⟨h1, hM⟩ := gck_some hM
  refine gXo_5 C h1 dX1_join_5 rfl ?_
  refine x_iln C 2 rfl dX1_join_6 rfl ?_
  refine x_iln C 3 rfl dX1_join_7 rfl ?_
  obtain ⟨h2, hM⟩ := gck_some hM
  obtain ⟨s3, ev, hM⟩ := gnm_ex hM
  refine gXs_rown C (inb_lt h1) ev h2 dX1_join_8 rfl ?_
  refine x_aln C 0 rfl dX1_join_9 rfl ?_
  refine gXg_1_minutes C kf_X1_23 dX1_join_10 rfl ?_
  refine x_iln C 2 rfl dX1_join_13 rfl ?_
  obtain ⟨h4, hM⟩ := gck_some hM
  refine gXo_5 C h4 dX1_join_14 rfl ?_
  refine x_iln C 1 rfl dX1_join_15 rfl ?_
  refine x_iln C 3 rfl dX1_join_16 rfl ?_
  obtain ⟨h5, hM⟩ := gck_some hM
  obtain ⟨s6, ev, hM⟩ := gnm_ex hM
  refine gXs_rown C (inb_lt h4) ev h5 dX1_join_17 rfl ?_
  exact x_vret C E (gs1 hM) dX1_join_18
set_option maxRecDepth 100000 in
set_option maxHeartbeats 4000000 in
theorem c_X6_path {l : Launch} {D : va_G} {ad : Nat → Nat} {cy : Nat → ClassId} {b : Nat} (hG : gInj (gGX D ad cy b)) {a0 : Int32} {a1 : Int32} {a2 : Int32} {σ : gMem} {r0 : Int32} {σ0 : gMem} (hM : m_X6_path a0 a1 a2 σ = some (r0, σ0)) : gMi l yX6_path (Cond.code yX6_path cX6_path 5 (some .int) :: gBig) { frames := 2, cells := 0, slots := 0, locals := 43 } (gGX D ad cy b) [.ref (ad 0), .int a0, .int a1, .int a2] σ r0 σ0 := by
  refine gIntro (own := RX6) hG (by decide +kernel) rfl rfl (by decide) (lv := [(0, .ref (ad 0)), (1, .int a0), (2, .int a1), (3, .int a2)]) rfl (fun κ C E => ?_)
  unfold m_X6_path at hM
  refine x_aln C 0 rfl dX6_path_0 rfl ?_
  refine gXg_0_now C kf_X6_10 dX6_path_1 rfl ?_
  refine x_iln C 1 rfl dX6_path_4 rfl ?_
  obtain ⟨r2, h1, hM⟩ := gb1_some hM
  refine x_cvi (As := [.int a0]) (rest := []) C E.2.2.2.2.2 1 (c_X1_hasPlace hG h1) (gBv km_X6_66 kin_X1_hasPlace ksel_X1_hasPlace kini_X1 kc_X1_hasPlace) rfl rfl rfl ⟨rfl, by decide +kernel, by decide +kernel, by decide +kernel⟩ ⟨Nat.le_of_ble_eq_true rfl, Nat.le_of_ble_eq_true rfl⟩ (by show 1 < 213; decide) rfl rfl rfl rfl (by decide) dX6_path_5 rfl ?_
  refine x_if_eq (tgt := 37) C dX6_path_8 (by decide) rfl (fun hc => ?_) (fun hc => ?_)
  · replace hM := gif_pos hc hM
    refine x_ic (v := (-1)) C (by decide) dX6_path_37 rfl ?_
    exact x_iret C E (gs2 hM) dX6_path_38
  · replace hM := gif_neg hc hM
    refine x_aln C 0 rfl dX6_path_11 rfl ?_
    refine gXg_0_now C kf_X6_10 dX6_path_12 rfl ?_
    refine x_iln C 2 rfl dX6_path_15 rfl ?_
    obtain ⟨r4, h3, hM⟩ := gb1_some hM
    refine x_cvi (As := [.int a1]) (rest := []) C E.2.2.2.2.2 1 (c_X1_hasPlace hG h3) (gBv km_X6_66 kin_X1_hasPlace ksel_X1_hasPlace kini_X1 kc_X1_hasPlace) rfl rfl rfl ⟨rfl, by decide +kernel, by decide +kernel, by decide +kernel⟩ ⟨Nat.le_of_ble_eq_true rfl, Nat.le_of_ble_eq_true rfl⟩ (by show 1 < 213; decide) rfl rfl rfl rfl (by decide) dX6_path_16 rfl ?_
    refine x_if_eq (tgt := 37) C dX6_path_19 (by decide) rfl (fun hc => ?_) (fun hc => ?_)
    · replace hM := gif_pos hc hM
      refine x_ic (v := (-1)) C (by decide) dX6_path_37 rfl ?_
      exact x_iret C E (gs2 hM) dX6_path_38
    · replace hM := gif_neg hc hM
      refine x_iln C 1 rfl dX6_path_22 rfl ?_
      refine x_iln C 2 rfl dX6_path_23 rfl ?_
      refine x_ic_eq (tgt := 37) C dX6_path_24 (by decide) rfl (fun hc => ?_) (fun hc => ?_)
      · replace hM := gif_pos hc hM
        refine x_ic (v := (-1)) C (by decide) dX6_path_37 rfl ?_
        exact x_iret C E (gs2 hM) dX6_path_38
      · replace hM := gif_neg hc hM
        refine x_iln C 3 rfl dX6_path_27 rfl ?_
        refine x_ic (v := 0) C (by decide) dX6_path_28 rfl ?_
        refine x_bi (v := 60) C (by decide) dX6_path_29 rfl ?_
        obtain ⟨r6, h5, hM⟩ := gb1_some hM
        refine x_csi (As := [.int a2, .int 0, .int 60]) (rest := []) C E.2.2.2.2.2 3 (c_X6_within hG h5) (gBs km_X6_54 kst_X6_within kini_X6 kc_X6_within) rfl rfl rfl ⟨by decide +kernel, by decide +kernel, by decide +kernel⟩ ⟨Nat.le_of_ble_eq_true rfl, Nat.le_of_ble_eq_true rfl⟩ rfl rfl (by decide) dX6_path_31 rfl ?_
        refine x_if_ne (tgt := 39) C dX6_path_34 (by decide) rfl (fun hc => ?_) (fun hc => ?_)
        · replace hM := gif_neg hc hM
          refine x_aln C 0 rfl dX6_path_39 rfl ?_
          refine gXg_0_now C kf_X6_10 dX6_path_40 rfl ?_
          refine gXg_1_minutes C kf_X6_93 dX6_path_43 rfl ?_
          refine x_iln C 1 rfl dX6_path_46 rfl ?_
          obtain ⟨h7, hM⟩ := gck_some hM
          refine gXo_5 C h7 dX6_path_47 rfl ?_
          refine x_iln C 2 rfl dX6_path_48 rfl ?_
          obtain ⟨h8, hM⟩ := gck_some hM
          refine gXa_rown C (inb_lt h7) h8 dX6_path_49 rfl ?_
          obtain ⟨x4_9, ev, hM⟩ := gnm_ex hM
          refine x_ist (lv' := [(4, .int x4_9), (0, .ref (ad 0)), (1, .int a0), (2, .int a1), (3, .int a2)]) C ev (by decide) rfl dX6_path_50 rfl ?_
          refine x_aln C 1 rfl dX6_path_52 rfl ?_
          refine gXg_0_now C kf_X6_10 dX6_path_53 rfl ?_
          refine x_iln C 2 rfl dX6_path_56 rfl ?_
          refine x_iln C 3 rfl dX6_path_57 rfl ?_
          refine x_iln C 4 rfl dX6_path_58 rfl ?_
          obtain ⟨s11, h10, hM⟩ := gb1_some hM
          refine x_cvv (As := [.int a0, .int a1, .int a2]) (rest := []) C E.2.2.2.2.2 3 (c_X1_join hG h10) (gBv km_X6_97 kin_X1_join ksel_X1_join kini_X1 kc_X1_join) rfl rfl rfl ⟨rfl, by decide +kernel, by decide +kernel, by decide +kernel⟩ ⟨Nat.le_of_ble_eq_true rfl, Nat.le_of_ble_eq_true rfl⟩ (by show 1 < 213; decide) rfl rfl rfl rfl (by decide) dX6_path_59 rfl ?_
          refine x_il C 0 rfl dX6_path_62 rfl ?_
          exact x_iret C E (gs2 hM) dX6_path_64
        · replace hM := gif_pos hc hM
          refine x_ic (v := (-1)) C (by decide) dX6_path_37 rfl ?_
          exact x_iret C E (gs2 hM) dX6_path_38
set_option maxRecDepth 100000 in
set_option maxHeartbeats 4000000 in
theorem c_X6_isHour {l : Launch} {D : va_G} {ad : Nat → Nat} {cy : Nat → ClassId} {b : Nat} (hG : gInj (gGX D ad cy b)) {a0 : Int32} {σ : gMem} {r0 : Int32} (hM : m_X6_isHour a0 σ = some r0) : gMi l yX6_isHour (Cond.code yX6_isHour cX6_isHour 1 (some .boolean) :: gBig) { frames := 1, cells := 0, slots := 0, locals := 22 } (gGX D ad cy b) [.int a0] σ r0 σ := by
  refine gIntro (own := RX6) hG (by decide +kernel) rfl rfl (by decide) (lv := [(0, .int a0)]) rfl (fun κ C E => ?_)
  unfold m_X6_isHour at hM
  refine x_iln C 0 rfl dX6_isHour_0 rfl ?_
  refine x_ic (v := 0) C (by decide) dX6_isHour_1 rfl ?_
  refine x_bi (v := 23) C (by decide) dX6_isHour_2 rfl ?_
  obtain ⟨r2, h1, hM⟩ := gb1_some hM
  refine x_csi (As := [.int a0, .int 0, .int 23]) (rest := []) C E.2.2.2.2.2 3 (c_X6_within hG h1) (gBs km_X6_54 kst_X6_within kini_X6 kc_X6_within) rfl rfl rfl ⟨by decide +kernel, by decide +kernel, by decide +kernel⟩ ⟨Nat.le_of_ble_eq_true rfl, Nat.le_of_ble_eq_true rfl⟩ rfl rfl (by decide) dX6_isHour_4 rfl ?_
  obtain ⟨h3, hM⟩ := gck_some hM
  exact x_zret C E h3 ⟨gs1 hM, rfl⟩ dX6_isHour_7
set_option maxRecDepth 100000 in
set_option maxHeartbeats 4000000 in
theorem c_X6_changed_6 {l : Launch} {D : va_G} {ad : Nat → Nat} {cy : Nat → ClassId} {b : Nat} (hG : gInj (gGX D ad cy b)) {a1 : Int32} {a2 : Int32} {σ : gMem} {r0 : Int32} {σ0 : gMem} (hM : m_X6_changed_6 a1 a2 σ = some (r0, σ0)) : gMi l yX6_changed (Cond.code yX6_changed cX6_changed 4 (some .int) :: gBig) { frames := 0, cells := 0, slots := 0, locals := 0 } (gGX D ad cy b) [.ref (ad 6), .int a1, .int a2] σ r0 σ0 := by
  refine gIntro (own := RX6) hG (by decide +kernel) rfl rfl (by decide) (lv := [(0, .ref (ad 6)), (1, .int a1), (2, .int a2)]) rfl (fun κ C E => ?_)
  unfold m_X6_changed_6 at hM
  refine x_aln C 0 rfl dX6_changed_0 rfl ?_
  refine x_iln C 1 rfl dX6_changed_1 rfl ?_
  obtain ⟨h1, hM⟩ := gck_some hM
  refine gXa_6 C h1 dX6_changed_2 rfl ?_
  obtain ⟨x3_2, ev, hM⟩ := gnm_ex hM
  refine x_istn (lv' := [(3, .int x3_2), (0, .ref (ad 6)), (1, .int a1), (2, .int a2)]) C rfl ev (by decide) rfl dX6_changed_3 rfl ?_
  refine x_aln C 1 rfl dX6_changed_4 rfl ?_
  refine x_iln C 2 rfl dX6_changed_5 rfl ?_
  refine x_iln C 3 rfl dX6_changed_6 rfl ?_
  obtain ⟨h3, hM⟩ := gck_some hM
  obtain ⟨s4, ev, hM⟩ := gnm_ex hM
  refine gXs_6 C ev h3 dX6_changed_7 rfl ?_
  refine x_iln C 0 rfl dX6_changed_8 rfl ?_
  exact x_iret C E (gs2 hM) dX6_changed_9
set_option maxRecDepth 100000 in
set_option maxHeartbeats 4000000 in
theorem c_X6_tide {l : Launch} {D : va_G} {ad : Nat → Nat} {cy : Nat → ClassId} {b : Nat} (hG : gInj (gGX D ad cy b)) {a0 : Int32} {a1 : Int32} {σ : gMem} {r0 : Int32} {σ0 : gMem} (hM : m_X6_tide a0 a1 σ = some (r0, σ0)) : gMi l yX6_tide (Cond.code yX6_tide cX6_tide 3 (some .int) :: gBig) { frames := 2, cells := 0, slots := 0, locals := 42 } (gGX D ad cy b) [.ref (ad 0), .int a0, .int a1] σ r0 σ0 := by
  refine gIntro (own := RX6) hG (by decide +kernel) rfl rfl (by decide) (lv := [(0, .ref (ad 0)), (1, .int a0), (2, .int a1)]) rfl (fun κ C E => ?_)
  unfold m_X6_tide at hM
  refine x_iln C 1 rfl dX6_tide_0 rfl ?_
  obtain ⟨r2, h1, hM⟩ := gb1_some hM
  refine x_csi (As := [.int a0]) (rest := []) C E.2.2.2.2.2 1 (c_X6_isHour hG h1) (gBs km_X6_101 kst_X6_isHour kini_X6 kc_X6_isHour) rfl rfl rfl ⟨by decide +kernel, by decide +kernel, by decide +kernel⟩ ⟨Nat.le_of_ble_eq_true rfl, Nat.le_of_ble_eq_true rfl⟩ rfl rfl (by decide) dX6_tide_1 rfl ?_
  refine x_if_eq (tgt := 18) C dX6_tide_4 (by decide) rfl (fun hc => ?_) (fun hc => ?_)
  · replace hM := gif_pos hc hM
    refine x_ldc (v := (-100001)) C (gBc kk_X6_70) dX6_tide_18 rfl ?_
    exact x_iret C E (gs2 hM) dX6_tide_20
  · replace hM := gif_neg hc hM
    refine x_iln C 2 rfl dX6_tide_7 rfl ?_
    refine x_bi (v := (-20)) C (by decide) dX6_tide_8 rfl ?_
    refine x_bi (v := 20) C (by decide) dX6_tide_10 rfl ?_
    obtain ⟨r4, h3, hM⟩ := gb1_some hM
    refine x_csi (As := [.int a1, .int (-20), .int 20]) (rest := []) C E.2.2.2.2.2 3 (c_X6_within hG h3) (gBs km_X6_54 kst_X6_within kini_X6 kc_X6_within) rfl rfl rfl ⟨by decide +kernel, by decide +kernel, by decide +kernel⟩ ⟨Nat.le_of_ble_eq_true rfl, Nat.le_of_ble_eq_true rfl⟩ rfl rfl (by decide) dX6_tide_12 rfl ?_
    refine x_if_ne (tgt := 21) C dX6_tide_15 (by decide) rfl (fun hc => ?_) (fun hc => ?_)
    · replace hM := gif_neg hc hM
      refine x_aln C 0 rfl dX6_tide_21 rfl ?_
      refine gXg_0_now C kf_X6_10 dX6_tide_22 rfl ?_
      refine gXg_1_tideAt C kf_X6_104 dX6_tide_25 rfl ?_
      refine x_iln C 1 rfl dX6_tide_28 rfl ?_
      refine x_iln C 2 rfl dX6_tide_29 rfl ?_
      obtain ⟨r7, s6, h5, hM⟩ := gb2_some hM
      refine x_csi (As := [.ref (ad 6), .int a0, .int a1]) (rest := []) C E.2.2.2.2.2 3 (c_X6_changed_6 hG h5) (gBs km_X6_75 kst_X6_changed kini_X6 kc_X6_changed) rfl rfl rfl ⟨by decide +kernel, by decide +kernel, by decide +kernel⟩ ⟨Nat.le_of_ble_eq_true rfl, Nat.le_of_ble_eq_true rfl⟩ rfl rfl (by decide) dX6_tide_30 rfl ?_
      exact x_iret C E (gs2 hM) dX6_tide_33
    · replace hM := gif_pos hc hM
      refine x_ldc (v := (-100001)) C (gBc kk_X6_70) dX6_tide_18 rfl ?_
      exact x_iret C E (gs2 hM) dX6_tide_20
set_option maxRecDepth 100000 in
set_option maxHeartbeats 4000000 in
theorem c_X6_set {l : Launch} {D : va_G} {ad : Nat → Nat} {cy : Nat → ClassId} {b : Nat} (hG : gInj (gGX D ad cy b)) {a0 : Int32} {a1 : Int32} {σ : gMem} {r0 : Int32} {σ0 : gMem} (hM : m_X6_set a0 a1 σ = some (r0, σ0)) : gMi l yX6_set (Cond.code yX6_set cX6_set 4 (some .int) :: gBig) { frames := 1, cells := 0, slots := 0, locals := 22 } (gGX D ad cy b) [.ref (ad 0), .int a0, .int a1] σ r0 σ0 := by
  refine gIntro (own := RX6) hG (by decide +kernel) rfl rfl (by decide) (lv := [(0, .ref (ad 0)), (1, .int a0), (2, .int a1)]) rfl (fun κ C E => ?_)
  unfold m_X6_set at hM
  refine x_iln C 1 rfl dX6_set_0 rfl ?_
  refine x_if_ne (tgt := 32) C dX6_set_1 (by decide) rfl (fun hc => ?_) (fun hc => ?_)
  · replace hM := gif_neg hc hM
    refine x_iln C 1 rfl dX6_set_32 rfl ?_
    refine x_ic (v := 1) C (by decide) dX6_set_33 rfl ?_
    refine x_ic_ne (tgt := 65) C dX6_set_34 (by decide) rfl (fun hc => ?_) (fun hc => ?_)
    · replace hM := gif_neg hc hM
      refine x_ic (v := (-1)) C (by decide) dX6_set_65 rfl ?_
      exact x_iret C E (gs2 hM) dX6_set_66
    · replace hM := gif_pos hc hM
      refine x_iln C 2 rfl dX6_set_37 rfl ?_
      refine x_ic (v := 0) C (by decide) dX6_set_38 rfl ?_
      refine x_bi (v := 60) C (by decide) dX6_set_39 rfl ?_
      obtain ⟨r2, h1, hM⟩ := gb1_some hM
      refine x_csi (As := [.int a1, .int 0, .int 60]) (rest := []) C E.2.2.2.2.2 3 (c_X6_within hG h1) (gBs km_X6_54 kst_X6_within kini_X6 kc_X6_within) rfl rfl rfl ⟨by decide +kernel, by decide +kernel, by decide +kernel⟩ ⟨Nat.le_of_ble_eq_true rfl, Nat.le_of_ble_eq_true rfl⟩ rfl rfl (by decide) dX6_set_41 rfl ?_
      refine x_if_eq (tgt := 65) C dX6_set_44 (by decide) rfl (fun hc => ?_) (fun hc => ?_)
      · replace hM := gif_pos hc hM
        refine x_ic (v := (-1)) C (by decide) dX6_set_65 rfl ?_
        exact x_iret C E (gs2 hM) dX6_set_66
      · replace hM := gif_neg hc hM
        refine x_aln C 0 rfl dX6_set_47 rfl ?_
        refine gXg_0_now C kf_X6_10 dX6_set_48 rfl ?_
        refine gXg_1_reach C kf_X6_110 dX6_set_51 rfl ?_
        obtain ⟨x3_3, ev, hM⟩ := gnm_ex hM
        refine x_istn (lv' := [(3, .int x3_3), (0, .ref (ad 0)), (1, .int a0), (2, .int a1)]) C rfl ev (by decide) rfl dX6_set_54 rfl ?_
        refine x_aln C 1 rfl dX6_set_55 rfl ?_
        refine gXg_0_now C kf_X6_10 dX6_set_56 rfl ?_
        refine x_iln C 3 rfl dX6_set_59 rfl ?_
        obtain ⟨s4, ev, hM⟩ := gnm_ex hM
        refine gXp_1_reach C ev kf_X6_110 dX6_set_60 rfl ?_
        refine x_iln C 0 rfl dX6_set_63 rfl ?_
        exact x_iret C E (gs2 hM) dX6_set_64
  · replace hM := gif_pos hc hM
    refine x_iln C 2 rfl dX6_set_4 rfl ?_
    refine x_ic (v := 0) C (by decide) dX6_set_5 rfl ?_
    refine x_bi (v := 40) C (by decide) dX6_set_6 rfl ?_
    obtain ⟨r6, h5, hM⟩ := gb1_some hM
    refine x_csi (As := [.int a1, .int 0, .int 40]) (rest := []) C E.2.2.2.2.2 3 (c_X6_within hG h5) (gBs km_X6_54 kst_X6_within kini_X6 kc_X6_within) rfl rfl rfl ⟨by decide +kernel, by decide +kernel, by decide +kernel⟩ ⟨Nat.le_of_ble_eq_true rfl, Nat.le_of_ble_eq_true rfl⟩ rfl rfl (by decide) dX6_set_8 rfl ?_
    refine x_if_eq (tgt := 32) C dX6_set_11 (by decide) rfl (fun hc => ?_) (fun hc => ?_)
    · replace hM := gif_pos hc hM
      refine x_iln C 1 rfl dX6_set_32 rfl ?_
      refine x_ic (v := 1) C (by decide) dX6_set_33 rfl ?_
      refine x_ic_ne (tgt := 65) C dX6_set_34 (by decide) rfl (fun hc => ?_) (fun hc => ?_)
      · replace hM := gif_neg hc hM
        refine x_ic (v := (-1)) C (by decide) dX6_set_65 rfl ?_
        exact x_iret C E (gs2 hM) dX6_set_66
      · replace hM := gif_pos hc hM
        refine x_iln C 2 rfl dX6_set_37 rfl ?_
        refine x_ic (v := 0) C (by decide) dX6_set_38 rfl ?_
        refine x_bi (v := 60) C (by decide) dX6_set_39 rfl ?_
        obtain ⟨r8, h7, hM⟩ := gb1_some hM
        refine x_csi (As := [.int a1, .int 0, .int 60]) (rest := []) C E.2.2.2.2.2 3 (c_X6_within hG h7) (gBs km_X6_54 kst_X6_within kini_X6 kc_X6_within) rfl rfl rfl ⟨by decide +kernel, by decide +kernel, by decide +kernel⟩ ⟨Nat.le_of_ble_eq_true rfl, Nat.le_of_ble_eq_true rfl⟩ rfl rfl (by decide) dX6_set_41 rfl ?_
        refine x_if_eq (tgt := 65) C dX6_set_44 (by decide) rfl (fun hc => ?_) (fun hc => ?_)
        · replace hM := gif_pos hc hM
          refine x_ic (v := (-1)) C (by decide) dX6_set_65 rfl ?_
          exact x_iret C E (gs2 hM) dX6_set_66
        · replace hM := gif_neg hc hM
          refine x_aln C 0 rfl dX6_set_47 rfl ?_
          refine gXg_0_now C kf_X6_10 dX6_set_48 rfl ?_
          refine gXg_1_reach C kf_X6_110 dX6_set_51 rfl ?_
          obtain ⟨x3_9, ev, hM⟩ := gnm_ex hM
          refine x_istn (lv' := [(3, .int x3_9), (0, .ref (ad 0)), (1, .int a0), (2, .int a1)]) C rfl ev (by decide) rfl dX6_set_54 rfl ?_
          refine x_aln C 1 rfl dX6_set_55 rfl ?_
          refine gXg_0_now C kf_X6_10 dX6_set_56 rfl ?_
          refine x_iln C 3 rfl dX6_set_59 rfl ?_
          obtain ⟨s10, ev, hM⟩ := gnm_ex hM
          refine gXp_1_reach C ev kf_X6_110 dX6_set_60 rfl ?_
          refine x_iln C 0 rfl dX6_set_63 rfl ?_
          exact x_iret C E (gs2 hM) dX6_set_64
    · replace hM := gif_neg hc hM
      refine x_aln C 0 rfl dX6_set_14 rfl ?_
      refine gXg_0_now C kf_X6_10 dX6_set_15 rfl ?_
      refine gXg_1_floodTold C kf_X6_107 dX6_set_18 rfl ?_
      obtain ⟨x3_11, ev, hM⟩ := gnm_ex hM
      refine x_istn (lv' := [(3, .int x3_11), (0, .ref (ad 0)), (1, .int a0), (2, .int a1)]) C rfl ev (by decide) rfl dX6_set_21 rfl ?_
      refine x_aln C 1 rfl dX6_set_22 rfl ?_
      refine gXg_0_now C kf_X6_10 dX6_set_23 rfl ?_
      refine x_iln C 3 rfl dX6_set_26 rfl ?_
      obtain ⟨s12, ev, hM⟩ := gnm_ex hM
      refine gXp_1_floodTold C ev kf_X6_107 dX6_set_27 rfl ?_
      refine x_iln C 0 rfl dX6_set_30 rfl ?_
      exact x_iret C E (gs2 hM) dX6_set_31
set_option maxRecDepth 100000 in
set_option maxHeartbeats 4000000 in
theorem c_X1_addPerson {l : Launch} {D : va_G} {ad : Nat → Nat} {cy : Nat → ClassId} {b : Nat} (hG : gInj (gGX D ad cy b)) {a0 : Int32} {a1 : Int32} {a2 : Int32} {σ : gMem} {r0 : Int32} {σ0 : gMem} (hM : m_X1_addPerson a0 a1 a2 σ = some (r0, σ0)) : gMi l yX1_addPerson (Cond.code yX1_addPerson cX1_addPerson 4 (some .int) :: gBig) { frames := 0, cells := 0, slots := 0, locals := 0 } (gGX D ad cy b) [.ref (ad 1), .int a0, .int a1, .int a2] σ r0 σ0 := by
  refine gIntro (own := RX1) hG (by decide +kernel) rfl rfl (by decide) (lv := [(0, .ref (ad 1)), (1, .int a0), (2, .int a1), (3, .int a2)]) rfl (fun κ C E => ?_)
  unfold m_X1_addPerson at hM
  refine x_aln C 0 rfl dX1_addPerson_0 rfl ?_
  refine gXg_1_kinds C kf_X1_33 dX1_addPerson_1 rfl ?_
  refine x_aln C 0 rfl dX1_addPerson_4 rfl ?_
  refine gXg_1_people C kf_X1_57 dX1_addPerson_5 rfl ?_
  refine x_iln C 1 rfl dX1_addPerson_8 rfl ?_
  obtain ⟨h1, hM⟩ := gck_some hM
  obtain ⟨s2, ev, hM⟩ := gnm_ex hM
  refine gXs_7 C ev h1 dX1_addPerson_9 rfl ?_
  refine x_aln C 0 rfl dX1_addPerson_10 rfl ?_
  refine gXg_1_told C kf_X1_36 dX1_addPerson_11 rfl ?_
  refine x_aln C 0 rfl dX1_addPerson_14 rfl ?_
  refine gXg_1_people C kf_X1_57 dX1_addPerson_15 rfl ?_
  refine x_iln C 2 rfl dX1_addPerson_18 rfl ?_
  obtain ⟨h3, hM⟩ := gck_some hM
  obtain ⟨s4, ev, hM⟩ := gnm_ex hM
  refine gXs_8 C ev h3 dX1_addPerson_19 rfl ?_
  refine x_aln C 0 rfl dX1_addPerson_20 rfl ?_
  refine gXg_1_homes C kf_X1_39 dX1_addPerson_21 rfl ?_
  refine x_aln C 0 rfl dX1_addPerson_24 rfl ?_
  refine gXg_1_people C kf_X1_57 dX1_addPerson_25 rfl ?_
  refine x_iln C 3 rfl dX1_addPerson_28 rfl ?_
  obtain ⟨h5, hM⟩ := gck_some hM
  obtain ⟨s6, ev, hM⟩ := gnm_ex hM
  refine gXs_9 C ev h5 dX1_addPerson_29 rfl ?_
  refine x_aln C 0 rfl dX1_addPerson_30 rfl ?_
  refine x_dup C rfl dX1_addPerson_31 rfl ?_
  refine gXg_1_people C kf_X1_57 dX1_addPerson_32 rfl ?_
  refine x_dupx1 C rfl rfl dX1_addPerson_35 rfl ?_
  refine x_ic (v := 1) C (by decide) dX1_addPerson_36 rfl ?_
  refine x_iadd C dX1_addPerson_37 rfl ?_
  obtain ⟨s7, ev, hM⟩ := gnm_ex hM
  refine gXp_1_people C ev kf_X1_57 dX1_addPerson_38 rfl ?_
  exact x_iret C E (gs2 hM) dX1_addPerson_41
set_option maxRecDepth 100000 in
set_option maxHeartbeats 4000000 in
theorem c_X6_person {l : Launch} {D : va_G} {ad : Nat → Nat} {cy : Nat → ClassId} {b : Nat} (hG : gInj (gGX D ad cy b)) {a0 : Int32} {a1 : Int32} {a2 : Int32} {σ : gMem} {r0 : Int32} {σ0 : gMem} (hM : m_X6_person a0 a1 a2 σ = some (r0, σ0)) : gMi l yX6_person (Cond.code yX6_person cX6_person 4 (some .int) :: gBig) { frames := 2, cells := 0, slots := 0, locals := 43 } (gGX D ad cy b) [.ref (ad 0), .int a0, .int a1, .int a2] σ r0 σ0 := by
  refine gIntro (own := RX6) hG (by decide +kernel) rfl rfl (by decide) (lv := [(0, .ref (ad 0)), (1, .int a0), (2, .int a1), (3, .int a2)]) rfl (fun κ C E => ?_)
  unfold m_X6_person at hM
  refine x_iln C 1 rfl dX6_person_0 rfl ?_
  refine x_ic (v := 0) C (by decide) dX6_person_1 rfl ?_
  refine x_ic (v := 3) C (by decide) dX6_person_2 rfl ?_
  obtain ⟨r2, h1, hM⟩ := gb1_some hM
  refine x_csi (As := [.int a0, .int 0, .int 3]) (rest := []) C E.2.2.2.2.2 3 (c_X6_within hG h1) (gBs km_X6_54 kst_X6_within kini_X6 kc_X6_within) rfl rfl rfl ⟨by decide +kernel, by decide +kernel, by decide +kernel⟩ ⟨Nat.le_of_ble_eq_true rfl, Nat.le_of_ble_eq_true rfl⟩ rfl rfl (by decide) dX6_person_3 rfl ?_
  refine x_if_eq (tgt := 30) C dX6_person_6 (by decide) rfl (fun hc => ?_) (fun hc => ?_)
  · replace hM := gif_pos hc hM
    refine x_ic (v := (-1)) C (by decide) dX6_person_30 rfl ?_
    exact x_iret C E (gs2 hM) dX6_person_31
  · replace hM := gif_neg hc hM
    refine x_iln C 2 rfl dX6_person_9 rfl ?_
    refine x_ic (v := 0) C (by decide) dX6_person_10 rfl ?_
    refine x_bi (v := 60) C (by decide) dX6_person_11 rfl ?_
    obtain ⟨r4, h3, hM⟩ := gb1_some hM
    refine x_csi (As := [.int a1, .int 0, .int 60]) (rest := []) C E.2.2.2.2.2 3 (c_X6_within hG h3) (gBs km_X6_54 kst_X6_within kini_X6 kc_X6_within) rfl rfl rfl ⟨by decide +kernel, by decide +kernel, by decide +kernel⟩ ⟨Nat.le_of_ble_eq_true rfl, Nat.le_of_ble_eq_true rfl⟩ rfl rfl (by decide) dX6_person_13 rfl ?_
    refine x_if_eq (tgt := 30) C dX6_person_16 (by decide) rfl (fun hc => ?_) (fun hc => ?_)
    · replace hM := gif_pos hc hM
      refine x_ic (v := (-1)) C (by decide) dX6_person_30 rfl ?_
      exact x_iret C E (gs2 hM) dX6_person_31
    · replace hM := gif_neg hc hM
      refine x_aln C 0 rfl dX6_person_19 rfl ?_
      refine gXg_0_now C kf_X6_10 dX6_person_20 rfl ?_
      refine x_iln C 3 rfl dX6_person_23 rfl ?_
      obtain ⟨r6, h5, hM⟩ := gb1_some hM
      refine x_cvi (As := [.int a2]) (rest := []) C E.2.2.2.2.2 1 (c_X1_hasPlace hG h5) (gBv km_X6_66 kin_X1_hasPlace ksel_X1_hasPlace kini_X1 kc_X1_hasPlace) rfl rfl rfl ⟨rfl, by decide +kernel, by decide +kernel, by decide +kernel⟩ ⟨Nat.le_of_ble_eq_true rfl, Nat.le_of_ble_eq_true rfl⟩ (by show 1 < 213; decide) rfl rfl rfl rfl (by decide) dX6_person_24 rfl ?_
      refine x_if_ne (tgt := 32) C dX6_person_27 (by decide) rfl (fun hc => ?_) (fun hc => ?_)
      · replace hM := gif_neg hc hM
        refine x_aln C 0 rfl dX6_person_32 rfl ?_
        refine gXg_0_now C kf_X6_10 dX6_person_33 rfl ?_
        refine gXg_1_people C kf_X6_113 dX6_person_36 rfl ?_
        refine x_bi (v := 8) C (by decide) dX6_person_39 rfl ?_
        refine x_ic_lt (tgt := 47) C dX6_person_41 (by decide) rfl (fun hc => ?_) (fun hc => ?_)
        · replace hM := gif_pos hc hM
          refine x_aln C 0 rfl dX6_person_47 rfl ?_
          refine gXg_0_now C kf_X6_10 dX6_person_48 rfl ?_
          refine x_iln C 1 rfl dX6_person_51 rfl ?_
          refine x_iln C 2 rfl dX6_person_52 rfl ?_
          refine x_iln C 3 rfl dX6_person_53 rfl ?_
          obtain ⟨r9, s8, h7, hM⟩ := gb2_some hM
          refine x_cvi (As := [.int a0, .int a1, .int a2]) (rest := []) C E.2.2.2.2.2 3 (c_X1_addPerson hG h7) (gBv km_X6_116 kin_X1_addPerson ksel_X1_addPerson kini_X1 kc_X1_addPerson) rfl rfl rfl ⟨rfl, by decide +kernel, by decide +kernel, by decide +kernel⟩ ⟨Nat.le_of_ble_eq_true rfl, Nat.le_of_ble_eq_true rfl⟩ (by show 1 < 213; decide) rfl rfl rfl rfl (by decide) dX6_person_54 rfl ?_
          exact x_iret C E (gs2 hM) dX6_person_57
        · replace hM := gif_neg hc hM
          refine x_bi (v := (-3)) C (by decide) dX6_person_44 rfl ?_
          exact x_iret C E (gs2 hM) dX6_person_46
      · replace hM := gif_pos hc hM
        refine x_ic (v := (-1)) C (by decide) dX6_person_30 rfl ?_
        exact x_iret C E (gs2 hM) dX6_person_31
set_option maxRecDepth 100000 in
set_option maxHeartbeats 4000000 in
theorem c_X1_hasPerson {l : Launch} {D : va_G} {ad : Nat → Nat} {cy : Nat → ClassId} {b : Nat} (hG : gInj (gGX D ad cy b)) {a0 : Int32} {σ : gMem} {r0 : Int32} (hM : m_X1_hasPerson a0 σ = some r0) : gMi l yX1_hasPerson (Cond.code yX1_hasPerson cX1_hasPerson 2 (some .boolean) :: gBig) { frames := 1, cells := 0, slots := 0, locals := 22 } (gGX D ad cy b) [.ref (ad 1), .int a0] σ r0 σ := by
  refine gIntro (own := RX1) hG (by decide +kernel) rfl rfl (by decide) (lv := [(0, .ref (ad 1)), (1, .int a0)]) rfl (fun κ C E => ?_)
  unfold m_X1_hasPerson at hM
  refine x_iln C 1 rfl dX1_hasPerson_0 rfl ?_
  refine x_ic (v := 0) C (by decide) dX1_hasPerson_1 rfl ?_
  refine x_aln C 0 rfl dX1_hasPerson_2 rfl ?_
  refine gXg_1_people C kf_X1_57 dX1_hasPerson_3 rfl ?_
  refine x_ic (v := 1) C (by decide) dX1_hasPerson_6 rfl ?_
  refine x_isub C dX1_hasPerson_7 rfl ?_
  obtain ⟨r2, h1, hM⟩ := gb1_some hM
  refine x_csni (As := [.int a0, .int 0, .int ((σ 1 8) - 1)]) (rest := []) C E.2.2.2.2.2 3 (c_X6_within hG h1) (gBn kc_X6_within) rfl rfl rfl (by decide +kernel) (gBc kini_X6) (gBc kst_X6_within) ⟨by decide +kernel, by decide +kernel, by decide +kernel⟩ ⟨Nat.le_of_ble_eq_true rfl, Nat.le_of_ble_eq_true rfl⟩ rfl rfl (by decide) dX1_hasPerson_8 rfl ?_
  obtain ⟨h3, hM⟩ := gck_some hM
  exact x_zret C E h3 ⟨gs1 hM, rfl⟩ dX1_hasPerson_11
set_option maxRecDepth 100000 in
set_option maxHeartbeats 4000000 in
theorem c_X1_lengthByKind {l : Launch} {D : va_G} {ad : Nat → Nat} {cy : Nat → ClassId} {b : Nat} (hG : gInj (gGX D ad cy b)) {a0 : Int32} {a1 : Int32} {a2 : Int32} {σ : gMem} {r0 : Int32} (hM : m_X1_lengthByKind a0 a1 a2 σ = some r0) : gMi l yX1_lengthByKind (Cond.code yX1_lengthByKind cX1_lengthByKind 4 (some .int) :: gBig) { frames := 1, cells := 0, slots := 0, locals := 13 } (gGX D ad cy b) [.ref (ad 1), .int a0, .int a1, .int a2] σ r0 σ := by
  refine gIntro (own := RX1) hG (by decide +kernel) rfl rfl (by decide) (lv := [(0, .ref (ad 1)), (1, .int a0), (2, .int a1), (3, .int a2)]) rfl (fun κ C E => ?_)
  unfold m_X1_lengthByKind at hM
  refine x_iln C 1 rfl dX1_lengthByKind_0 rfl ?_
  refine x_ic (v := 2) C (by decide) dX1_lengthByKind_1 rfl ?_
  refine x_ic_ne (tgt := 13) C dX1_lengthByKind_2 (by decide) rfl (fun hc => ?_) (fun hc => ?_)
  · replace hM := gif_neg hc hM
    refine x_iln C 1 rfl dX1_lengthByKind_13 rfl ?_
    refine x_ic (v := 3) C (by decide) dX1_lengthByKind_14 rfl ?_
    refine x_ic_ne (tgt := 24) C dX1_lengthByKind_15 (by decide) rfl (fun hc => ?_) (fun hc => ?_)
    · replace hM := gif_neg hc hM
      refine x_iln C 2 rfl dX1_lengthByKind_24 rfl ?_
      exact x_iret C E ⟨gs1 hM, rfl⟩ dX1_lengthByKind_25
    · replace hM := gif_pos hc hM
      refine x_iln C 2 rfl dX1_lengthByKind_18 rfl ?_
      refine x_iln C 3 rfl dX1_lengthByKind_19 rfl ?_
      refine x_iadd C dX1_lengthByKind_20 rfl ?_
      refine x_goto (tgt := 25) C dX1_lengthByKind_21 (by decide) ?_
      exact x_iret C E ⟨gs1 hM, rfl⟩ dX1_lengthByKind_25
  · replace hM := gif_pos hc hM
    refine x_ic (v := 0) C (by decide) dX1_lengthByKind_5 rfl ?_
    refine x_iln C 2 rfl dX1_lengthByKind_6 rfl ?_
    refine x_ic (v := 2) C (by decide) dX1_lengthByKind_7 rfl ?_
    refine x_isub C dX1_lengthByKind_8 rfl ?_
    refine x_mmax C (gBc km_X1_101) (gBc kst_Math_max) (gBc kini_JMath) (gBc kc_Math_max) (by decide) (Nat.le_of_ble_eq_true rfl) dX1_lengthByKind_9 rfl ?_
    exact x_iret C E ⟨gs1 hM, rfl⟩ dX1_lengthByKind_12
set_option maxRecDepth 100000 in
set_option maxHeartbeats 4000000 in
theorem c_X1_lengthOf {l : Launch} {D : va_G} {ad : Nat → Nat} {cy : Nat → ClassId} {b : Nat} (hG : gInj (gGX D ad cy b)) {a0 : Int32} {σ : gMem} {r0 : Int32} (hM : m_X1_lengthOf a0 σ = some r0) : gMi l yX1_lengthOf (Cond.code yX1_lengthOf cX1_lengthOf 2 (some .int) :: gBig) { frames := 2, cells := 0, slots := 0, locals := 36 } (gGX D ad cy b) [.ref (ad 1), .int a0] σ r0 σ := by
  refine gIntro (own := RX1) hG (by decide +kernel) rfl rfl (by decide) (lv := [(0, .ref (ad 1)), (1, .int a0)]) rfl (fun κ C E => ?_)
  unfold m_X1_lengthOf at hM
  refine x_aln C 0 rfl dX1_lengthOf_0 rfl ?_
  refine x_aln C 0 rfl dX1_lengthOf_1 rfl ?_
  refine gXg_1_kinds C kf_X1_33 dX1_lengthOf_2 rfl ?_
  refine x_iln C 1 rfl dX1_lengthOf_5 rfl ?_
  obtain ⟨h1, hM⟩ := gck_some hM
  refine gXa_7 C h1 dX1_lengthOf_6 rfl ?_
  refine x_aln C 0 rfl dX1_lengthOf_7 rfl ?_
  refine gXg_1_told C kf_X1_36 dX1_lengthOf_8 rfl ?_
  refine x_iln C 1 rfl dX1_lengthOf_11 rfl ?_
  obtain ⟨h2, hM⟩ := gck_some hM
  refine gXa_8 C h2 dX1_lengthOf_12 rfl ?_
  refine x_aln C 0 rfl dX1_lengthOf_13 rfl ?_
  refine gXg_1_yearsGone C kf_X1_63 dX1_lengthOf_14 rfl ?_
  obtain ⟨r4, h3, hM⟩ := gb1_some hM
  refine x_cvi (As := [.int (σ 7 a0.toNatClampNeg), .int (σ 8 a0.toNatClampNeg), .int (σ 1 16)]) (rest := []) C E.2.2.2.2.2 3 (c_X1_lengthByKind hG h3) (gBv km_X1_113 kin_X1_lengthByKind ksel_X1_lengthByKind kini_X1 kc_X1_lengthByKind) rfl rfl rfl ⟨rfl, by decide +kernel, by decide +kernel, by decide +kernel⟩ ⟨Nat.le_of_ble_eq_true rfl, Nat.le_of_ble_eq_true rfl⟩ (by show 1 < 213; decide) rfl rfl rfl rfl (by decide) dX1_lengthOf_17 rfl ?_
  exact x_iret C E ⟨gs1 hM, rfl⟩ dX1_lengthOf_20
set_option maxRecDepth 100000 in
set_option maxHeartbeats 4000000 in
theorem c_X6_of {l : Launch} {D : va_G} {ad : Nat → Nat} {cy : Nat → ClassId} {b : Nat} (hG : gInj (gGX D ad cy b)) {a0 : Int32} {a1 : Int32} {σ : gMem} {r0 : Int32} (hM : m_X6_of a0 a1 σ = some r0) : gMi l yX6_of (Cond.code yX6_of cX6_of 3 (some .int) :: gBig) { frames := 3, cells := 0, slots := 0, locals := 57 } (gGX D ad cy b) [.ref (ad 0), .int a0, .int a1] σ r0 σ := by
  refine gIntro (own := RX6) hG (by decide +kernel) rfl rfl (by decide) (lv := [(0, .ref (ad 0)), (1, .int a0), (2, .int a1)]) rfl (fun κ C E => ?_)
  unfold m_X6_of at hM
  refine x_aln C 0 rfl dX6_of_0 rfl ?_
  refine gXg_0_now C kf_X6_10 dX6_of_1 rfl ?_
  refine x_iln C 1 rfl dX6_of_4 rfl ?_
  obtain ⟨r2, h1, hM⟩ := gb1_some hM
  refine x_cvi (As := [.int a0]) (rest := []) C E.2.2.2.2.2 1 (c_X1_hasPerson hG h1) (gBv km_X6_120 kin_X1_hasPerson ksel_X1_hasPerson kini_X1 kc_X1_hasPerson) rfl rfl rfl ⟨rfl, by decide +kernel, by decide +kernel, by decide +kernel⟩ ⟨Nat.le_of_ble_eq_true rfl, Nat.le_of_ble_eq_true rfl⟩ (by show 1 < 213; decide) rfl rfl rfl rfl (by decide) dX6_of_5 rfl ?_
  refine x_if_ne (tgt := 13) C dX6_of_8 (by decide) rfl (fun hc => ?_) (fun hc => ?_)
  · replace hM := gif_neg hc hM
    refine x_iln C 2 rfl dX6_of_13 rfl ?_
    by_cases h4 : a1 = 0
    · have hM := gif_pos h4 hM
      refine x_swin (tgt := 44) C dX6_of_14 (by rw [h4]; decide) (by rw [h4]; decide) (by rw [h4]; rfl) (by decide) ?_
      refine x_aln C 0 rfl dX6_of_44 rfl ?_
      refine gXg_0_now C kf_X6_10 dX6_of_45 rfl ?_
      refine gXg_1_kinds C kf_X6_123 dX6_of_48 rfl ?_
      refine x_iln C 1 rfl dX6_of_51 rfl ?_
      obtain ⟨h3, hM⟩ := gck_some hM
      refine gXa_7 C h3 dX6_of_52 rfl ?_
      exact x_iret C E ⟨gs1 hM, rfl⟩ dX6_of_53
    replace hM := gif_neg h4 hM
    by_cases h6 : a1 = 1
    · have hM := gif_pos h6 hM
      refine x_swin (tgt := 54) C dX6_of_14 (by rw [h6]; decide) (by rw [h6]; decide) (by rw [h6]; rfl) (by decide) ?_
      refine x_aln C 0 rfl dX6_of_54 rfl ?_
      refine gXg_0_now C kf_X6_10 dX6_of_55 rfl ?_
      refine gXg_1_told C kf_X6_126 dX6_of_58 rfl ?_
      refine x_iln C 1 rfl dX6_of_61 rfl ?_
      obtain ⟨h5, hM⟩ := gck_some hM
      refine gXa_8 C h5 dX6_of_62 rfl ?_
      exact x_iret C E ⟨gs1 hM, rfl⟩ dX6_of_63
    replace hM := gif_neg h6 hM
    by_cases h9 : a1 = 2
    · have hM := gif_pos h9 hM
      refine x_swin (tgt := 64) C dX6_of_14 (by rw [h9]; decide) (by rw [h9]; decide) (by rw [h9]; rfl) (by decide) ?_
      refine x_aln C 0 rfl dX6_of_64 rfl ?_
      refine gXg_0_now C kf_X6_10 dX6_of_65 rfl ?_
      refine x_iln C 1 rfl dX6_of_68 rfl ?_
      obtain ⟨r8, h7, hM⟩ := gb1_some hM
      refine x_cvi (As := [.int a0]) (rest := []) C E.2.2.2.2.2 1 (c_X1_lengthOf hG h7) (gBv km_X6_129 kin_X1_lengthOf ksel_X1_lengthOf kini_X1 kc_X1_lengthOf) rfl rfl rfl ⟨rfl, by decide +kernel, by decide +kernel, by decide +kernel⟩ ⟨Nat.le_of_ble_eq_true rfl, Nat.le_of_ble_eq_true rfl⟩ (by show 1 < 213; decide) rfl rfl rfl rfl (by decide) dX6_of_69 rfl ?_
      exact x_iret C E ⟨gs1 hM, rfl⟩ dX6_of_72
    replace hM := gif_neg h9 hM
    by_cases h11 : a1 = 3
    · have hM := gif_pos h11 hM
      refine x_swin (tgt := 73) C dX6_of_14 (by rw [h11]; decide) (by rw [h11]; decide) (by rw [h11]; rfl) (by decide) ?_
      refine x_aln C 0 rfl dX6_of_73 rfl ?_
      refine gXg_0_now C kf_X6_10 dX6_of_74 rfl ?_
      refine gXg_1_homes C kf_X6_132 dX6_of_77 rfl ?_
      refine x_iln C 1 rfl dX6_of_80 rfl ?_
      obtain ⟨h10, hM⟩ := gck_some hM
      refine gXa_9 C h10 dX6_of_81 rfl ?_
      exact x_iret C E ⟨gs1 hM, rfl⟩ dX6_of_82
    replace hM := gif_neg h11 hM
    refine x_swout (tgt := 83) C dX6_of_14 (by have := gnI (k := 0) (n := 0) h4 (by decide); have := gnI (k := 1) (n := 1) h6 (by decide); have := gnI (k := 2) (n := 2) h9 (by decide); have := gnI (k := 3) (n := 3) h11 (by decide); omega) (by decide) ?_
    refine x_ic (v := (-1)) C (by decide) dX6_of_83 rfl ?_
    exact x_iret C E ⟨gs1 hM, rfl⟩ dX6_of_84
  · replace hM := gif_pos hc hM
    refine x_ic (v := (-1)) C (by decide) dX6_of_11 rfl ?_
    exact x_iret C E ⟨gs1 hM, rfl⟩ dX6_of_12
set_option maxRecDepth 100000 in
set_option maxHeartbeats 4000000 in
theorem c_X6_byteOf {l : Launch} {D : va_G} {ad : Nat → Nat} {cy : Nat → ClassId} {b : Nat} (hG : gInj (gGX D ad cy b)) {a0 : Int64} {a1 : Int32} {σ : gMem} {r0 : Int32} (hM : m_X6_byteOf a0 a1 σ = some r0) : gMi l yX6_byteOf (Cond.code yX6_byteOf cX6_byteOf 3 (some .int) :: gBig) { frames := 0, cells := 0, slots := 0, locals := 0 } (gGX D ad cy b) [.long a0, .int a1] σ r0 σ := by
  refine gIntro (own := RX6) hG (by decide +kernel) rfl rfl (by decide) (lv := [(0, .long a0), (2, .int a1)]) rfl (fun κ C E => ?_)
  unfold m_X6_byteOf at hM
  refine x_lln C 0 rfl dX6_byteOf_0 rfl ?_
  refine x_bi (v := 8) C (by decide) dX6_byteOf_1 rfl ?_
  refine x_iln C 1 rfl dX6_byteOf_3 rfl ?_
  refine x_imul C dX6_byteOf_4 rfl ?_
  refine x_lshr C dX6_byteOf_5 rfl ?_
  refine x_ldc2 (v := 255) C (gBc kk_X6_285) dX6_byteOf_6 rfl ?_
  refine x_land C dX6_byteOf_9 rfl ?_
  refine x_l2i C dX6_byteOf_10 rfl ?_
  exact x_iret C E ⟨gs1 hM, rfl⟩ dX6_byteOf_11
set_option maxRecDepth 100000 in
set_option maxHeartbeats 4000000 in
theorem c_X3_append {l : Launch} {D : va_G} {ad : Nat → Nat} {cy : Nat → ClassId} {b : Nat} (hG : gInj (gGX D ad cy b)) {a0 : Int32} {σ : gMem} {σ0 : gMem} (hM : m_X3_append a0 σ = some σ0) : gMv l yX3_append (Cond.code yX3_append cX3_append 2 none :: gBig) { frames := 0, cells := 0, slots := 0, locals := 0 } (gGX D ad cy b) [.ref (ad 49), .int a0] σ σ0 := by
  refine gIntro (own := RX3) hG (by decide +kernel) rfl rfl (by decide) (lv := [(0, .ref (ad 49)), (1, .int a0)]) rfl (fun κ C E => ?_)
  unfold m_X3_append at hM
  refine x_aln C 0 rfl dX3_append_0 rfl ?_
  refine gXg_49_length C kf_X3_24 dX3_append_1 rfl ?_
  refine x_bi (v := 80) C (by decide) dX3_append_4 rfl ?_
  refine x_ic_ge (tgt := 29) C dX3_append_6 (by decide) rfl (fun hc => ?_) (fun hc => ?_)
  · replace hM := gif_pos hc hM
    exact x_vret C E (gs1 hM) dX3_append_29
  · replace hM := gif_neg hc hM
    refine x_aln C 0 rfl dX3_append_9 rfl ?_
    refine gXg_49_signs C kf_X3_9 dX3_append_10 rfl ?_
    refine x_aln C 0 rfl dX3_append_13 rfl ?_
    refine gXg_49_length C kf_X3_24 dX3_append_14 rfl ?_
    refine x_iln C 1 rfl dX3_append_17 rfl ?_
    obtain ⟨h1, hM⟩ := gck_some hM
    obtain ⟨s2, ev, hM⟩ := gnm_ex hM
    refine gXs_50 C ev h1 dX3_append_18 rfl ?_
    refine x_aln C 0 rfl dX3_append_19 rfl ?_
    refine x_dup C rfl dX3_append_20 rfl ?_
    refine gXg_49_length C kf_X3_24 dX3_append_21 rfl ?_
    refine x_ic (v := 1) C (by decide) dX3_append_24 rfl ?_
    refine x_iadd C dX3_append_25 rfl ?_
    obtain ⟨s3, ev, hM⟩ := gnm_ex hM
    refine gXp_49_length C ev kf_X3_24 dX3_append_26 rfl ?_
    exact x_vret C E (gs1 hM) dX3_append_29
set_option maxRecDepth 100000 in
set_option maxHeartbeats 4000000 in
theorem c_X6_type {l : Launch} {D : va_G} {ad : Nat → Nat} {cy : Nat → ClassId} {b : Nat} (hG : gInj (gGX D ad cy b)) {a0 : Int64} {a1 : Int32} {σ : gMem} {r0 : Int32} {σ0 : gMem} (hM : m_X6_type a0 a1 σ = some (r0, σ0)) : gMi l yX6_type (Cond.code yX6_type cX6_type 5 (some .int) :: gBig) { frames := 1, cells := 0, slots := 0, locals := 22 } (gGX D ad cy b) [.ref (ad 0), .long a0, .int a1] σ r0 σ0 := by
  refine gIntro (own := RX6) hG (by decide +kernel) rfl rfl (by decide) (lv := [(0, .ref (ad 0)), (1, .long a0), (3, .int a1)]) rfl (fun κ C E => ?_)
  unfold m_X6_type at hM
  refine x_iln C 2 rfl dX6_type_0 rfl ?_
  refine x_ic (v := 1) C (by decide) dX6_type_1 rfl ?_
  refine x_bi (v := 8) C (by decide) dX6_type_2 rfl ?_
  obtain ⟨r2, h1, hM⟩ := gb1_some hM
  refine x_csi (As := [.int a1, .int 1, .int 8]) (rest := []) C E.2.2.2.2.2 3 (c_X6_within hG h1) (gBs km_X6_54 kst_X6_within kini_X6 kc_X6_within) rfl rfl rfl ⟨by decide +kernel, by decide +kernel, by decide +kernel⟩ ⟨Nat.le_of_ble_eq_true rfl, Nat.le_of_ble_eq_true rfl⟩ rfl rfl (by decide) dX6_type_4 rfl ?_
  refine x_if_ne (tgt := 12) C dX6_type_7 (by decide) rfl (fun hc => ?_) (fun hc => ?_)
  · replace hM := gif_neg hc hM
    refine x_ic (v := 0) C (by decide) dX6_type_12 rfl ?_
    refine x_ist (lv' := [(4, .int 0), (0, .ref (ad 0)), (1, .long a0), (3, .int a1)]) C rfl (by decide) rfl dX6_type_13 rfl ?_
    have L15 : ∀ (n : Nat) (x4_3 : Int32) (t4 : Nat), m_X6_type_15 a0 a1 σ n x4_3 = some (t4) → (t4 = 0 → wx κ (gGX D ad cy b) (gA (gGX D ad cy b)) 5 σ 37 [] []) → (t4 = 1 → wx κ (gGX D ad cy b) (gA (gGX D ad cy b)) 5 σ 45 [(0, .ref (ad 0)), (1, .long a0), (3, .int a1)] []) → wx κ (gGX D ad cy b) (gA (gGX D ad cy b)) 5 σ 15 [(0, .ref (ad 0)), (1, .long a0), (3, .int a1), (4, .int x4_3)] [] := by
      clear hM
      intro n
      induction n with
      | zero => intro _ _ hM; cases hM
      | succ n ih =>
        intro x4_3 t4 hM kx0 kx1
        replace hM : b_X6_type_15 a0 a1 σ (m_X6_type_15 a0 a1 σ n) x4_3 = some (t4) := hM
        unfold b_X6_type_15 at hM
        refine x_il C 3 rfl dX6_type_15 rfl ?_
        refine x_iln C 2 rfl dX6_type_17 rfl ?_
        refine x_ic_ge (tgt := 45) C dX6_type_18 (by decide) rfl (fun hc => ?_) (fun hc => ?_)
        · replace hM := gif_pos hc hM
          cases hM
          exact x_sub [0, 1, 2] rfl (kx1 rfl)
        · replace hM := gif_neg hc hM
          refine x_lln C 1 rfl dX6_type_21 rfl ?_
          refine x_il C 3 rfl dX6_type_22 rfl ?_
          obtain ⟨r6, h5, hM⟩ := gb1_some hM
          refine x_csi (As := [.long a0, .int x4_3]) (rest := []) C E.2.2.2.2.2 2 (c_X6_byteOf hG h5) (gBs km_X6_135 kst_X6_byteOf kini_X6 kc_X6_byteOf) rfl rfl rfl ⟨by decide +kernel, by decide +kernel, by decide +kernel⟩ ⟨Nat.le_of_ble_eq_true rfl, Nat.le_of_ble_eq_true rfl⟩ rfl rfl (by decide) dX6_type_24 rfl ?_
          refine x_bi (v := 32) C (by decide) dX6_type_27 rfl ?_
          refine x_bi (v := 126) C (by decide) dX6_type_29 rfl ?_
          obtain ⟨r8, h7, hM⟩ := gb1_some hM
          refine x_csi (As := [.int r6, .int 32, .int 126]) (rest := []) C E.2.2.2.2.2 3 (c_X6_within hG h7) (gBs km_X6_54 kst_X6_within kini_X6 kc_X6_within) rfl rfl rfl ⟨by decide +kernel, by decide +kernel, by decide +kernel⟩ ⟨Nat.le_of_ble_eq_true rfl, Nat.le_of_ble_eq_true rfl⟩ rfl rfl (by decide) dX6_type_31 rfl ?_
          refine x_if_ne (tgt := 39) C dX6_type_34 (by decide) rfl (fun hc => ?_) (fun hc => ?_)
          · replace hM := gif_neg hc hM
            obtain ⟨x4_9, ev, hM⟩ := gnm_ex hM
            refine x_iinc (j := 3) (lv' := [(4, .int x4_9), (0, .ref (ad 0)), (1, .long a0), (3, .int a1)]) C rfl ev (by decide) rfl dX6_type_39 rfl ?_
            refine x_goto (tgt := 15) C dX6_type_42 (by decide) ?_
            exact x_sub [1, 2, 3, 0] rfl (ih x4_9 _ hM kx0 kx1)
          · replace hM := gif_pos hc hM
            cases hM
            exact x_sub [] rfl (kx0 rfl)
    obtain ⟨t4, hL10, hM⟩ := gb1_some hM
    refine x_sub [1, 2, 3, 0] rfl (L15 gFU 0 _ hL10 (fun ht => ?_) (fun ht => ?_))
    · clear L15
      replace hM := gif_pos ht hM
      refine x_ic (v := (-1)) C (by decide) dX6_type_37 rfl ?_
      exact x_iret C E (gs2 hM) dX6_type_38
    · clear L15
      replace hM := gif_neg (by omega : ¬ t4 = 0) hM
      refine x_aln C 0 rfl dX6_type_45 rfl ?_
      refine gXg_0_tape C kf_X6_22 dX6_type_46 rfl ?_
      refine gXg_49_length C kf_X6_139 dX6_type_49 rfl ?_
      refine x_bi (v := 80) C (by decide) dX6_type_52 rfl ?_
      refine x_iln C 2 rfl dX6_type_54 rfl ?_
      refine x_isub C dX6_type_55 rfl ?_
      refine x_ic_le (tgt := 62) C dX6_type_56 (by decide) rfl (fun hc => ?_) (fun hc => ?_)
      · replace hM := gif_pos hc hM
        refine x_iln C 2 rfl dX6_type_62 rfl ?_
        refine x_ic (v := 1) C (by decide) dX6_type_63 rfl ?_
        refine x_isub C dX6_type_64 rfl ?_
        obtain ⟨x4_11, ev, hM⟩ := gnm_ex hM
        refine x_ist (lv' := [(4, .int x4_11), (0, .ref (ad 0)), (1, .long a0), (3, .int a1)]) C ev (by decide) rfl dX6_type_65 rfl ?_
        have L67 : ∀ (n : Nat) (x4_12 : Int32) (s13 : gMem) (s14 : gMem), m_X6_type_67 a0 n x4_12 s13 = some (s14) → (wx κ (gGX D ad cy b) (gA (gGX D ad cy b)) 5 s14 91 [(0, .ref (ad 0))] []) → wx κ (gGX D ad cy b) (gA (gGX D ad cy b)) 5 s13 67 [(0, .ref (ad 0)), (1, .long a0), (4, .int x4_12)] [] := by
          clear hM
          intro n
          induction n with
          | zero => intro _ _ _ hM; cases hM
          | succ n ih =>
            intro x4_12 s13 s14 hM kx0
            replace hM : b_X6_type_67 a0 (m_X6_type_67 a0 n) x4_12 s13 = some (s14) := hM
            unfold b_X6_type_67 at hM
            refine x_il C 2 rfl dX6_type_67 rfl ?_
            refine x_if_lt (tgt := 91) C dX6_type_69 (by decide) rfl (fun hc => ?_) (fun hc => ?_)
            · replace hM := gif_pos hc hM
              cases hM
              exact x_sub [0] rfl (kx0)
            · replace hM := gif_neg hc hM
              refine x_aln C 0 rfl dX6_type_72 rfl ?_
              refine gXg_0_tape C kf_X6_22 dX6_type_73 rfl ?_
              refine x_lln C 1 rfl dX6_type_76 rfl ?_
              refine x_il C 2 rfl dX6_type_77 rfl ?_
              obtain ⟨r16, h15, hM⟩ := gb1_some hM
              refine x_csi (As := [.long a0, .int x4_12]) (rest := [.ref (ad 49)]) C E.2.2.2.2.2 2 (c_X6_byteOf hG h15) (gBs km_X6_135 kst_X6_byteOf kini_X6 kc_X6_byteOf) rfl rfl rfl ⟨by decide +kernel, by decide +kernel, by decide +kernel⟩ ⟨Nat.le_of_ble_eq_true rfl, Nat.le_of_ble_eq_true rfl⟩ rfl rfl (by decide) dX6_type_79 rfl ?_
              obtain ⟨s18, h17, hM⟩ := gb1_some hM
              refine x_cvv (As := [.int r16]) (rest := []) C E.2.2.2.2.2 1 (c_X3_append hG h17) (gBv km_X6_142 kin_X3_append ksel_X3_append kini_X3 kc_X3_append) rfl rfl rfl ⟨rfl, by decide +kernel, by decide +kernel, by decide +kernel⟩ ⟨Nat.le_of_ble_eq_true rfl, Nat.le_of_ble_eq_true rfl⟩ (by show 49 < 213; decide) rfl rfl rfl rfl (by decide) dX6_type_82 rfl ?_
              obtain ⟨x4_19, ev, hM⟩ := gnm_ex hM
              refine x_iinc (j := 2) (lv' := [(4, .int x4_19), (0, .ref (ad 0)), (1, .long a0)]) C rfl ev (by decide) rfl dX6_type_85 rfl ?_
              refine x_goto (tgt := 67) C dX6_type_88 (by decide) ?_
              exact x_sub [1, 2, 0] rfl (ih x4_19 s18 _ hM kx0)
        obtain ⟨s14, hL20, hM⟩ := gb1_some hM
        refine x_sub [1, 2, 0] rfl (L67 gFU x4_11 σ _ hL20 ?_)
        clear L67
        refine x_aln C 0 rfl dX6_type_91 rfl ?_
        refine gXg_0_tape C kf_X6_22 dX6_type_92 rfl ?_
        refine gXg_49_length C kf_X6_139 dX6_type_95 rfl ?_
        exact x_iret C E (gs2 hM) dX6_type_98
      · replace hM := gif_neg hc hM
        refine x_bi (v := (-3)) C (by decide) dX6_type_59 rfl ?_
        exact x_iret C E (gs2 hM) dX6_type_61
  · replace hM := gif_pos hc hM
    refine x_ic (v := (-1)) C (by decide) dX6_type_10 rfl ?_
    exact x_iret C E (gs2 hM) dX6_type_11
set_option maxRecDepth 100000 in
set_option maxHeartbeats 4000000 in
theorem c_X3_begin {l : Launch} {D : va_G} {ad : Nat → Nat} {cy : Nat → ClassId} {b : Nat} (hG : gInj (gGX D ad cy b))  {σ : gMem} {σ0 : gMem} (hM : m_X3_begin  σ = some σ0) : gMv l yX3_begin (Cond.code yX3_begin cX3_begin 1 none :: gBig) { frames := 0, cells := 0, slots := 0, locals := 0 } (gGX D ad cy b) [.ref (ad 49)] σ σ0 := by
  refine gIntro (own := RX3) hG (by decide +kernel) rfl rfl (by decide) (lv := [(0, .ref (ad 49))]) rfl (fun κ C E => ?_)
  unfold m_X3_begin at hM
  refine x_aln C 0 rfl dX3_begin_0 rfl ?_
  refine x_ic (v := 0) C (by decide) dX3_begin_1 rfl ?_
  obtain ⟨s1, ev, hM⟩ := gnm_ex hM
  refine gXp_49_next C ev kf_X3_49 dX3_begin_2 rfl ?_
  refine x_aln C 0 rfl dX3_begin_5 rfl ?_
  refine x_ic (v := 0) C (by decide) dX3_begin_6 rfl ?_
  obtain ⟨s2, ev, hM⟩ := gnm_ex hM
  refine gXp_49_rows C ev kf_X3_31 dX3_begin_7 rfl ?_
  refine x_aln C 0 rfl dX3_begin_10 rfl ?_
  refine x_ic (v := 0) C (by decide) dX3_begin_11 rfl ?_
  obtain ⟨s3, ev, hM⟩ := gnm_ex hM
  refine gXp_49_postsTold C ev kf_X3_52 dX3_begin_12 rfl ?_
  refine x_aln C 0 rfl dX3_begin_15 rfl ?_
  refine x_ic (v := (-1)) C (by decide) dX3_begin_16 rfl ?_
  obtain ⟨s4, ev, hM⟩ := gnm_ex hM
  refine gXp_49_fault C ev kf_X3_55 dX3_begin_17 rfl ?_
  exact x_vret C E (gs1 hM) dX3_begin_20
set_option maxRecDepth 100000 in
set_option maxHeartbeats 4000000 in
theorem c_X3_peek {l : Launch} {D : va_G} {ad : Nat → Nat} {cy : Nat → ClassId} {b : Nat} (hG : gInj (gGX D ad cy b))  {σ : gMem} {r0 : Int32} {σ0 : gMem} (hM : m_X3_peek  σ = some (r0, σ0)) : gMi l yX3_peek (Cond.code yX3_peek cX3_peek 1 (some .int) :: gBig) { frames := 0, cells := 0, slots := 0, locals := 0 } (gGX D ad cy b) [.ref (ad 49)] σ r0 σ0 := by
  refine gIntro (own := RX3) hG (by decide +kernel) rfl rfl (by decide) (lv := [(0, .ref (ad 49))]) rfl (fun κ C E => ?_)
  unfold m_X3_peek at hM
  have L0 : ∀ (n : Nat) (s1 : gMem) (s2 : gMem), m_X3_peek_0 n s1 = some (s2) → (wx κ (gGX D ad cy b) (gA (gGX D ad cy b)) 1 s2 38 [(0, .ref (ad 49))] []) → wx κ (gGX D ad cy b) (gA (gGX D ad cy b)) 1 s1 0 [(0, .ref (ad 49))] [] := by
    clear hM
    intro n
    induction n with
    | zero => intro _ _ hM; cases hM
    | succ n ih =>
      intro s1 s2 hM kx0
      replace hM : b_X3_peek_0 (m_X3_peek_0 n) s1 = some (s2) := hM
      unfold b_X3_peek_0 at hM
      refine x_aln C 0 rfl dX3_peek_0 rfl ?_
      refine gXg_49_next C kf_X3_49 dX3_peek_1 rfl ?_
      refine x_aln C 0 rfl dX3_peek_4 rfl ?_
      refine gXg_49_length C kf_X3_24 dX3_peek_5 rfl ?_
      refine x_ic_ge (tgt := 38) C dX3_peek_8 (by decide) rfl (fun hc => ?_) (fun hc => ?_)
      · replace hM := gif_pos hc hM
        cases hM
        exact x_sub [0] rfl (kx0)
      · replace hM := gif_neg hc hM
        refine x_aln C 0 rfl dX3_peek_11 rfl ?_
        refine gXg_49_signs C kf_X3_9 dX3_peek_12 rfl ?_
        refine x_aln C 0 rfl dX3_peek_15 rfl ?_
        refine gXg_49_next C kf_X3_49 dX3_peek_16 rfl ?_
        obtain ⟨h3, hM⟩ := gck_some hM
        refine gXa_50 C h3 dX3_peek_19 rfl ?_
        refine x_bi (v := 32) C (by decide) dX3_peek_20 rfl ?_
        refine x_ic_ne (tgt := 38) C dX3_peek_22 (by decide) rfl (fun hc => ?_) (fun hc => ?_)
        · replace hM := gif_neg hc hM
          cases hM
          exact x_sub [0] rfl (kx0)
        · replace hM := gif_pos hc hM
          refine x_aln C 0 rfl dX3_peek_25 rfl ?_
          refine x_dup C rfl dX3_peek_26 rfl ?_
          refine gXg_49_next C kf_X3_49 dX3_peek_27 rfl ?_
          refine x_ic (v := 1) C (by decide) dX3_peek_30 rfl ?_
          refine x_iadd C dX3_peek_31 rfl ?_
          obtain ⟨s4, ev, hM⟩ := gnm_ex hM
          refine gXp_49_next C ev kf_X3_49 dX3_peek_32 rfl ?_
          refine x_goto (tgt := 0) C dX3_peek_35 (by decide) ?_
          exact x_sub [0] rfl (ih s4 _ hM kx0)
  obtain ⟨s2, hL5, hM⟩ := gb1_some hM
  refine x_sub [0] rfl (L0 gFU σ _ hL5 ?_)
  clear L0
  refine x_aln C 0 rfl dX3_peek_38 rfl ?_
  refine gXg_49_next C kf_X3_49 dX3_peek_39 rfl ?_
  refine x_aln C 0 rfl dX3_peek_42 rfl ?_
  refine gXg_49_length C kf_X3_24 dX3_peek_43 rfl ?_
  refine x_ic_ge (tgt := 61) C dX3_peek_46 (by decide) rfl (fun hc => ?_) (fun hc => ?_)
  · replace hM := gif_pos hc hM
    refine x_ic (v := (-1)) C (by decide) dX3_peek_61 rfl ?_
    exact x_iret C E (gs2 hM) dX3_peek_62
  · replace hM := gif_neg hc hM
    refine x_aln C 0 rfl dX3_peek_49 rfl ?_
    refine gXg_49_signs C kf_X3_9 dX3_peek_50 rfl ?_
    refine x_aln C 0 rfl dX3_peek_53 rfl ?_
    refine gXg_49_next C kf_X3_49 dX3_peek_54 rfl ?_
    obtain ⟨h6, hM⟩ := gck_some hM
    refine gXa_50 C h6 dX3_peek_57 rfl ?_
    refine x_goto (tgt := 62) C dX3_peek_58 (by decide) ?_
    exact x_iret C E (gs2 hM) dX3_peek_62
set_option maxRecDepth 100000 in
set_option maxHeartbeats 4000000 in
theorem c_X3_faultAt {l : Launch} {D : va_G} {ad : Nat → Nat} {cy : Nat → ClassId} {b : Nat} (hG : gInj (gGX D ad cy b)) {a0 : Int32} {σ : gMem} {σ0 : gMem} (hM : m_X3_faultAt a0 σ = some σ0) : gMv l yX3_faultAt (Cond.code yX3_faultAt cX3_faultAt 2 none :: gBig) { frames := 0, cells := 0, slots := 0, locals := 0 } (gGX D ad cy b) [.ref (ad 49), .int a0] σ σ0 := by
  refine gIntro (own := RX3) hG (by decide +kernel) rfl rfl (by decide) (lv := [(0, .ref (ad 49)), (1, .int a0)]) rfl (fun κ C E => ?_)
  unfold m_X3_faultAt at hM
  refine x_aln C 0 rfl dX3_faultAt_0 rfl ?_
  refine gXg_49_fault C kf_X3_55 dX3_faultAt_1 rfl ?_
  refine x_if_ge (tgt := 12) C dX3_faultAt_4 (by decide) rfl (fun hc => ?_) (fun hc => ?_)
  · replace hM := gif_pos hc hM
    exact x_vret C E (gs1 hM) dX3_faultAt_12
  · replace hM := gif_neg hc hM
    refine x_aln C 0 rfl dX3_faultAt_7 rfl ?_
    refine x_iln C 1 rfl dX3_faultAt_8 rfl ?_
    obtain ⟨s1, ev, hM⟩ := gnm_ex hM
    refine gXp_49_fault C ev kf_X3_55 dX3_faultAt_9 rfl ?_
    exact x_vret C E (gs1 hM) dX3_faultAt_12
set_option maxRecDepth 100000 in
set_option maxHeartbeats 4000000 in
theorem c_X3_readNumber {l : Launch} {D : va_G} {ad : Nat → Nat} {cy : Nat → ClassId} {b : Nat} (hG : gInj (gGX D ad cy b)) {a0 : Int32} {a1 : Int32} {σ : gMem} {r0 : Int32} {σ0 : gMem} (hM : m_X3_readNumber a0 a1 σ = some (r0, σ0)) : gMi l yX3_readNumber (Cond.code yX3_readNumber cX3_readNumber 5 (some .int) :: gBig) { frames := 1, cells := 0, slots := 0, locals := 22 } (gGX D ad cy b) [.ref (ad 49), .int a0, .int a1] σ r0 σ0 := by
  refine gIntro (own := RX3) hG (by decide +kernel) rfl rfl (by decide) (lv := [(0, .ref (ad 49)), (1, .int a0), (2, .int a1)]) rfl (fun κ C E => ?_)
  unfold m_X3_readNumber at hM
  refine x_aln C 0 rfl dX3_readNumber_0 rfl ?_
  obtain ⟨r3, s2, h1, hM⟩ := gb2_some hM
  refine x_cvi (As := []) (rest := []) C E.2.2.2.2.2 0 (c_X3_peek hG h1) (gBv km_X3_61 kin_X3_peek ksel_X3_peek kini_X3 kc_X3_peek) rfl rfl rfl ⟨rfl, by decide +kernel, by decide +kernel, by decide +kernel⟩ ⟨Nat.le_of_ble_eq_true rfl, Nat.le_of_ble_eq_true rfl⟩ (by show 49 < 213; decide) rfl rfl rfl rfl (by decide) dX3_readNumber_1 rfl ?_
  refine x_bi (v := 48) C (by decide) dX3_readNumber_4 rfl ?_
  refine x_bi (v := 57) C (by decide) dX3_readNumber_6 rfl ?_
  obtain ⟨r5, h4, hM⟩ := gb1_some hM
  refine x_csni (As := [.int r3, .int 48, .int 57]) (rest := []) C E.2.2.2.2.2 3 (c_X6_within hG h4) (gBn kc_X6_within) rfl rfl rfl (by decide +kernel) (gBc kini_X6) (gBc kst_X6_within) ⟨by decide +kernel, by decide +kernel, by decide +kernel⟩ ⟨Nat.le_of_ble_eq_true rfl, Nat.le_of_ble_eq_true rfl⟩ rfl rfl (by decide) dX3_readNumber_8 rfl ?_
  refine x_if_ne (tgt := 24) C dX3_readNumber_11 (by decide) rfl (fun hc => ?_) (fun hc => ?_)
  · replace hM := gif_neg hc hM
    refine x_aln C 0 rfl dX3_readNumber_24 rfl ?_
    refine gXg_49_next C kf_X3_49 dX3_readNumber_25 rfl ?_
    obtain ⟨x3_6, ev, hM⟩ := gnm_ex hM
    refine x_istn (lv' := [(3, .int x3_6), (0, .ref (ad 49)), (1, .int a0), (2, .int a1)]) C rfl ev (by decide) rfl dX3_readNumber_28 rfl ?_
    refine x_ic (v := 0) C (by decide) dX3_readNumber_29 rfl ?_
    refine x_ist (lv' := [(4, .int 0), (3, .int x3_6), (0, .ref (ad 49)), (1, .int a0), (2, .int a1)]) C rfl (by decide) rfl dX3_readNumber_30 rfl ?_
    have L32 : ∀ (n : Nat) (x4_7 : Int32) (s8 : gMem) (x4_9 : Int32) (s10 : gMem), m_X3_readNumber_32 n x4_7 s8 = some (x4_9, s10) → (wx κ (gGX D ad cy b) (gA (gGX D ad cy b)) 5 s10 100 [(0, .ref (ad 49)), (1, .int a0), (2, .int a1), (3, .int x3_6), (4, .int x4_9)] []) → wx κ (gGX D ad cy b) (gA (gGX D ad cy b)) 5 s8 32 [(0, .ref (ad 49)), (1, .int a0), (2, .int a1), (3, .int x3_6), (4, .int x4_7)] [] := by
      clear hM
      intro n
      induction n with
      | zero => intro _ _ _ _ hM; cases hM
      | succ n ih =>
        intro x4_7 s8 x4_9 s10 hM kx0
        replace hM : b_X3_readNumber_32 (m_X3_readNumber_32 n) x4_7 s8 = some (x4_9, s10) := hM
        unfold b_X3_readNumber_32 at hM
        refine x_aln C 0 rfl dX3_readNumber_32 rfl ?_
        refine gXg_49_next C kf_X3_49 dX3_readNumber_33 rfl ?_
        refine x_aln C 0 rfl dX3_readNumber_36 rfl ?_
        refine gXg_49_length C kf_X3_24 dX3_readNumber_37 rfl ?_
        refine x_ic_ge (tgt := 100) C dX3_readNumber_40 (by decide) rfl (fun hc => ?_) (fun hc => ?_)
        · replace hM := gif_pos hc hM
          cases hM
          exact x_sub [0, 1, 2, 3, 4] rfl (kx0)
        · replace hM := gif_neg hc hM
          refine x_aln C 0 rfl dX3_readNumber_43 rfl ?_
          refine gXg_49_signs C kf_X3_9 dX3_readNumber_44 rfl ?_
          refine x_aln C 0 rfl dX3_readNumber_47 rfl ?_
          refine gXg_49_next C kf_X3_49 dX3_readNumber_48 rfl ?_
          obtain ⟨h11, hM⟩ := gck_some hM
          refine gXa_50 C h11 dX3_readNumber_51 rfl ?_
          refine x_bi (v := 48) C (by decide) dX3_readNumber_52 rfl ?_
          refine x_bi (v := 57) C (by decide) dX3_readNumber_54 rfl ?_
          obtain ⟨r13, h12, hM⟩ := gb1_some hM
          refine x_csni (As := [.int (s8 50 (s8 49 2).toNatClampNeg), .int 48, .int 57]) (rest := []) C E.2.2.2.2.2 3 (c_X6_within hG h12) (gBn kc_X6_within) rfl rfl rfl (by decide +kernel) (gBc kini_X6) (gBc kst_X6_within) ⟨by decide +kernel, by decide +kernel, by decide +kernel⟩ ⟨Nat.le_of_ble_eq_true rfl, Nat.le_of_ble_eq_true rfl⟩ rfl rfl (by decide) dX3_readNumber_56 rfl ?_
          refine x_if_eq (tgt := 100) C dX3_readNumber_59 (by decide) rfl (fun hc => ?_) (fun hc => ?_)
          · replace hM := gif_pos hc hM
            cases hM
            exact x_sub [0, 1, 2, 3, 4] rfl (kx0)
          · replace hM := gif_neg hc hM
            refine x_bi (v := 100) C (by decide) dX3_readNumber_62 rfl ?_
            refine x_il C 4 rfl dX3_readNumber_64 rfl ?_
            refine x_bi (v := 10) C (by decide) dX3_readNumber_66 rfl ?_
            refine x_imul C dX3_readNumber_68 rfl ?_
            refine x_aln C 0 rfl dX3_readNumber_69 rfl ?_
            refine gXg_49_signs C kf_X3_9 dX3_readNumber_70 rfl ?_
            refine x_aln C 0 rfl dX3_readNumber_73 rfl ?_
            refine gXg_49_next C kf_X3_49 dX3_readNumber_74 rfl ?_
            obtain ⟨h14, hM⟩ := gck_some hM
            refine gXa_50 C h14 dX3_readNumber_77 rfl ?_
            refine x_iadd C dX3_readNumber_78 rfl ?_
            refine x_bi (v := 48) C (by decide) dX3_readNumber_79 rfl ?_
            refine x_isub C dX3_readNumber_81 rfl ?_
            refine x_mmin C (gBc km_X3_78) (gBc kst_Math_min) (gBc kini_JMath) (gBc kc_Math_min) (by decide) (Nat.le_of_ble_eq_true rfl) dX3_readNumber_82 rfl ?_
            obtain ⟨x4_15, ev, hM⟩ := gnm_ex hM
            refine x_ist (lv' := [(4, .int x4_15), (0, .ref (ad 49)), (1, .int a0), (2, .int a1), (3, .int x3_6)]) C ev (by decide) rfl dX3_readNumber_85 rfl ?_
            refine x_aln C 1 rfl dX3_readNumber_87 rfl ?_
            refine x_dup C rfl dX3_readNumber_88 rfl ?_
            refine gXg_49_next C kf_X3_49 dX3_readNumber_89 rfl ?_
            refine x_ic (v := 1) C (by decide) dX3_readNumber_92 rfl ?_
            refine x_iadd C dX3_readNumber_93 rfl ?_
            obtain ⟨s16, ev, hM⟩ := gnm_ex hM
            refine gXp_49_next C ev kf_X3_49 dX3_readNumber_94 rfl ?_
            refine x_goto (tgt := 32) C dX3_readNumber_97 (by decide) ?_
            exact x_sub [1, 2, 3, 4, 0] rfl (ih x4_15 s16 _ _ hM kx0)
    obtain ⟨x4_9, s10, hL17, hM⟩ := gb2_some hM
    refine x_sub [2, 3, 4, 1, 0] rfl (L32 gFU 0 s2 _ _ hL17 ?_)
    clear L32
    refine x_il C 4 rfl dX3_readNumber_100 rfl ?_
    refine x_iln C 1 rfl dX3_readNumber_102 rfl ?_
    refine x_iln C 2 rfl dX3_readNumber_103 rfl ?_
    obtain ⟨r19, h18, hM⟩ := gb1_some hM
    refine x_csni (As := [.int x4_9, .int a0, .int a1]) (rest := []) C E.2.2.2.2.2 3 (c_X6_within hG h18) (gBn kc_X6_within) rfl rfl rfl (by decide +kernel) (gBc kini_X6) (gBc kst_X6_within) ⟨by decide +kernel, by decide +kernel, by decide +kernel⟩ ⟨Nat.le_of_ble_eq_true rfl, Nat.le_of_ble_eq_true rfl⟩ rfl rfl (by decide) dX3_readNumber_104 rfl ?_
    refine x_if_ne (tgt := 117) C dX3_readNumber_107 (by decide) rfl (fun hc => ?_) (fun hc => ?_)
    · replace hM := gif_neg hc hM
      refine x_il C 4 rfl dX3_readNumber_117 rfl ?_
      exact x_iret C E (gs2 hM) dX3_readNumber_119
    · replace hM := gif_pos hc hM
      refine x_aln C 0 rfl dX3_readNumber_110 rfl ?_
      refine x_iln C 3 rfl dX3_readNumber_111 rfl ?_
      obtain ⟨s21, h20, hM⟩ := gb1_some hM
      refine x_cvv (As := [.int x3_6]) (rest := []) C E.2.2.2.2.2 1 (c_X3_faultAt hG h20) (gBv km_X3_71 kin_X3_faultAt ksel_X3_faultAt kini_X3 kc_X3_faultAt) rfl rfl rfl ⟨rfl, by decide +kernel, by decide +kernel, by decide +kernel⟩ ⟨Nat.le_of_ble_eq_true rfl, Nat.le_of_ble_eq_true rfl⟩ (by show 49 < 213; decide) rfl rfl rfl rfl (by decide) dX3_readNumber_112 rfl ?_
      refine x_iln C 1 rfl dX3_readNumber_115 rfl ?_
      exact x_iret C E (gs2 hM) dX3_readNumber_116
  · replace hM := gif_pos hc hM
    refine x_aln C 0 rfl dX3_readNumber_14 rfl ?_
    refine x_aln C 0 rfl dX3_readNumber_15 rfl ?_
    refine gXg_49_next C kf_X3_49 dX3_readNumber_16 rfl ?_
    obtain ⟨s23, h22, hM⟩ := gb1_some hM
    refine x_cvv (As := [.int (s2 49 2)]) (rest := []) C E.2.2.2.2.2 1 (c_X3_faultAt hG h22) (gBv km_X3_71 kin_X3_faultAt ksel_X3_faultAt kini_X3 kc_X3_faultAt) rfl rfl rfl ⟨rfl, by decide +kernel, by decide +kernel, by decide +kernel⟩ ⟨Nat.le_of_ble_eq_true rfl, Nat.le_of_ble_eq_true rfl⟩ (by show 49 < 213; decide) rfl rfl rfl rfl (by decide) dX3_readNumber_19 rfl ?_
    refine x_iln C 1 rfl dX3_readNumber_22 rfl ?_
    exact x_iret C E (gs2 hM) dX3_readNumber_23
set_option maxRecDepth 100000 in
set_option maxHeartbeats 4000000 in
theorem c_X3_readDepth {l : Launch} {D : va_G} {ad : Nat → Nat} {cy : Nat → ClassId} {b : Nat} (hG : gInj (gGX D ad cy b))  {σ : gMem} {r0 : Int32} {σ0 : gMem} (hM : m_X3_readDepth  σ = some (r0, σ0)) : gMi l yX3_readDepth (Cond.code yX3_readDepth cX3_readDepth 1 (some .int) :: gBig) { frames := 2, cells := 0, slots := 0, locals := 46 } (gGX D ad cy b) [.ref (ad 49)] σ r0 σ0 := by
  refine gIntro (own := RX3) hG (by decide +kernel) rfl rfl (by decide) (lv := [(0, .ref (ad 49))]) rfl (fun κ C E => ?_)
  unfold m_X3_readDepth at hM
  refine x_aln C 0 rfl dX3_readDepth_0 rfl ?_
  obtain ⟨r3, s2, h1, hM⟩ := gb2_some hM
  refine x_cvi (As := []) (rest := []) C E.2.2.2.2.2 0 (c_X3_peek hG h1) (gBv km_X3_61 kin_X3_peek ksel_X3_peek kini_X3 kc_X3_peek) rfl rfl rfl ⟨rfl, by decide +kernel, by decide +kernel, by decide +kernel⟩ ⟨Nat.le_of_ble_eq_true rfl, Nat.le_of_ble_eq_true rfl⟩ (by show 49 < 213; decide) rfl rfl rfl rfl (by decide) dX3_readDepth_1 rfl ?_
  refine x_bi (v := 45) C (by decide) dX3_readDepth_4 rfl ?_
  refine x_ic_eq (tgt := 17) C dX3_readDepth_6 (by decide) rfl (fun hc => ?_) (fun hc => ?_)
  · replace hM := gif_pos hc hM
    refine x_aln C 0 rfl dX3_readDepth_17 rfl ?_
    refine x_dup C rfl dX3_readDepth_18 rfl ?_
    refine gXg_49_next C kf_X3_49 dX3_readDepth_19 rfl ?_
    refine x_ic (v := 1) C (by decide) dX3_readDepth_22 rfl ?_
    refine x_iadd C dX3_readDepth_23 rfl ?_
    obtain ⟨s4, ev, hM⟩ := gnm_ex hM
    refine gXp_49_next C ev kf_X3_49 dX3_readDepth_24 rfl ?_
    refine x_aln C 0 rfl dX3_readDepth_27 rfl ?_
    refine x_ic (v := 0) C (by decide) dX3_readDepth_28 rfl ?_
    refine x_bi (v := 20) C (by decide) dX3_readDepth_29 rfl ?_
    obtain ⟨r7, s6, h5, hM⟩ := gb2_some hM
    refine x_cvi (As := [.int 0, .int 20]) (rest := []) C E.2.2.2.2.2 2 (c_X3_readNumber hG h5) (gBv km_X3_64 kin_X3_readNumber ksel_X3_readNumber kini_X3 kc_X3_readNumber) rfl rfl rfl ⟨rfl, by decide +kernel, by decide +kernel, by decide +kernel⟩ ⟨Nat.le_of_ble_eq_true rfl, Nat.le_of_ble_eq_true rfl⟩ (by show 49 < 213; decide) rfl rfl rfl rfl (by decide) dX3_readDepth_31 rfl ?_
    refine x_ineg C dX3_readDepth_34 rfl ?_
    exact x_iret C E (gs2 hM) dX3_readDepth_35
  · replace hM := gif_neg hc hM
    refine x_aln C 0 rfl dX3_readDepth_9 rfl ?_
    refine x_ic (v := 0) C (by decide) dX3_readDepth_10 rfl ?_
    refine x_bi (v := 60) C (by decide) dX3_readDepth_11 rfl ?_
    obtain ⟨r10, s9, h8, hM⟩ := gb2_some hM
    refine x_cvi (As := [.int 0, .int 60]) (rest := []) C E.2.2.2.2.2 2 (c_X3_readNumber hG h8) (gBv km_X3_64 kin_X3_readNumber ksel_X3_readNumber kini_X3 kc_X3_readNumber) rfl rfl rfl ⟨rfl, by decide +kernel, by decide +kernel, by decide +kernel⟩ ⟨Nat.le_of_ble_eq_true rfl, Nat.le_of_ble_eq_true rfl⟩ (by show 49 < 213; decide) rfl rfl rfl rfl (by decide) dX3_readDepth_13 rfl ?_
    exact x_iret C E (gs2 hM) dX3_readDepth_16
set_option maxRecDepth 100000 in
set_option maxHeartbeats 4000000 in
theorem c_X3_readPlace {l : Launch} {D : va_G} {ad : Nat → Nat} {cy : Nat → ClassId} {b : Nat} (hG : gInj (gGX D ad cy b))  {σ : gMem} {σ0 : gMem} (hM : m_X3_readPlace  σ = some σ0) : gMv l yX3_readPlace (Cond.code yX3_readPlace cX3_readPlace 1 none :: gBig) { frames := 3, cells := 0, slots := 0, locals := 66 } (gGX D ad cy b) [.ref (ad 49)] σ σ0 := by
  refine gIntro (own := RX3) hG (by decide +kernel) rfl rfl (by decide) (lv := [(0, .ref (ad 49))]) rfl (fun κ C E => ?_)
  unfold m_X3_readPlace at hM
  refine x_aln C 0 rfl dX3_readPlace_0 rfl ?_
  refine gXg_49_firsts C kf_X3_15 dX3_readPlace_1 rfl ?_
  refine x_aln C 0 rfl dX3_readPlace_4 rfl ?_
  refine gXg_49_rows C kf_X3_31 dX3_readPlace_5 rfl ?_
  refine x_aln C 0 rfl dX3_readPlace_8 rfl ?_
  obtain ⟨r3, s2, h1, hM⟩ := gb2_some hM
  refine x_cvi (As := []) (rest := [.int (σ 49 5), .ref (ad 51)]) C E.2.2.2.2.2 0 (c_X3_readDepth hG h1) (gBv km_X3_58 kin_X3_readDepth ksel_X3_readDepth kini_X3 kc_X3_readDepth) rfl rfl rfl ⟨rfl, by decide +kernel, by decide +kernel, by decide +kernel⟩ ⟨Nat.le_of_ble_eq_true rfl, Nat.le_of_ble_eq_true rfl⟩ (by show 49 < 213; decide) rfl rfl rfl rfl (by decide) dX3_readPlace_9 rfl ?_
  obtain ⟨h4, hM⟩ := gck_some hM
  obtain ⟨s5, ev, hM⟩ := gnm_ex hM
  refine gXs_51 C ev h4 dX3_readPlace_12 rfl ?_
  refine x_aln C 0 rfl dX3_readPlace_13 rfl ?_
  refine gXg_49_lasts C kf_X3_21 dX3_readPlace_14 rfl ?_
  refine x_aln C 0 rfl dX3_readPlace_17 rfl ?_
  refine gXg_49_rows C kf_X3_31 dX3_readPlace_18 rfl ?_
  refine x_ic (v := 0) C (by decide) dX3_readPlace_21 rfl ?_
  obtain ⟨h6, hM⟩ := gck_some hM
  obtain ⟨s7, ev, hM⟩ := gnm_ex hM
  refine gXs_53 C ev h6 dX3_readPlace_22 rfl ?_
  refine x_aln C 0 rfl dX3_readPlace_23 rfl ?_
  obtain ⟨r10, s9, h8, hM⟩ := gb2_some hM
  refine x_cvi (As := []) (rest := []) C E.2.2.2.2.2 0 (c_X3_peek hG h8) (gBv km_X3_61 kin_X3_peek ksel_X3_peek kini_X3 kc_X3_peek) rfl rfl rfl ⟨rfl, by decide +kernel, by decide +kernel, by decide +kernel⟩ ⟨Nat.le_of_ble_eq_true rfl, Nat.le_of_ble_eq_true rfl⟩ (by show 49 < 213; decide) rfl rfl rfl rfl (by decide) dX3_readPlace_24 rfl ?_
  refine x_bi (v := 112) C (by decide) dX3_readPlace_27 rfl ?_
  refine x_ic_ne (tgt := 76) C dX3_readPlace_29 (by decide) rfl (fun hc => ?_) (fun hc => ?_)
  · replace hM := gif_neg hc hM
    exact x_vret C E (gs1 hM) dX3_readPlace_76
  · replace hM := gif_pos hc hM
    refine x_aln C 0 rfl dX3_readPlace_32 rfl ?_
    refine gXg_49_postsTold C kf_X3_52 dX3_readPlace_33 rfl ?_
    refine x_ic (v := 3) C (by decide) dX3_readPlace_36 rfl ?_
    refine x_ic_ge (tgt := 76) C dX3_readPlace_37 (by decide) rfl (fun hc => ?_) (fun hc => ?_)
    · replace hM := gif_pos hc hM
      exact x_vret C E (gs1 hM) dX3_readPlace_76
    · replace hM := gif_neg hc hM
      refine x_aln C 0 rfl dX3_readPlace_40 rfl ?_
      refine x_dup C rfl dX3_readPlace_41 rfl ?_
      refine gXg_49_next C kf_X3_49 dX3_readPlace_42 rfl ?_
      refine x_ic (v := 1) C (by decide) dX3_readPlace_45 rfl ?_
      refine x_iadd C dX3_readPlace_46 rfl ?_
      obtain ⟨s11, ev, hM⟩ := gnm_ex hM
      refine gXp_49_next C ev kf_X3_49 dX3_readPlace_47 rfl ?_
      refine x_aln C 0 rfl dX3_readPlace_50 rfl ?_
      refine x_dup C rfl dX3_readPlace_51 rfl ?_
      refine gXg_49_postsTold C kf_X3_52 dX3_readPlace_52 rfl ?_
      refine x_ic (v := 1) C (by decide) dX3_readPlace_55 rfl ?_
      refine x_iadd C dX3_readPlace_56 rfl ?_
      obtain ⟨s12, ev, hM⟩ := gnm_ex hM
      refine gXp_49_postsTold C ev kf_X3_52 dX3_readPlace_57 rfl ?_
      refine x_aln C 0 rfl dX3_readPlace_60 rfl ?_
      refine gXg_49_lasts C kf_X3_21 dX3_readPlace_61 rfl ?_
      refine x_aln C 0 rfl dX3_readPlace_64 rfl ?_
      refine gXg_49_rows C kf_X3_31 dX3_readPlace_65 rfl ?_
      refine x_aln C 0 rfl dX3_readPlace_68 rfl ?_
      refine x_ic (v := 1) C (by decide) dX3_readPlace_69 rfl ?_
      refine x_bi (v := 20) C (by decide) dX3_readPlace_70 rfl ?_
      obtain ⟨r15, s14, h13, hM⟩ := gb2_some hM
      refine x_cvi (As := [.int 1, .int 20]) (rest := [.int (s12 49 5), .ref (ad 53)]) C E.2.2.2.2.2 2 (c_X3_readNumber hG h13) (gBv km_X3_64 kin_X3_readNumber ksel_X3_readNumber kini_X3 kc_X3_readNumber) rfl rfl rfl ⟨rfl, by decide +kernel, by decide +kernel, by decide +kernel⟩ ⟨Nat.le_of_ble_eq_true rfl, Nat.le_of_ble_eq_true rfl⟩ (by show 49 < 213; decide) rfl rfl rfl rfl (by decide) dX3_readPlace_72 rfl ?_
      obtain ⟨h16, hM⟩ := gck_some hM
      obtain ⟨s17, ev, hM⟩ := gnm_ex hM
      refine gXs_53 C ev h16 dX3_readPlace_75 rfl ?_
      exact x_vret C E (gs1 hM) dX3_readPlace_76
set_option maxRecDepth 100000 in
set_option maxHeartbeats 4000000 in
theorem c_X3_goesOn {l : Launch} {D : va_G} {ad : Nat → Nat} {cy : Nat → ClassId} {b : Nat} (hG : gInj (gGX D ad cy b)) {a0 : Int32} {σ : gMem} {r0 : Int32} {σ0 : gMem} (hM : m_X3_goesOn a0 σ = some (r0, σ0)) : gMi l yX3_goesOn (Cond.code yX3_goesOn cX3_goesOn 3 (some .boolean) :: gBig) { frames := 1, cells := 0, slots := 0, locals := 21 } (gGX D ad cy b) [.ref (ad 49), .int a0] σ r0 σ0 := by
  refine gIntro (own := RX3) hG (by decide +kernel) rfl rfl (by decide) (lv := [(0, .ref (ad 49)), (1, .int a0)]) rfl (fun κ C E => ?_)
  unfold m_X3_goesOn at hM
  refine x_aln C 0 rfl dX3_goesOn_0 rfl ?_
  obtain ⟨r3, s2, h1, hM⟩ := gb2_some hM
  refine x_cvi (As := []) (rest := []) C E.2.2.2.2.2 0 (c_X3_peek hG h1) (gBv km_X3_61 kin_X3_peek ksel_X3_peek kini_X3 kc_X3_peek) rfl rfl rfl ⟨rfl, by decide +kernel, by decide +kernel, by decide +kernel⟩ ⟨Nat.le_of_ble_eq_true rfl, Nat.le_of_ble_eq_true rfl⟩ (by show 49 < 213; decide) rfl rfl rfl rfl (by decide) dX3_goesOn_1 rfl ?_
  refine x_istn (lv' := [(2, .int r3), (0, .ref (ad 49)), (1, .int a0)]) C rfl rfl (by decide) rfl dX3_goesOn_4 rfl ?_
  refine x_aln C 1 rfl dX3_goesOn_5 rfl ?_
  refine gXg_49_fault C kf_X3_55 dX3_goesOn_6 rfl ?_
  refine x_if_ge (tgt := 16) C dX3_goesOn_9 (by decide) rfl (fun hc => ?_) (fun hc => ?_)
  · replace hM := gif_pos hc hM
    refine x_ic (v := 0) C (by decide) dX3_goesOn_16 rfl ?_
    exact x_zret C E (by decide) (gs2 hM) dX3_goesOn_17
  · replace hM := gif_neg hc hM
    refine x_iln C 0 rfl dX3_goesOn_12 rfl ?_
    refine x_if_ge (tgt := 18) C dX3_goesOn_13 (by decide) rfl (fun hc => ?_) (fun hc => ?_)
    · replace hM := gif_pos hc hM
      refine x_iln C 0 rfl dX3_goesOn_18 rfl ?_
      refine x_iln C 2 rfl dX3_goesOn_19 rfl ?_
      refine x_ic_ne (tgt := 32) C dX3_goesOn_20 (by decide) rfl (fun hc => ?_) (fun hc => ?_)
      · replace hM := gif_neg hc hM
        refine x_aln C 1 rfl dX3_goesOn_32 rfl ?_
        refine x_aln C 1 rfl dX3_goesOn_33 rfl ?_
        refine gXg_49_next C kf_X3_49 dX3_goesOn_34 rfl ?_
        obtain ⟨s5, h4, hM⟩ := gb1_some hM
        refine x_cvv (As := [.int (s2 49 2)]) (rest := []) C E.2.2.2.2.2 1 (c_X3_faultAt hG h4) (gBv km_X3_71 kin_X3_faultAt ksel_X3_faultAt kini_X3 kc_X3_faultAt) rfl rfl rfl ⟨rfl, by decide +kernel, by decide +kernel, by decide +kernel⟩ ⟨Nat.le_of_ble_eq_true rfl, Nat.le_of_ble_eq_true rfl⟩ (by show 49 < 213; decide) rfl rfl rfl rfl (by decide) dX3_goesOn_37 rfl ?_
        refine x_ic (v := 0) C (by decide) dX3_goesOn_40 rfl ?_
        exact x_zret C E (by decide) (gs2 hM) dX3_goesOn_41
      · replace hM := gif_pos hc hM
        refine x_aln C 1 rfl dX3_goesOn_23 rfl ?_
        refine gXg_49_rows C kf_X3_31 dX3_goesOn_24 rfl ?_
        refine x_bi (v := 8) C (by decide) dX3_goesOn_27 rfl ?_
        refine x_ic_lt (tgt := 42) C dX3_goesOn_29 (by decide) rfl (fun hc => ?_) (fun hc => ?_)
        · replace hM := gif_pos hc hM
          refine x_aln C 1 rfl dX3_goesOn_42 rfl ?_
          refine x_dup C rfl dX3_goesOn_43 rfl ?_
          refine gXg_49_next C kf_X3_49 dX3_goesOn_44 rfl ?_
          refine x_ic (v := 1) C (by decide) dX3_goesOn_47 rfl ?_
          refine x_iadd C dX3_goesOn_48 rfl ?_
          obtain ⟨s6, ev, hM⟩ := gnm_ex hM
          refine gXp_49_next C ev kf_X3_49 dX3_goesOn_49 rfl ?_
          refine x_ic (v := 1) C (by decide) dX3_goesOn_52 rfl ?_
          exact x_zret C E (by decide) (gs2 hM) dX3_goesOn_53
        · replace hM := gif_neg hc hM
          refine x_aln C 1 rfl dX3_goesOn_32 rfl ?_
          refine x_aln C 1 rfl dX3_goesOn_33 rfl ?_
          refine gXg_49_next C kf_X3_49 dX3_goesOn_34 rfl ?_
          obtain ⟨s8, h7, hM⟩ := gb1_some hM
          refine x_cvv (As := [.int (s2 49 2)]) (rest := []) C E.2.2.2.2.2 1 (c_X3_faultAt hG h7) (gBv km_X3_71 kin_X3_faultAt ksel_X3_faultAt kini_X3 kc_X3_faultAt) rfl rfl rfl ⟨rfl, by decide +kernel, by decide +kernel, by decide +kernel⟩ ⟨Nat.le_of_ble_eq_true rfl, Nat.le_of_ble_eq_true rfl⟩ (by show 49 < 213; decide) rfl rfl rfl rfl (by decide) dX3_goesOn_37 rfl ?_
          refine x_ic (v := 0) C (by decide) dX3_goesOn_40 rfl ?_
          exact x_zret C E (by decide) (gs2 hM) dX3_goesOn_41
    · replace hM := gif_neg hc hM
      refine x_ic (v := 0) C (by decide) dX3_goesOn_16 rfl ?_
      exact x_zret C E (by decide) (gs2 hM) dX3_goesOn_17
set_option maxRecDepth 100000 in
set_option maxHeartbeats 4000000 in
theorem c_X3_outcome {l : Launch} {D : va_G} {ad : Nat → Nat} {cy : Nat → ClassId} {b : Nat} (hG : gInj (gGX D ad cy b))  {σ : gMem} {r0 : Int32} (hM : m_X3_outcome  σ = some r0) : gMi l yX3_outcome (Cond.code yX3_outcome cX3_outcome 1 (some .int) :: gBig) { frames := 0, cells := 0, slots := 0, locals := 0 } (gGX D ad cy b) [.ref (ad 49)] σ r0 σ := by
  refine gIntro (own := RX3) hG (by decide +kernel) rfl rfl (by decide) (lv := [(0, .ref (ad 49))]) rfl (fun κ C E => ?_)
  unfold m_X3_outcome at hM
  refine x_aln C 0 rfl dX3_outcome_0 rfl ?_
  refine gXg_49_fault C kf_X3_55 dX3_outcome_1 rfl ?_
  refine x_if_ge (tgt := 14) C dX3_outcome_4 (by decide) rfl (fun hc => ?_) (fun hc => ?_)
  · replace hM := gif_pos hc hM
    refine x_bi (v := (-20)) C (by decide) dX3_outcome_14 rfl ?_
    refine x_aln C 0 rfl dX3_outcome_16 rfl ?_
    refine gXg_49_fault C kf_X3_55 dX3_outcome_17 rfl ?_
    refine x_isub C dX3_outcome_20 rfl ?_
    exact x_iret C E ⟨gs1 hM, rfl⟩ dX3_outcome_21
  · replace hM := gif_neg hc hM
    refine x_aln C 0 rfl dX3_outcome_7 rfl ?_
    refine gXg_49_rows C kf_X3_31 dX3_outcome_8 rfl ?_
    refine x_goto (tgt := 21) C dX3_outcome_11 (by decide) ?_
    exact x_iret C E ⟨gs1 hM, rfl⟩ dX3_outcome_21
set_option maxRecDepth 100000 in
set_option maxHeartbeats 4000000 in
theorem c_X3_readPlaces {l : Launch} {D : va_G} {ad : Nat → Nat} {cy : Nat → ClassId} {b : Nat} (hG : gInj (gGX D ad cy b))  {σ : gMem} {r0 : Int32} {σ0 : gMem} (hM : m_X3_readPlaces  σ = some (r0, σ0)) : gMi l yX3_readPlaces (Cond.code yX3_readPlaces cX3_readPlaces 2 (some .int) :: gBig) { frames := 4, cells := 0, slots := 0, locals := 86 } (gGX D ad cy b) [.ref (ad 49)] σ r0 σ0 := by
  refine gIntro (own := RX3) hG (by decide +kernel) rfl rfl (by decide) (lv := [(0, .ref (ad 49))]) rfl (fun κ C E => ?_)
  unfold m_X3_readPlaces at hM
  refine x_aln C 0 rfl dX3_readPlaces_0 rfl ?_
  obtain ⟨s2, h1, hM⟩ := gb1_some hM
  refine x_cvv (As := []) (rest := []) C E.2.2.2.2.2 0 (c_X3_begin hG h1) (gBv km_X3_28 kin_X3_begin ksel_X3_begin kini_X3 kc_X3_begin) rfl rfl rfl ⟨rfl, by decide +kernel, by decide +kernel, by decide +kernel⟩ ⟨Nat.le_of_ble_eq_true rfl, Nat.le_of_ble_eq_true rfl⟩ (by show 49 < 213; decide) rfl rfl rfl rfl (by decide) dX3_readPlaces_1 rfl ?_
  refine x_ic (v := 1) C (by decide) dX3_readPlaces_4 rfl ?_
  refine x_istn (lv' := [(1, .int 1), (0, .ref (ad 49))]) C rfl rfl (by decide) rfl dX3_readPlaces_5 rfl ?_
  have L6 : ∀ (n : Nat) (x1_3 : Int32) (s4 : gMem) (s5 : gMem), m_X3_readPlaces_6 n x1_3 s4 = some (s5) → (wx κ (gGX D ad cy b) (gA (gGX D ad cy b)) 2 s5 43 [(0, .ref (ad 49))] []) → wx κ (gGX D ad cy b) (gA (gGX D ad cy b)) 2 s4 6 [(0, .ref (ad 49)), (1, .int x1_3)] [] := by
    clear hM
    intro n
    induction n with
    | zero => intro _ _ _ hM; cases hM
    | succ n ih =>
      intro x1_3 s4 s5 hM kx0
      replace hM : b_X3_readPlaces_6 (m_X3_readPlaces_6 n) x1_3 s4 = some (s5) := hM
      unfold b_X3_readPlaces_6 at hM
      refine x_iln C 1 rfl dX3_readPlaces_6 rfl ?_
      refine x_if_eq (tgt := 43) C dX3_readPlaces_7 (by decide) rfl (fun hc => ?_) (fun hc => ?_)
      · replace hM := gif_pos hc hM
        cases hM
        exact x_sub [0] rfl (kx0)
      · replace hM := gif_neg hc hM
        refine x_aln C 0 rfl dX3_readPlaces_10 rfl ?_
        refine gXg_49_rows C kf_X3_31 dX3_readPlaces_11 rfl ?_
        refine x_bi (v := 8) C (by decide) dX3_readPlaces_14 rfl ?_
        refine x_ic_ge (tgt := 43) C dX3_readPlaces_16 (by decide) rfl (fun hc => ?_) (fun hc => ?_)
        · replace hM := gif_pos hc hM
          cases hM
          exact x_sub [0] rfl (kx0)
        · replace hM := gif_neg hc hM
          refine x_aln C 0 rfl dX3_readPlaces_19 rfl ?_
          obtain ⟨s7, h6, hM⟩ := gb1_some hM
          refine x_cvv (As := []) (rest := []) C E.2.2.2.2.2 0 (c_X3_readPlace hG h6) (gBv km_X3_34 kin_X3_readPlace ksel_X3_readPlace kini_X3 kc_X3_readPlace) rfl rfl rfl ⟨rfl, by decide +kernel, by decide +kernel, by decide +kernel⟩ ⟨Nat.le_of_ble_eq_true rfl, Nat.le_of_ble_eq_true rfl⟩ (by show 49 < 213; decide) rfl rfl rfl rfl (by decide) dX3_readPlaces_20 rfl ?_
          refine x_aln C 0 rfl dX3_readPlaces_23 rfl ?_
          refine x_dup C rfl dX3_readPlaces_24 rfl ?_
          refine gXg_49_rows C kf_X3_31 dX3_readPlaces_25 rfl ?_
          refine x_ic (v := 1) C (by decide) dX3_readPlaces_28 rfl ?_
          refine x_iadd C dX3_readPlaces_29 rfl ?_
          obtain ⟨s8, ev, hM⟩ := gnm_ex hM
          refine gXp_49_rows C ev kf_X3_31 dX3_readPlaces_30 rfl ?_
          refine x_aln C 0 rfl dX3_readPlaces_33 rfl ?_
          refine x_bi (v := 59) C (by decide) dX3_readPlaces_34 rfl ?_
          obtain ⟨r11, s10, h9, hM⟩ := gb2_some hM
          refine x_cvi (As := [.int 59]) (rest := []) C E.2.2.2.2.2 1 (c_X3_goesOn hG h9) (gBv km_X3_37 kin_X3_goesOn ksel_X3_goesOn kini_X3 kc_X3_goesOn) rfl rfl rfl ⟨rfl, by decide +kernel, by decide +kernel, by decide +kernel⟩ ⟨Nat.le_of_ble_eq_true rfl, Nat.le_of_ble_eq_true rfl⟩ (by show 49 < 213; decide) rfl rfl rfl rfl (by decide) dX3_readPlaces_36 rfl ?_
          refine x_istn (lv' := [(1, .int r11), (0, .ref (ad 49))]) C rfl rfl (by decide) rfl dX3_readPlaces_39 rfl ?_
          refine x_goto (tgt := 6) C dX3_readPlaces_40 (by decide) ?_
          exact x_sub [1, 0] rfl (ih r11 s10 _ hM kx0)
  obtain ⟨s5, hL12, hM⟩ := gb1_some hM
  refine x_sub [1, 0] rfl (L6 gFU 1 s2 _ hL12 ?_)
  clear L6
  refine x_aln C 0 rfl dX3_readPlaces_43 rfl ?_
  obtain ⟨r14, h13, hM⟩ := gb1_some hM
  refine x_cvi (As := []) (rest := []) C E.2.2.2.2.2 0 (c_X3_outcome hG h13) (gBv km_X3_41 kin_X3_outcome ksel_X3_outcome kini_X3 kc_X3_outcome) rfl rfl rfl ⟨rfl, by decide +kernel, by decide +kernel, by decide +kernel⟩ ⟨Nat.le_of_ble_eq_true rfl, Nat.le_of_ble_eq_true rfl⟩ (by show 49 < 213; decide) rfl rfl rfl rfl (by decide) dX3_readPlaces_44 rfl ?_
  exact x_iret C E (gs2 hM) dX3_readPlaces_47
set_option maxRecDepth 100000 in
set_option maxHeartbeats 4000000 in
theorem c_X1_settle {l : Launch} {D : va_G} {ad : Nat → Nat} {cy : Nat → ClassId} {b : Nat} (hG : gInj (gGX D ad cy b))  {σ : gMem} {σ0 : gMem} (hM : m_X1_settle  σ = some σ0) : gMv l yX1_settle (Cond.code yX1_settle cX1_settle 4 none :: gBig) { frames := 1, cells := 0, slots := 0, locals := 22 } (gGX D ad cy b) [.ref (ad 1), .ref (ad 49)] σ σ0 := by
  refine gIntro (own := RX1) hG (by decide +kernel) rfl rfl (by decide) (lv := [(0, .ref (ad 1)), (1, .ref (ad 49))]) rfl (fun κ C E => ?_)
  unfold m_X1_settle at hM
  refine x_aln C 0 rfl dX1_settle_0 rfl ?_
  refine x_ic (v := 0) C (by decide) dX1_settle_1 rfl ?_
  obtain ⟨s1, ev, hM⟩ := gnm_ex hM
  refine gXp_1_places C ev kf_X1_51 dX1_settle_2 rfl ?_
  refine x_aln C 0 rfl dX1_settle_5 rfl ?_
  refine x_ic (v := 0) C (by decide) dX1_settle_6 rfl ?_
  obtain ⟨s2, ev, hM⟩ := gnm_ex hM
  refine gXp_1_people C ev kf_X1_57 dX1_settle_7 rfl ?_
  refine x_aln C 0 rfl dX1_settle_10 rfl ?_
  refine x_ic (v := 0) C (by decide) dX1_settle_11 rfl ?_
  obtain ⟨s3, ev, hM⟩ := gnm_ex hM
  refine gXp_1_needs C ev kf_X1_60 dX1_settle_12 rfl ?_
  refine x_aln C 0 rfl dX1_settle_15 rfl ?_
  refine x_ic (v := 0) C (by decide) dX1_settle_16 rfl ?_
  obtain ⟨s4, ev, hM⟩ := gnm_ex hM
  refine gXp_1_yearsGone C ev kf_X1_63 dX1_settle_17 rfl ?_
  refine x_ic (v := 0) C (by decide) dX1_settle_20 rfl ?_
  refine x_istn (lv' := [(2, .int 0), (0, .ref (ad 1)), (1, .ref (ad 49))]) C rfl rfl (by decide) rfl dX1_settle_21 rfl ?_
  have L22 : ∀ (n : Nat) (x2_5 : Int32) (s6 : gMem) (s7 : gMem), m_X1_settle_22 n x2_5 s6 = some (s7) → (wx κ (gGX D ad cy b) (gA (gGX D ad cy b)) 4 s7 57 [(0, .ref (ad 1)), (1, .ref (ad 49))] []) → wx κ (gGX D ad cy b) (gA (gGX D ad cy b)) 4 s6 22 [(0, .ref (ad 1)), (1, .ref (ad 49)), (2, .int x2_5)] [] := by
    clear hM
    intro n
    induction n with
    | zero => intro _ _ _ hM; cases hM
    | succ n ih =>
      intro x2_5 s6 s7 hM kx0
      replace hM : b_X1_settle_22 (m_X1_settle_22 n) x2_5 s6 = some (s7) := hM
      unfold b_X1_settle_22 at hM
      refine x_iln C 2 rfl dX1_settle_22 rfl ?_
      refine x_bi (v := 12) C (by decide) dX1_settle_23 rfl ?_
      refine x_ic_ge (tgt := 57) C dX1_settle_25 (by decide) rfl (fun hc => ?_) (fun hc => ?_)
      · replace hM := gif_pos hc hM
        cases hM
        exact x_sub [0, 1] rfl (kx0)
      · replace hM := gif_neg hc hM
        refine x_ic (v := 0) C (by decide) dX1_settle_28 rfl ?_
        refine x_istn (lv' := [(3, .int 0), (0, .ref (ad 1)), (1, .ref (ad 49)), (2, .int x2_5)]) C rfl rfl (by decide) rfl dX1_settle_29 rfl ?_
        have L30 : ∀ (n : Nat) (x3_8 : Int32) (s9 : gMem) (s10 : gMem), m_X1_settle_30 x2_5 n x3_8 s9 = some (s10) → (wx κ (gGX D ad cy b) (gA (gGX D ad cy b)) 4 s10 51 [(0, .ref (ad 1)), (1, .ref (ad 49)), (2, .int x2_5)] []) → wx κ (gGX D ad cy b) (gA (gGX D ad cy b)) 4 s9 30 [(0, .ref (ad 1)), (1, .ref (ad 49)), (2, .int x2_5), (3, .int x3_8)] [] := by
          clear hM
          intro n
          induction n with
          | zero => intro _ _ _ hM; cases hM
          | succ n ih =>
            intro x3_8 s9 s10 hM kx0
            replace hM : b_X1_settle_30 x2_5 (m_X1_settle_30 x2_5 n) x3_8 s9 = some (s10) := hM
            unfold b_X1_settle_30 at hM
            refine x_iln C 3 rfl dX1_settle_30 rfl ?_
            refine x_bi (v := 12) C (by decide) dX1_settle_31 rfl ?_
            refine x_ic_ge (tgt := 51) C dX1_settle_33 (by decide) rfl (fun hc => ?_) (fun hc => ?_)
            · replace hM := gif_pos hc hM
              cases hM
              exact x_sub [0, 1, 2] rfl (kx0)
            · replace hM := gif_neg hc hM
              refine x_aln C 0 rfl dX1_settle_36 rfl ?_
              refine gXg_1_minutes C kf_X1_23 dX1_settle_37 rfl ?_
              refine x_iln C 2 rfl dX1_settle_40 rfl ?_
              obtain ⟨h11, hM⟩ := gck_some hM
              refine gXo_5 C h11 dX1_settle_41 rfl ?_
              refine x_iln C 3 rfl dX1_settle_42 rfl ?_
              refine x_ic (v := 0) C (by decide) dX1_settle_43 rfl ?_
              obtain ⟨h12, hM⟩ := gck_some hM
              obtain ⟨s13, ev, hM⟩ := gnm_ex hM
              refine gXs_rown C (inb_lt h11) ev h12 dX1_settle_44 rfl ?_
              obtain ⟨x3_14, ev, hM⟩ := gnm_ex hM
              refine x_iinc (j := 3) (lv' := [(3, .int x3_14), (0, .ref (ad 1)), (1, .ref (ad 49)), (2, .int x2_5)]) C rfl ev (by decide) rfl dX1_settle_45 rfl ?_
              refine x_goto (tgt := 30) C dX1_settle_48 (by decide) ?_
              exact x_sub [1, 2, 3, 0] rfl (ih x3_14 s13 _ hM kx0)
        obtain ⟨s10, hL15, hM⟩ := gb1_some hM
        refine x_sub [1, 2, 3, 0] rfl (L30 gFU 0 s6 _ hL15 ?_)
        clear L30
        obtain ⟨x2_16, ev, hM⟩ := gnm_ex hM
        refine x_iinc (j := 2) (lv' := [(2, .int x2_16), (0, .ref (ad 1)), (1, .ref (ad 49))]) C rfl ev (by decide) rfl dX1_settle_51 rfl ?_
        refine x_goto (tgt := 22) C dX1_settle_54 (by decide) ?_
        exact x_sub [1, 2, 0] rfl (ih x2_16 s10 _ hM kx0)
  obtain ⟨s7, hL17, hM⟩ := gb1_some hM
  refine x_sub [1, 2, 0] rfl (L22 gFU 0 s4 _ hL17 ?_)
  clear L22
  refine x_ic (v := 0) C (by decide) dX1_settle_57 rfl ?_
  refine x_istn (lv' := [(2, .int 0), (0, .ref (ad 1)), (1, .ref (ad 49))]) C rfl rfl (by decide) rfl dX1_settle_58 rfl ?_
  have L59 : ∀ (n : Nat) (x2_18 : Int32) (s19 : gMem) (s20 : gMem), m_X1_settle_59 n x2_18 s19 = some (s20) → (wx κ (gGX D ad cy b) (gA (gGX D ad cy b)) 4 s20 90 [] []) → wx κ (gGX D ad cy b) (gA (gGX D ad cy b)) 4 s19 59 [(0, .ref (ad 1)), (1, .ref (ad 49)), (2, .int x2_18)] [] := by
    clear hM
    intro n
    induction n with
    | zero => intro _ _ _ hM; cases hM
    | succ n ih =>
      intro x2_18 s19 s20 hM kx0
      replace hM : b_X1_settle_59 (m_X1_settle_59 n) x2_18 s19 = some (s20) := hM
      unfold b_X1_settle_59 at hM
      refine x_iln C 2 rfl dX1_settle_59 rfl ?_
      refine x_aln C 1 rfl dX1_settle_60 rfl ?_
      refine gXg_49_rows C kf_X1_76 dX1_settle_61 rfl ?_
      refine x_ic_ge (tgt := 90) C dX1_settle_64 (by decide) rfl (fun hc => ?_) (fun hc => ?_)
      · replace hM := gif_pos hc hM
        cases hM
        exact x_sub [] rfl (kx0)
      · replace hM := gif_neg hc hM
        refine x_aln C 0 rfl dX1_settle_67 rfl ?_
        refine x_aln C 1 rfl dX1_settle_68 rfl ?_
        refine gXg_49_firsts C kf_X1_81 dX1_settle_69 rfl ?_
        refine x_iln C 2 rfl dX1_settle_72 rfl ?_
        obtain ⟨h21, hM⟩ := gck_some hM
        refine gXa_51 C h21 dX1_settle_73 rfl ?_
        refine x_aln C 1 rfl dX1_settle_74 rfl ?_
        refine gXg_49_lasts C kf_X1_84 dX1_settle_75 rfl ?_
        refine x_iln C 2 rfl dX1_settle_78 rfl ?_
        obtain ⟨h22, hM⟩ := gck_some hM
        refine gXa_53 C h22 dX1_settle_79 rfl ?_
        obtain ⟨r25, s24, h23, hM⟩ := gb2_some hM
        refine x_cvi (As := [.int (s19 51 x2_18.toNatClampNeg), .int (s19 53 x2_18.toNatClampNeg)]) (rest := []) C E.2.2.2.2.2 2 (c_X1_addPlace hG h23) (gBv km_X1_87 kin_X1_addPlace ksel_X1_addPlace kini_X1 kc_X1_addPlace) rfl rfl rfl ⟨rfl, by decide +kernel, by decide +kernel, by decide +kernel⟩ ⟨Nat.le_of_ble_eq_true rfl, Nat.le_of_ble_eq_true rfl⟩ (by show 1 < 213; decide) rfl rfl rfl rfl (by decide) dX1_settle_80 rfl ?_
        refine x_pop C rfl dX1_settle_83 rfl ?_
        obtain ⟨x2_26, ev, hM⟩ := gnm_ex hM
        refine x_iinc (j := 2) (lv' := [(2, .int x2_26), (0, .ref (ad 1)), (1, .ref (ad 49))]) C rfl ev (by decide) rfl dX1_settle_84 rfl ?_
        refine x_goto (tgt := 59) C dX1_settle_87 (by decide) ?_
        exact x_sub [1, 2, 0] rfl (ih x2_26 s24 _ hM kx0)
  obtain ⟨s20, hL27, hM⟩ := gb1_some hM
  refine x_sub [1, 2, 0] rfl (L59 gFU 0 s7 _ hL27 ?_)
  clear L59
  exact x_vret C E (gs1 hM) dX1_settle_90
set_option maxRecDepth 100000 in
set_option maxHeartbeats 4000000 in
theorem c_X6_lagoon {l : Launch} {D : va_G} {ad : Nat → Nat} {cy : Nat → ClassId} {b : Nat} (hG : gInj (gGX D ad cy b))  {σ : gMem} {r0 : Int32} {σ0 : gMem} (hM : m_X6_lagoon  σ = some (r0, σ0)) : gMi l yX6_lagoon (Cond.code yX6_lagoon cX6_lagoon 2 (some .int) :: gBig) { frames := 5, cells := 0, slots := 0, locals := 107 } (gGX D ad cy b) [.ref (ad 0)] σ r0 σ0 := by
  refine gIntro (own := RX6) hG (by decide +kernel) rfl rfl (by decide) (lv := [(0, .ref (ad 0))]) rfl (fun κ C E => ?_)
  unfold m_X6_lagoon at hM
  refine x_aln C 0 rfl dX6_lagoon_0 rfl ?_
  refine gXg_0_tape C kf_X6_22 dX6_lagoon_1 rfl ?_
  obtain ⟨r3, s2, h1, hM⟩ := gb2_some hM
  refine x_cvi (As := []) (rest := []) C E.2.2.2.2.2 0 (c_X3_readPlaces hG h1) (gBv km_X6_146 kin_X3_readPlaces ksel_X3_readPlaces kini_X3 kc_X3_readPlaces) rfl rfl rfl ⟨rfl, by decide +kernel, by decide +kernel, by decide +kernel⟩ ⟨Nat.le_of_ble_eq_true rfl, Nat.le_of_ble_eq_true rfl⟩ (by show 49 < 213; decide) rfl rfl rfl rfl (by decide) dX6_lagoon_4 rfl ?_
  refine x_istn (lv' := [(1, .int r3), (0, .ref (ad 0))]) C rfl rfl (by decide) rfl dX6_lagoon_7 rfl ?_
  refine x_iln C 0 rfl dX6_lagoon_8 rfl ?_
  refine x_if_le (tgt := 23) C dX6_lagoon_9 (by decide) rfl (fun hc => ?_) (fun hc => ?_)
  · replace hM := gif_pos hc hM
    refine x_aln C 1 rfl dX6_lagoon_23 rfl ?_
    refine gXg_0_tape C kf_X6_22 dX6_lagoon_24 rfl ?_
    refine x_ic (v := 0) C (by decide) dX6_lagoon_27 rfl ?_
    obtain ⟨s4, ev, hM⟩ := gnm_ex hM
    refine gXp_49_length C ev kf_X6_139 dX6_lagoon_28 rfl ?_
    refine x_iln C 0 rfl dX6_lagoon_31 rfl ?_
    exact x_iret C E (gs2 hM) dX6_lagoon_32
  · replace hM := gif_neg hc hM
    refine x_aln C 1 rfl dX6_lagoon_12 rfl ?_
    refine gXg_0_now C kf_X6_10 dX6_lagoon_13 rfl ?_
    refine x_aln C 1 rfl dX6_lagoon_16 rfl ?_
    refine gXg_0_tape C kf_X6_22 dX6_lagoon_17 rfl ?_
    obtain ⟨s6, h5, hM⟩ := gb1_some hM
    refine x_cvv (As := [.ref (ad 49)]) (rest := []) C E.2.2.2.2.2 1 (c_X1_settle hG h5) (gBv km_X6_150 kin_X1_settle ksel_X1_settle kini_X1 kc_X1_settle) rfl rfl rfl ⟨rfl, by decide +kernel, by decide +kernel, by decide +kernel⟩ ⟨Nat.le_of_ble_eq_true rfl, Nat.le_of_ble_eq_true rfl⟩ (by show 1 < 213; decide) rfl rfl rfl rfl (by decide) dX6_lagoon_20 rfl ?_
    refine x_aln C 1 rfl dX6_lagoon_23 rfl ?_
    refine gXg_0_tape C kf_X6_22 dX6_lagoon_24 rfl ?_
    refine x_ic (v := 0) C (by decide) dX6_lagoon_27 rfl ?_
    obtain ⟨s7, ev, hM⟩ := gnm_ex hM
    refine gXp_49_length C ev kf_X6_139 dX6_lagoon_28 rfl ?_
    refine x_iln C 0 rfl dX6_lagoon_31 rfl ?_
    exact x_iret C E (gs2 hM) dX6_lagoon_32
set_option maxRecDepth 100000 in
set_option maxHeartbeats 4000000 in
theorem c_X3_readLetter {l : Launch} {D : va_G} {ad : Nat → Nat} {cy : Nat → ClassId} {b : Nat} (hG : gInj (gGX D ad cy b)) {a0 : Int32} {a1 : Int32} {σ : gMem} {r0 : Int32} {σ0 : gMem} (hM : m_X3_readLetter a0 a1 σ = some (r0, σ0)) : gMi l yX3_readLetter (Cond.code yX3_readLetter cX3_readLetter 4 (some .int) :: gBig) { frames := 1, cells := 0, slots := 0, locals := 22 } (gGX D ad cy b) [.ref (ad 49), .int a0, .int a1] σ r0 σ0 := by
  refine gIntro (own := RX3) hG (by decide +kernel) rfl rfl (by decide) (lv := [(0, .ref (ad 49)), (1, .int a0), (2, .int a1)]) rfl (fun κ C E => ?_)
  unfold m_X3_readLetter at hM
  refine x_aln C 0 rfl dX3_readLetter_0 rfl ?_
  obtain ⟨r3, s2, h1, hM⟩ := gb2_some hM
  refine x_cvi (As := []) (rest := []) C E.2.2.2.2.2 0 (c_X3_peek hG h1) (gBv km_X3_61 kin_X3_peek ksel_X3_peek kini_X3 kc_X3_peek) rfl rfl rfl ⟨rfl, by decide +kernel, by decide +kernel, by decide +kernel⟩ ⟨Nat.le_of_ble_eq_true rfl, Nat.le_of_ble_eq_true rfl⟩ (by show 49 < 213; decide) rfl rfl rfl rfl (by decide) dX3_readLetter_1 rfl ?_
  refine x_bi (v := 97) C (by decide) dX3_readLetter_4 rfl ?_
  refine x_isub C dX3_readLetter_6 rfl ?_
  obtain ⟨x3_4, ev, hM⟩ := gnm_ex hM
  refine x_istn (lv' := [(3, .int x3_4), (0, .ref (ad 49)), (1, .int a0), (2, .int a1)]) C rfl ev (by decide) rfl dX3_readLetter_7 rfl ?_
  refine x_iln C 0 rfl dX3_readLetter_8 rfl ?_
  refine x_ic (v := 0) C (by decide) dX3_readLetter_9 rfl ?_
  refine x_iln C 2 rfl dX3_readLetter_10 rfl ?_
  refine x_ic (v := 1) C (by decide) dX3_readLetter_11 rfl ?_
  refine x_isub C dX3_readLetter_12 rfl ?_
  obtain ⟨r6, h5, hM⟩ := gb1_some hM
  refine x_csni (As := [.int x3_4, .int 0, .int (a0 - 1)]) (rest := []) C E.2.2.2.2.2 3 (c_X6_within hG h5) (gBn kc_X6_within) rfl rfl rfl (by decide +kernel) (gBc kini_X6) (gBc kst_X6_within) ⟨by decide +kernel, by decide +kernel, by decide +kernel⟩ ⟨Nat.le_of_ble_eq_true rfl, Nat.le_of_ble_eq_true rfl⟩ rfl rfl (by decide) dX3_readLetter_13 rfl ?_
  refine x_if_eq (tgt := 24) C dX3_readLetter_16 (by decide) rfl (fun hc => ?_) (fun hc => ?_)
  · replace hM := gif_pos hc hM
    refine x_aln C 1 rfl dX3_readLetter_24 rfl ?_
    refine x_aln C 1 rfl dX3_readLetter_25 rfl ?_
    refine gXg_49_next C kf_X3_49 dX3_readLetter_26 rfl ?_
    obtain ⟨s8, h7, hM⟩ := gb1_some hM
    refine x_cvv (As := [.int (s2 49 2)]) (rest := []) C E.2.2.2.2.2 1 (c_X3_faultAt hG h7) (gBv km_X3_71 kin_X3_faultAt ksel_X3_faultAt kini_X3 kc_X3_faultAt) rfl rfl rfl ⟨rfl, by decide +kernel, by decide +kernel, by decide +kernel⟩ ⟨Nat.le_of_ble_eq_true rfl, Nat.le_of_ble_eq_true rfl⟩ (by show 49 < 213; decide) rfl rfl rfl rfl (by decide) dX3_readLetter_29 rfl ?_
    refine x_ic (v := 0) C (by decide) dX3_readLetter_32 rfl ?_
    exact x_iret C E (gs2 hM) dX3_readLetter_33
  · replace hM := gif_neg hc hM
    refine x_iln C 0 rfl dX3_readLetter_19 rfl ?_
    refine x_iln C 3 rfl dX3_readLetter_20 rfl ?_
    refine x_ic_ne (tgt := 34) C dX3_readLetter_21 (by decide) rfl (fun hc => ?_) (fun hc => ?_)
    · replace hM := gif_neg hc hM
      refine x_aln C 1 rfl dX3_readLetter_34 rfl ?_
      refine x_dup C rfl dX3_readLetter_35 rfl ?_
      refine gXg_49_next C kf_X3_49 dX3_readLetter_36 rfl ?_
      refine x_ic (v := 1) C (by decide) dX3_readLetter_39 rfl ?_
      refine x_iadd C dX3_readLetter_40 rfl ?_
      obtain ⟨s9, ev, hM⟩ := gnm_ex hM
      refine gXp_49_next C ev kf_X3_49 dX3_readLetter_41 rfl ?_
      refine x_iln C 0 rfl dX3_readLetter_44 rfl ?_
      exact x_iret C E (gs2 hM) dX3_readLetter_45
    · replace hM := gif_pos hc hM
      refine x_aln C 1 rfl dX3_readLetter_24 rfl ?_
      refine x_aln C 1 rfl dX3_readLetter_25 rfl ?_
      refine gXg_49_next C kf_X3_49 dX3_readLetter_26 rfl ?_
      obtain ⟨s11, h10, hM⟩ := gb1_some hM
      refine x_cvv (As := [.int (s2 49 2)]) (rest := []) C E.2.2.2.2.2 1 (c_X3_faultAt hG h10) (gBv km_X3_71 kin_X3_faultAt ksel_X3_faultAt kini_X3 kc_X3_faultAt) rfl rfl rfl ⟨rfl, by decide +kernel, by decide +kernel, by decide +kernel⟩ ⟨Nat.le_of_ble_eq_true rfl, Nat.le_of_ble_eq_true rfl⟩ (by show 49 < 213; decide) rfl rfl rfl rfl (by decide) dX3_readLetter_29 rfl ?_
      refine x_ic (v := 0) C (by decide) dX3_readLetter_32 rfl ?_
      exact x_iret C E (gs2 hM) dX3_readLetter_33
set_option maxRecDepth 100000 in
set_option maxHeartbeats 4000000 in
theorem c_X3_readPath {l : Launch} {D : va_G} {ad : Nat → Nat} {cy : Nat → ClassId} {b : Nat} (hG : gInj (gGX D ad cy b)) {a0 : Int32} {σ : gMem} {σ0 : gMem} (hM : m_X3_readPath a0 σ = some σ0) : gMv l yX3_readPath (Cond.code yX3_readPath cX3_readPath 2 none :: gBig) { frames := 2, cells := 0, slots := 0, locals := 46 } (gGX D ad cy b) [.ref (ad 49), .int a0] σ σ0 := by
  refine gIntro (own := RX3) hG (by decide +kernel) rfl rfl (by decide) (lv := [(0, .ref (ad 49)), (1, .int a0)]) rfl (fun κ C E => ?_)
  unfold m_X3_readPath at hM
  refine x_aln C 0 rfl dX3_readPath_0 rfl ?_
  refine gXg_49_firsts C kf_X3_15 dX3_readPath_1 rfl ?_
  refine x_aln C 0 rfl dX3_readPath_4 rfl ?_
  refine gXg_49_rows C kf_X3_31 dX3_readPath_5 rfl ?_
  refine x_aln C 0 rfl dX3_readPath_8 rfl ?_
  refine x_iln C 1 rfl dX3_readPath_9 rfl ?_
  refine x_ic (v := (-1)) C (by decide) dX3_readPath_10 rfl ?_
  obtain ⟨r3, s2, h1, hM⟩ := gb2_some hM
  refine x_cvi (As := [.int a0, .int (-1)]) (rest := [.int (σ 49 5), .ref (ad 51)]) C E.2.2.2.2.2 2 (c_X3_readLetter hG h1) (gBv km_X3_68 kin_X3_readLetter ksel_X3_readLetter kini_X3 kc_X3_readLetter) rfl rfl rfl ⟨rfl, by decide +kernel, by decide +kernel, by decide +kernel⟩ ⟨Nat.le_of_ble_eq_true rfl, Nat.le_of_ble_eq_true rfl⟩ (by show 49 < 213; decide) rfl rfl rfl rfl (by decide) dX3_readPath_11 rfl ?_
  obtain ⟨h4, hM⟩ := gck_some hM
  obtain ⟨s5, ev, hM⟩ := gnm_ex hM
  refine gXs_51 C ev h4 dX3_readPath_14 rfl ?_
  refine x_aln C 0 rfl dX3_readPath_15 rfl ?_
  refine gXg_49_seconds C kf_X3_18 dX3_readPath_16 rfl ?_
  refine x_aln C 0 rfl dX3_readPath_19 rfl ?_
  refine gXg_49_rows C kf_X3_31 dX3_readPath_20 rfl ?_
  refine x_aln C 0 rfl dX3_readPath_23 rfl ?_
  refine x_iln C 1 rfl dX3_readPath_24 rfl ?_
  refine x_aln C 0 rfl dX3_readPath_25 rfl ?_
  refine gXg_49_firsts C kf_X3_15 dX3_readPath_26 rfl ?_
  refine x_aln C 0 rfl dX3_readPath_29 rfl ?_
  refine gXg_49_rows C kf_X3_31 dX3_readPath_30 rfl ?_
  obtain ⟨h6, hM⟩ := gck_some hM
  refine gXa_51 C h6 dX3_readPath_33 rfl ?_
  obtain ⟨r9, s8, h7, hM⟩ := gb2_some hM
  refine x_cvi (As := [.int a0, .int (s5 51 (s5 49 5).toNatClampNeg)]) (rest := [.int (s5 49 5), .ref (ad 52)]) C E.2.2.2.2.2 2 (c_X3_readLetter hG h7) (gBv km_X3_68 kin_X3_readLetter ksel_X3_readLetter kini_X3 kc_X3_readLetter) rfl rfl rfl ⟨rfl, by decide +kernel, by decide +kernel, by decide +kernel⟩ ⟨Nat.le_of_ble_eq_true rfl, Nat.le_of_ble_eq_true rfl⟩ (by show 49 < 213; decide) rfl rfl rfl rfl (by decide) dX3_readPath_34 rfl ?_
  obtain ⟨h10, hM⟩ := gck_some hM
  obtain ⟨s11, ev, hM⟩ := gnm_ex hM
  refine gXs_52 C ev h10 dX3_readPath_37 rfl ?_
  refine x_aln C 0 rfl dX3_readPath_38 rfl ?_
  refine gXg_49_lasts C kf_X3_21 dX3_readPath_39 rfl ?_
  refine x_aln C 0 rfl dX3_readPath_42 rfl ?_
  refine gXg_49_rows C kf_X3_31 dX3_readPath_43 rfl ?_
  refine x_aln C 0 rfl dX3_readPath_46 rfl ?_
  refine x_ic (v := 1) C (by decide) dX3_readPath_47 rfl ?_
  refine x_bi (v := 60) C (by decide) dX3_readPath_48 rfl ?_
  obtain ⟨r14, s13, h12, hM⟩ := gb2_some hM
  refine x_cvi (As := [.int 1, .int 60]) (rest := [.int (s11 49 5), .ref (ad 53)]) C E.2.2.2.2.2 2 (c_X3_readNumber hG h12) (gBv km_X3_64 kin_X3_readNumber ksel_X3_readNumber kini_X3 kc_X3_readNumber) rfl rfl rfl ⟨rfl, by decide +kernel, by decide +kernel, by decide +kernel⟩ ⟨Nat.le_of_ble_eq_true rfl, Nat.le_of_ble_eq_true rfl⟩ (by show 49 < 213; decide) rfl rfl rfl rfl (by decide) dX3_readPath_50 rfl ?_
  obtain ⟨h15, hM⟩ := gck_some hM
  obtain ⟨s16, ev, hM⟩ := gnm_ex hM
  refine gXs_53 C ev h15 dX3_readPath_53 rfl ?_
  exact x_vret C E (gs1 hM) dX3_readPath_54
set_option maxRecDepth 100000 in
set_option maxHeartbeats 4000000 in
theorem c_X3_readPaths {l : Launch} {D : va_G} {ad : Nat → Nat} {cy : Nat → ClassId} {b : Nat} (hG : gInj (gGX D ad cy b)) {a0 : Int32} {σ : gMem} {r0 : Int32} {σ0 : gMem} (hM : m_X3_readPaths a0 σ = some (r0, σ0)) : gMi l yX3_readPaths (Cond.code yX3_readPaths cX3_readPaths 3 (some .int) :: gBig) { frames := 3, cells := 0, slots := 0, locals := 67 } (gGX D ad cy b) [.ref (ad 49), .int a0] σ r0 σ0 := by
  refine gIntro (own := RX3) hG (by decide +kernel) rfl rfl (by decide) (lv := [(0, .ref (ad 49)), (1, .int a0)]) rfl (fun κ C E => ?_)
  unfold m_X3_readPaths at hM
  refine x_aln C 0 rfl dX3_readPaths_0 rfl ?_
  obtain ⟨s2, h1, hM⟩ := gb1_some hM
  refine x_cvv (As := []) (rest := []) C E.2.2.2.2.2 0 (c_X3_begin hG h1) (gBv km_X3_28 kin_X3_begin ksel_X3_begin kini_X3 kc_X3_begin) rfl rfl rfl ⟨rfl, by decide +kernel, by decide +kernel, by decide +kernel⟩ ⟨Nat.le_of_ble_eq_true rfl, Nat.le_of_ble_eq_true rfl⟩ (by show 49 < 213; decide) rfl rfl rfl rfl (by decide) dX3_readPaths_1 rfl ?_
  refine x_ic (v := 1) C (by decide) dX3_readPaths_4 rfl ?_
  refine x_istn (lv' := [(2, .int 1), (0, .ref (ad 49)), (1, .int a0)]) C rfl rfl (by decide) rfl dX3_readPaths_5 rfl ?_
  have L6 : ∀ (n : Nat) (x2_3 : Int32) (s4 : gMem) (s5 : gMem), m_X3_readPaths_6 a0 n x2_3 s4 = some (s5) → (wx κ (gGX D ad cy b) (gA (gGX D ad cy b)) 3 s5 44 [(0, .ref (ad 49))] []) → wx κ (gGX D ad cy b) (gA (gGX D ad cy b)) 3 s4 6 [(0, .ref (ad 49)), (1, .int a0), (2, .int x2_3)] [] := by
    clear hM
    intro n
    induction n with
    | zero => intro _ _ _ hM; cases hM
    | succ n ih =>
      intro x2_3 s4 s5 hM kx0
      replace hM : b_X3_readPaths_6 a0 (m_X3_readPaths_6 a0 n) x2_3 s4 = some (s5) := hM
      unfold b_X3_readPaths_6 at hM
      refine x_iln C 2 rfl dX3_readPaths_6 rfl ?_
      refine x_if_eq (tgt := 44) C dX3_readPaths_7 (by decide) rfl (fun hc => ?_) (fun hc => ?_)
      · replace hM := gif_pos hc hM
        cases hM
        exact x_sub [0] rfl (kx0)
      · replace hM := gif_neg hc hM
        refine x_aln C 0 rfl dX3_readPaths_10 rfl ?_
        refine gXg_49_rows C kf_X3_31 dX3_readPaths_11 rfl ?_
        refine x_bi (v := 8) C (by decide) dX3_readPaths_14 rfl ?_
        refine x_ic_ge (tgt := 44) C dX3_readPaths_16 (by decide) rfl (fun hc => ?_) (fun hc => ?_)
        · replace hM := gif_pos hc hM
          cases hM
          exact x_sub [0] rfl (kx0)
        · replace hM := gif_neg hc hM
          refine x_aln C 0 rfl dX3_readPaths_19 rfl ?_
          refine x_iln C 1 rfl dX3_readPaths_20 rfl ?_
          obtain ⟨s7, h6, hM⟩ := gb1_some hM
          refine x_cvv (As := [.int a0]) (rest := []) C E.2.2.2.2.2 1 (c_X3_readPath hG h6) (gBv km_X3_45 kin_X3_readPath ksel_X3_readPath kini_X3 kc_X3_readPath) rfl rfl rfl ⟨rfl, by decide +kernel, by decide +kernel, by decide +kernel⟩ ⟨Nat.le_of_ble_eq_true rfl, Nat.le_of_ble_eq_true rfl⟩ (by show 49 < 213; decide) rfl rfl rfl rfl (by decide) dX3_readPaths_21 rfl ?_
          refine x_aln C 0 rfl dX3_readPaths_24 rfl ?_
          refine x_dup C rfl dX3_readPaths_25 rfl ?_
          refine gXg_49_rows C kf_X3_31 dX3_readPaths_26 rfl ?_
          refine x_ic (v := 1) C (by decide) dX3_readPaths_29 rfl ?_
          refine x_iadd C dX3_readPaths_30 rfl ?_
          obtain ⟨s8, ev, hM⟩ := gnm_ex hM
          refine gXp_49_rows C ev kf_X3_31 dX3_readPaths_31 rfl ?_
          refine x_aln C 0 rfl dX3_readPaths_34 rfl ?_
          refine x_bi (v := 44) C (by decide) dX3_readPaths_35 rfl ?_
          obtain ⟨r11, s10, h9, hM⟩ := gb2_some hM
          refine x_cvi (As := [.int 44]) (rest := []) C E.2.2.2.2.2 1 (c_X3_goesOn hG h9) (gBv km_X3_37 kin_X3_goesOn ksel_X3_goesOn kini_X3 kc_X3_goesOn) rfl rfl rfl ⟨rfl, by decide +kernel, by decide +kernel, by decide +kernel⟩ ⟨Nat.le_of_ble_eq_true rfl, Nat.le_of_ble_eq_true rfl⟩ (by show 49 < 213; decide) rfl rfl rfl rfl (by decide) dX3_readPaths_37 rfl ?_
          refine x_istn (lv' := [(2, .int r11), (0, .ref (ad 49)), (1, .int a0)]) C rfl rfl (by decide) rfl dX3_readPaths_40 rfl ?_
          refine x_goto (tgt := 6) C dX3_readPaths_41 (by decide) ?_
          exact x_sub [1, 2, 0] rfl (ih r11 s10 _ hM kx0)
  obtain ⟨s5, hL12, hM⟩ := gb1_some hM
  refine x_sub [1, 2, 0] rfl (L6 gFU 1 s2 _ hL12 ?_)
  clear L6
  refine x_aln C 0 rfl dX3_readPaths_44 rfl ?_
  obtain ⟨r14, h13, hM⟩ := gb1_some hM
  refine x_cvi (As := []) (rest := []) C E.2.2.2.2.2 0 (c_X3_outcome hG h13) (gBv km_X3_41 kin_X3_outcome ksel_X3_outcome kini_X3 kc_X3_outcome) rfl rfl rfl ⟨rfl, by decide +kernel, by decide +kernel, by decide +kernel⟩ ⟨Nat.le_of_ble_eq_true rfl, Nat.le_of_ble_eq_true rfl⟩ (by show 49 < 213; decide) rfl rfl rfl rfl (by decide) dX3_readPaths_45 rfl ?_
  exact x_iret C E (gs2 hM) dX3_readPaths_48
set_option maxRecDepth 100000 in
set_option maxHeartbeats 4000000 in
theorem c_X1_joinAll {l : Launch} {D : va_G} {ad : Nat → Nat} {cy : Nat → ClassId} {b : Nat} (hG : gInj (gGX D ad cy b))  {σ : gMem} {σ0 : gMem} (hM : m_X1_joinAll  σ = some σ0) : gMv l yX1_joinAll (Cond.code yX1_joinAll cX1_joinAll 3 none :: gBig) { frames := 1, cells := 0, slots := 0, locals := 23 } (gGX D ad cy b) [.ref (ad 1), .ref (ad 49)] σ σ0 := by
  refine gIntro (own := RX1) hG (by decide +kernel) rfl rfl (by decide) (lv := [(0, .ref (ad 1)), (1, .ref (ad 49))]) rfl (fun κ C E => ?_)
  unfold m_X1_joinAll at hM
  refine x_ic (v := 0) C (by decide) dX1_joinAll_0 rfl ?_
  refine x_istn (lv' := [(2, .int 0), (0, .ref (ad 1)), (1, .ref (ad 49))]) C rfl rfl (by decide) rfl dX1_joinAll_1 rfl ?_
  have L2 : ∀ (n : Nat) (x2_1 : Int32) (s2 : gMem) (s3 : gMem), m_X1_joinAll_2 n x2_1 s2 = some (s3) → (wx κ (gGX D ad cy b) (gA (gGX D ad cy b)) 3 s3 38 [] []) → wx κ (gGX D ad cy b) (gA (gGX D ad cy b)) 3 s2 2 [(0, .ref (ad 1)), (1, .ref (ad 49)), (2, .int x2_1)] [] := by
    clear hM
    intro n
    induction n with
    | zero => intro _ _ _ hM; cases hM
    | succ n ih =>
      intro x2_1 s2 s3 hM kx0
      replace hM : b_X1_joinAll_2 (m_X1_joinAll_2 n) x2_1 s2 = some (s3) := hM
      unfold b_X1_joinAll_2 at hM
      refine x_iln C 2 rfl dX1_joinAll_2 rfl ?_
      refine x_aln C 1 rfl dX1_joinAll_3 rfl ?_
      refine gXg_49_rows C kf_X1_76 dX1_joinAll_4 rfl ?_
      refine x_ic_ge (tgt := 38) C dX1_joinAll_7 (by decide) rfl (fun hc => ?_) (fun hc => ?_)
      · replace hM := gif_pos hc hM
        cases hM
        exact x_sub [] rfl (kx0)
      · replace hM := gif_neg hc hM
        refine x_aln C 0 rfl dX1_joinAll_10 rfl ?_
        refine x_aln C 1 rfl dX1_joinAll_11 rfl ?_
        refine gXg_49_firsts C kf_X1_81 dX1_joinAll_12 rfl ?_
        refine x_iln C 2 rfl dX1_joinAll_15 rfl ?_
        obtain ⟨h4, hM⟩ := gck_some hM
        refine gXa_51 C h4 dX1_joinAll_16 rfl ?_
        refine x_aln C 1 rfl dX1_joinAll_17 rfl ?_
        refine gXg_49_seconds C kf_X1_91 dX1_joinAll_18 rfl ?_
        refine x_iln C 2 rfl dX1_joinAll_21 rfl ?_
        obtain ⟨h5, hM⟩ := gck_some hM
        refine gXa_52 C h5 dX1_joinAll_22 rfl ?_
        refine x_aln C 1 rfl dX1_joinAll_23 rfl ?_
        refine gXg_49_lasts C kf_X1_84 dX1_joinAll_24 rfl ?_
        refine x_iln C 2 rfl dX1_joinAll_27 rfl ?_
        obtain ⟨h6, hM⟩ := gck_some hM
        refine gXa_53 C h6 dX1_joinAll_28 rfl ?_
        obtain ⟨s8, h7, hM⟩ := gb1_some hM
        refine x_cvv (As := [.int (s2 51 x2_1.toNatClampNeg), .int (s2 52 x2_1.toNatClampNeg), .int (s2 53 x2_1.toNatClampNeg)]) (rest := []) C E.2.2.2.2.2 3 (c_X1_join hG h7) (gBv km_X1_94 kin_X1_join ksel_X1_join kini_X1 kc_X1_join) rfl rfl rfl ⟨rfl, by decide +kernel, by decide +kernel, by decide +kernel⟩ ⟨Nat.le_of_ble_eq_true rfl, Nat.le_of_ble_eq_true rfl⟩ (by show 1 < 213; decide) rfl rfl rfl rfl (by decide) dX1_joinAll_29 rfl ?_
        obtain ⟨x2_9, ev, hM⟩ := gnm_ex hM
        refine x_iinc (j := 2) (lv' := [(2, .int x2_9), (0, .ref (ad 1)), (1, .ref (ad 49))]) C rfl ev (by decide) rfl dX1_joinAll_32 rfl ?_
        refine x_goto (tgt := 2) C dX1_joinAll_35 (by decide) ?_
        exact x_sub [1, 2, 0] rfl (ih x2_9 s8 _ hM kx0)
  obtain ⟨s3, hL10, hM⟩ := gb1_some hM
  refine x_sub [1, 2, 0] rfl (L2 gFU 0 σ _ hL10 ?_)
  clear L2
  exact x_vret C E (gs1 hM) dX1_joinAll_38
