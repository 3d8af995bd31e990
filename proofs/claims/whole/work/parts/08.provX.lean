set_option maxRecDepth 100000 in
set_option maxHeartbeats 4000000 in
theorem c_X6_within {l : Launch} {D : va_G} {ad : Nat → Nat} {cy : Nat → ClassId} {b : Nat} (hG : gInj (gGX D ad cy b)) {a0 : Int32} {a1 : Int32} {a2 : Int32} {σ : gMem} {r0 : Int32} (hM : m_X6_within a0 a1 a2 σ = some r0) : gMi l yX6_within (Cond.code yX6_within cX6_within 3 (some .boolean) :: gBig) { frames := 0, cells := 0, slots := 0, locals := 0 } (gGX D ad cy b) [.int a0, .int a1, .int a2] σ r0 σ := by
  refine gIntro (own := RX6) hG (by decide +kernel) rfl rfl (Nat.le_of_ble_eq_true rfl) (lv := [(0, .int a0), (1, .int a1), (2, .int a2)]) rfl (fun κ C E => ?_)
  unfold m_X6_within at hM
  refine x_iln C 0 rfl dX6_within_0 rfl ?_
  refine x_iln C 1 rfl dX6_within_1 rfl ?_
  refine x_ic_lt (tgt := 14) C dX6_within_2 (by decide) rfl (fun hc => ?_) (fun hc => ?_)
  · replace hM := gif_pos hc hM
    refine x_ic (v := 0) C (by decide) dX6_within_14 rfl ?_
    exact x_zret C E (by decide) ⟨gs1 hM, rfl⟩ dX6_within_15
  · replace hM := gif_neg hc hM
    refine x_iln C 0 rfl dX6_within_5 rfl ?_
    refine x_iln C 2 rfl dX6_within_6 rfl ?_
    refine x_ic_gt (tgt := 14) C dX6_within_7 (by decide) rfl (fun hc => ?_) (fun hc => ?_)
    · replace hM := gif_pos hc hM
      refine x_ic (v := 0) C (by decide) dX6_within_14 rfl ?_
      exact x_zret C E (by decide) ⟨gs1 hM, rfl⟩ dX6_within_15
    · replace hM := gif_neg hc hM
      refine x_ic (v := 1) C (by decide) dX6_within_10 rfl ?_
      refine x_goto (tgt := 15) C dX6_within_11 (by decide) ?_
      exact x_zret C E (by decide) ⟨gs1 hM, rfl⟩ dX6_within_15
set_option maxRecDepth 100000 in
set_option maxHeartbeats 4000000 in
theorem c_X1_addPlace {l : Launch} {D : va_G} {ad : Nat → Nat} {cy : Nat → ClassId} {b : Nat} (hG : gInj (gGX D ad cy b)) {a0 : Int32} {a1 : Int32} {σ : gMem} {r0 : Int32} {σ0 : gMem} (hM : m_X1_addPlace a0 a1 σ = some (r0, σ0)) : gMi l yX1_addPlace (Cond.code yX1_addPlace cX1_addPlace 3 (some .int) :: gBig) { frames := 0, cells := 0, slots := 0, locals := 0 } (gGX D ad cy b) [.ref (ad 1), .int a0, .int a1] σ r0 σ0 := by
  refine gIntro (own := RX1) hG (by decide +kernel) rfl rfl (Nat.le_of_ble_eq_true rfl) (lv := [(0, .ref (ad 1)), (1, .int a0), (2, .int a1)]) rfl (fun κ C E => ?_)
  unfold m_X1_addPlace at hM
  refine x_aln C 0 rfl dX1_addPlace_0 rfl ?_
  refine gXg_1_depths C kf_X1_9 dX1_addPlace_1 rfl ?_
  refine x_aln C 0 rfl dX1_addPlace_4 rfl ?_
  refine gXg_1_places C kf_X1_51 dX1_addPlace_5 rfl ?_
  refine x_iln C 1 rfl dX1_addPlace_8 rfl ?_
  obtain ⟨h1, hM⟩ := gck_some hM
  obtain ⟨s2, ev, hM⟩ := gnm_ex hM
  refine gXs_2 C ev h1 dX1_addPlace_9 rfl ?_
  refine x_aln C 0 rfl dX1_addPlace_10 rfl ?_
  refine gXg_1_splices C kf_X1_15 dX1_addPlace_11 rfl ?_
  refine x_aln C 0 rfl dX1_addPlace_14 rfl ?_
  refine gXg_1_places C kf_X1_51 dX1_addPlace_15 rfl ?_
  refine x_iln C 2 rfl dX1_addPlace_18 rfl ?_
  obtain ⟨h3, hM⟩ := gck_some hM
  obtain ⟨s4, ev, hM⟩ := gnm_ex hM
  refine gXs_3 C ev h3 dX1_addPlace_19 rfl ?_
  refine x_aln C 0 rfl dX1_addPlace_20 rfl ?_
  refine gXg_1_silts C kf_X1_18 dX1_addPlace_21 rfl ?_
  refine x_aln C 0 rfl dX1_addPlace_24 rfl ?_
  refine gXg_1_places C kf_X1_51 dX1_addPlace_25 rfl ?_
  refine x_ic (v := 0) C (by decide) dX1_addPlace_28 rfl ?_
  obtain ⟨h5, hM⟩ := gck_some hM
  obtain ⟨s6, ev, hM⟩ := gnm_ex hM
  refine gXs_4 C ev h5 dX1_addPlace_29 rfl ?_
  refine x_aln C 0 rfl dX1_addPlace_30 rfl ?_
  refine x_dup C rfl dX1_addPlace_31 rfl ?_
  refine gXg_1_places C kf_X1_51 dX1_addPlace_32 rfl ?_
  refine x_dupx1 C rfl rfl dX1_addPlace_35 rfl ?_
  refine x_ic (v := 1) C (by decide) dX1_addPlace_36 rfl ?_
  refine x_iadd C dX1_addPlace_37 rfl ?_
  obtain ⟨s7, ev, hM⟩ := gnm_ex hM
  refine gXp_1_places C ev kf_X1_51 dX1_addPlace_38 rfl ?_
  exact x_iret C E (gs2 hM) dX1_addPlace_41
set_option maxRecDepth 100000 in
set_option maxHeartbeats 4000000 in
theorem c_X6_place {l : Launch} {D : va_G} {ad : Nat → Nat} {cy : Nat → ClassId} {b : Nat} (hG : gInj (gGX D ad cy b)) {a0 : Int32} {σ : gMem} {r0 : Int32} {σ0 : gMem} (hM : m_X6_place a0 σ = some (r0, σ0)) : gMi l yX6_place (Cond.code yX6_place cX6_place 2 (some .int) :: gBig) { frames := 1, cells := 0, slots := 0, locals := 22 } (gGX D ad cy b) [.ref (ad 0), .int a0] σ r0 σ0 := by
  refine gIntro (own := RX6) hG (by decide +kernel) rfl rfl (Nat.le_of_ble_eq_true rfl) (lv := [(0, .ref (ad 0)), (1, .int a0)]) rfl (fun κ C E => ?_)
  unfold m_X6_place at hM
  refine x_iln C 1 rfl dX6_place_0 rfl ?_
  refine x_bi (v := (-20)) C (by decide) dX6_place_1 rfl ?_
  refine x_bi (v := 60) C (by decide) dX6_place_3 rfl ?_
  obtain ⟨r2, h1, hM⟩ := gb1_some hM
  refine x_csi (As := [.int a0, .int (-20), .int 60]) (rest := []) C E.2.2.2.2.2 3 (c_X6_within hG h1) (gBs km_X6_54 kst_X6_within kini_X6 kc_X6_within) rfl rfl rfl ⟨by decide +kernel, by decide +kernel, by decide +kernel⟩ ⟨Nat.le_of_ble_eq_true rfl, Nat.le_of_ble_eq_true rfl⟩ rfl rfl (Nat.le_of_ble_eq_true rfl) dX6_place_5 rfl ?_
  refine x_if_ne (tgt := 13) C dX6_place_8 (by decide) rfl (fun hc => ?_) (fun hc => ?_)
  · replace hM := gif_neg hc hM
    refine x_aln C 0 rfl dX6_place_13 rfl ?_
    refine gXg_0_now C kf_X6_10 dX6_place_14 rfl ?_
    refine gXg_1_places C kf_X6_58 dX6_place_17 rfl ?_
    refine x_bi (v := 12) C (by decide) dX6_place_20 rfl ?_
    refine x_ic_lt (tgt := 28) C dX6_place_22 (by decide) rfl (fun hc => ?_) (fun hc => ?_)
    · replace hM := gif_pos hc hM
      refine x_aln C 0 rfl dX6_place_28 rfl ?_
      refine gXg_0_now C kf_X6_10 dX6_place_29 rfl ?_
      refine x_iln C 1 rfl dX6_place_32 rfl ?_
      refine x_ic (v := 0) C (by decide) dX6_place_33 rfl ?_
      obtain ⟨r5, s4, h3, hM⟩ := gb2_some hM
      refine x_cvi (As := [.int a0, .int 0]) (rest := []) C E.2.2.2.2.2 2 (c_X1_addPlace hG h3) (gBv km_X6_62 kin_X1_addPlace ksel_X1_addPlace kini_X1 kc_X1_addPlace) rfl rfl rfl ⟨rfl, by decide +kernel, by decide +kernel, by decide +kernel⟩ ⟨Nat.le_of_ble_eq_true rfl, Nat.le_of_ble_eq_true rfl⟩ (by show 1 < 213; decide) rfl rfl rfl rfl (Nat.le_of_ble_eq_true rfl) dX6_place_34 rfl ?_
      exact x_iret C E (gs2 hM) dX6_place_37
    · replace hM := gif_neg hc hM
      refine x_bi (v := (-3)) C (by decide) dX6_place_25 rfl ?_
      exact x_iret C E (gs2 hM) dX6_place_27
  · replace hM := gif_pos hc hM
    refine x_ic (v := (-1)) C (by decide) dX6_place_11 rfl ?_
    exact x_iret C E (gs2 hM) dX6_place_12
set_option maxRecDepth 100000 in
set_option maxHeartbeats 4000000 in
theorem c_X1_hasPlace {l : Launch} {D : va_G} {ad : Nat → Nat} {cy : Nat → ClassId} {b : Nat} (hG : gInj (gGX D ad cy b)) {a0 : Int32} {σ : gMem} {r0 : Int32} (hM : m_X1_hasPlace a0 σ = some r0) : gMi l yX1_hasPlace (Cond.code yX1_hasPlace cX1_hasPlace 2 (some .boolean) :: gBig) { frames := 1, cells := 0, slots := 0, locals := 22 } (gGX D ad cy b) [.ref (ad 1), .int a0] σ r0 σ := by
  refine gIntro (own := RX1) hG (by decide +kernel) rfl rfl (Nat.le_of_ble_eq_true rfl) (lv := [(0, .ref (ad 1)), (1, .int a0)]) rfl (fun κ C E => ?_)
  unfold m_X1_hasPlace at hM
  refine x_iln C 1 rfl dX1_hasPlace_0 rfl ?_
  refine x_ic (v := 0) C (by decide) dX1_hasPlace_1 rfl ?_
  refine x_aln C 0 rfl dX1_hasPlace_2 rfl ?_
  refine gXg_1_places C kf_X1_51 dX1_hasPlace_3 rfl ?_
  refine x_ic (v := 1) C (by decide) dX1_hasPlace_6 rfl ?_
  refine x_isub C dX1_hasPlace_7 rfl ?_
  obtain ⟨r2, h1, hM⟩ := gb1_some hM
  refine x_csni (As := [.int a0, .int 0, .int ((σ 1 0) - 1)]) (rest := []) C E.2.2.2.2.2 3 (c_X6_within hG h1) (gBn kc_X6_within) rfl rfl rfl (by decide +kernel) (gBc kini_X6) (gBc kst_X6_within) ⟨by decide +kernel, by decide +kernel, by decide +kernel⟩ ⟨Nat.le_of_ble_eq_true rfl, Nat.le_of_ble_eq_true rfl⟩ rfl rfl (Nat.le_of_ble_eq_true rfl) dX1_hasPlace_8 rfl ?_
  obtain ⟨h3, hM⟩ := gck_some hM
  exact x_zret C E h3 ⟨gs1 hM, rfl⟩ dX1_hasPlace_11
set_option maxRecDepth 100000 in
set_option maxHeartbeats 4000000 in
theorem c_X6_changed_2 {l : Launch} {D : va_G} {ad : Nat → Nat} {cy : Nat → ClassId} {b : Nat} (hG : gInj (gGX D ad cy b)) {a1 : Int32} {a2 : Int32} {σ : gMem} {r0 : Int32} {σ0 : gMem} (hM : m_X6_changed_2 a1 a2 σ = some (r0, σ0)) : gMi l yX6_changed (Cond.code yX6_changed cX6_changed 4 (some .int) :: gBig) { frames := 0, cells := 0, slots := 0, locals := 0 } (gGX D ad cy b) [.ref (ad 2), .int a1, .int a2] σ r0 σ0 := by
  refine gIntro (own := RX6) hG (by decide +kernel) rfl rfl (Nat.le_of_ble_eq_true rfl) (lv := [(0, .ref (ad 2)), (1, .int a1), (2, .int a2)]) rfl (fun κ C E => ?_)
  unfold m_X6_changed_2 at hM
  refine x_aln C 0 rfl dX6_changed_0 rfl ?_
  refine x_iln C 1 rfl dX6_changed_1 rfl ?_
  obtain ⟨h1, hM⟩ := gck_some hM
  refine gXa_2 C h1 dX6_changed_2 rfl ?_
  obtain ⟨x3_2, ev, hM⟩ := gnm_ex hM
  refine x_istn (lv' := [(3, .int x3_2), (0, .ref (ad 2)), (1, .int a1), (2, .int a2)]) C rfl ev (by decide) rfl dX6_changed_3 rfl ?_
  refine x_aln C 1 rfl dX6_changed_4 rfl ?_
  refine x_iln C 2 rfl dX6_changed_5 rfl ?_
  refine x_iln C 3 rfl dX6_changed_6 rfl ?_
  obtain ⟨h3, hM⟩ := gck_some hM
  obtain ⟨s4, ev, hM⟩ := gnm_ex hM
  refine gXs_2 C ev h3 dX6_changed_7 rfl ?_
  refine x_iln C 0 rfl dX6_changed_8 rfl ?_
  exact x_iret C E (gs2 hM) dX6_changed_9
set_option maxRecDepth 100000 in
set_option maxHeartbeats 4000000 in
theorem c_X6_changed_3 {l : Launch} {D : va_G} {ad : Nat → Nat} {cy : Nat → ClassId} {b : Nat} (hG : gInj (gGX D ad cy b)) {a1 : Int32} {a2 : Int32} {σ : gMem} {r0 : Int32} {σ0 : gMem} (hM : m_X6_changed_3 a1 a2 σ = some (r0, σ0)) : gMi l yX6_changed (Cond.code yX6_changed cX6_changed 4 (some .int) :: gBig) { frames := 0, cells := 0, slots := 0, locals := 0 } (gGX D ad cy b) [.ref (ad 3), .int a1, .int a2] σ r0 σ0 := by
  refine gIntro (own := RX6) hG (by decide +kernel) rfl rfl (Nat.le_of_ble_eq_true rfl) (lv := [(0, .ref (ad 3)), (1, .int a1), (2, .int a2)]) rfl (fun κ C E => ?_)
  unfold m_X6_changed_3 at hM
  refine x_aln C 0 rfl dX6_changed_0 rfl ?_
  refine x_iln C 1 rfl dX6_changed_1 rfl ?_
  obtain ⟨h1, hM⟩ := gck_some hM
  refine gXa_3 C h1 dX6_changed_2 rfl ?_
  obtain ⟨x3_2, ev, hM⟩ := gnm_ex hM
  refine x_istn (lv' := [(3, .int x3_2), (0, .ref (ad 3)), (1, .int a1), (2, .int a2)]) C rfl ev (by decide) rfl dX6_changed_3 rfl ?_
  refine x_aln C 1 rfl dX6_changed_4 rfl ?_
  refine x_iln C 2 rfl dX6_changed_5 rfl ?_
  refine x_iln C 3 rfl dX6_changed_6 rfl ?_
  obtain ⟨h3, hM⟩ := gck_some hM
  obtain ⟨s4, ev, hM⟩ := gnm_ex hM
  refine gXs_3 C ev h3 dX6_changed_7 rfl ?_
  refine x_iln C 0 rfl dX6_changed_8 rfl ?_
  exact x_iret C E (gs2 hM) dX6_changed_9
set_option maxRecDepth 100000 in
set_option maxHeartbeats 4000000 in
theorem c_X1_postsBeside {l : Launch} {D : va_G} {ad : Nat → Nat} {cy : Nat → ClassId} {b : Nat} (hG : gInj (gGX D ad cy b)) {a0 : Int32} {σ : gMem} {r0 : Int32} (hM : m_X1_postsBeside a0 σ = some r0) : gMi l yX1_postsBeside (Cond.code yX1_postsBeside cX1_postsBeside 4 (some .int) :: gBig) { frames := 0, cells := 0, slots := 0, locals := 0 } (gGX D ad cy b) [.ref (ad 1), .int a0] σ r0 σ := by
  refine gIntro (own := RX1) hG (by decide +kernel) rfl rfl (Nat.le_of_ble_eq_true rfl) (lv := [(0, .ref (ad 1)), (1, .int a0)]) rfl (fun κ C E => ?_)
  unfold m_X1_postsBeside at hM
  refine x_ic (v := 0) C (by decide) dX1_postsBeside_0 rfl ?_
  refine x_istn (lv' := [(2, .int 0), (0, .ref (ad 1)), (1, .int a0)]) C rfl rfl (by decide) rfl dX1_postsBeside_1 rfl ?_
  refine x_ic (v := 0) C (by decide) dX1_postsBeside_2 rfl ?_
  refine x_istn (lv' := [(3, .int 0), (2, .int 0), (0, .ref (ad 1)), (1, .int a0)]) C rfl rfl (by decide) rfl dX1_postsBeside_3 rfl ?_
  have L4 : ∀ (n : Nat) (x2_1 : Int32) (x3_2 : Int32) (x2_3 : Int32), m_X1_postsBeside_4 a0 σ n x2_1 x3_2 = some (x2_3) → (wx κ (gGX D ad cy b) (gA (gGX D ad cy b)) 4 σ 35 [(2, .int x2_3)] []) → wx κ (gGX D ad cy b) (gA (gGX D ad cy b)) 4 σ 4 [(0, .ref (ad 1)), (1, .int a0), (2, .int x2_1), (3, .int x3_2)] [] := by
    clear hM
    intro n
    induction n with
    | zero => intro _ _ _ hM; cases hM
    | succ n ih =>
      intro x2_1 x3_2 x2_3 hM kx0
      replace hM : b_X1_postsBeside_4 a0 σ (m_X1_postsBeside_4 a0 σ n) x2_1 x3_2 = some (x2_3) := hM
      unfold b_X1_postsBeside_4 at hM
      refine x_iln C 3 rfl dX1_postsBeside_4 rfl ?_
      refine x_aln C 0 rfl dX1_postsBeside_5 rfl ?_
      refine gXg_1_places C kf_X1_51 dX1_postsBeside_6 rfl ?_
      refine x_ic_ge (tgt := 35) C dX1_postsBeside_9 (by decide) rfl (fun hc => ?_) (fun hc => ?_)
      · replace hM := gif_pos hc hM
        cases hM
        exact x_sub [2] rfl (kx0)
      · replace hM := gif_neg hc hM
        refine x_iln C 3 rfl dX1_postsBeside_12 rfl ?_
        refine x_iln C 1 rfl dX1_postsBeside_13 rfl ?_
        refine x_ic_eq (tgt := 29) C dX1_postsBeside_14 (by decide) rfl (fun hc => ?_) (fun hc => ?_)
        · replace hM := gif_pos hc hM
          obtain ⟨x3_4, ev, hM⟩ := gnm_ex hM
          refine x_iinc (j := 3) (w := 1) (lv' := [(3, .int x3_4), (0, .ref (ad 1)), (1, .int a0), (2, .int x2_1)]) C rfl ev (by decide) (by decide) rfl dX1_postsBeside_29 rfl ?_
          refine x_goto (tgt := 4) C dX1_postsBeside_32 (by decide) ?_
          exact x_sub [1, 2, 3, 0] rfl (ih x2_1 x3_4 _ hM kx0)
        · replace hM := gif_neg hc hM
          refine x_aln C 0 rfl dX1_postsBeside_17 rfl ?_
          refine gXg_1_splices C kf_X1_15 dX1_postsBeside_18 rfl ?_
          refine x_iln C 3 rfl dX1_postsBeside_21 rfl ?_
          obtain ⟨h5, hM⟩ := gck_some hM
          refine gXa_3 C h5 dX1_postsBeside_22 rfl ?_
          refine x_if_le (tgt := 29) C dX1_postsBeside_23 (by decide) rfl (fun hc => ?_) (fun hc => ?_)
          · replace hM := gif_pos hc hM
            obtain ⟨x3_6, ev, hM⟩ := gnm_ex hM
            refine x_iinc (j := 3) (w := 1) (lv' := [(3, .int x3_6), (0, .ref (ad 1)), (1, .int a0), (2, .int x2_1)]) C rfl ev (by decide) (by decide) rfl dX1_postsBeside_29 rfl ?_
            refine x_goto (tgt := 4) C dX1_postsBeside_32 (by decide) ?_
            exact x_sub [1, 2, 3, 0] rfl (ih x2_1 x3_6 _ hM kx0)
          · replace hM := gif_neg hc hM
            obtain ⟨x2_7, ev, hM⟩ := gnm_ex hM
            refine x_iinc (j := 2) (w := 1) (lv' := [(2, .int x2_7), (0, .ref (ad 1)), (1, .int a0), (3, .int x3_2)]) C rfl ev (by decide) (by decide) rfl dX1_postsBeside_26 rfl ?_
            obtain ⟨x3_8, ev, hM⟩ := gnm_ex hM
            refine x_iinc (j := 3) (w := 1) (lv' := [(3, .int x3_8), (2, .int x2_7), (0, .ref (ad 1)), (1, .int a0)]) C rfl ev (by decide) (by decide) rfl dX1_postsBeside_29 rfl ?_
            refine x_goto (tgt := 4) C dX1_postsBeside_32 (by decide) ?_
            exact x_sub [2, 3, 1, 0] rfl (ih x2_7 x3_8 _ hM kx0)
  obtain ⟨x2_3, hL9, hM⟩ := gb1_some hM
  refine x_sub [2, 3, 1, 0] rfl (L4 gFU 0 0 _ hL9 ?_)
  clear L4
  refine x_iln C 0 rfl dX1_postsBeside_35 rfl ?_
  exact x_iret C E ⟨gs1 hM, rfl⟩ dX1_postsBeside_36
set_option maxRecDepth 100000 in
set_option maxHeartbeats 4000000 in
theorem c_X6_makeSplices {l : Launch} {D : va_G} {ad : Nat → Nat} {cy : Nat → ClassId} {b : Nat} (hG : gInj (gGX D ad cy b)) {a0 : Int32} {a1 : Int32} {σ : gMem} {r0 : Int32} {σ0 : gMem} (hM : m_X6_makeSplices a0 a1 σ = some (r0, σ0)) : gMi l yX6_makeSplices (Cond.code yX6_makeSplices cX6_makeSplices 3 (some .int) :: gBig) { frames := 1, cells := 0, slots := 0, locals := 23 } (gGX D ad cy b) [.ref (ad 0), .int a0, .int a1] σ r0 σ0 := by
  refine gIntro (own := RX6) hG (by decide +kernel) rfl rfl (Nat.le_of_ble_eq_true rfl) (lv := [(0, .ref (ad 0)), (1, .int a0), (2, .int a1)]) rfl (fun κ C E => ?_)
  unfold m_X6_makeSplices at hM
  refine x_iln C 2 rfl dX6_makeSplices_0 rfl ?_
  refine x_ic (v := 0) C (by decide) dX6_makeSplices_1 rfl ?_
  refine x_bi (v := 20) C (by decide) dX6_makeSplices_2 rfl ?_
  obtain ⟨r2, h1, hM⟩ := gb1_some hM
  refine x_csi (As := [.int a1, .int 0, .int 20]) (rest := []) C E.2.2.2.2.2 3 (c_X6_within hG h1) (gBs km_X6_54 kst_X6_within kini_X6 kc_X6_within) rfl rfl rfl ⟨by decide +kernel, by decide +kernel, by decide +kernel⟩ ⟨Nat.le_of_ble_eq_true rfl, Nat.le_of_ble_eq_true rfl⟩ rfl rfl (Nat.le_of_ble_eq_true rfl) dX6_makeSplices_4 rfl ?_
  refine x_if_ne (tgt := 13) C dX6_makeSplices_7 (by decide) rfl (fun hc => ?_) (fun hc => ?_)
  · replace hM := gif_neg hc hM
    refine x_iln C 2 rfl dX6_makeSplices_13 rfl ?_
    refine x_if_le (tgt := 32) C dX6_makeSplices_14 (by decide) rfl (fun hc => ?_) (fun hc => ?_)
    · replace hM := gif_pos hc hM
      refine x_aln C 0 rfl dX6_makeSplices_32 rfl ?_
      refine gXg_0_now C kf_X6_10 dX6_makeSplices_33 rfl ?_
      refine gXg_1_splices C kf_X6_90 dX6_makeSplices_36 rfl ?_
      refine x_iln C 1 rfl dX6_makeSplices_39 rfl ?_
      refine x_iln C 2 rfl dX6_makeSplices_40 rfl ?_
      obtain ⟨r5, s4, h3, hM⟩ := gb2_some hM
      refine x_csi (As := [.ref (ad 3), .int a0, .int a1]) (rest := []) C E.2.2.2.2.2 3 (c_X6_changed_3 hG h3) (gBs km_X6_75 kst_X6_changed kini_X6 kc_X6_changed) rfl rfl rfl ⟨by decide +kernel, by decide +kernel, by decide +kernel⟩ ⟨Nat.le_of_ble_eq_true rfl, Nat.le_of_ble_eq_true rfl⟩ rfl rfl (Nat.le_of_ble_eq_true rfl) dX6_makeSplices_41 rfl ?_
      exact x_iret C E (gs2 hM) dX6_makeSplices_44
    · replace hM := gif_neg hc hM
      refine x_aln C 0 rfl dX6_makeSplices_17 rfl ?_
      refine gXg_0_now C kf_X6_10 dX6_makeSplices_18 rfl ?_
      refine x_iln C 1 rfl dX6_makeSplices_21 rfl ?_
      obtain ⟨r7, h6, hM⟩ := gb1_some hM
      refine x_cvi (As := [.int a0]) (rest := []) C E.2.2.2.2.2 1 (c_X1_postsBeside hG h6) (gBv km_X6_85 kin_X1_postsBeside ksel_X1_postsBeside kini_X1 kc_X1_postsBeside) rfl rfl rfl ⟨rfl, by decide +kernel, by decide +kernel, by decide +kernel⟩ ⟨Nat.le_of_ble_eq_true rfl, Nat.le_of_ble_eq_true rfl⟩ (by show 1 < 213; decide) rfl rfl rfl rfl (Nat.le_of_ble_eq_true rfl) dX6_makeSplices_22 rfl ?_
      refine x_ic (v := 3) C (by decide) dX6_makeSplices_25 rfl ?_
      refine x_ic_lt (tgt := 32) C dX6_makeSplices_26 (by decide) rfl (fun hc => ?_) (fun hc => ?_)
      · replace hM := gif_pos hc hM
        refine x_aln C 0 rfl dX6_makeSplices_32 rfl ?_
        refine gXg_0_now C kf_X6_10 dX6_makeSplices_33 rfl ?_
        refine gXg_1_splices C kf_X6_90 dX6_makeSplices_36 rfl ?_
        refine x_iln C 1 rfl dX6_makeSplices_39 rfl ?_
        refine x_iln C 2 rfl dX6_makeSplices_40 rfl ?_
        obtain ⟨r10, s9, h8, hM⟩ := gb2_some hM
        refine x_csi (As := [.ref (ad 3), .int a0, .int a1]) (rest := []) C E.2.2.2.2.2 3 (c_X6_changed_3 hG h8) (gBs km_X6_75 kst_X6_changed kini_X6 kc_X6_changed) rfl rfl rfl ⟨by decide +kernel, by decide +kernel, by decide +kernel⟩ ⟨Nat.le_of_ble_eq_true rfl, Nat.le_of_ble_eq_true rfl⟩ rfl rfl (Nat.le_of_ble_eq_true rfl) dX6_makeSplices_41 rfl ?_
        exact x_iret C E (gs2 hM) dX6_makeSplices_44
      · replace hM := gif_neg hc hM
        refine x_ldc (v := (-100003)) C (gBc kk_X6_89) dX6_makeSplices_29 rfl ?_
        exact x_iret C E (gs2 hM) dX6_makeSplices_31
  · replace hM := gif_pos hc hM
    refine x_ldc (v := (-100001)) C (gBc kk_X6_70) dX6_makeSplices_10 rfl ?_
    exact x_iret C E (gs2 hM) dX6_makeSplices_12
set_option maxRecDepth 100000 in
set_option maxHeartbeats 4000000 in
theorem c_X6_changed_4 {l : Launch} {D : va_G} {ad : Nat → Nat} {cy : Nat → ClassId} {b : Nat} (hG : gInj (gGX D ad cy b)) {a1 : Int32} {a2 : Int32} {σ : gMem} {r0 : Int32} {σ0 : gMem} (hM : m_X6_changed_4 a1 a2 σ = some (r0, σ0)) : gMi l yX6_changed (Cond.code yX6_changed cX6_changed 4 (some .int) :: gBig) { frames := 0, cells := 0, slots := 0, locals := 0 } (gGX D ad cy b) [.ref (ad 4), .int a1, .int a2] σ r0 σ0 := by
  refine gIntro (own := RX6) hG (by decide +kernel) rfl rfl (Nat.le_of_ble_eq_true rfl) (lv := [(0, .ref (ad 4)), (1, .int a1), (2, .int a2)]) rfl (fun κ C E => ?_)
  unfold m_X6_changed_4 at hM
  refine x_aln C 0 rfl dX6_changed_0 rfl ?_
  refine x_iln C 1 rfl dX6_changed_1 rfl ?_
  obtain ⟨h1, hM⟩ := gck_some hM
  refine gXa_4 C h1 dX6_changed_2 rfl ?_
  obtain ⟨x3_2, ev, hM⟩ := gnm_ex hM
  refine x_istn (lv' := [(3, .int x3_2), (0, .ref (ad 4)), (1, .int a1), (2, .int a2)]) C rfl ev (by decide) rfl dX6_changed_3 rfl ?_
  refine x_aln C 1 rfl dX6_changed_4 rfl ?_
  refine x_iln C 2 rfl dX6_changed_5 rfl ?_
  refine x_iln C 3 rfl dX6_changed_6 rfl ?_
  obtain ⟨h3, hM⟩ := gck_some hM
  obtain ⟨s4, ev, hM⟩ := gnm_ex hM
  refine gXs_4 C ev h3 dX6_changed_7 rfl ?_
  refine x_iln C 0 rfl dX6_changed_8 rfl ?_
  exact x_iret C E (gs2 hM) dX6_changed_9
set_option maxRecDepth 100000 in
set_option maxHeartbeats 4000000 in
theorem c_X6_make {l : Launch} {D : va_G} {ad : Nat → Nat} {cy : Nat → ClassId} {b : Nat} (hG : gInj (gGX D ad cy b)) {a0 : Int32} {a1 : Int32} {a2 : Int32} {σ : gMem} {r0 : Int32} {σ0 : gMem} (hM : m_X6_make a0 a1 a2 σ = some (r0, σ0)) : gMi l yX6_make (Cond.code yX6_make cX6_make 4 (some .int) :: gBig) { frames := 2, cells := 0, slots := 0, locals := 45 } (gGX D ad cy b) [.ref (ad 0), .int a0, .int a1, .int a2] σ r0 σ0 := by
  refine gIntro (own := RX6) hG (by decide +kernel) rfl rfl (Nat.le_of_ble_eq_true rfl) (lv := [(0, .ref (ad 0)), (1, .int a0), (2, .int a1), (3, .int a2)]) rfl (fun κ C E => ?_)
  unfold m_X6_make at hM
  refine x_aln C 0 rfl dX6_make_0 rfl ?_
  refine gXg_0_now C kf_X6_10 dX6_make_1 rfl ?_
  refine x_iln C 1 rfl dX6_make_4 rfl ?_
  obtain ⟨r2, h1, hM⟩ := gb1_some hM
  refine x_cvi (As := [.int a0]) (rest := []) C E.2.2.2.2.2 1 (c_X1_hasPlace hG h1) (gBv km_X6_66 kin_X1_hasPlace ksel_X1_hasPlace kini_X1 kc_X1_hasPlace) rfl rfl rfl ⟨rfl, by decide +kernel, by decide +kernel, by decide +kernel⟩ ⟨Nat.le_of_ble_eq_true rfl, Nat.le_of_ble_eq_true rfl⟩ (by show 1 < 213; decide) rfl rfl rfl rfl (Nat.le_of_ble_eq_true rfl) dX6_make_5 rfl ?_
  refine x_if_ne (tgt := 14) C dX6_make_8 (by decide) rfl (fun hc => ?_) (fun hc => ?_)
  · replace hM := gif_neg hc hM
    refine x_iln C 2 rfl dX6_make_14 rfl ?_
    by_cases h8 : a1 = 0
    · have hM := gif_pos h8 hM
      refine x_swin (tgt := 40) C dX6_make_15 (by rw [h8]; decide) (by rw [h8]; decide) (by rw [h8]; rfl) (by decide) ?_
      refine x_iln C 3 rfl dX6_make_40 rfl ?_
      refine x_bi (v := (-20)) C (by decide) dX6_make_41 rfl ?_
      refine x_bi (v := 60) C (by decide) dX6_make_43 rfl ?_
      obtain ⟨r4, h3, hM⟩ := gb1_some hM
      refine x_csi (As := [.int a2, .int (-20), .int 60]) (rest := []) C E.2.2.2.2.2 3 (c_X6_within hG h3) (gBs km_X6_54 kst_X6_within kini_X6 kc_X6_within) rfl rfl rfl ⟨by decide +kernel, by decide +kernel, by decide +kernel⟩ ⟨Nat.le_of_ble_eq_true rfl, Nat.le_of_ble_eq_true rfl⟩ rfl rfl (Nat.le_of_ble_eq_true rfl) dX6_make_45 rfl ?_
      refine x_if_eq (tgt := 66) C dX6_make_48 (by decide) rfl (fun hc => ?_) (fun hc => ?_)
      · replace hM := gif_pos hc hM
        refine x_ldc (v := (-100001)) C (gBc kk_X6_70) dX6_make_66 rfl ?_
        exact x_iret C E (gs2 hM) dX6_make_68
      · replace hM := gif_neg hc hM
        refine x_aln C 0 rfl dX6_make_51 rfl ?_
        refine gXg_0_now C kf_X6_10 dX6_make_52 rfl ?_
        refine gXg_1_depths C kf_X6_71 dX6_make_55 rfl ?_
        refine x_iln C 1 rfl dX6_make_58 rfl ?_
        refine x_iln C 3 rfl dX6_make_59 rfl ?_
        obtain ⟨r7, s6, h5, hM⟩ := gb2_some hM
        refine x_csi (As := [.ref (ad 2), .int a0, .int a2]) (rest := []) C E.2.2.2.2.2 3 (c_X6_changed_2 hG h5) (gBs km_X6_75 kst_X6_changed kini_X6 kc_X6_changed) rfl rfl rfl ⟨by decide +kernel, by decide +kernel, by decide +kernel⟩ ⟨Nat.le_of_ble_eq_true rfl, Nat.le_of_ble_eq_true rfl⟩ rfl rfl (Nat.le_of_ble_eq_true rfl) dX6_make_60 rfl ?_
        refine x_goto (tgt := 68) C dX6_make_63 (by decide) ?_
        exact x_iret C E (gs2 hM) dX6_make_68
    replace hM := gif_neg h8 hM
    by_cases h12 : a1 = 1
    · have hM := gif_pos h12 hM
      refine x_swin (tgt := 69) C dX6_make_15 (by rw [h12]; decide) (by rw [h12]; decide) (by rw [h12]; rfl) (by decide) ?_
      refine x_aln C 0 rfl dX6_make_69 rfl ?_
      refine x_iln C 1 rfl dX6_make_70 rfl ?_
      refine x_iln C 3 rfl dX6_make_71 rfl ?_
      obtain ⟨r11, s10, h9, hM⟩ := gb2_some hM
      refine x_cvi (As := [.int a0, .int a2]) (rest := []) C E.2.2.2.2.2 2 (c_X6_makeSplices hG h9) (gBv km_X6_79 kin_X6_makeSplices ksel_X6_makeSplices kini_X6 kc_X6_makeSplices) rfl rfl rfl ⟨rfl, by decide +kernel, by decide +kernel, by decide +kernel⟩ ⟨Nat.le_of_ble_eq_true rfl, Nat.le_of_ble_eq_true rfl⟩ (by show 0 < 213; decide) rfl rfl rfl rfl (Nat.le_of_ble_eq_true rfl) dX6_make_72 rfl ?_
      exact x_iret C E (gs2 hM) dX6_make_75
    replace hM := gif_neg h12 hM
    by_cases h18 : a1 = 2
    · have hM := gif_pos h18 hM
      refine x_swin (tgt := 76) C dX6_make_15 (by rw [h18]; decide) (by rw [h18]; decide) (by rw [h18]; rfl) (by decide) ?_
      refine x_iln C 3 rfl dX6_make_76 rfl ?_
      refine x_bi (v := (-5)) C (by decide) dX6_make_77 rfl ?_
      refine x_ic (v := 5) C (by decide) dX6_make_79 rfl ?_
      obtain ⟨r14, h13, hM⟩ := gb1_some hM
      refine x_csi (As := [.int a2, .int (-5), .int 5]) (rest := []) C E.2.2.2.2.2 3 (c_X6_within hG h13) (gBs km_X6_54 kst_X6_within kini_X6 kc_X6_within) rfl rfl rfl ⟨by decide +kernel, by decide +kernel, by decide +kernel⟩ ⟨Nat.le_of_ble_eq_true rfl, Nat.le_of_ble_eq_true rfl⟩ rfl rfl (Nat.le_of_ble_eq_true rfl) dX6_make_80 rfl ?_
      refine x_if_eq (tgt := 101) C dX6_make_83 (by decide) rfl (fun hc => ?_) (fun hc => ?_)
      · replace hM := gif_pos hc hM
        refine x_ldc (v := (-100001)) C (gBc kk_X6_70) dX6_make_101 rfl ?_
        exact x_iret C E (gs2 hM) dX6_make_103
      · replace hM := gif_neg hc hM
        refine x_aln C 0 rfl dX6_make_86 rfl ?_
        refine gXg_0_now C kf_X6_10 dX6_make_87 rfl ?_
        refine gXg_1_silts C kf_X6_82 dX6_make_90 rfl ?_
        refine x_iln C 1 rfl dX6_make_93 rfl ?_
        refine x_iln C 3 rfl dX6_make_94 rfl ?_
        obtain ⟨r17, s16, h15, hM⟩ := gb2_some hM
        refine x_csi (As := [.ref (ad 4), .int a0, .int a2]) (rest := []) C E.2.2.2.2.2 3 (c_X6_changed_4 hG h15) (gBs km_X6_75 kst_X6_changed kini_X6 kc_X6_changed) rfl rfl rfl ⟨by decide +kernel, by decide +kernel, by decide +kernel⟩ ⟨Nat.le_of_ble_eq_true rfl, Nat.le_of_ble_eq_true rfl⟩ rfl rfl (Nat.le_of_ble_eq_true rfl) dX6_make_95 rfl ?_
        refine x_goto (tgt := 103) C dX6_make_98 (by decide) ?_
        exact x_iret C E (gs2 hM) dX6_make_103
    replace hM := gif_neg h18 hM
    refine x_swout (tgt := 104) C dX6_make_15 (by have := gnI (k := 0) (n := 0) h8 (by decide); have := gnI (k := 1) (n := 1) h12 (by decide); have := gnI (k := 2) (n := 2) h18 (by decide); omega) (by decide) ?_
    refine x_ldc (v := (-100001)) C (gBc kk_X6_70) dX6_make_104 rfl ?_
    exact x_iret C E (gs2 hM) dX6_make_106
  · replace hM := gif_pos hc hM
    refine x_ldc (v := (-100001)) C (gBc kk_X6_70) dX6_make_11 rfl ?_
    exact x_iret C E (gs2 hM) dX6_make_13
set_option maxRecDepth 100000 in
set_option maxHeartbeats 4000000 in
theorem c_X1_join {l : Launch} {D : va_G} {ad : Nat → Nat} {cy : Nat → ClassId} {b : Nat} (hG : gInj (gGX D ad cy b)) {a0 : Int32} {a1 : Int32} {a2 : Int32} {σ : gMem} {σ0 : gMem} (hM : m_X1_join a0 a1 a2 σ = some σ0) : gMv l yX1_join (Cond.code yX1_join cX1_join 4 none :: gBig) { frames := 0, cells := 0, slots := 0, locals := 0 } (gGX D ad cy b) [.ref (ad 1), .int a0, .int a1, .int a2] σ σ0 := by
  refine gIntro (own := RX1) hG (by decide +kernel) rfl rfl (Nat.le_of_ble_eq_true rfl) (lv := [(0, .ref (ad 1)), (1, .int a0), (2, .int a1), (3, .int a2)]) rfl (fun κ C E => ?_)
  unfold m_X1_join at hM
  refine x_aln C 0 rfl dX1_join_0 rfl ?_
  refine gXg_1_minutes C kf_X1_23 dX1_join_1 rfl ?_
  refine x_iln C 1 rfl dX1_join_4 rfl ?_
  obtain ⟨h1, hM⟩ := gck_some hM
  refine gXo_5 C h1 dX1_join_5 rfl ?_
  refine x_iln C 2 rfl dX1_join_6 rfl ?_
  refine x_iln C 3 rfl dX1_join_7 rfl ?_
  obtain ⟨h2, hM⟩ := gck_some hM
  obtain ⟨s3, ev, hM⟩ := gnm_ex hM
  refine gXs_rown C (inb_lt h1) ev h2 dX1_join_8 rfl ?_
  refine x_aln C 0 rfl dX1_join_9 rfl ?_
  refine gXg_1_minutes C kf_X1_23 dX1_join_10 rfl ?_
  refine x_iln C 2 rfl dX1_join_13 rfl ?_
  obtain ⟨h4, hM⟩ := gck_some hM
  refine gXo_5 C h4 dX1_join_14 rfl ?_
  refine x_iln C 1 rfl dX1_join_15 rfl ?_
  refine x_iln C 3 rfl dX1_join_16 rfl ?_
  obtain ⟨h5, hM⟩ := gck_some hM
  obtain ⟨s6, ev, hM⟩ := gnm_ex hM
  refine gXs_rown C (inb_lt h4) ev h5 dX1_join_17 rfl ?_
  exact x_vret C E (gs1 hM) dX1_join_18
set_option maxRecDepth 100000 in
set_option maxHeartbeats 4000000 in
theorem c_X6_path {l : Launch} {D : va_G} {ad : Nat → Nat} {cy : Nat → ClassId} {b : Nat} (hG : gInj (gGX D ad cy b)) {a0 : Int32} {a1 : Int32} {a2 : Int32} {σ : gMem} {r0 : Int32} {σ0 : gMem} (hM : m_X6_path a0 a1 a2 σ = some (r0, σ0)) : gMi l yX6_path (Cond.code yX6_path cX6_path 5 (some .int) :: gBig) { frames := 2, cells := 0, slots := 0, locals := 43 } (gGX D ad cy b) [.ref (ad 0), .int a0, .int a1, .int a2] σ r0 σ0 := by
  refine gIntro (own := RX6) hG (by decide +kernel) rfl rfl (Nat.le_of_ble_eq_true rfl) (lv := [(0, .ref (ad 0)), (1, .int a0), (2, .int a1), (3, .int a2)]) rfl (fun κ C E => ?_)
  unfold m_X6_path at hM
  refine x_aln C 0 rfl dX6_path_0 rfl ?_
  refine gXg_0_now C kf_X6_10 dX6_path_1 rfl ?_
  refine x_iln C 1 rfl dX6_path_4 rfl ?_
  obtain ⟨r2, h1, hM⟩ := gb1_some hM
  refine x_cvi (As := [.int a0]) (rest := []) C E.2.2.2.2.2 1 (c_X1_hasPlace hG h1) (gBv km_X6_66 kin_X1_hasPlace ksel_X1_hasPlace kini_X1 kc_X1_hasPlace) rfl rfl rfl ⟨rfl, by decide +kernel, by decide +kernel, by decide +kernel⟩ ⟨Nat.le_of_ble_eq_true rfl, Nat.le_of_ble_eq_true rfl⟩ (by show 1 < 213; decide) rfl rfl rfl rfl (Nat.le_of_ble_eq_true rfl) dX6_path_5 rfl ?_
  refine x_if_eq (tgt := 37) C dX6_path_8 (by decide) rfl (fun hc => ?_) (fun hc => ?_)
  · replace hM := gif_pos hc hM
    refine x_ic (v := (-1)) C (by decide) dX6_path_37 rfl ?_
    exact x_iret C E (gs2 hM) dX6_path_38
  · replace hM := gif_neg hc hM
    refine x_aln C 0 rfl dX6_path_11 rfl ?_
    refine gXg_0_now C kf_X6_10 dX6_path_12 rfl ?_
    refine x_iln C 2 rfl dX6_path_15 rfl ?_
    obtain ⟨r4, h3, hM⟩ := gb1_some hM
    refine x_cvi (As := [.int a1]) (rest := []) C E.2.2.2.2.2 1 (c_X1_hasPlace hG h3) (gBv km_X6_66 kin_X1_hasPlace ksel_X1_hasPlace kini_X1 kc_X1_hasPlace) rfl rfl rfl ⟨rfl, by decide +kernel, by decide +kernel, by decide +kernel⟩ ⟨Nat.le_of_ble_eq_true rfl, Nat.le_of_ble_eq_true rfl⟩ (by show 1 < 213; decide) rfl rfl rfl rfl (Nat.le_of_ble_eq_true rfl) dX6_path_16 rfl ?_
    refine x_if_eq (tgt := 37) C dX6_path_19 (by decide) rfl (fun hc => ?_) (fun hc => ?_)
    · replace hM := gif_pos hc hM
      refine x_ic (v := (-1)) C (by decide) dX6_path_37 rfl ?_
      exact x_iret C E (gs2 hM) dX6_path_38
    · replace hM := gif_neg hc hM
      refine x_iln C 1 rfl dX6_path_22 rfl ?_
      refine x_iln C 2 rfl dX6_path_23 rfl ?_
      refine x_ic_eq (tgt := 37) C dX6_path_24 (by decide) rfl (fun hc => ?_) (fun hc => ?_)
      · replace hM := gif_pos hc hM
        refine x_ic (v := (-1)) C (by decide) dX6_path_37 rfl ?_
        exact x_iret C E (gs2 hM) dX6_path_38
      · replace hM := gif_neg hc hM
        refine x_iln C 3 rfl dX6_path_27 rfl ?_
        refine x_ic (v := 0) C (by decide) dX6_path_28 rfl ?_
        refine x_bi (v := 60) C (by decide) dX6_path_29 rfl ?_
        obtain ⟨r6, h5, hM⟩ := gb1_some hM
        refine x_csi (As := [.int a2, .int 0, .int 60]) (rest := []) C E.2.2.2.2.2 3 (c_X6_within hG h5) (gBs km_X6_54 kst_X6_within kini_X6 kc_X6_within) rfl rfl rfl ⟨by decide +kernel, by decide +kernel, by decide +kernel⟩ ⟨Nat.le_of_ble_eq_true rfl, Nat.le_of_ble_eq_true rfl⟩ rfl rfl (Nat.le_of_ble_eq_true rfl) dX6_path_31 rfl ?_
        refine x_if_ne (tgt := 39) C dX6_path_34 (by decide) rfl (fun hc => ?_) (fun hc => ?_)
        · replace hM := gif_neg hc hM
          refine x_aln C 0 rfl dX6_path_39 rfl ?_
          refine gXg_0_now C kf_X6_10 dX6_path_40 rfl ?_
          refine gXg_1_minutes C kf_X6_93 dX6_path_43 rfl ?_
          refine x_iln C 1 rfl dX6_path_46 rfl ?_
          obtain ⟨h7, hM⟩ := gck_some hM
          refine gXo_5 C h7 dX6_path_47 rfl ?_
          refine x_iln C 2 rfl dX6_path_48 rfl ?_
          obtain ⟨h8, hM⟩ := gck_some hM
          refine gXa_rown C (inb_lt h7) h8 dX6_path_49 rfl ?_
          obtain ⟨x4_9, ev, hM⟩ := gnm_ex hM
          refine x_ist (lv' := [(4, .int x4_9), (0, .ref (ad 0)), (1, .int a0), (2, .int a1), (3, .int a2)]) C ev (by decide) rfl dX6_path_50 rfl ?_
          refine x_aln C 1 rfl dX6_path_52 rfl ?_
          refine gXg_0_now C kf_X6_10 dX6_path_53 rfl ?_
          refine x_iln C 2 rfl dX6_path_56 rfl ?_
          refine x_iln C 3 rfl dX6_path_57 rfl ?_
          refine x_iln C 4 rfl dX6_path_58 rfl ?_
          obtain ⟨s11, h10, hM⟩ := gb1_some hM
          refine x_cvv (As := [.int a0, .int a1, .int a2]) (rest := []) C E.2.2.2.2.2 3 (c_X1_join hG h10) (gBv km_X6_97 kin_X1_join ksel_X1_join kini_X1 kc_X1_join) rfl rfl rfl ⟨rfl, by decide +kernel, by decide +kernel, by decide +kernel⟩ ⟨Nat.le_of_ble_eq_true rfl, Nat.le_of_ble_eq_true rfl⟩ (by show 1 < 213; decide) rfl rfl rfl rfl (Nat.le_of_ble_eq_true rfl) dX6_path_59 rfl ?_
          refine x_il C 0 rfl dX6_path_62 rfl ?_
          exact x_iret C E (gs2 hM) dX6_path_64
        · replace hM := gif_pos hc hM
          refine x_ic (v := (-1)) C (by decide) dX6_path_37 rfl ?_
          exact x_iret C E (gs2 hM) dX6_path_38
set_option maxRecDepth 100000 in
set_option maxHeartbeats 4000000 in
theorem c_X6_isHour {l : Launch} {D : va_G} {ad : Nat → Nat} {cy : Nat → ClassId} {b : Nat} (hG : gInj (gGX D ad cy b)) {a0 : Int32} {σ : gMem} {r0 : Int32} (hM : m_X6_isHour a0 σ = some r0) : gMi l yX6_isHour (Cond.code yX6_isHour cX6_isHour 1 (some .boolean) :: gBig) { frames := 1, cells := 0, slots := 0, locals := 22 } (gGX D ad cy b) [.int a0] σ r0 σ := by
  refine gIntro (own := RX6) hG (by decide +kernel) rfl rfl (Nat.le_of_ble_eq_true rfl) (lv := [(0, .int a0)]) rfl (fun κ C E => ?_)
  unfold m_X6_isHour at hM
  refine x_iln C 0 rfl dX6_isHour_0 rfl ?_
  refine x_ic (v := 0) C (by decide) dX6_isHour_1 rfl ?_
  refine x_bi (v := 23) C (by decide) dX6_isHour_2 rfl ?_
  obtain ⟨r2, h1, hM⟩ := gb1_some hM
  refine x_csi (As := [.int a0, .int 0, .int 23]) (rest := []) C E.2.2.2.2.2 3 (c_X6_within hG h1) (gBs km_X6_54 kst_X6_within kini_X6 kc_X6_within) rfl rfl rfl ⟨by decide +kernel, by decide +kernel, by decide +kernel⟩ ⟨Nat.le_of_ble_eq_true rfl, Nat.le_of_ble_eq_true rfl⟩ rfl rfl (Nat.le_of_ble_eq_true rfl) dX6_isHour_4 rfl ?_
  obtain ⟨h3, hM⟩ := gck_some hM
  exact x_zret C E h3 ⟨gs1 hM, rfl⟩ dX6_isHour_7
set_option maxRecDepth 100000 in
set_option maxHeartbeats 4000000 in
theorem c_X6_changed_6 {l : Launch} {D : va_G} {ad : Nat → Nat} {cy : Nat → ClassId} {b : Nat} (hG : gInj (gGX D ad cy b)) {a1 : Int32} {a2 : Int32} {σ : gMem} {r0 : Int32} {σ0 : gMem} (hM : m_X6_changed_6 a1 a2 σ = some (r0, σ0)) : gMi l yX6_changed (Cond.code yX6_changed cX6_changed 4 (some .int) :: gBig) { frames := 0, cells := 0, slots := 0, locals := 0 } (gGX D ad cy b) [.ref (ad 6), .int a1, .int a2] σ r0 σ0 := by
  refine gIntro (own := RX6) hG (by decide +kernel) rfl rfl (Nat.le_of_ble_eq_true rfl) (lv := [(0, .ref (ad 6)), (1, .int a1), (2, .int a2)]) rfl (fun κ C E => ?_)
  unfold m_X6_changed_6 at hM
  refine x_aln C 0 rfl dX6_changed_0 rfl ?_
  refine x_iln C 1 rfl dX6_changed_1 rfl ?_
  obtain ⟨h1, hM⟩ := gck_some hM
  refine gXa_6 C h1 dX6_changed_2 rfl ?_
  obtain ⟨x3_2, ev, hM⟩ := gnm_ex hM
  refine x_istn (lv' := [(3, .int x3_2), (0, .ref (ad 6)), (1, .int a1), (2, .int a2)]) C rfl ev (by decide) rfl dX6_changed_3 rfl ?_
  refine x_aln C 1 rfl dX6_changed_4 rfl ?_
  refine x_iln C 2 rfl dX6_changed_5 rfl ?_
  refine x_iln C 3 rfl dX6_changed_6 rfl ?_
  obtain ⟨h3, hM⟩ := gck_some hM
  obtain ⟨s4, ev, hM⟩ := gnm_ex hM
  refine gXs_6 C ev h3 dX6_changed_7 rfl ?_
  refine x_iln C 0 rfl dX6_changed_8 rfl ?_
  exact x_iret C E (gs2 hM) dX6_changed_9
set_option maxRecDepth 100000 in
set_option maxHeartbeats 4000000 in
theorem c_X6_tide {l : Launch} {D : va_G} {ad : Nat → Nat} {cy : Nat → ClassId} {b : Nat} (hG : gInj (gGX D ad cy b)) {a0 : Int32} {a1 : Int32} {σ : gMem} {r0 : Int32} {σ0 : gMem} (hM : m_X6_tide a0 a1 σ = some (r0, σ0)) : gMi l yX6_tide (Cond.code yX6_tide cX6_tide 3 (some .int) :: gBig) { frames := 2, cells := 0, slots := 0, locals := 42 } (gGX D ad cy b) [.ref (ad 0), .int a0, .int a1] σ r0 σ0 := by
  refine gIntro (own := RX6) hG (by decide +kernel) rfl rfl (Nat.le_of_ble_eq_true rfl) (lv := [(0, .ref (ad 0)), (1, .int a0), (2, .int a1)]) rfl (fun κ C E => ?_)
  unfold m_X6_tide at hM
  refine x_iln C 1 rfl dX6_tide_0 rfl ?_
  obtain ⟨r2, h1, hM⟩ := gb1_some hM
  refine x_csi (As := [.int a0]) (rest := []) C E.2.2.2.2.2 1 (c_X6_isHour hG h1) (gBs km_X6_101 kst_X6_isHour kini_X6 kc_X6_isHour) rfl rfl rfl ⟨by decide +kernel, by decide +kernel, by decide +kernel⟩ ⟨Nat.le_of_ble_eq_true rfl, Nat.le_of_ble_eq_true rfl⟩ rfl rfl (Nat.le_of_ble_eq_true rfl) dX6_tide_1 rfl ?_
  refine x_if_eq (tgt := 18) C dX6_tide_4 (by decide) rfl (fun hc => ?_) (fun hc => ?_)
  · replace hM := gif_pos hc hM
    refine x_ldc (v := (-100001)) C (gBc kk_X6_70) dX6_tide_18 rfl ?_
    exact x_iret C E (gs2 hM) dX6_tide_20
  · replace hM := gif_neg hc hM
    refine x_iln C 2 rfl dX6_tide_7 rfl ?_
    refine x_bi (v := (-20)) C (by decide) dX6_tide_8 rfl ?_
    refine x_bi (v := 20) C (by decide) dX6_tide_10 rfl ?_
    obtain ⟨r4, h3, hM⟩ := gb1_some hM
    refine x_csi (As := [.int a1, .int (-20), .int 20]) (rest := []) C E.2.2.2.2.2 3 (c_X6_within hG h3) (gBs km_X6_54 kst_X6_within kini_X6 kc_X6_within) rfl rfl rfl ⟨by decide +kernel, by decide +kernel, by decide +kernel⟩ ⟨Nat.le_of_ble_eq_true rfl, Nat.le_of_ble_eq_true rfl⟩ rfl rfl (Nat.le_of_ble_eq_true rfl) dX6_tide_12 rfl ?_
    refine x_if_ne (tgt := 21) C dX6_tide_15 (by decide) rfl (fun hc => ?_) (fun hc => ?_)
    · replace hM := gif_neg hc hM
      refine x_aln C 0 rfl dX6_tide_21 rfl ?_
      refine gXg_0_now C kf_X6_10 dX6_tide_22 rfl ?_
      refine gXg_1_tideAt C kf_X6_104 dX6_tide_25 rfl ?_
      refine x_iln C 1 rfl dX6_tide_28 rfl ?_
      refine x_iln C 2 rfl dX6_tide_29 rfl ?_
      obtain ⟨r7, s6, h5, hM⟩ := gb2_some hM
      refine x_csi (As := [.ref (ad 6), .int a0, .int a1]) (rest := []) C E.2.2.2.2.2 3 (c_X6_changed_6 hG h5) (gBs km_X6_75 kst_X6_changed kini_X6 kc_X6_changed) rfl rfl rfl ⟨by decide +kernel, by decide +kernel, by decide +kernel⟩ ⟨Nat.le_of_ble_eq_true rfl, Nat.le_of_ble_eq_true rfl⟩ rfl rfl (Nat.le_of_ble_eq_true rfl) dX6_tide_30 rfl ?_
      exact x_iret C E (gs2 hM) dX6_tide_33
    · replace hM := gif_pos hc hM
      refine x_ldc (v := (-100001)) C (gBc kk_X6_70) dX6_tide_18 rfl ?_
      exact x_iret C E (gs2 hM) dX6_tide_20
set_option maxRecDepth 100000 in
set_option maxHeartbeats 4000000 in
theorem c_X6_set {l : Launch} {D : va_G} {ad : Nat → Nat} {cy : Nat → ClassId} {b : Nat} (hG : gInj (gGX D ad cy b)) {a0 : Int32} {a1 : Int32} {σ : gMem} {r0 : Int32} {σ0 : gMem} (hM : m_X6_set a0 a1 σ = some (r0, σ0)) : gMi l yX6_set (Cond.code yX6_set cX6_set 4 (some .int) :: gBig) { frames := 1, cells := 0, slots := 0, locals := 22 } (gGX D ad cy b) [.ref (ad 0), .int a0, .int a1] σ r0 σ0 := by
  refine gIntro (own := RX6) hG (by decide +kernel) rfl rfl (Nat.le_of_ble_eq_true rfl) (lv := [(0, .ref (ad 0)), (1, .int a0), (2, .int a1)]) rfl (fun κ C E => ?_)
  unfold m_X6_set at hM
  refine x_iln C 1 rfl dX6_set_0 rfl ?_
  refine x_if_ne (tgt := 32) C dX6_set_1 (by decide) rfl (fun hc => ?_) (fun hc => ?_)
  · replace hM := gif_neg hc hM
    refine x_iln C 1 rfl dX6_set_32 rfl ?_
    refine x_ic (v := 1) C (by decide) dX6_set_33 rfl ?_
    refine x_ic_ne (tgt := 65) C dX6_set_34 (by decide) rfl (fun hc => ?_) (fun hc => ?_)
    · replace hM := gif_neg hc hM
      refine x_ic (v := (-1)) C (by decide) dX6_set_65 rfl ?_
      exact x_iret C E (gs2 hM) dX6_set_66
    · replace hM := gif_pos hc hM
      refine x_iln C 2 rfl dX6_set_37 rfl ?_
      refine x_ic (v := 0) C (by decide) dX6_set_38 rfl ?_
      refine x_bi (v := 60) C (by decide) dX6_set_39 rfl ?_
      obtain ⟨r2, h1, hM⟩ := gb1_some hM
      refine x_csi (As := [.int a1, .int 0, .int 60]) (rest := []) C E.2.2.2.2.2 3 (c_X6_within hG h1) (gBs km_X6_54 kst_X6_within kini_X6 kc_X6_within) rfl rfl rfl ⟨by decide +kernel, by decide +kernel, by decide +kernel⟩ ⟨Nat.le_of_ble_eq_true rfl, Nat.le_of_ble_eq_true rfl⟩ rfl rfl (Nat.le_of_ble_eq_true rfl) dX6_set_41 rfl ?_
      refine x_if_eq (tgt := 65) C dX6_set_44 (by decide) rfl (fun hc => ?_) (fun hc => ?_)
      · replace hM := gif_pos hc hM
        refine x_ic (v := (-1)) C (by decide) dX6_set_65 rfl ?_
        exact x_iret C E (gs2 hM) dX6_set_66
      · replace hM := gif_neg hc hM
        refine x_aln C 0 rfl dX6_set_47 rfl ?_
        refine gXg_0_now C kf_X6_10 dX6_set_48 rfl ?_
        refine gXg_1_reach C kf_X6_110 dX6_set_51 rfl ?_
        obtain ⟨x3_3, ev, hM⟩ := gnm_ex hM
        refine x_istn (lv' := [(3, .int x3_3), (0, .ref (ad 0)), (1, .int a0), (2, .int a1)]) C rfl ev (by decide) rfl dX6_set_54 rfl ?_
        refine x_aln C 1 rfl dX6_set_55 rfl ?_
        refine gXg_0_now C kf_X6_10 dX6_set_56 rfl ?_
        refine x_iln C 3 rfl dX6_set_59 rfl ?_
        obtain ⟨s4, ev, hM⟩ := gnm_ex hM
        refine gXp_1_reach C ev kf_X6_110 dX6_set_60 rfl ?_
        refine x_iln C 0 rfl dX6_set_63 rfl ?_
        exact x_iret C E (gs2 hM) dX6_set_64
  · replace hM := gif_pos hc hM
    refine x_iln C 2 rfl dX6_set_4 rfl ?_
    refine x_ic (v := 0) C (by decide) dX6_set_5 rfl ?_
    refine x_bi (v := 40) C (by decide) dX6_set_6 rfl ?_
    obtain ⟨r6, h5, hM⟩ := gb1_some hM
    refine x_csi (As := [.int a1, .int 0, .int 40]) (rest := []) C E.2.2.2.2.2 3 (c_X6_within hG h5) (gBs km_X6_54 kst_X6_within kini_X6 kc_X6_within) rfl rfl rfl ⟨by decide +kernel, by decide +kernel, by decide +kernel⟩ ⟨Nat.le_of_ble_eq_true rfl, Nat.le_of_ble_eq_true rfl⟩ rfl rfl (Nat.le_of_ble_eq_true rfl) dX6_set_8 rfl ?_
    refine x_if_eq (tgt := 32) C dX6_set_11 (by decide) rfl (fun hc => ?_) (fun hc => ?_)
    · replace hM := gif_pos hc hM
      refine x_iln C 1 rfl dX6_set_32 rfl ?_
      refine x_ic (v := 1) C (by decide) dX6_set_33 rfl ?_
      refine x_ic_ne (tgt := 65) C dX6_set_34 (by decide) rfl (fun hc => ?_) (fun hc => ?_)
      · replace hM := gif_neg hc hM
        refine x_ic (v := (-1)) C (by decide) dX6_set_65 rfl ?_
        exact x_iret C E (gs2 hM) dX6_set_66
      · replace hM := gif_pos hc hM
        refine x_iln C 2 rfl dX6_set_37 rfl ?_
        refine x_ic (v := 0) C (by decide) dX6_set_38 rfl ?_
        refine x_bi (v := 60) C (by decide) dX6_set_39 rfl ?_
        obtain ⟨r8, h7, hM⟩ := gb1_some hM
        refine x_csi (As := [.int a1, .int 0, .int 60]) (rest := []) C E.2.2.2.2.2 3 (c_X6_within hG h7) (gBs km_X6_54 kst_X6_within kini_X6 kc_X6_within) rfl rfl rfl ⟨by decide +kernel, by decide +kernel, by decide +kernel⟩ ⟨Nat.le_of_ble_eq_true rfl, Nat.le_of_ble_eq_true rfl⟩ rfl rfl (Nat.le_of_ble_eq_true rfl) dX6_set_41 rfl ?_
        refine x_if_eq (tgt := 65) C dX6_set_44 (by decide) rfl (fun hc => ?_) (fun hc => ?_)
        · replace hM := gif_pos hc hM
          refine x_ic (v := (-1)) C (by decide) dX6_set_65 rfl ?_
          exact x_iret C E (gs2 hM) dX6_set_66
        · replace hM := gif_neg hc hM
          refine x_aln C 0 rfl dX6_set_47 rfl ?_
          refine gXg_0_now C kf_X6_10 dX6_set_48 rfl ?_
          refine gXg_1_reach C kf_X6_110 dX6_set_51 rfl ?_
          obtain ⟨x3_9, ev, hM⟩ := gnm_ex hM
          refine x_istn (lv' := [(3, .int x3_9), (0, .ref (ad 0)), (1, .int a0), (2, .int a1)]) C rfl ev (by decide) rfl dX6_set_54 rfl ?_
          refine x_aln C 1 rfl dX6_set_55 rfl ?_
          refine gXg_0_now C kf_X6_10 dX6_set_56 rfl ?_
          refine x_iln C 3 rfl dX6_set_59 rfl ?_
          obtain ⟨s10, ev, hM⟩ := gnm_ex hM
          refine gXp_1_reach C ev kf_X6_110 dX6_set_60 rfl ?_
          refine x_iln C 0 rfl dX6_set_63 rfl ?_
          exact x_iret C E (gs2 hM) dX6_set_64
    · replace hM := gif_neg hc hM
      refine x_aln C 0 rfl dX6_set_14 rfl ?_
      refine gXg_0_now C kf_X6_10 dX6_set_15 rfl ?_
      refine gXg_1_floodTold C kf_X6_107 dX6_set_18 rfl ?_
      obtain ⟨x3_11, ev, hM⟩ := gnm_ex hM
      refine x_istn (lv' := [(3, .int x3_11), (0, .ref (ad 0)), (1, .int a0), (2, .int a1)]) C rfl ev (by decide) rfl dX6_set_21 rfl ?_
      refine x_aln C 1 rfl dX6_set_22 rfl ?_
      refine gXg_0_now C kf_X6_10 dX6_set_23 rfl ?_
      refine x_iln C 3 rfl dX6_set_26 rfl ?_
      obtain ⟨s12, ev, hM⟩ := gnm_ex hM
      refine gXp_1_floodTold C ev kf_X6_107 dX6_set_27 rfl ?_
      refine x_iln C 0 rfl dX6_set_30 rfl ?_
      exact x_iret C E (gs2 hM) dX6_set_31
set_option maxRecDepth 100000 in
set_option maxHeartbeats 4000000 in
theorem c_X1_addPerson {l : Launch} {D : va_G} {ad : Nat → Nat} {cy : Nat → ClassId} {b : Nat} (hG : gInj (gGX D ad cy b)) {a0 : Int32} {a1 : Int32} {a2 : Int32} {σ : gMem} {r0 : Int32} {σ0 : gMem} (hM : m_X1_addPerson a0 a1 a2 σ = some (r0, σ0)) : gMi l yX1_addPerson (Cond.code yX1_addPerson cX1_addPerson 4 (some .int) :: gBig) { frames := 0, cells := 0, slots := 0, locals := 0 } (gGX D ad cy b) [.ref (ad 1), .int a0, .int a1, .int a2] σ r0 σ0 := by
  refine gIntro (own := RX1) hG (by decide +kernel) rfl rfl (Nat.le_of_ble_eq_true rfl) (lv := [(0, .ref (ad 1)), (1, .int a0), (2, .int a1), (3, .int a2)]) rfl (fun κ C E => ?_)
  unfold m_X1_addPerson at hM
  refine x_aln C 0 rfl dX1_addPerson_0 rfl ?_
  refine gXg_1_kinds C kf_X1_33 dX1_addPerson_1 rfl ?_
  refine x_aln C 0 rfl dX1_addPerson_4 rfl ?_
  refine gXg_1_people C kf_X1_57 dX1_addPerson_5 rfl ?_
  refine x_iln C 1 rfl dX1_addPerson_8 rfl ?_
  obtain ⟨h1, hM⟩ := gck_some hM
  obtain ⟨s2, ev, hM⟩ := gnm_ex hM
  refine gXs_7 C ev h1 dX1_addPerson_9 rfl ?_
  refine x_aln C 0 rfl dX1_addPerson_10 rfl ?_
  refine gXg_1_told C kf_X1_36 dX1_addPerson_11 rfl ?_
  refine x_aln C 0 rfl dX1_addPerson_14 rfl ?_
  refine gXg_1_people C kf_X1_57 dX1_addPerson_15 rfl ?_
  refine x_iln C 2 rfl dX1_addPerson_18 rfl ?_
  obtain ⟨h3, hM⟩ := gck_some hM
  obtain ⟨s4, ev, hM⟩ := gnm_ex hM
  refine gXs_8 C ev h3 dX1_addPerson_19 rfl ?_
  refine x_aln C 0 rfl dX1_addPerson_20 rfl ?_
  refine gXg_1_homes C kf_X1_39 dX1_addPerson_21 rfl ?_
  refine x_aln C 0 rfl dX1_addPerson_24 rfl ?_
  refine gXg_1_people C kf_X1_57 dX1_addPerson_25 rfl ?_
  refine x_iln C 3 rfl dX1_addPerson_28 rfl ?_
  obtain ⟨h5, hM⟩ := gck_some hM
  obtain ⟨s6, ev, hM⟩ := gnm_ex hM
  refine gXs_9 C ev h5 dX1_addPerson_29 rfl ?_
  refine x_aln C 0 rfl dX1_addPerson_30 rfl ?_
  refine x_dup C rfl dX1_addPerson_31 rfl ?_
  refine gXg_1_people C kf_X1_57 dX1_addPerson_32 rfl ?_
  refine x_dupx1 C rfl rfl dX1_addPerson_35 rfl ?_
  refine x_ic (v := 1) C (by decide) dX1_addPerson_36 rfl ?_
  refine x_iadd C dX1_addPerson_37 rfl ?_
  obtain ⟨s7, ev, hM⟩ := gnm_ex hM
  refine gXp_1_people C ev kf_X1_57 dX1_addPerson_38 rfl ?_
  exact x_iret C E (gs2 hM) dX1_addPerson_41
set_option maxRecDepth 100000 in
set_option maxHeartbeats 4000000 in
theorem c_X6_person {l : Launch} {D : va_G} {ad : Nat → Nat} {cy : Nat → ClassId} {b : Nat} (hG : gInj (gGX D ad cy b)) {a0 : Int32} {a1 : Int32} {a2 : Int32} {σ : gMem} {r0 : Int32} {σ0 : gMem} (hM : m_X6_person a0 a1 a2 σ = some (r0, σ0)) : gMi l yX6_person (Cond.code yX6_person cX6_person 4 (some .int) :: gBig) { frames := 2, cells := 0, slots := 0, locals := 43 } (gGX D ad cy b) [.ref (ad 0), .int a0, .int a1, .int a2] σ r0 σ0 := by
  refine gIntro (own := RX6) hG (by decide +kernel) rfl rfl (Nat.le_of_ble_eq_true rfl) (lv := [(0, .ref (ad 0)), (1, .int a0), (2, .int a1), (3, .int a2)]) rfl (fun κ C E => ?_)
  unfold m_X6_person at hM
  refine x_iln C 1 rfl dX6_person_0 rfl ?_
  refine x_ic (v := 0) C (by decide) dX6_person_1 rfl ?_
  refine x_ic (v := 3) C (by decide) dX6_person_2 rfl ?_
  obtain ⟨r2, h1, hM⟩ := gb1_some hM
  refine x_csi (As := [.int a0, .int 0, .int 3]) (rest := []) C E.2.2.2.2.2 3 (c_X6_within hG h1) (gBs km_X6_54 kst_X6_within kini_X6 kc_X6_within) rfl rfl rfl ⟨by decide +kernel, by decide +kernel, by decide +kernel⟩ ⟨Nat.le_of_ble_eq_true rfl, Nat.le_of_ble_eq_true rfl⟩ rfl rfl (Nat.le_of_ble_eq_true rfl) dX6_person_3 rfl ?_
  refine x_if_eq (tgt := 30) C dX6_person_6 (by decide) rfl (fun hc => ?_) (fun hc => ?_)
  · replace hM := gif_pos hc hM
    refine x_ic (v := (-1)) C (by decide) dX6_person_30 rfl ?_
    exact x_iret C E (gs2 hM) dX6_person_31
  · replace hM := gif_neg hc hM
    refine x_iln C 2 rfl dX6_person_9 rfl ?_
    refine x_ic (v := 0) C (by decide) dX6_person_10 rfl ?_
    refine x_bi (v := 60) C (by decide) dX6_person_11 rfl ?_
    obtain ⟨r4, h3, hM⟩ := gb1_some hM
    refine x_csi (As := [.int a1, .int 0, .int 60]) (rest := []) C E.2.2.2.2.2 3 (c_X6_within hG h3) (gBs km_X6_54 kst_X6_within kini_X6 kc_X6_within) rfl rfl rfl ⟨by decide +kernel, by decide +kernel, by decide +kernel⟩ ⟨Nat.le_of_ble_eq_true rfl, Nat.le_of_ble_eq_true rfl⟩ rfl rfl (Nat.le_of_ble_eq_true rfl) dX6_person_13 rfl ?_
    refine x_if_eq (tgt := 30) C dX6_person_16 (by decide) rfl (fun hc => ?_) (fun hc => ?_)
    · replace hM := gif_pos hc hM
      refine x_ic (v := (-1)) C (by decide) dX6_person_30 rfl ?_
      exact x_iret C E (gs2 hM) dX6_person_31
    · replace hM := gif_neg hc hM
      refine x_aln C 0 rfl dX6_person_19 rfl ?_
      refine gXg_0_now C kf_X6_10 dX6_person_20 rfl ?_
      refine x_iln C 3 rfl dX6_person_23 rfl ?_
      obtain ⟨r6, h5, hM⟩ := gb1_some hM
      refine x_cvi (As := [.int a2]) (rest := []) C E.2.2.2.2.2 1 (c_X1_hasPlace hG h5) (gBv km_X6_66 kin_X1_hasPlace ksel_X1_hasPlace kini_X1 kc_X1_hasPlace) rfl rfl rfl ⟨rfl, by decide +kernel, by decide +kernel, by decide +kernel⟩ ⟨Nat.le_of_ble_eq_true rfl, Nat.le_of_ble_eq_true rfl⟩ (by show 1 < 213; decide) rfl rfl rfl rfl (Nat.le_of_ble_eq_true rfl) dX6_person_24 rfl ?_
      refine x_if_ne (tgt := 32) C dX6_person_27 (by decide) rfl (fun hc => ?_) (fun hc => ?_)
      · replace hM := gif_neg hc hM
        refine x_aln C 0 rfl dX6_person_32 rfl ?_
        refine gXg_0_now C kf_X6_10 dX6_person_33 rfl ?_
        refine gXg_1_people C kf_X6_113 dX6_person_36 rfl ?_
        refine x_bi (v := 8) C (by decide) dX6_person_39 rfl ?_
        refine x_ic_lt (tgt := 47) C dX6_person_41 (by decide) rfl (fun hc => ?_) (fun hc => ?_)
        · replace hM := gif_pos hc hM
          refine x_aln C 0 rfl dX6_person_47 rfl ?_
          refine gXg_0_now C kf_X6_10 dX6_person_48 rfl ?_
          refine x_iln C 1 rfl dX6_person_51 rfl ?_
          refine x_iln C 2 rfl dX6_person_52 rfl ?_
          refine x_iln C 3 rfl dX6_person_53 rfl ?_
          obtain ⟨r9, s8, h7, hM⟩ := gb2_some hM
          refine x_cvi (As := [.int a0, .int a1, .int a2]) (rest := []) C E.2.2.2.2.2 3 (c_X1_addPerson hG h7) (gBv km_X6_116 kin_X1_addPerson ksel_X1_addPerson kini_X1 kc_X1_addPerson) rfl rfl rfl ⟨rfl, by decide +kernel, by decide +kernel, by decide +kernel⟩ ⟨Nat.le_of_ble_eq_true rfl, Nat.le_of_ble_eq_true rfl⟩ (by show 1 < 213; decide) rfl rfl rfl rfl (Nat.le_of_ble_eq_true rfl) dX6_person_54 rfl ?_
          exact x_iret C E (gs2 hM) dX6_person_57
        · replace hM := gif_neg hc hM
          refine x_bi (v := (-3)) C (by decide) dX6_person_44 rfl ?_
          exact x_iret C E (gs2 hM) dX6_person_46
      · replace hM := gif_pos hc hM
        refine x_ic (v := (-1)) C (by decide) dX6_person_30 rfl ?_
        exact x_iret C E (gs2 hM) dX6_person_31
set_option maxRecDepth 100000 in
set_option maxHeartbeats 4000000 in
theorem c_X1_hasPerson {l : Launch} {D : va_G} {ad : Nat → Nat} {cy : Nat → ClassId} {b : Nat} (hG : gInj (gGX D ad cy b)) {a0 : Int32} {σ : gMem} {r0 : Int32} (hM : m_X1_hasPerson a0 σ = some r0) : gMi l yX1_hasPerson (Cond.code yX1_hasPerson cX1_hasPerson 2 (some .boolean) :: gBig) { frames := 1, cells := 0, slots := 0, locals := 22 } (gGX D ad cy b) [.ref (ad 1), .int a0] σ r0 σ := by
  refine gIntro (own := RX1) hG (by decide +kernel) rfl rfl (Nat.le_of_ble_eq_true rfl) (lv := [(0, .ref (ad 1)), (1, .int a0)]) rfl (fun κ C E => ?_)
  unfold m_X1_hasPerson at hM
  refine x_iln C 1 rfl dX1_hasPerson_0 rfl ?_
  refine x_ic (v := 0) C (by decide) dX1_hasPerson_1 rfl ?_
  refine x_aln C 0 rfl dX1_hasPerson_2 rfl ?_
  refine gXg_1_people C kf_X1_57 dX1_hasPerson_3 rfl ?_
  refine x_ic (v := 1) C (by decide) dX1_hasPerson_6 rfl ?_
  refine x_isub C dX1_hasPerson_7 rfl ?_
  obtain ⟨r2, h1, hM⟩ := gb1_some hM
  refine x_csni (As := [.int a0, .int 0, .int ((σ 1 8) - 1)]) (rest := []) C E.2.2.2.2.2 3 (c_X6_within hG h1) (gBn kc_X6_within) rfl rfl rfl (by decide +kernel) (gBc kini_X6) (gBc kst_X6_within) ⟨by decide +kernel, by decide +kernel, by decide +kernel⟩ ⟨Nat.le_of_ble_eq_true rfl, Nat.le_of_ble_eq_true rfl⟩ rfl rfl (Nat.le_of_ble_eq_true rfl) dX1_hasPerson_8 rfl ?_
  obtain ⟨h3, hM⟩ := gck_some hM
  exact x_zret C E h3 ⟨gs1 hM, rfl⟩ dX1_hasPerson_11
set_option maxRecDepth 100000 in
set_option maxHeartbeats 4000000 in
theorem c_X1_lengthByKind {l : Launch} {D : va_G} {ad : Nat → Nat} {cy : Nat → ClassId} {b : Nat} (hG : gInj (gGX D ad cy b)) {a0 : Int32} {a1 : Int32} {a2 : Int32} {σ : gMem} {r0 : Int32} (hM : m_X1_lengthByKind a0 a1 a2 σ = some r0) : gMi l yX1_lengthByKind (Cond.code yX1_lengthByKind cX1_lengthByKind 4 (some .int) :: gBig) { frames := 1, cells := 0, slots := 0, locals := 13 } (gGX D ad cy b) [.ref (ad 1), .int a0, .int a1, .int a2] σ r0 σ := by
  refine gIntro (own := RX1) hG (by decide +kernel) rfl rfl (Nat.le_of_ble_eq_true rfl) (lv := [(0, .ref (ad 1)), (1, .int a0), (2, .int a1), (3, .int a2)]) rfl (fun κ C E => ?_)
  unfold m_X1_lengthByKind at hM
  refine x_iln C 1 rfl dX1_lengthByKind_0 rfl ?_
  refine x_ic (v := 2) C (by decide) dX1_lengthByKind_1 rfl ?_
  refine x_ic_ne (tgt := 13) C dX1_lengthByKind_2 (by decide) rfl (fun hc => ?_) (fun hc => ?_)
  · replace hM := gif_neg hc hM
    refine x_iln C 1 rfl dX1_lengthByKind_13 rfl ?_
    refine x_ic (v := 3) C (by decide) dX1_lengthByKind_14 rfl ?_
    refine x_ic_ne (tgt := 24) C dX1_lengthByKind_15 (by decide) rfl (fun hc => ?_) (fun hc => ?_)
    · replace hM := gif_neg hc hM
      refine x_iln C 2 rfl dX1_lengthByKind_24 rfl ?_
      exact x_iret C E ⟨gs1 hM, rfl⟩ dX1_lengthByKind_25
    · replace hM := gif_pos hc hM
      refine x_iln C 2 rfl dX1_lengthByKind_18 rfl ?_
      refine x_iln C 3 rfl dX1_lengthByKind_19 rfl ?_
      refine x_iadd C dX1_lengthByKind_20 rfl ?_
      refine x_goto (tgt := 25) C dX1_lengthByKind_21 (by decide) ?_
      exact x_iret C E ⟨gs1 hM, rfl⟩ dX1_lengthByKind_25
  · replace hM := gif_pos hc hM
    refine x_ic (v := 0) C (by decide) dX1_lengthByKind_5 rfl ?_
    refine x_iln C 2 rfl dX1_lengthByKind_6 rfl ?_
    refine x_ic (v := 2) C (by decide) dX1_lengthByKind_7 rfl ?_
    refine x_isub C dX1_lengthByKind_8 rfl ?_
    refine x_mmax C (gBc km_X1_101) (gBc kst_J9_max_7cf53) (gBc kini_J9) (gBc kc_J9_max_7cf53) (by decide) (Nat.le_of_ble_eq_true rfl) dX1_lengthByKind_9 rfl ?_
    exact x_iret C E ⟨gs1 hM, rfl⟩ dX1_lengthByKind_12
set_option maxRecDepth 100000 in
set_option maxHeartbeats 4000000 in
theorem c_X1_lengthOf {l : Launch} {D : va_G} {ad : Nat → Nat} {cy : Nat → ClassId} {b : Nat} (hG : gInj (gGX D ad cy b)) {a0 : Int32} {σ : gMem} {r0 : Int32} (hM : m_X1_lengthOf a0 σ = some r0) : gMi l yX1_lengthOf (Cond.code yX1_lengthOf cX1_lengthOf 2 (some .int) :: gBig) { frames := 2, cells := 0, slots := 0, locals := 36 } (gGX D ad cy b) [.ref (ad 1), .int a0] σ r0 σ := by
  refine gIntro (own := RX1) hG (by decide +kernel) rfl rfl (Nat.le_of_ble_eq_true rfl) (lv := [(0, .ref (ad 1)), (1, .int a0)]) rfl (fun κ C E => ?_)
  unfold m_X1_lengthOf at hM
  refine x_aln C 0 rfl dX1_lengthOf_0 rfl ?_
  refine x_aln C 0 rfl dX1_lengthOf_1 rfl ?_
  refine gXg_1_kinds C kf_X1_33 dX1_lengthOf_2 rfl ?_
  refine x_iln C 1 rfl dX1_lengthOf_5 rfl ?_
  obtain ⟨h1, hM⟩ := gck_some hM
  refine gXa_7 C h1 dX1_lengthOf_6 rfl ?_
  refine x_aln C 0 rfl dX1_lengthOf_7 rfl ?_
  refine gXg_1_told C kf_X1_36 dX1_lengthOf_8 rfl ?_
  refine x_iln C 1 rfl dX1_lengthOf_11 rfl ?_
  obtain ⟨h2, hM⟩ := gck_some hM
  refine gXa_8 C h2 dX1_lengthOf_12 rfl ?_
  refine x_aln C 0 rfl dX1_lengthOf_13 rfl ?_
  refine gXg_1_yearsGone C kf_X1_63 dX1_lengthOf_14 rfl ?_
  obtain ⟨r4, h3, hM⟩ := gb1_some hM
  refine x_cvi (As := [.int (σ 7 a0.toNatClampNeg), .int (σ 8 a0.toNatClampNeg), .int (σ 1 16)]) (rest := []) C E.2.2.2.2.2 3 (c_X1_lengthByKind hG h3) (gBv km_X1_113 kin_X1_lengthByKind ksel_X1_lengthByKind kini_X1 kc_X1_lengthByKind) rfl rfl rfl ⟨rfl, by decide +kernel, by decide +kernel, by decide +kernel⟩ ⟨Nat.le_of_ble_eq_true rfl, Nat.le_of_ble_eq_true rfl⟩ (by show 1 < 213; decide) rfl rfl rfl rfl (Nat.le_of_ble_eq_true rfl) dX1_lengthOf_17 rfl ?_
  exact x_iret C E ⟨gs1 hM, rfl⟩ dX1_lengthOf_20
set_option maxRecDepth 100000 in
set_option maxHeartbeats 4000000 in
theorem c_X6_of {l : Launch} {D : va_G} {ad : Nat → Nat} {cy : Nat → ClassId} {b : Nat} (hG : gInj (gGX D ad cy b)) {a0 : Int32} {a1 : Int32} {σ : gMem} {r0 : Int32} (hM : m_X6_of a0 a1 σ = some r0) : gMi l yX6_of (Cond.code yX6_of cX6_of 3 (some .int) :: gBig) { frames := 3, cells := 0, slots := 0, locals := 57 } (gGX D ad cy b) [.ref (ad 0), .int a0, .int a1] σ r0 σ := by
  refine gIntro (own := RX6) hG (by decide +kernel) rfl rfl (Nat.le_of_ble_eq_true rfl) (lv := [(0, .ref (ad 0)), (1, .int a0), (2, .int a1)]) rfl (fun κ C E => ?_)
  unfold m_X6_of at hM
  refine x_aln C 0 rfl dX6_of_0 rfl ?_
  refine gXg_0_now C kf_X6_10 dX6_of_1 rfl ?_
  refine x_iln C 1 rfl dX6_of_4 rfl ?_
  obtain ⟨r2, h1, hM⟩ := gb1_some hM
  refine x_cvi (As := [.int a0]) (rest := []) C E.2.2.2.2.2 1 (c_X1_hasPerson hG h1) (gBv km_X6_120 kin_X1_hasPerson ksel_X1_hasPerson kini_X1 kc_X1_hasPerson) rfl rfl rfl ⟨rfl, by decide +kernel, by decide +kernel, by decide +kernel⟩ ⟨Nat.le_of_ble_eq_true rfl, Nat.le_of_ble_eq_true rfl⟩ (by show 1 < 213; decide) rfl rfl rfl rfl (Nat.le_of_ble_eq_true rfl) dX6_of_5 rfl ?_
  refine x_if_ne (tgt := 13) C dX6_of_8 (by decide) rfl (fun hc => ?_) (fun hc => ?_)
  · replace hM := gif_neg hc hM
    refine x_iln C 2 rfl dX6_of_13 rfl ?_
    by_cases h4 : a1 = 0
    · have hM := gif_pos h4 hM
      refine x_swin (tgt := 44) C dX6_of_14 (by rw [h4]; decide) (by rw [h4]; decide) (by rw [h4]; rfl) (by decide) ?_
      refine x_aln C 0 rfl dX6_of_44 rfl ?_
      refine gXg_0_now C kf_X6_10 dX6_of_45 rfl ?_
      refine gXg_1_kinds C kf_X6_123 dX6_of_48 rfl ?_
      refine x_iln C 1 rfl dX6_of_51 rfl ?_
      obtain ⟨h3, hM⟩ := gck_some hM
      refine gXa_7 C h3 dX6_of_52 rfl ?_
      exact x_iret C E ⟨gs1 hM, rfl⟩ dX6_of_53
    replace hM := gif_neg h4 hM
    by_cases h6 : a1 = 1
    · have hM := gif_pos h6 hM
      refine x_swin (tgt := 54) C dX6_of_14 (by rw [h6]; decide) (by rw [h6]; decide) (by rw [h6]; rfl) (by decide) ?_
      refine x_aln C 0 rfl dX6_of_54 rfl ?_
      refine gXg_0_now C kf_X6_10 dX6_of_55 rfl ?_
      refine gXg_1_told C kf_X6_126 dX6_of_58 rfl ?_
      refine x_iln C 1 rfl dX6_of_61 rfl ?_
      obtain ⟨h5, hM⟩ := gck_some hM
      refine gXa_8 C h5 dX6_of_62 rfl ?_
      exact x_iret C E ⟨gs1 hM, rfl⟩ dX6_of_63
    replace hM := gif_neg h6 hM
    by_cases h9 : a1 = 2
    · have hM := gif_pos h9 hM
      refine x_swin (tgt := 64) C dX6_of_14 (by rw [h9]; decide) (by rw [h9]; decide) (by rw [h9]; rfl) (by decide) ?_
      refine x_aln C 0 rfl dX6_of_64 rfl ?_
      refine gXg_0_now C kf_X6_10 dX6_of_65 rfl ?_
      refine x_iln C 1 rfl dX6_of_68 rfl ?_
      obtain ⟨r8, h7, hM⟩ := gb1_some hM
      refine x_cvi (As := [.int a0]) (rest := []) C E.2.2.2.2.2 1 (c_X1_lengthOf hG h7) (gBv km_X6_129 kin_X1_lengthOf ksel_X1_lengthOf kini_X1 kc_X1_lengthOf) rfl rfl rfl ⟨rfl, by decide +kernel, by decide +kernel, by decide +kernel⟩ ⟨Nat.le_of_ble_eq_true rfl, Nat.le_of_ble_eq_true rfl⟩ (by show 1 < 213; decide) rfl rfl rfl rfl (Nat.le_of_ble_eq_true rfl) dX6_of_69 rfl ?_
      exact x_iret C E ⟨gs1 hM, rfl⟩ dX6_of_72
    replace hM := gif_neg h9 hM
    by_cases h11 : a1 = 3
    · have hM := gif_pos h11 hM
      refine x_swin (tgt := 73) C dX6_of_14 (by rw [h11]; decide) (by rw [h11]; decide) (by rw [h11]; rfl) (by decide) ?_
      refine x_aln C 0 rfl dX6_of_73 rfl ?_
      refine gXg_0_now C kf_X6_10 dX6_of_74 rfl ?_
      refine gXg_1_homes C kf_X6_132 dX6_of_77 rfl ?_
      refine x_iln C 1 rfl dX6_of_80 rfl ?_
      obtain ⟨h10, hM⟩ := gck_some hM
      refine gXa_9 C h10 dX6_of_81 rfl ?_
      exact x_iret C E ⟨gs1 hM, rfl⟩ dX6_of_82
    replace hM := gif_neg h11 hM
    refine x_swout (tgt := 83) C dX6_of_14 (by have := gnI (k := 0) (n := 0) h4 (by decide); have := gnI (k := 1) (n := 1) h6 (by decide); have := gnI (k := 2) (n := 2) h9 (by decide); have := gnI (k := 3) (n := 3) h11 (by decide); omega) (by decide) ?_
    refine x_ic (v := (-1)) C (by decide) dX6_of_83 rfl ?_
    exact x_iret C E ⟨gs1 hM, rfl⟩ dX6_of_84
  · replace hM := gif_pos hc hM
    refine x_ic (v := (-1)) C (by decide) dX6_of_11 rfl ?_
    exact x_iret C E ⟨gs1 hM, rfl⟩ dX6_of_12
set_option maxRecDepth 100000 in
set_option maxHeartbeats 4000000 in
theorem c_X6_byteOf {l : Launch} {D : va_G} {ad : Nat → Nat} {cy : Nat → ClassId} {b : Nat} (hG : gInj (gGX D ad cy b)) {a0 : Int64} {a1 : Int32} {σ : gMem} {r0 : Int32} (hM : m_X6_byteOf a0 a1 σ = some r0) : gMi l yX6_byteOf (Cond.code yX6_byteOf cX6_byteOf 3 (some .int) :: gBig) { frames := 0, cells := 0, slots := 0, locals := 0 } (gGX D ad cy b) [.long a0, .int a1] σ r0 σ := by
  refine gIntro (own := RX6) hG (by decide +kernel) rfl rfl (Nat.le_of_ble_eq_true rfl) (lv := [(0, .long a0), (2, .int a1)]) rfl (fun κ C E => ?_)
  unfold m_X6_byteOf at hM
  refine x_lln C 0 rfl dX6_byteOf_0 rfl ?_
  refine x_bi (v := 8) C (by decide) dX6_byteOf_1 rfl ?_
  refine x_iln C 1 rfl dX6_byteOf_3 rfl ?_
  refine x_imul C dX6_byteOf_4 rfl ?_
  refine x_lshr C dX6_byteOf_5 rfl ?_
  refine x_ldc2 (v := 255) C (gBc kk_X6_285) dX6_byteOf_6 rfl ?_
  refine x_land C dX6_byteOf_9 rfl ?_
  refine x_l2i C dX6_byteOf_10 rfl ?_
  exact x_iret C E ⟨gs1 hM, rfl⟩ dX6_byteOf_11
set_option maxRecDepth 100000 in
set_option maxHeartbeats 4000000 in
theorem c_X3_append {l : Launch} {D : va_G} {ad : Nat → Nat} {cy : Nat → ClassId} {b : Nat} (hG : gInj (gGX D ad cy b)) {a0 : Int32} {σ : gMem} {σ0 : gMem} (hM : m_X3_append a0 σ = some σ0) : gMv l yX3_append (Cond.code yX3_append cX3_append 2 none :: gBig) { frames := 0, cells := 0, slots := 0, locals := 0 } (gGX D ad cy b) [.ref (ad 49), .int a0] σ σ0 := by
  refine gIntro (own := RX3) hG (by decide +kernel) rfl rfl (Nat.le_of_ble_eq_true rfl) (lv := [(0, .ref (ad 49)), (1, .int a0)]) rfl (fun κ C E => ?_)
  unfold m_X3_append at hM
  refine x_aln C 0 rfl dX3_append_0 rfl ?_
  refine gXg_49_length C kf_X3_24 dX3_append_1 rfl ?_
  refine x_bi (v := 80) C (by decide) dX3_append_4 rfl ?_
  refine x_ic_ge (tgt := 29) C dX3_append_6 (by decide) rfl (fun hc => ?_) (fun hc => ?_)
  · replace hM := gif_pos hc hM
    exact x_vret C E (gs1 hM) dX3_append_29
  · replace hM := gif_neg hc hM
    refine x_aln C 0 rfl dX3_append_9 rfl ?_
    refine gXg_49_signs C kf_X3_9 dX3_append_10 rfl ?_
    refine x_aln C 0 rfl dX3_append_13 rfl ?_
    refine gXg_49_length C kf_X3_24 dX3_append_14 rfl ?_
    refine x_iln C 1 rfl dX3_append_17 rfl ?_
    obtain ⟨h1, hM⟩ := gck_some hM
    obtain ⟨s2, ev, hM⟩ := gnm_ex hM
    refine gXs_50 C ev h1 dX3_append_18 rfl ?_
    refine x_aln C 0 rfl dX3_append_19 rfl ?_
    refine x_dup C rfl dX3_append_20 rfl ?_
    refine gXg_49_length C kf_X3_24 dX3_append_21 rfl ?_
    refine x_ic (v := 1) C (by decide) dX3_append_24 rfl ?_
    refine x_iadd C dX3_append_25 rfl ?_
    obtain ⟨s3, ev, hM⟩ := gnm_ex hM
    refine gXp_49_length C ev kf_X3_24 dX3_append_26 rfl ?_
    exact x_vret C E (gs1 hM) dX3_append_29
set_option maxRecDepth 100000 in
set_option maxHeartbeats 4000000 in
theorem c_X6_type {l : Launch} {D : va_G} {ad : Nat → Nat} {cy : Nat → ClassId} {b : Nat} (hG : gInj (gGX D ad cy b)) {a0 : Int64} {a1 : Int32} {σ : gMem} {r0 : Int32} {σ0 : gMem} (hM : m_X6_type a0 a1 σ = some (r0, σ0)) : gMi l yX6_type (Cond.code yX6_type cX6_type 5 (some .int) :: gBig) { frames := 1, cells := 0, slots := 0, locals := 22 } (gGX D ad cy b) [.ref (ad 0), .long a0, .int a1] σ r0 σ0 := by
  refine gIntro (own := RX6) hG (by decide +kernel) rfl rfl (Nat.le_of_ble_eq_true rfl) (lv := [(0, .ref (ad 0)), (1, .long a0), (3, .int a1)]) rfl (fun κ C E => ?_)
  unfold m_X6_type at hM
  refine x_iln C 2 rfl dX6_type_0 rfl ?_
  refine x_ic (v := 1) C (by decide) dX6_type_1 rfl ?_
  refine x_bi (v := 8) C (by decide) dX6_type_2 rfl ?_
  obtain ⟨r2, h1, hM⟩ := gb1_some hM
  refine x_csi (As := [.int a1, .int 1, .int 8]) (rest := []) C E.2.2.2.2.2 3 (c_X6_within hG h1) (gBs km_X6_54 kst_X6_within kini_X6 kc_X6_within) rfl rfl rfl ⟨by decide +kernel, by decide +kernel, by decide +kernel⟩ ⟨Nat.le_of_ble_eq_true rfl, Nat.le_of_ble_eq_true rfl⟩ rfl rfl (Nat.le_of_ble_eq_true rfl) dX6_type_4 rfl ?_
  refine x_if_ne (tgt := 12) C dX6_type_7 (by decide) rfl (fun hc => ?_) (fun hc => ?_)
  · replace hM := gif_neg hc hM
    refine x_ic (v := 0) C (by decide) dX6_type_12 rfl ?_
    refine x_ist (lv' := [(4, .int 0), (0, .ref (ad 0)), (1, .long a0), (3, .int a1)]) C rfl (by decide) rfl dX6_type_13 rfl ?_
    have L15 : ∀ (n : Nat) (x4_3 : Int32) (t4 : Nat), m_X6_type_15 a0 a1 σ n x4_3 = some (t4) → (t4 = 0 → wx κ (gGX D ad cy b) (gA (gGX D ad cy b)) 5 σ 37 [] []) → (t4 = 1 → wx κ (gGX D ad cy b) (gA (gGX D ad cy b)) 5 σ 45 [(0, .ref (ad 0)), (1, .long a0), (3, .int a1)] []) → wx κ (gGX D ad cy b) (gA (gGX D ad cy b)) 5 σ 15 [(0, .ref (ad 0)), (1, .long a0), (3, .int a1), (4, .int x4_3)] [] := by
      clear hM
      intro n
      induction n with
      | zero => intro _ _ hM; cases hM
      | succ n ih =>
        intro x4_3 t4 hM kx0 kx1
        replace hM : b_X6_type_15 a0 a1 σ (m_X6_type_15 a0 a1 σ n) x4_3 = some (t4) := hM
        unfold b_X6_type_15 at hM
        refine x_il C 3 rfl dX6_type_15 rfl ?_
        refine x_iln C 2 rfl dX6_type_17 rfl ?_
        refine x_ic_ge (tgt := 45) C dX6_type_18 (by decide) rfl (fun hc => ?_) (fun hc => ?_)
        · replace hM := gif_pos hc hM
          cases hM
          exact x_sub [0, 1, 2] rfl (kx1 rfl)
        · replace hM := gif_neg hc hM
          refine x_lln C 1 rfl dX6_type_21 rfl ?_
          refine x_il C 3 rfl dX6_type_22 rfl ?_
          obtain ⟨r6, h5, hM⟩ := gb1_some hM
          refine x_csi (As := [.long a0, .int x4_3]) (rest := []) C E.2.2.2.2.2 2 (c_X6_byteOf hG h5) (gBs km_X6_135 kst_X6_byteOf kini_X6 kc_X6_byteOf) rfl rfl rfl ⟨by decide +kernel, by decide +kernel, by decide +kernel⟩ ⟨Nat.le_of_ble_eq_true rfl, Nat.le_of_ble_eq_true rfl⟩ rfl rfl (Nat.le_of_ble_eq_true rfl) dX6_type_24 rfl ?_
          refine x_bi (v := 32) C (by decide) dX6_type_27 rfl ?_
          refine x_bi (v := 126) C (by decide) dX6_type_29 rfl ?_
          obtain ⟨r8, h7, hM⟩ := gb1_some hM
          refine x_csi (As := [.int r6, .int 32, .int 126]) (rest := []) C E.2.2.2.2.2 3 (c_X6_within hG h7) (gBs km_X6_54 kst_X6_within kini_X6 kc_X6_within) rfl rfl rfl ⟨by decide +kernel, by decide +kernel, by decide +kernel⟩ ⟨Nat.le_of_ble_eq_true rfl, Nat.le_of_ble_eq_true rfl⟩ rfl rfl (Nat.le_of_ble_eq_true rfl) dX6_type_31 rfl ?_
          refine x_if_ne (tgt := 39) C dX6_type_34 (by decide) rfl (fun hc => ?_) (fun hc => ?_)
          · replace hM := gif_neg hc hM
            obtain ⟨x4_9, ev, hM⟩ := gnm_ex hM
            refine x_iinc (j := 3) (w := 1) (lv' := [(4, .int x4_9), (0, .ref (ad 0)), (1, .long a0), (3, .int a1)]) C rfl ev (by decide) (by decide) rfl dX6_type_39 rfl ?_
            refine x_goto (tgt := 15) C dX6_type_42 (by decide) ?_
            exact x_sub [1, 2, 3, 0] rfl (ih x4_9 _ hM kx0 kx1)
          · replace hM := gif_pos hc hM
            cases hM
            exact x_sub [] rfl (kx0 rfl)
    obtain ⟨t4, hL10, hM⟩ := gb1_some hM
    refine x_sub [1, 2, 3, 0] rfl (L15 gFU 0 _ hL10 (fun ht => ?_) (fun ht => ?_))
    · clear L15
      replace hM := gif_pos ht hM
      refine x_ic (v := (-1)) C (by decide) dX6_type_37 rfl ?_
      exact x_iret C E (gs2 hM) dX6_type_38
    · clear L15
      replace hM := gif_neg (by omega : ¬ t4 = 0) hM
      refine x_aln C 0 rfl dX6_type_45 rfl ?_
      refine gXg_0_tape C kf_X6_22 dX6_type_46 rfl ?_
      refine gXg_49_length C kf_X6_139 dX6_type_49 rfl ?_
      refine x_bi (v := 80) C (by decide) dX6_type_52 rfl ?_
      refine x_iln C 2 rfl dX6_type_54 rfl ?_
      refine x_isub C dX6_type_55 rfl ?_
      refine x_ic_le (tgt := 62) C dX6_type_56 (by decide) rfl (fun hc => ?_) (fun hc => ?_)
      · replace hM := gif_pos hc hM
        refine x_iln C 2 rfl dX6_type_62 rfl ?_
        refine x_ic (v := 1) C (by decide) dX6_type_63 rfl ?_
        refine x_isub C dX6_type_64 rfl ?_
        obtain ⟨x4_11, ev, hM⟩ := gnm_ex hM
        refine x_ist (lv' := [(4, .int x4_11), (0, .ref (ad 0)), (1, .long a0), (3, .int a1)]) C ev (by decide) rfl dX6_type_65 rfl ?_
        have L67 : ∀ (n : Nat) (x4_12 : Int32) (s13 : gMem) (s14 : gMem), m_X6_type_67 a0 n x4_12 s13 = some (s14) → (wx κ (gGX D ad cy b) (gA (gGX D ad cy b)) 5 s14 91 [(0, .ref (ad 0))] []) → wx κ (gGX D ad cy b) (gA (gGX D ad cy b)) 5 s13 67 [(0, .ref (ad 0)), (1, .long a0), (4, .int x4_12)] [] := by
          clear hM
          intro n
          induction n with
          | zero => intro _ _ _ hM; cases hM
          | succ n ih =>
            intro x4_12 s13 s14 hM kx0
            replace hM : b_X6_type_67 a0 (m_X6_type_67 a0 n) x4_12 s13 = some (s14) := hM
            unfold b_X6_type_67 at hM
            refine x_il C 2 rfl dX6_type_67 rfl ?_
            refine x_if_lt (tgt := 91) C dX6_type_69 (by decide) rfl (fun hc => ?_) (fun hc => ?_)
            · replace hM := gif_pos hc hM
              cases hM
              exact x_sub [0] rfl (kx0)
            · replace hM := gif_neg hc hM
              refine x_aln C 0 rfl dX6_type_72 rfl ?_
              refine gXg_0_tape C kf_X6_22 dX6_type_73 rfl ?_
              refine x_lln C 1 rfl dX6_type_76 rfl ?_
              refine x_il C 2 rfl dX6_type_77 rfl ?_
              obtain ⟨r16, h15, hM⟩ := gb1_some hM
              refine x_csi (As := [.long a0, .int x4_12]) (rest := [.ref (ad 49)]) C E.2.2.2.2.2 2 (c_X6_byteOf hG h15) (gBs km_X6_135 kst_X6_byteOf kini_X6 kc_X6_byteOf) rfl rfl rfl ⟨by decide +kernel, by decide +kernel, by decide +kernel⟩ ⟨Nat.le_of_ble_eq_true rfl, Nat.le_of_ble_eq_true rfl⟩ rfl rfl (Nat.le_of_ble_eq_true rfl) dX6_type_79 rfl ?_
              obtain ⟨s18, h17, hM⟩ := gb1_some hM
              refine x_cvv (As := [.int r16]) (rest := []) C E.2.2.2.2.2 1 (c_X3_append hG h17) (gBv km_X6_142 kin_X3_append ksel_X3_append kini_X3 kc_X3_append) rfl rfl rfl ⟨rfl, by decide +kernel, by decide +kernel, by decide +kernel⟩ ⟨Nat.le_of_ble_eq_true rfl, Nat.le_of_ble_eq_true rfl⟩ (by show 49 < 213; decide) rfl rfl rfl rfl (Nat.le_of_ble_eq_true rfl) dX6_type_82 rfl ?_
              obtain ⟨x4_19, ev, hM⟩ := gnm_ex hM
              refine x_iinc (j := 2) (w := (-1)) (lv' := [(4, .int x4_19), (0, .ref (ad 0)), (1, .long a0)]) C rfl ev (by decide) (by decide) rfl dX6_type_85 rfl ?_
              refine x_goto (tgt := 67) C dX6_type_88 (by decide) ?_
              exact x_sub [1, 2, 0] rfl (ih x4_19 s18 _ hM kx0)
        obtain ⟨s14, hL20, hM⟩ := gb1_some hM
        refine x_sub [1, 2, 0] rfl (L67 gFU x4_11 σ _ hL20 ?_)
        clear L67
        refine x_aln C 0 rfl dX6_type_91 rfl ?_
        refine gXg_0_tape C kf_X6_22 dX6_type_92 rfl ?_
        refine gXg_49_length C kf_X6_139 dX6_type_95 rfl ?_
        exact x_iret C E (gs2 hM) dX6_type_98
      · replace hM := gif_neg hc hM
        refine x_bi (v := (-3)) C (by decide) dX6_type_59 rfl ?_
        exact x_iret C E (gs2 hM) dX6_type_61
  · replace hM := gif_pos hc hM
    refine x_ic (v := (-1)) C (by decide) dX6_type_10 rfl ?_
    exact x_iret C E (gs2 hM) dX6_type_11
set_option maxRecDepth 100000 in
set_option maxHeartbeats 4000000 in
theorem c_X3_begin {l : Launch} {D : va_G} {ad : Nat → Nat} {cy : Nat → ClassId} {b : Nat} (hG : gInj (gGX D ad cy b))  {σ : gMem} {σ0 : gMem} (hM : m_X3_begin  σ = some σ0) : gMv l yX3_begin (Cond.code yX3_begin cX3_begin 1 none :: gBig) { frames := 0, cells := 0, slots := 0, locals := 0 } (gGX D ad cy b) [.ref (ad 49)] σ σ0 := by
  refine gIntro (own := RX3) hG (by decide +kernel) rfl rfl (Nat.le_of_ble_eq_true rfl) (lv := [(0, .ref (ad 49))]) rfl (fun κ C E => ?_)
  unfold m_X3_begin at hM
  refine x_aln C 0 rfl dX3_begin_0 rfl ?_
  refine x_ic (v := 0) C (by decide) dX3_begin_1 rfl ?_
  obtain ⟨s1, ev, hM⟩ := gnm_ex hM
  refine gXp_49_next C ev kf_X3_49 dX3_begin_2 rfl ?_
  refine x_aln C 0 rfl dX3_begin_5 rfl ?_
  refine x_ic (v := 0) C (by decide) dX3_begin_6 rfl ?_
  obtain ⟨s2, ev, hM⟩ := gnm_ex hM
  refine gXp_49_rows C ev kf_X3_31 dX3_begin_7 rfl ?_
  refine x_aln C 0 rfl dX3_begin_10 rfl ?_
  refine x_ic (v := 0) C (by decide) dX3_begin_11 rfl ?_
  obtain ⟨s3, ev, hM⟩ := gnm_ex hM
  refine gXp_49_postsTold C ev kf_X3_52 dX3_begin_12 rfl ?_
  refine x_aln C 0 rfl dX3_begin_15 rfl ?_
  refine x_ic (v := (-1)) C (by decide) dX3_begin_16 rfl ?_
  obtain ⟨s4, ev, hM⟩ := gnm_ex hM
  refine gXp_49_fault C ev kf_X3_55 dX3_begin_17 rfl ?_
  exact x_vret C E (gs1 hM) dX3_begin_20
set_option maxRecDepth 100000 in
set_option maxHeartbeats 4000000 in
theorem c_X3_peek {l : Launch} {D : va_G} {ad : Nat → Nat} {cy : Nat → ClassId} {b : Nat} (hG : gInj (gGX D ad cy b))  {σ : gMem} {r0 : Int32} {σ0 : gMem} (hM : m_X3_peek  σ = some (r0, σ0)) : gMi l yX3_peek (Cond.code yX3_peek cX3_peek 1 (some .int) :: gBig) { frames := 0, cells := 0, slots := 0, locals := 0 } (gGX D ad cy b) [.ref (ad 49)] σ r0 σ0 := by
  refine gIntro (own := RX3) hG (by decide +kernel) rfl rfl (Nat.le_of_ble_eq_true rfl) (lv := [(0, .ref (ad 49))]) rfl (fun κ C E => ?_)
  unfold m_X3_peek at hM
  have L0 : ∀ (n : Nat) (s1 : gMem) (s2 : gMem), m_X3_peek_0 n s1 = some (s2) → (wx κ (gGX D ad cy b) (gA (gGX D ad cy b)) 1 s2 38 [(0, .ref (ad 49))] []) → wx κ (gGX D ad cy b) (gA (gGX D ad cy b)) 1 s1 0 [(0, .ref (ad 49))] [] := by
    clear hM
    intro n
    induction n with
    | zero => intro _ _ hM; cases hM
    | succ n ih =>
      intro s1 s2 hM kx0
      replace hM : b_X3_peek_0 (m_X3_peek_0 n) s1 = some (s2) := hM
      unfold b_X3_peek_0 at hM
      refine x_aln C 0 rfl dX3_peek_0 rfl ?_
      refine gXg_49_next C kf_X3_49 dX3_peek_1 rfl ?_
      refine x_aln C 0 rfl dX3_peek_4 rfl ?_
      refine gXg_49_length C kf_X3_24 dX3_peek_5 rfl ?_
      refine x_ic_ge (tgt := 38) C dX3_peek_8 (by decide) rfl (fun hc => ?_) (fun hc => ?_)
      · replace hM := gif_pos hc hM
        cases hM
        exact x_sub [0] rfl (kx0)
      · replace hM := gif_neg hc hM
        refine x_aln C 0 rfl dX3_peek_11 rfl ?_
        refine gXg_49_signs C kf_X3_9 dX3_peek_12 rfl ?_
        refine x_aln C 0 rfl dX3_peek_15 rfl ?_
        refine gXg_49_next C kf_X3_49 dX3_peek_16 rfl ?_
        obtain ⟨h3, hM⟩ := gck_some hM
        refine gXa_50 C h3 dX3_peek_19 rfl ?_
        refine x_bi (v := 32) C (by decide) dX3_peek_20 rfl ?_
        refine x_ic_ne (tgt := 38) C dX3_peek_22 (by decide) rfl (fun hc => ?_) (fun hc => ?_)
        · replace hM := gif_neg hc hM
          cases hM
          exact x_sub [0] rfl (kx0)
        · replace hM := gif_pos hc hM
          refine x_aln C 0 rfl dX3_peek_25 rfl ?_
          refine x_dup C rfl dX3_peek_26 rfl ?_
          refine gXg_49_next C kf_X3_49 dX3_peek_27 rfl ?_
          refine x_ic (v := 1) C (by decide) dX3_peek_30 rfl ?_
          refine x_iadd C dX3_peek_31 rfl ?_
          obtain ⟨s4, ev, hM⟩ := gnm_ex hM
          refine gXp_49_next C ev kf_X3_49 dX3_peek_32 rfl ?_
          refine x_goto (tgt := 0) C dX3_peek_35 (by decide) ?_
          exact x_sub [0] rfl (ih s4 _ hM kx0)
  obtain ⟨s2, hL5, hM⟩ := gb1_some hM
  refine x_sub [0] rfl (L0 gFU σ _ hL5 ?_)
  clear L0
  refine x_aln C 0 rfl dX3_peek_38 rfl ?_
  refine gXg_49_next C kf_X3_49 dX3_peek_39 rfl ?_
  refine x_aln C 0 rfl dX3_peek_42 rfl ?_
  refine gXg_49_length C kf_X3_24 dX3_peek_43 rfl ?_
  refine x_ic_ge (tgt := 61) C dX3_peek_46 (by decide) rfl (fun hc => ?_) (fun hc => ?_)
  · replace hM := gif_pos hc hM
    refine x_ic (v := (-1)) C (by decide) dX3_peek_61 rfl ?_
    exact x_iret C E (gs2 hM) dX3_peek_62
  · replace hM := gif_neg hc hM
    refine x_aln C 0 rfl dX3_peek_49 rfl ?_
    refine gXg_49_signs C kf_X3_9 dX3_peek_50 rfl ?_
    refine x_aln C 0 rfl dX3_peek_53 rfl ?_
    refine gXg_49_next C kf_X3_49 dX3_peek_54 rfl ?_
    obtain ⟨h6, hM⟩ := gck_some hM
    refine gXa_50 C h6 dX3_peek_57 rfl ?_
    refine x_goto (tgt := 62) C dX3_peek_58 (by decide) ?_
    exact x_iret C E (gs2 hM) dX3_peek_62
set_option maxRecDepth 100000 in
set_option maxHeartbeats 4000000 in
theorem c_X3_faultAt {l : Launch} {D : va_G} {ad : Nat → Nat} {cy : Nat → ClassId} {b : Nat} (hG : gInj (gGX D ad cy b)) {a0 : Int32} {σ : gMem} {σ0 : gMem} (hM : m_X3_faultAt a0 σ = some σ0) : gMv l yX3_faultAt (Cond.code yX3_faultAt cX3_faultAt 2 none :: gBig) { frames := 0, cells := 0, slots := 0, locals := 0 } (gGX D ad cy b) [.ref (ad 49), .int a0] σ σ0 := by
  refine gIntro (own := RX3) hG (by decide +kernel) rfl rfl (Nat.le_of_ble_eq_true rfl) (lv := [(0, .ref (ad 49)), (1, .int a0)]) rfl (fun κ C E => ?_)
  unfold m_X3_faultAt at hM
  refine x_aln C 0 rfl dX3_faultAt_0 rfl ?_
  refine gXg_49_fault C kf_X3_55 dX3_faultAt_1 rfl ?_
  refine x_if_ge (tgt := 12) C dX3_faultAt_4 (by decide) rfl (fun hc => ?_) (fun hc => ?_)
  · replace hM := gif_pos hc hM
    exact x_vret C E (gs1 hM) dX3_faultAt_12
  · replace hM := gif_neg hc hM
    refine x_aln C 0 rfl dX3_faultAt_7 rfl ?_
    refine x_iln C 1 rfl dX3_faultAt_8 rfl ?_
    obtain ⟨s1, ev, hM⟩ := gnm_ex hM
    refine gXp_49_fault C ev kf_X3_55 dX3_faultAt_9 rfl ?_
    exact x_vret C E (gs1 hM) dX3_faultAt_12
set_option maxRecDepth 100000 in
set_option maxHeartbeats 4000000 in
theorem c_X3_readNumber {l : Launch} {D : va_G} {ad : Nat → Nat} {cy : Nat → ClassId} {b : Nat} (hG : gInj (gGX D ad cy b)) {a0 : Int32} {a1 : Int32} {σ : gMem} {r0 : Int32} {σ0 : gMem} (hM : m_X3_readNumber a0 a1 σ = some (r0, σ0)) : gMi l yX3_readNumber (Cond.code yX3_readNumber cX3_readNumber 5 (some .int) :: gBig) { frames := 1, cells := 0, slots := 0, locals := 22 } (gGX D ad cy b) [.ref (ad 49), .int a0, .int a1] σ r0 σ0 := by
  refine gIntro (own := RX3) hG (by decide +kernel) rfl rfl (Nat.le_of_ble_eq_true rfl) (lv := [(0, .ref (ad 49)), (1, .int a0), (2, .int a1)]) rfl (fun κ C E => ?_)
  unfold m_X3_readNumber at hM
  refine x_aln C 0 rfl dX3_readNumber_0 rfl ?_
  obtain ⟨r3, s2, h1, hM⟩ := gb2_some hM
  refine x_cvi (As := []) (rest := []) C E.2.2.2.2.2 0 (c_X3_peek hG h1) (gBv km_X3_61 kin_X3_peek ksel_X3_peek kini_X3 kc_X3_peek) rfl rfl rfl ⟨rfl, by decide +kernel, by decide +kernel, by decide +kernel⟩ ⟨Nat.le_of_ble_eq_true rfl, Nat.le_of_ble_eq_true rfl⟩ (by show 49 < 213; decide) rfl rfl rfl rfl (Nat.le_of_ble_eq_true rfl) dX3_readNumber_1 rfl ?_
  refine x_bi (v := 48) C (by decide) dX3_readNumber_4 rfl ?_
  refine x_bi (v := 57) C (by decide) dX3_readNumber_6 rfl ?_
  obtain ⟨r5, h4, hM⟩ := gb1_some hM
  refine x_csni (As := [.int r3, .int 48, .int 57]) (rest := []) C E.2.2.2.2.2 3 (c_X6_within hG h4) (gBn kc_X6_within) rfl rfl rfl (by decide +kernel) (gBc kini_X6) (gBc kst_X6_within) ⟨by decide +kernel, by decide +kernel, by decide +kernel⟩ ⟨Nat.le_of_ble_eq_true rfl, Nat.le_of_ble_eq_true rfl⟩ rfl rfl (Nat.le_of_ble_eq_true rfl) dX3_readNumber_8 rfl ?_
  refine x_if_ne (tgt := 24) C dX3_readNumber_11 (by decide) rfl (fun hc => ?_) (fun hc => ?_)
  · replace hM := gif_neg hc hM
    refine x_aln C 0 rfl dX3_readNumber_24 rfl ?_
    refine gXg_49_next C kf_X3_49 dX3_readNumber_25 rfl ?_
    obtain ⟨x3_6, ev, hM⟩ := gnm_ex hM
    refine x_istn (lv' := [(3, .int x3_6), (0, .ref (ad 49)), (1, .int a0), (2, .int a1)]) C rfl ev (by decide) rfl dX3_readNumber_28 rfl ?_
    refine x_ic (v := 0) C (by decide) dX3_readNumber_29 rfl ?_
    refine x_ist (lv' := [(4, .int 0), (3, .int x3_6), (0, .ref (ad 49)), (1, .int a0), (2, .int a1)]) C rfl (by decide) rfl dX3_readNumber_30 rfl ?_
    have L32 : ∀ (n : Nat) (x4_7 : Int32) (s8 : gMem) (x4_9 : Int32) (s10 : gMem), m_X3_readNumber_32 n x4_7 s8 = some (x4_9, s10) → (wx κ (gGX D ad cy b) (gA (gGX D ad cy b)) 5 s10 100 [(0, .ref (ad 49)), (1, .int a0), (2, .int a1), (3, .int x3_6), (4, .int x4_9)] []) → wx κ (gGX D ad cy b) (gA (gGX D ad cy b)) 5 s8 32 [(0, .ref (ad 49)), (1, .int a0), (2, .int a1), (3, .int x3_6), (4, .int x4_7)] [] := by
      clear hM
      intro n
      induction n with
      | zero => intro _ _ _ _ hM; cases hM
      | succ n ih =>
        intro x4_7 s8 x4_9 s10 hM kx0
        replace hM : b_X3_readNumber_32 (m_X3_readNumber_32 n) x4_7 s8 = some (x4_9, s10) := hM
        unfold b_X3_readNumber_32 at hM
        refine x_aln C 0 rfl dX3_readNumber_32 rfl ?_
        refine gXg_49_next C kf_X3_49 dX3_readNumber_33 rfl ?_
        refine x_aln C 0 rfl dX3_readNumber_36 rfl ?_
        refine gXg_49_length C kf_X3_24 dX3_readNumber_37 rfl ?_
        refine x_ic_ge (tgt := 100) C dX3_readNumber_40 (by decide) rfl (fun hc => ?_) (fun hc => ?_)
        · replace hM := gif_pos hc hM
          cases hM
          exact x_sub [0, 1, 2, 3, 4] rfl (kx0)
        · replace hM := gif_neg hc hM
          refine x_aln C 0 rfl dX3_readNumber_43 rfl ?_
          refine gXg_49_signs C kf_X3_9 dX3_readNumber_44 rfl ?_
          refine x_aln C 0 rfl dX3_readNumber_47 rfl ?_
          refine gXg_49_next C kf_X3_49 dX3_readNumber_48 rfl ?_
          obtain ⟨h11, hM⟩ := gck_some hM
          refine gXa_50 C h11 dX3_readNumber_51 rfl ?_
          refine x_bi (v := 48) C (by decide) dX3_readNumber_52 rfl ?_
          refine x_bi (v := 57) C (by decide) dX3_readNumber_54 rfl ?_
          obtain ⟨r13, h12, hM⟩ := gb1_some hM
          refine x_csni (As := [.int (s8 50 (s8 49 2).toNatClampNeg), .int 48, .int 57]) (rest := []) C E.2.2.2.2.2 3 (c_X6_within hG h12) (gBn kc_X6_within) rfl rfl rfl (by decide +kernel) (gBc kini_X6) (gBc kst_X6_within) ⟨by decide +kernel, by decide +kernel, by decide +kernel⟩ ⟨Nat.le_of_ble_eq_true rfl, Nat.le_of_ble_eq_true rfl⟩ rfl rfl (Nat.le_of_ble_eq_true rfl) dX3_readNumber_56 rfl ?_
          refine x_if_eq (tgt := 100) C dX3_readNumber_59 (by decide) rfl (fun hc => ?_) (fun hc => ?_)
          · replace hM := gif_pos hc hM
            cases hM
            exact x_sub [0, 1, 2, 3, 4] rfl (kx0)
          · replace hM := gif_neg hc hM
            refine x_bi (v := 100) C (by decide) dX3_readNumber_62 rfl ?_
            refine x_il C 4 rfl dX3_readNumber_64 rfl ?_
            refine x_bi (v := 10) C (by decide) dX3_readNumber_66 rfl ?_
            refine x_imul C dX3_readNumber_68 rfl ?_
            refine x_aln C 0 rfl dX3_readNumber_69 rfl ?_
            refine gXg_49_signs C kf_X3_9 dX3_readNumber_70 rfl ?_
            refine x_aln C 0 rfl dX3_readNumber_73 rfl ?_
            refine gXg_49_next C kf_X3_49 dX3_readNumber_74 rfl ?_
            obtain ⟨h14, hM⟩ := gck_some hM
            refine gXa_50 C h14 dX3_readNumber_77 rfl ?_
            refine x_iadd C dX3_readNumber_78 rfl ?_
            refine x_bi (v := 48) C (by decide) dX3_readNumber_79 rfl ?_
            refine x_isub C dX3_readNumber_81 rfl ?_
            refine x_mmin C (gBc km_X3_78) (gBc kst_J9_min_7cf53) (gBc kini_J9) (gBc kc_J9_min_7cf53) (by decide) (Nat.le_of_ble_eq_true rfl) dX3_readNumber_82 rfl ?_
            obtain ⟨x4_15, ev, hM⟩ := gnm_ex hM
            refine x_ist (lv' := [(4, .int x4_15), (0, .ref (ad 49)), (1, .int a0), (2, .int a1), (3, .int x3_6)]) C ev (by decide) rfl dX3_readNumber_85 rfl ?_
            refine x_aln C 1 rfl dX3_readNumber_87 rfl ?_
            refine x_dup C rfl dX3_readNumber_88 rfl ?_
            refine gXg_49_next C kf_X3_49 dX3_readNumber_89 rfl ?_
            refine x_ic (v := 1) C (by decide) dX3_readNumber_92 rfl ?_
            refine x_iadd C dX3_readNumber_93 rfl ?_
            obtain ⟨s16, ev, hM⟩ := gnm_ex hM
            refine gXp_49_next C ev kf_X3_49 dX3_readNumber_94 rfl ?_
            refine x_goto (tgt := 32) C dX3_readNumber_97 (by decide) ?_
            exact x_sub [1, 2, 3, 4, 0] rfl (ih x4_15 s16 _ _ hM kx0)
    obtain ⟨x4_9, s10, hL17, hM⟩ := gb2_some hM
    refine x_sub [2, 3, 4, 1, 0] rfl (L32 gFU 0 s2 _ _ hL17 ?_)
    clear L32
    refine x_il C 4 rfl dX3_readNumber_100 rfl ?_
    refine x_iln C 1 rfl dX3_readNumber_102 rfl ?_
    refine x_iln C 2 rfl dX3_readNumber_103 rfl ?_
    obtain ⟨r19, h18, hM⟩ := gb1_some hM
    refine x_csni (As := [.int x4_9, .int a0, .int a1]) (rest := []) C E.2.2.2.2.2 3 (c_X6_within hG h18) (gBn kc_X6_within) rfl rfl rfl (by decide +kernel) (gBc kini_X6) (gBc kst_X6_within) ⟨by decide +kernel, by decide +kernel, by decide +kernel⟩ ⟨Nat.le_of_ble_eq_true rfl, Nat.le_of_ble_eq_true rfl⟩ rfl rfl (Nat.le_of_ble_eq_true rfl) dX3_readNumber_104 rfl ?_
    refine x_if_ne (tgt := 117) C dX3_readNumber_107 (by decide) rfl (fun hc => ?_) (fun hc => ?_)
    · replace hM := gif_neg hc hM
      refine x_il C 4 rfl dX3_readNumber_117 rfl ?_
      exact x_iret C E (gs2 hM) dX3_readNumber_119
    · replace hM := gif_pos hc hM
      refine x_aln C 0 rfl dX3_readNumber_110 rfl ?_
      refine x_iln C 3 rfl dX3_readNumber_111 rfl ?_
      obtain ⟨s21, h20, hM⟩ := gb1_some hM
      refine x_cvv (As := [.int x3_6]) (rest := []) C E.2.2.2.2.2 1 (c_X3_faultAt hG h20) (gBv km_X3_71 kin_X3_faultAt ksel_X3_faultAt kini_X3 kc_X3_faultAt) rfl rfl rfl ⟨rfl, by decide +kernel, by decide +kernel, by decide +kernel⟩ ⟨Nat.le_of_ble_eq_true rfl, Nat.le_of_ble_eq_true rfl⟩ (by show 49 < 213; decide) rfl rfl rfl rfl (Nat.le_of_ble_eq_true rfl) dX3_readNumber_112 rfl ?_
      refine x_iln C 1 rfl dX3_readNumber_115 rfl ?_
      exact x_iret C E (gs2 hM) dX3_readNumber_116
  · replace hM := gif_pos hc hM
    refine x_aln C 0 rfl dX3_readNumber_14 rfl ?_
    refine x_aln C 0 rfl dX3_readNumber_15 rfl ?_
    refine gXg_49_next C kf_X3_49 dX3_readNumber_16 rfl ?_
    obtain ⟨s23, h22, hM⟩ := gb1_some hM
    refine x_cvv (As := [.int (s2 49 2)]) (rest := []) C E.2.2.2.2.2 1 (c_X3_faultAt hG h22) (gBv km_X3_71 kin_X3_faultAt ksel_X3_faultAt kini_X3 kc_X3_faultAt) rfl rfl rfl ⟨rfl, by decide +kernel, by decide +kernel, by decide +kernel⟩ ⟨Nat.le_of_ble_eq_true rfl, Nat.le_of_ble_eq_true rfl⟩ (by show 49 < 213; decide) rfl rfl rfl rfl (Nat.le_of_ble_eq_true rfl) dX3_readNumber_19 rfl ?_
    refine x_iln C 1 rfl dX3_readNumber_22 rfl ?_
    exact x_iret C E (gs2 hM) dX3_readNumber_23
set_option maxRecDepth 100000 in
set_option maxHeartbeats 4000000 in
theorem c_X3_readDepth {l : Launch} {D : va_G} {ad : Nat → Nat} {cy : Nat → ClassId} {b : Nat} (hG : gInj (gGX D ad cy b))  {σ : gMem} {r0 : Int32} {σ0 : gMem} (hM : m_X3_readDepth  σ = some (r0, σ0)) : gMi l yX3_readDepth (Cond.code yX3_readDepth cX3_readDepth 1 (some .int) :: gBig) { frames := 2, cells := 0, slots := 0, locals := 46 } (gGX D ad cy b) [.ref (ad 49)] σ r0 σ0 := by
  refine gIntro (own := RX3) hG (by decide +kernel) rfl rfl (Nat.le_of_ble_eq_true rfl) (lv := [(0, .ref (ad 49))]) rfl (fun κ C E => ?_)
  unfold m_X3_readDepth at hM
  refine x_aln C 0 rfl dX3_readDepth_0 rfl ?_
  obtain ⟨r3, s2, h1, hM⟩ := gb2_some hM
  refine x_cvi (As := []) (rest := []) C E.2.2.2.2.2 0 (c_X3_peek hG h1) (gBv km_X3_61 kin_X3_peek ksel_X3_peek kini_X3 kc_X3_peek) rfl rfl rfl ⟨rfl, by decide +kernel, by decide +kernel, by decide +kernel⟩ ⟨Nat.le_of_ble_eq_true rfl, Nat.le_of_ble_eq_true rfl⟩ (by show 49 < 213; decide) rfl rfl rfl rfl (Nat.le_of_ble_eq_true rfl) dX3_readDepth_1 rfl ?_
  refine x_bi (v := 45) C (by decide) dX3_readDepth_4 rfl ?_
  refine x_ic_eq (tgt := 17) C dX3_readDepth_6 (by decide) rfl (fun hc => ?_) (fun hc => ?_)
  · replace hM := gif_pos hc hM
    refine x_aln C 0 rfl dX3_readDepth_17 rfl ?_
    refine x_dup C rfl dX3_readDepth_18 rfl ?_
    refine gXg_49_next C kf_X3_49 dX3_readDepth_19 rfl ?_
    refine x_ic (v := 1) C (by decide) dX3_readDepth_22 rfl ?_
    refine x_iadd C dX3_readDepth_23 rfl ?_
    obtain ⟨s4, ev, hM⟩ := gnm_ex hM
    refine gXp_49_next C ev kf_X3_49 dX3_readDepth_24 rfl ?_
    refine x_aln C 0 rfl dX3_readDepth_27 rfl ?_
    refine x_ic (v := 0) C (by decide) dX3_readDepth_28 rfl ?_
    refine x_bi (v := 20) C (by decide) dX3_readDepth_29 rfl ?_
    obtain ⟨r7, s6, h5, hM⟩ := gb2_some hM
    refine x_cvi (As := [.int 0, .int 20]) (rest := []) C E.2.2.2.2.2 2 (c_X3_readNumber hG h5) (gBv km_X3_64 kin_X3_readNumber ksel_X3_readNumber kini_X3 kc_X3_readNumber) rfl rfl rfl ⟨rfl, by decide +kernel, by decide +kernel, by decide +kernel⟩ ⟨Nat.le_of_ble_eq_true rfl, Nat.le_of_ble_eq_true rfl⟩ (by show 49 < 213; decide) rfl rfl rfl rfl (Nat.le_of_ble_eq_true rfl) dX3_readDepth_31 rfl ?_
    refine x_ineg C dX3_readDepth_34 rfl ?_
    exact x_iret C E (gs2 hM) dX3_readDepth_35
  · replace hM := gif_neg hc hM
    refine x_aln C 0 rfl dX3_readDepth_9 rfl ?_
    refine x_ic (v := 0) C (by decide) dX3_readDepth_10 rfl ?_
    refine x_bi (v := 60) C (by decide) dX3_readDepth_11 rfl ?_
    obtain ⟨r10, s9, h8, hM⟩ := gb2_some hM
    refine x_cvi (As := [.int 0, .int 60]) (rest := []) C E.2.2.2.2.2 2 (c_X3_readNumber hG h8) (gBv km_X3_64 kin_X3_readNumber ksel_X3_readNumber kini_X3 kc_X3_readNumber) rfl rfl rfl ⟨rfl, by decide +kernel, by decide +kernel, by decide +kernel⟩ ⟨Nat.le_of_ble_eq_true rfl, Nat.le_of_ble_eq_true rfl⟩ (by show 49 < 213; decide) rfl rfl rfl rfl (Nat.le_of_ble_eq_true rfl) dX3_readDepth_13 rfl ?_
    exact x_iret C E (gs2 hM) dX3_readDepth_16
set_option maxRecDepth 100000 in
set_option maxHeartbeats 4000000 in
theorem c_X3_readPlace {l : Launch} {D : va_G} {ad : Nat → Nat} {cy : Nat → ClassId} {b : Nat} (hG : gInj (gGX D ad cy b))  {σ : gMem} {σ0 : gMem} (hM : m_X3_readPlace  σ = some σ0) : gMv l yX3_readPlace (Cond.code yX3_readPlace cX3_readPlace 1 none :: gBig) { frames := 3, cells := 0, slots := 0, locals := 66 } (gGX D ad cy b) [.ref (ad 49)] σ σ0 := by
  refine gIntro (own := RX3) hG (by decide +kernel) rfl rfl (Nat.le_of_ble_eq_true rfl) (lv := [(0, .ref (ad 49))]) rfl (fun κ C E => ?_)
  unfold m_X3_readPlace at hM
  refine x_aln C 0 rfl dX3_readPlace_0 rfl ?_
  refine gXg_49_firsts C kf_X3_15 dX3_readPlace_1 rfl ?_
  refine x_aln C 0 rfl dX3_readPlace_4 rfl ?_
  refine gXg_49_rows C kf_X3_31 dX3_readPlace_5 rfl ?_
  refine x_aln C 0 rfl dX3_readPlace_8 rfl ?_
  obtain ⟨r3, s2, h1, hM⟩ := gb2_some hM
  refine x_cvi (As := []) (rest := [.int (σ 49 5), .ref (ad 51)]) C E.2.2.2.2.2 0 (c_X3_readDepth hG h1) (gBv km_X3_58 kin_X3_readDepth ksel_X3_readDepth kini_X3 kc_X3_readDepth) rfl rfl rfl ⟨rfl, by decide +kernel, by decide +kernel, by decide +kernel⟩ ⟨Nat.le_of_ble_eq_true rfl, Nat.le_of_ble_eq_true rfl⟩ (by show 49 < 213; decide) rfl rfl rfl rfl (Nat.le_of_ble_eq_true rfl) dX3_readPlace_9 rfl ?_
  obtain ⟨h4, hM⟩ := gck_some hM
  obtain ⟨s5, ev, hM⟩ := gnm_ex hM
  refine gXs_51 C ev h4 dX3_readPlace_12 rfl ?_
  refine x_aln C 0 rfl dX3_readPlace_13 rfl ?_
  refine gXg_49_lasts C kf_X3_21 dX3_readPlace_14 rfl ?_
  refine x_aln C 0 rfl dX3_readPlace_17 rfl ?_
  refine gXg_49_rows C kf_X3_31 dX3_readPlace_18 rfl ?_
  refine x_ic (v := 0) C (by decide) dX3_readPlace_21 rfl ?_
  obtain ⟨h6, hM⟩ := gck_some hM
  obtain ⟨s7, ev, hM⟩ := gnm_ex hM
  refine gXs_53 C ev h6 dX3_readPlace_22 rfl ?_
  refine x_aln C 0 rfl dX3_readPlace_23 rfl ?_
  obtain ⟨r10, s9, h8, hM⟩ := gb2_some hM
  refine x_cvi (As := []) (rest := []) C E.2.2.2.2.2 0 (c_X3_peek hG h8) (gBv km_X3_61 kin_X3_peek ksel_X3_peek kini_X3 kc_X3_peek) rfl rfl rfl ⟨rfl, by decide +kernel, by decide +kernel, by decide +kernel⟩ ⟨Nat.le_of_ble_eq_true rfl, Nat.le_of_ble_eq_true rfl⟩ (by show 49 < 213; decide) rfl rfl rfl rfl (Nat.le_of_ble_eq_true rfl) dX3_readPlace_24 rfl ?_
  refine x_bi (v := 112) C (by decide) dX3_readPlace_27 rfl ?_
  refine x_ic_ne (tgt := 76) C dX3_readPlace_29 (by decide) rfl (fun hc => ?_) (fun hc => ?_)
  · replace hM := gif_neg hc hM
    exact x_vret C E (gs1 hM) dX3_readPlace_76
  · replace hM := gif_pos hc hM
    refine x_aln C 0 rfl dX3_readPlace_32 rfl ?_
    refine gXg_49_postsTold C kf_X3_52 dX3_readPlace_33 rfl ?_
    refine x_ic (v := 3) C (by decide) dX3_readPlace_36 rfl ?_
    refine x_ic_ge (tgt := 76) C dX3_readPlace_37 (by decide) rfl (fun hc => ?_) (fun hc => ?_)
    · replace hM := gif_pos hc hM
      exact x_vret C E (gs1 hM) dX3_readPlace_76
    · replace hM := gif_neg hc hM
      refine x_aln C 0 rfl dX3_readPlace_40 rfl ?_
      refine x_dup C rfl dX3_readPlace_41 rfl ?_
      refine gXg_49_next C kf_X3_49 dX3_readPlace_42 rfl ?_
      refine x_ic (v := 1) C (by decide) dX3_readPlace_45 rfl ?_
      refine x_iadd C dX3_readPlace_46 rfl ?_
      obtain ⟨s11, ev, hM⟩ := gnm_ex hM
      refine gXp_49_next C ev kf_X3_49 dX3_readPlace_47 rfl ?_
      refine x_aln C 0 rfl dX3_readPlace_50 rfl ?_
      refine x_dup C rfl dX3_readPlace_51 rfl ?_
      refine gXg_49_postsTold C kf_X3_52 dX3_readPlace_52 rfl ?_
      refine x_ic (v := 1) C (by decide) dX3_readPlace_55 rfl ?_
      refine x_iadd C dX3_readPlace_56 rfl ?_
      obtain ⟨s12, ev, hM⟩ := gnm_ex hM
      refine gXp_49_postsTold C ev kf_X3_52 dX3_readPlace_57 rfl ?_
      refine x_aln C 0 rfl dX3_readPlace_60 rfl ?_
      refine gXg_49_lasts C kf_X3_21 dX3_readPlace_61 rfl ?_
      refine x_aln C 0 rfl dX3_readPlace_64 rfl ?_
      refine gXg_49_rows C kf_X3_31 dX3_readPlace_65 rfl ?_
      refine x_aln C 0 rfl dX3_readPlace_68 rfl ?_
      refine x_ic (v := 1) C (by decide) dX3_readPlace_69 rfl ?_
      refine x_bi (v := 20) C (by decide) dX3_readPlace_70 rfl ?_
      obtain ⟨r15, s14, h13, hM⟩ := gb2_some hM
      refine x_cvi (As := [.int 1, .int 20]) (rest := [.int (s12 49 5), .ref (ad 53)]) C E.2.2.2.2.2 2 (c_X3_readNumber hG h13) (gBv km_X3_64 kin_X3_readNumber ksel_X3_readNumber kini_X3 kc_X3_readNumber) rfl rfl rfl ⟨rfl, by decide +kernel, by decide +kernel, by decide +kernel⟩ ⟨Nat.le_of_ble_eq_true rfl, Nat.le_of_ble_eq_true rfl⟩ (by show 49 < 213; decide) rfl rfl rfl rfl (Nat.le_of_ble_eq_true rfl) dX3_readPlace_72 rfl ?_
      obtain ⟨h16, hM⟩ := gck_some hM
      obtain ⟨s17, ev, hM⟩ := gnm_ex hM
      refine gXs_53 C ev h16 dX3_readPlace_75 rfl ?_
      exact x_vret C E (gs1 hM) dX3_readPlace_76
set_option maxRecDepth 100000 in
set_option maxHeartbeats 4000000 in
theorem c_X3_goesOn {l : Launch} {D : va_G} {ad : Nat → Nat} {cy : Nat → ClassId} {b : Nat} (hG : gInj (gGX D ad cy b)) {a0 : Int32} {σ : gMem} {r0 : Int32} {σ0 : gMem} (hM : m_X3_goesOn a0 σ = some (r0, σ0)) : gMi l yX3_goesOn (Cond.code yX3_goesOn cX3_goesOn 3 (some .boolean) :: gBig) { frames := 1, cells := 0, slots := 0, locals := 21 } (gGX D ad cy b) [.ref (ad 49), .int a0] σ r0 σ0 := by
  refine gIntro (own := RX3) hG (by decide +kernel) rfl rfl (Nat.le_of_ble_eq_true rfl) (lv := [(0, .ref (ad 49)), (1, .int a0)]) rfl (fun κ C E => ?_)
  unfold m_X3_goesOn at hM
  refine x_aln C 0 rfl dX3_goesOn_0 rfl ?_
  obtain ⟨r3, s2, h1, hM⟩ := gb2_some hM
  refine x_cvi (As := []) (rest := []) C E.2.2.2.2.2 0 (c_X3_peek hG h1) (gBv km_X3_61 kin_X3_peek ksel_X3_peek kini_X3 kc_X3_peek) rfl rfl rfl ⟨rfl, by decide +kernel, by decide +kernel, by decide +kernel⟩ ⟨Nat.le_of_ble_eq_true rfl, Nat.le_of_ble_eq_true rfl⟩ (by show 49 < 213; decide) rfl rfl rfl rfl (Nat.le_of_ble_eq_true rfl) dX3_goesOn_1 rfl ?_
  refine x_istn (lv' := [(2, .int r3), (0, .ref (ad 49)), (1, .int a0)]) C rfl rfl (by decide) rfl dX3_goesOn_4 rfl ?_
  refine x_aln C 1 rfl dX3_goesOn_5 rfl ?_
  refine gXg_49_fault C kf_X3_55 dX3_goesOn_6 rfl ?_
  refine x_if_ge (tgt := 16) C dX3_goesOn_9 (by decide) rfl (fun hc => ?_) (fun hc => ?_)
  · replace hM := gif_pos hc hM
    refine x_ic (v := 0) C (by decide) dX3_goesOn_16 rfl ?_
    exact x_zret C E (by decide) (gs2 hM) dX3_goesOn_17
  · replace hM := gif_neg hc hM
    refine x_iln C 0 rfl dX3_goesOn_12 rfl ?_
    refine x_if_ge (tgt := 18) C dX3_goesOn_13 (by decide) rfl (fun hc => ?_) (fun hc => ?_)
    · replace hM := gif_pos hc hM
      refine x_iln C 0 rfl dX3_goesOn_18 rfl ?_
      refine x_iln C 2 rfl dX3_goesOn_19 rfl ?_
      refine x_ic_ne (tgt := 32) C dX3_goesOn_20 (by decide) rfl (fun hc => ?_) (fun hc => ?_)
      · replace hM := gif_neg hc hM
        refine x_aln C 1 rfl dX3_goesOn_32 rfl ?_
        refine x_aln C 1 rfl dX3_goesOn_33 rfl ?_
        refine gXg_49_next C kf_X3_49 dX3_goesOn_34 rfl ?_
        obtain ⟨s5, h4, hM⟩ := gb1_some hM
        refine x_cvv (As := [.int (s2 49 2)]) (rest := []) C E.2.2.2.2.2 1 (c_X3_faultAt hG h4) (gBv km_X3_71 kin_X3_faultAt ksel_X3_faultAt kini_X3 kc_X3_faultAt) rfl rfl rfl ⟨rfl, by decide +kernel, by decide +kernel, by decide +kernel⟩ ⟨Nat.le_of_ble_eq_true rfl, Nat.le_of_ble_eq_true rfl⟩ (by show 49 < 213; decide) rfl rfl rfl rfl (Nat.le_of_ble_eq_true rfl) dX3_goesOn_37 rfl ?_
        refine x_ic (v := 0) C (by decide) dX3_goesOn_40 rfl ?_
        exact x_zret C E (by decide) (gs2 hM) dX3_goesOn_41
      · replace hM := gif_pos hc hM
        refine x_aln C 1 rfl dX3_goesOn_23 rfl ?_
        refine gXg_49_rows C kf_X3_31 dX3_goesOn_24 rfl ?_
        refine x_bi (v := 8) C (by decide) dX3_goesOn_27 rfl ?_
        refine x_ic_lt (tgt := 42) C dX3_goesOn_29 (by decide) rfl (fun hc => ?_) (fun hc => ?_)
        · replace hM := gif_pos hc hM
          refine x_aln C 1 rfl dX3_goesOn_42 rfl ?_
          refine x_dup C rfl dX3_goesOn_43 rfl ?_
          refine gXg_49_next C kf_X3_49 dX3_goesOn_44 rfl ?_
          refine x_ic (v := 1) C (by decide) dX3_goesOn_47 rfl ?_
          refine x_iadd C dX3_goesOn_48 rfl ?_
          obtain ⟨s6, ev, hM⟩ := gnm_ex hM
          refine gXp_49_next C ev kf_X3_49 dX3_goesOn_49 rfl ?_
          refine x_ic (v := 1) C (by decide) dX3_goesOn_52 rfl ?_
          exact x_zret C E (by decide) (gs2 hM) dX3_goesOn_53
        · replace hM := gif_neg hc hM
          refine x_aln C 1 rfl dX3_goesOn_32 rfl ?_
          refine x_aln C 1 rfl dX3_goesOn_33 rfl ?_
          refine gXg_49_next C kf_X3_49 dX3_goesOn_34 rfl ?_
          obtain ⟨s8, h7, hM⟩ := gb1_some hM
          refine x_cvv (As := [.int (s2 49 2)]) (rest := []) C E.2.2.2.2.2 1 (c_X3_faultAt hG h7) (gBv km_X3_71 kin_X3_faultAt ksel_X3_faultAt kini_X3 kc_X3_faultAt) rfl rfl rfl ⟨rfl, by decide +kernel, by decide +kernel, by decide +kernel⟩ ⟨Nat.le_of_ble_eq_true rfl, Nat.le_of_ble_eq_true rfl⟩ (by show 49 < 213; decide) rfl rfl rfl rfl (Nat.le_of_ble_eq_true rfl) dX3_goesOn_37 rfl ?_
          refine x_ic (v := 0) C (by decide) dX3_goesOn_40 rfl ?_
          exact x_zret C E (by decide) (gs2 hM) dX3_goesOn_41
    · replace hM := gif_neg hc hM
      refine x_ic (v := 0) C (by decide) dX3_goesOn_16 rfl ?_
      exact x_zret C E (by decide) (gs2 hM) dX3_goesOn_17
set_option maxRecDepth 100000 in
set_option maxHeartbeats 4000000 in
theorem c_X3_outcome {l : Launch} {D : va_G} {ad : Nat → Nat} {cy : Nat → ClassId} {b : Nat} (hG : gInj (gGX D ad cy b))  {σ : gMem} {r0 : Int32} (hM : m_X3_outcome  σ = some r0) : gMi l yX3_outcome (Cond.code yX3_outcome cX3_outcome 1 (some .int) :: gBig) { frames := 0, cells := 0, slots := 0, locals := 0 } (gGX D ad cy b) [.ref (ad 49)] σ r0 σ := by
  refine gIntro (own := RX3) hG (by decide +kernel) rfl rfl (Nat.le_of_ble_eq_true rfl) (lv := [(0, .ref (ad 49))]) rfl (fun κ C E => ?_)
  unfold m_X3_outcome at hM
  refine x_aln C 0 rfl dX3_outcome_0 rfl ?_
  refine gXg_49_fault C kf_X3_55 dX3_outcome_1 rfl ?_
  refine x_if_ge (tgt := 14) C dX3_outcome_4 (by decide) rfl (fun hc => ?_) (fun hc => ?_)
  · replace hM := gif_pos hc hM
    refine x_bi (v := (-20)) C (by decide) dX3_outcome_14 rfl ?_
    refine x_aln C 0 rfl dX3_outcome_16 rfl ?_
    refine gXg_49_fault C kf_X3_55 dX3_outcome_17 rfl ?_
    refine x_isub C dX3_outcome_20 rfl ?_
    exact x_iret C E ⟨gs1 hM, rfl⟩ dX3_outcome_21
  · replace hM := gif_neg hc hM
    refine x_aln C 0 rfl dX3_outcome_7 rfl ?_
    refine gXg_49_rows C kf_X3_31 dX3_outcome_8 rfl ?_
    refine x_goto (tgt := 21) C dX3_outcome_11 (by decide) ?_
    exact x_iret C E ⟨gs1 hM, rfl⟩ dX3_outcome_21
set_option maxRecDepth 100000 in
set_option maxHeartbeats 4000000 in
theorem c_X3_readPlaces {l : Launch} {D : va_G} {ad : Nat → Nat} {cy : Nat → ClassId} {b : Nat} (hG : gInj (gGX D ad cy b))  {σ : gMem} {r0 : Int32} {σ0 : gMem} (hM : m_X3_readPlaces  σ = some (r0, σ0)) : gMi l yX3_readPlaces (Cond.code yX3_readPlaces cX3_readPlaces 2 (some .int) :: gBig) { frames := 4, cells := 0, slots := 0, locals := 86 } (gGX D ad cy b) [.ref (ad 49)] σ r0 σ0 := by
  refine gIntro (own := RX3) hG (by decide +kernel) rfl rfl (Nat.le_of_ble_eq_true rfl) (lv := [(0, .ref (ad 49))]) rfl (fun κ C E => ?_)
  unfold m_X3_readPlaces at hM
  refine x_aln C 0 rfl dX3_readPlaces_0 rfl ?_
  obtain ⟨s2, h1, hM⟩ := gb1_some hM
  refine x_cvv (As := []) (rest := []) C E.2.2.2.2.2 0 (c_X3_begin hG h1) (gBv km_X3_28 kin_X3_begin ksel_X3_begin kini_X3 kc_X3_begin) rfl rfl rfl ⟨rfl, by decide +kernel, by decide +kernel, by decide +kernel⟩ ⟨Nat.le_of_ble_eq_true rfl, Nat.le_of_ble_eq_true rfl⟩ (by show 49 < 213; decide) rfl rfl rfl rfl (Nat.le_of_ble_eq_true rfl) dX3_readPlaces_1 rfl ?_
  refine x_ic (v := 1) C (by decide) dX3_readPlaces_4 rfl ?_
  refine x_istn (lv' := [(1, .int 1), (0, .ref (ad 49))]) C rfl rfl (by decide) rfl dX3_readPlaces_5 rfl ?_
  have L6 : ∀ (n : Nat) (x1_3 : Int32) (s4 : gMem) (s5 : gMem), m_X3_readPlaces_6 n x1_3 s4 = some (s5) → (wx κ (gGX D ad cy b) (gA (gGX D ad cy b)) 2 s5 43 [(0, .ref (ad 49))] []) → wx κ (gGX D ad cy b) (gA (gGX D ad cy b)) 2 s4 6 [(0, .ref (ad 49)), (1, .int x1_3)] [] := by
    clear hM
    intro n
    induction n with
    | zero => intro _ _ _ hM; cases hM
    | succ n ih =>
      intro x1_3 s4 s5 hM kx0
      replace hM : b_X3_readPlaces_6 (m_X3_readPlaces_6 n) x1_3 s4 = some (s5) := hM
      unfold b_X3_readPlaces_6 at hM
      refine x_iln C 1 rfl dX3_readPlaces_6 rfl ?_
      refine x_if_eq (tgt := 43) C dX3_readPlaces_7 (by decide) rfl (fun hc => ?_) (fun hc => ?_)
      · replace hM := gif_pos hc hM
        cases hM
        exact x_sub [0] rfl (kx0)
      · replace hM := gif_neg hc hM
        refine x_aln C 0 rfl dX3_readPlaces_10 rfl ?_
        refine gXg_49_rows C kf_X3_31 dX3_readPlaces_11 rfl ?_
        refine x_bi (v := 8) C (by decide) dX3_readPlaces_14 rfl ?_
        refine x_ic_ge (tgt := 43) C dX3_readPlaces_16 (by decide) rfl (fun hc => ?_) (fun hc => ?_)
        · replace hM := gif_pos hc hM
          cases hM
          exact x_sub [0] rfl (kx0)
        · replace hM := gif_neg hc hM
          refine x_aln C 0 rfl dX3_readPlaces_19 rfl ?_
          obtain ⟨s7, h6, hM⟩ := gb1_some hM
          refine x_cvv (As := []) (rest := []) C E.2.2.2.2.2 0 (c_X3_readPlace hG h6) (gBv km_X3_34 kin_X3_readPlace ksel_X3_readPlace kini_X3 kc_X3_readPlace) rfl rfl rfl ⟨rfl, by decide +kernel, by decide +kernel, by decide +kernel⟩ ⟨Nat.le_of_ble_eq_true rfl, Nat.le_of_ble_eq_true rfl⟩ (by show 49 < 213; decide) rfl rfl rfl rfl (Nat.le_of_ble_eq_true rfl) dX3_readPlaces_20 rfl ?_
          refine x_aln C 0 rfl dX3_readPlaces_23 rfl ?_
          refine x_dup C rfl dX3_readPlaces_24 rfl ?_
          refine gXg_49_rows C kf_X3_31 dX3_readPlaces_25 rfl ?_
          refine x_ic (v := 1) C (by decide) dX3_readPlaces_28 rfl ?_
          refine x_iadd C dX3_readPlaces_29 rfl ?_
          obtain ⟨s8, ev, hM⟩ := gnm_ex hM
          refine gXp_49_rows C ev kf_X3_31 dX3_readPlaces_30 rfl ?_
          refine x_aln C 0 rfl dX3_readPlaces_33 rfl ?_
          refine x_bi (v := 59) C (by decide) dX3_readPlaces_34 rfl ?_
          obtain ⟨r11, s10, h9, hM⟩ := gb2_some hM
          refine x_cvi (As := [.int 59]) (rest := []) C E.2.2.2.2.2 1 (c_X3_goesOn hG h9) (gBv km_X3_37 kin_X3_goesOn ksel_X3_goesOn kini_X3 kc_X3_goesOn) rfl rfl rfl ⟨rfl, by decide +kernel, by decide +kernel, by decide +kernel⟩ ⟨Nat.le_of_ble_eq_true rfl, Nat.le_of_ble_eq_true rfl⟩ (by show 49 < 213; decide) rfl rfl rfl rfl (Nat.le_of_ble_eq_true rfl) dX3_readPlaces_36 rfl ?_
          refine x_istn (lv' := [(1, .int r11), (0, .ref (ad 49))]) C rfl rfl (by decide) rfl dX3_readPlaces_39 rfl ?_
          refine x_goto (tgt := 6) C dX3_readPlaces_40 (by decide) ?_
          exact x_sub [1, 0] rfl (ih r11 s10 _ hM kx0)
  obtain ⟨s5, hL12, hM⟩ := gb1_some hM
  refine x_sub [1, 0] rfl (L6 gFU 1 s2 _ hL12 ?_)
  clear L6
  refine x_aln C 0 rfl dX3_readPlaces_43 rfl ?_
  obtain ⟨r14, h13, hM⟩ := gb1_some hM
  refine x_cvi (As := []) (rest := []) C E.2.2.2.2.2 0 (c_X3_outcome hG h13) (gBv km_X3_41 kin_X3_outcome ksel_X3_outcome kini_X3 kc_X3_outcome) rfl rfl rfl ⟨rfl, by decide +kernel, by decide +kernel, by decide +kernel⟩ ⟨Nat.le_of_ble_eq_true rfl, Nat.le_of_ble_eq_true rfl⟩ (by show 49 < 213; decide) rfl rfl rfl rfl (Nat.le_of_ble_eq_true rfl) dX3_readPlaces_44 rfl ?_
  exact x_iret C E (gs2 hM) dX3_readPlaces_47
set_option maxRecDepth 100000 in
set_option maxHeartbeats 4000000 in
theorem c_X1_settle {l : Launch} {D : va_G} {ad : Nat → Nat} {cy : Nat → ClassId} {b : Nat} (hG : gInj (gGX D ad cy b))  {σ : gMem} {σ0 : gMem} (hM : m_X1_settle  σ = some σ0) : gMv l yX1_settle (Cond.code yX1_settle cX1_settle 4 none :: gBig) { frames := 1, cells := 0, slots := 0, locals := 22 } (gGX D ad cy b) [.ref (ad 1), .ref (ad 49)] σ σ0 := by
  refine gIntro (own := RX1) hG (by decide +kernel) rfl rfl (Nat.le_of_ble_eq_true rfl) (lv := [(0, .ref (ad 1)), (1, .ref (ad 49))]) rfl (fun κ C E => ?_)
  unfold m_X1_settle at hM
  refine x_aln C 0 rfl dX1_settle_0 rfl ?_
  refine x_ic (v := 0) C (by decide) dX1_settle_1 rfl ?_
  obtain ⟨s1, ev, hM⟩ := gnm_ex hM
  refine gXp_1_places C ev kf_X1_51 dX1_settle_2 rfl ?_
  refine x_aln C 0 rfl dX1_settle_5 rfl ?_
  refine x_ic (v := 0) C (by decide) dX1_settle_6 rfl ?_
  obtain ⟨s2, ev, hM⟩ := gnm_ex hM
  refine gXp_1_people C ev kf_X1_57 dX1_settle_7 rfl ?_
  refine x_aln C 0 rfl dX1_settle_10 rfl ?_
  refine x_ic (v := 0) C (by decide) dX1_settle_11 rfl ?_
  obtain ⟨s3, ev, hM⟩ := gnm_ex hM
  refine gXp_1_needs C ev kf_X1_60 dX1_settle_12 rfl ?_
  refine x_aln C 0 rfl dX1_settle_15 rfl ?_
  refine x_ic (v := 0) C (by decide) dX1_settle_16 rfl ?_
  obtain ⟨s4, ev, hM⟩ := gnm_ex hM
  refine gXp_1_yearsGone C ev kf_X1_63 dX1_settle_17 rfl ?_
  refine x_ic (v := 0) C (by decide) dX1_settle_20 rfl ?_
  refine x_istn (lv' := [(2, .int 0), (0, .ref (ad 1)), (1, .ref (ad 49))]) C rfl rfl (by decide) rfl dX1_settle_21 rfl ?_
  have L22 : ∀ (n : Nat) (x2_5 : Int32) (s6 : gMem) (s7 : gMem), m_X1_settle_22 n x2_5 s6 = some (s7) → (wx κ (gGX D ad cy b) (gA (gGX D ad cy b)) 4 s7 57 [(0, .ref (ad 1)), (1, .ref (ad 49))] []) → wx κ (gGX D ad cy b) (gA (gGX D ad cy b)) 4 s6 22 [(0, .ref (ad 1)), (1, .ref (ad 49)), (2, .int x2_5)] [] := by
    clear hM
    intro n
    induction n with
    | zero => intro _ _ _ hM; cases hM
    | succ n ih =>
      intro x2_5 s6 s7 hM kx0
      replace hM : b_X1_settle_22 (m_X1_settle_22 n) x2_5 s6 = some (s7) := hM
      unfold b_X1_settle_22 at hM
      refine x_iln C 2 rfl dX1_settle_22 rfl ?_
      refine x_bi (v := 12) C (by decide) dX1_settle_23 rfl ?_
      refine x_ic_ge (tgt := 57) C dX1_settle_25 (by decide) rfl (fun hc => ?_) (fun hc => ?_)
      · replace hM := gif_pos hc hM
        cases hM
        exact x_sub [0, 1] rfl (kx0)
      · replace hM := gif_neg hc hM
        refine x_ic (v := 0) C (by decide) dX1_settle_28 rfl ?_
        refine x_istn (lv' := [(3, .int 0), (0, .ref (ad 1)), (1, .ref (ad 49)), (2, .int x2_5)]) C rfl rfl (by decide) rfl dX1_settle_29 rfl ?_
        have L30 : ∀ (n : Nat) (x3_8 : Int32) (s9 : gMem) (s10 : gMem), m_X1_settle_30 x2_5 n x3_8 s9 = some (s10) → (wx κ (gGX D ad cy b) (gA (gGX D ad cy b)) 4 s10 51 [(0, .ref (ad 1)), (1, .ref (ad 49)), (2, .int x2_5)] []) → wx κ (gGX D ad cy b) (gA (gGX D ad cy b)) 4 s9 30 [(0, .ref (ad 1)), (1, .ref (ad 49)), (2, .int x2_5), (3, .int x3_8)] [] := by
          clear hM
          intro n
          induction n with
          | zero => intro _ _ _ hM; cases hM
          | succ n ih =>
            intro x3_8 s9 s10 hM kx0
            replace hM : b_X1_settle_30 x2_5 (m_X1_settle_30 x2_5 n) x3_8 s9 = some (s10) := hM
            unfold b_X1_settle_30 at hM
            refine x_iln C 3 rfl dX1_settle_30 rfl ?_
            refine x_bi (v := 12) C (by decide) dX1_settle_31 rfl ?_
            refine x_ic_ge (tgt := 51) C dX1_settle_33 (by decide) rfl (fun hc => ?_) (fun hc => ?_)
            · replace hM := gif_pos hc hM
              cases hM
              exact x_sub [0, 1, 2] rfl (kx0)
            · replace hM := gif_neg hc hM
              refine x_aln C 0 rfl dX1_settle_36 rfl ?_
              refine gXg_1_minutes C kf_X1_23 dX1_settle_37 rfl ?_
              refine x_iln C 2 rfl dX1_settle_40 rfl ?_
              obtain ⟨h11, hM⟩ := gck_some hM
              refine gXo_5 C h11 dX1_settle_41 rfl ?_
              refine x_iln C 3 rfl dX1_settle_42 rfl ?_
              refine x_ic (v := 0) C (by decide) dX1_settle_43 rfl ?_
              obtain ⟨h12, hM⟩ := gck_some hM
              obtain ⟨s13, ev, hM⟩ := gnm_ex hM
              refine gXs_rown C (inb_lt h11) ev h12 dX1_settle_44 rfl ?_
              obtain ⟨x3_14, ev, hM⟩ := gnm_ex hM
              refine x_iinc (j := 3) (w := 1) (lv' := [(3, .int x3_14), (0, .ref (ad 1)), (1, .ref (ad 49)), (2, .int x2_5)]) C rfl ev (by decide) (by decide) rfl dX1_settle_45 rfl ?_
              refine x_goto (tgt := 30) C dX1_settle_48 (by decide) ?_
              exact x_sub [1, 2, 3, 0] rfl (ih x3_14 s13 _ hM kx0)
        obtain ⟨s10, hL15, hM⟩ := gb1_some hM
        refine x_sub [1, 2, 3, 0] rfl (L30 gFU 0 s6 _ hL15 ?_)
        clear L30
        obtain ⟨x2_16, ev, hM⟩ := gnm_ex hM
        refine x_iinc (j := 2) (w := 1) (lv' := [(2, .int x2_16), (0, .ref (ad 1)), (1, .ref (ad 49))]) C rfl ev (by decide) (by decide) rfl dX1_settle_51 rfl ?_
        refine x_goto (tgt := 22) C dX1_settle_54 (by decide) ?_
        exact x_sub [1, 2, 0] rfl (ih x2_16 s10 _ hM kx0)
  obtain ⟨s7, hL17, hM⟩ := gb1_some hM
  refine x_sub [1, 2, 0] rfl (L22 gFU 0 s4 _ hL17 ?_)
  clear L22
  refine x_ic (v := 0) C (by decide) dX1_settle_57 rfl ?_
  refine x_istn (lv' := [(2, .int 0), (0, .ref (ad 1)), (1, .ref (ad 49))]) C rfl rfl (by decide) rfl dX1_settle_58 rfl ?_
  have L59 : ∀ (n : Nat) (x2_18 : Int32) (s19 : gMem) (s20 : gMem), m_X1_settle_59 n x2_18 s19 = some (s20) → (wx κ (gGX D ad cy b) (gA (gGX D ad cy b)) 4 s20 90 [] []) → wx κ (gGX D ad cy b) (gA (gGX D ad cy b)) 4 s19 59 [(0, .ref (ad 1)), (1, .ref (ad 49)), (2, .int x2_18)] [] := by
    clear hM
    intro n
    induction n with
    | zero => intro _ _ _ hM; cases hM
    | succ n ih =>
      intro x2_18 s19 s20 hM kx0
      replace hM : b_X1_settle_59 (m_X1_settle_59 n) x2_18 s19 = some (s20) := hM
      unfold b_X1_settle_59 at hM
      refine x_iln C 2 rfl dX1_settle_59 rfl ?_
      refine x_aln C 1 rfl dX1_settle_60 rfl ?_
      refine gXg_49_rows C kf_X1_76 dX1_settle_61 rfl ?_
      refine x_ic_ge (tgt := 90) C dX1_settle_64 (by decide) rfl (fun hc => ?_) (fun hc => ?_)
      · replace hM := gif_pos hc hM
        cases hM
        exact x_sub [] rfl (kx0)
      · replace hM := gif_neg hc hM
        refine x_aln C 0 rfl dX1_settle_67 rfl ?_
        refine x_aln C 1 rfl dX1_settle_68 rfl ?_
        refine gXg_49_firsts C kf_X1_81 dX1_settle_69 rfl ?_
        refine x_iln C 2 rfl dX1_settle_72 rfl ?_
        obtain ⟨h21, hM⟩ := gck_some hM
        refine gXa_51 C h21 dX1_settle_73 rfl ?_
        refine x_aln C 1 rfl dX1_settle_74 rfl ?_
        refine gXg_49_lasts C kf_X1_84 dX1_settle_75 rfl ?_
        refine x_iln C 2 rfl dX1_settle_78 rfl ?_
        obtain ⟨h22, hM⟩ := gck_some hM
        refine gXa_53 C h22 dX1_settle_79 rfl ?_
        obtain ⟨r25, s24, h23, hM⟩ := gb2_some hM
        refine x_cvi (As := [.int (s19 51 x2_18.toNatClampNeg), .int (s19 53 x2_18.toNatClampNeg)]) (rest := []) C E.2.2.2.2.2 2 (c_X1_addPlace hG h23) (gBv km_X1_87 kin_X1_addPlace ksel_X1_addPlace kini_X1 kc_X1_addPlace) rfl rfl rfl ⟨rfl, by decide +kernel, by decide +kernel, by decide +kernel⟩ ⟨Nat.le_of_ble_eq_true rfl, Nat.le_of_ble_eq_true rfl⟩ (by show 1 < 213; decide) rfl rfl rfl rfl (Nat.le_of_ble_eq_true rfl) dX1_settle_80 rfl ?_
        refine x_pop C rfl dX1_settle_83 rfl ?_
        obtain ⟨x2_26, ev, hM⟩ := gnm_ex hM
        refine x_iinc (j := 2) (w := 1) (lv' := [(2, .int x2_26), (0, .ref (ad 1)), (1, .ref (ad 49))]) C rfl ev (by decide) (by decide) rfl dX1_settle_84 rfl ?_
        refine x_goto (tgt := 59) C dX1_settle_87 (by decide) ?_
        exact x_sub [1, 2, 0] rfl (ih x2_26 s24 _ hM kx0)
  obtain ⟨s20, hL27, hM⟩ := gb1_some hM
  refine x_sub [1, 2, 0] rfl (L59 gFU 0 s7 _ hL27 ?_)
  clear L59
  exact x_vret C E (gs1 hM) dX1_settle_90
set_option maxRecDepth 100000 in
set_option maxHeartbeats 4000000 in
theorem c_X6_lagoon {l : Launch} {D : va_G} {ad : Nat → Nat} {cy : Nat → ClassId} {b : Nat} (hG : gInj (gGX D ad cy b))  {σ : gMem} {r0 : Int32} {σ0 : gMem} (hM : m_X6_lagoon  σ = some (r0, σ0)) : gMi l yX6_lagoon (Cond.code yX6_lagoon cX6_lagoon 2 (some .int) :: gBig) { frames := 5, cells := 0, slots := 0, locals := 107 } (gGX D ad cy b) [.ref (ad 0)] σ r0 σ0 := by
  refine gIntro (own := RX6) hG (by decide +kernel) rfl rfl (Nat.le_of_ble_eq_true rfl) (lv := [(0, .ref (ad 0))]) rfl (fun κ C E => ?_)
  unfold m_X6_lagoon at hM
  refine x_aln C 0 rfl dX6_lagoon_0 rfl ?_
  refine gXg_0_tape C kf_X6_22 dX6_lagoon_1 rfl ?_
  obtain ⟨r3, s2, h1, hM⟩ := gb2_some hM
  refine x_cvi (As := []) (rest := []) C E.2.2.2.2.2 0 (c_X3_readPlaces hG h1) (gBv km_X6_146 kin_X3_readPlaces ksel_X3_readPlaces kini_X3 kc_X3_readPlaces) rfl rfl rfl ⟨rfl, by decide +kernel, by decide +kernel, by decide +kernel⟩ ⟨Nat.le_of_ble_eq_true rfl, Nat.le_of_ble_eq_true rfl⟩ (by show 49 < 213; decide) rfl rfl rfl rfl (Nat.le_of_ble_eq_true rfl) dX6_lagoon_4 rfl ?_
  refine x_istn (lv' := [(1, .int r3), (0, .ref (ad 0))]) C rfl rfl (by decide) rfl dX6_lagoon_7 rfl ?_
  refine x_iln C 0 rfl dX6_lagoon_8 rfl ?_
  refine x_if_le (tgt := 23) C dX6_lagoon_9 (by decide) rfl (fun hc => ?_) (fun hc => ?_)
  · replace hM := gif_pos hc hM
    refine x_aln C 1 rfl dX6_lagoon_23 rfl ?_
    refine gXg_0_tape C kf_X6_22 dX6_lagoon_24 rfl ?_
    refine x_ic (v := 0) C (by decide) dX6_lagoon_27 rfl ?_
    obtain ⟨s4, ev, hM⟩ := gnm_ex hM
    refine gXp_49_length C ev kf_X6_139 dX6_lagoon_28 rfl ?_
    refine x_iln C 0 rfl dX6_lagoon_31 rfl ?_
    exact x_iret C E (gs2 hM) dX6_lagoon_32
  · replace hM := gif_neg hc hM
    refine x_aln C 1 rfl dX6_lagoon_12 rfl ?_
    refine gXg_0_now C kf_X6_10 dX6_lagoon_13 rfl ?_
    refine x_aln C 1 rfl dX6_lagoon_16 rfl ?_
    refine gXg_0_tape C kf_X6_22 dX6_lagoon_17 rfl ?_
    obtain ⟨s6, h5, hM⟩ := gb1_some hM
    refine x_cvv (As := [.ref (ad 49)]) (rest := []) C E.2.2.2.2.2 1 (c_X1_settle hG h5) (gBv km_X6_150 kin_X1_settle ksel_X1_settle kini_X1 kc_X1_settle) rfl rfl rfl ⟨rfl, by decide +kernel, by decide +kernel, by decide +kernel⟩ ⟨Nat.le_of_ble_eq_true rfl, Nat.le_of_ble_eq_true rfl⟩ (by show 1 < 213; decide) rfl rfl rfl rfl (Nat.le_of_ble_eq_true rfl) dX6_lagoon_20 rfl ?_
    refine x_aln C 1 rfl dX6_lagoon_23 rfl ?_
    refine gXg_0_tape C kf_X6_22 dX6_lagoon_24 rfl ?_
    refine x_ic (v := 0) C (by decide) dX6_lagoon_27 rfl ?_
    obtain ⟨s7, ev, hM⟩ := gnm_ex hM
    refine gXp_49_length C ev kf_X6_139 dX6_lagoon_28 rfl ?_
    refine x_iln C 0 rfl dX6_lagoon_31 rfl ?_
    exact x_iret C E (gs2 hM) dX6_lagoon_32
set_option maxRecDepth 100000 in
set_option maxHeartbeats 4000000 in
theorem c_X3_readLetter {l : Launch} {D : va_G} {ad : Nat → Nat} {cy : Nat → ClassId} {b : Nat} (hG : gInj (gGX D ad cy b)) {a0 : Int32} {a1 : Int32} {σ : gMem} {r0 : Int32} {σ0 : gMem} (hM : m_X3_readLetter a0 a1 σ = some (r0, σ0)) : gMi l yX3_readLetter (Cond.code yX3_readLetter cX3_readLetter 4 (some .int) :: gBig) { frames := 1, cells := 0, slots := 0, locals := 22 } (gGX D ad cy b) [.ref (ad 49), .int a0, .int a1] σ r0 σ0 := by
  refine gIntro (own := RX3) hG (by decide +kernel) rfl rfl (Nat.le_of_ble_eq_true rfl) (lv := [(0, .ref (ad 49)), (1, .int a0), (2, .int a1)]) rfl (fun κ C E => ?_)
  unfold m_X3_readLetter at hM
  refine x_aln C 0 rfl dX3_readLetter_0 rfl ?_
  obtain ⟨r3, s2, h1, hM⟩ := gb2_some hM
  refine x_cvi (As := []) (rest := []) C E.2.2.2.2.2 0 (c_X3_peek hG h1) (gBv km_X3_61 kin_X3_peek ksel_X3_peek kini_X3 kc_X3_peek) rfl rfl rfl ⟨rfl, by decide +kernel, by decide +kernel, by decide +kernel⟩ ⟨Nat.le_of_ble_eq_true rfl, Nat.le_of_ble_eq_true rfl⟩ (by show 49 < 213; decide) rfl rfl rfl rfl (Nat.le_of_ble_eq_true rfl) dX3_readLetter_1 rfl ?_
  refine x_bi (v := 97) C (by decide) dX3_readLetter_4 rfl ?_
  refine x_isub C dX3_readLetter_6 rfl ?_
  obtain ⟨x3_4, ev, hM⟩ := gnm_ex hM
  refine x_istn (lv' := [(3, .int x3_4), (0, .ref (ad 49)), (1, .int a0), (2, .int a1)]) C rfl ev (by decide) rfl dX3_readLetter_7 rfl ?_
  refine x_iln C 0 rfl dX3_readLetter_8 rfl ?_
  refine x_ic (v := 0) C (by decide) dX3_readLetter_9 rfl ?_
  refine x_iln C 2 rfl dX3_readLetter_10 rfl ?_
  refine x_ic (v := 1) C (by decide) dX3_readLetter_11 rfl ?_
  refine x_isub C dX3_readLetter_12 rfl ?_
  obtain ⟨r6, h5, hM⟩ := gb1_some hM
  refine x_csni (As := [.int x3_4, .int 0, .int (a0 - 1)]) (rest := []) C E.2.2.2.2.2 3 (c_X6_within hG h5) (gBn kc_X6_within) rfl rfl rfl (by decide +kernel) (gBc kini_X6) (gBc kst_X6_within) ⟨by decide +kernel, by decide +kernel, by decide +kernel⟩ ⟨Nat.le_of_ble_eq_true rfl, Nat.le_of_ble_eq_true rfl⟩ rfl rfl (Nat.le_of_ble_eq_true rfl) dX3_readLetter_13 rfl ?_
  refine x_if_eq (tgt := 24) C dX3_readLetter_16 (by decide) rfl (fun hc => ?_) (fun hc => ?_)
  · replace hM := gif_pos hc hM
    refine x_aln C 1 rfl dX3_readLetter_24 rfl ?_
    refine x_aln C 1 rfl dX3_readLetter_25 rfl ?_
    refine gXg_49_next C kf_X3_49 dX3_readLetter_26 rfl ?_
    obtain ⟨s8, h7, hM⟩ := gb1_some hM
    refine x_cvv (As := [.int (s2 49 2)]) (rest := []) C E.2.2.2.2.2 1 (c_X3_faultAt hG h7) (gBv km_X3_71 kin_X3_faultAt ksel_X3_faultAt kini_X3 kc_X3_faultAt) rfl rfl rfl ⟨rfl, by decide +kernel, by decide +kernel, by decide +kernel⟩ ⟨Nat.le_of_ble_eq_true rfl, Nat.le_of_ble_eq_true rfl⟩ (by show 49 < 213; decide) rfl rfl rfl rfl (Nat.le_of_ble_eq_true rfl) dX3_readLetter_29 rfl ?_
    refine x_ic (v := 0) C (by decide) dX3_readLetter_32 rfl ?_
    exact x_iret C E (gs2 hM) dX3_readLetter_33
  · replace hM := gif_neg hc hM
    refine x_iln C 0 rfl dX3_readLetter_19 rfl ?_
    refine x_iln C 3 rfl dX3_readLetter_20 rfl ?_
    refine x_ic_ne (tgt := 34) C dX3_readLetter_21 (by decide) rfl (fun hc => ?_) (fun hc => ?_)
    · replace hM := gif_neg hc hM
      refine x_aln C 1 rfl dX3_readLetter_34 rfl ?_
      refine x_dup C rfl dX3_readLetter_35 rfl ?_
      refine gXg_49_next C kf_X3_49 dX3_readLetter_36 rfl ?_
      refine x_ic (v := 1) C (by decide) dX3_readLetter_39 rfl ?_
      refine x_iadd C dX3_readLetter_40 rfl ?_
      obtain ⟨s9, ev, hM⟩ := gnm_ex hM
      refine gXp_49_next C ev kf_X3_49 dX3_readLetter_41 rfl ?_
      refine x_iln C 0 rfl dX3_readLetter_44 rfl ?_
      exact x_iret C E (gs2 hM) dX3_readLetter_45
    · replace hM := gif_pos hc hM
      refine x_aln C 1 rfl dX3_readLetter_24 rfl ?_
      refine x_aln C 1 rfl dX3_readLetter_25 rfl ?_
      refine gXg_49_next C kf_X3_49 dX3_readLetter_26 rfl ?_
      obtain ⟨s11, h10, hM⟩ := gb1_some hM
      refine x_cvv (As := [.int (s2 49 2)]) (rest := []) C E.2.2.2.2.2 1 (c_X3_faultAt hG h10) (gBv km_X3_71 kin_X3_faultAt ksel_X3_faultAt kini_X3 kc_X3_faultAt) rfl rfl rfl ⟨rfl, by decide +kernel, by decide +kernel, by decide +kernel⟩ ⟨Nat.le_of_ble_eq_true rfl, Nat.le_of_ble_eq_true rfl⟩ (by show 49 < 213; decide) rfl rfl rfl rfl (Nat.le_of_ble_eq_true rfl) dX3_readLetter_29 rfl ?_
      refine x_ic (v := 0) C (by decide) dX3_readLetter_32 rfl ?_
      exact x_iret C E (gs2 hM) dX3_readLetter_33
set_option maxRecDepth 100000 in
set_option maxHeartbeats 4000000 in
theorem c_X3_readPath {l : Launch} {D : va_G} {ad : Nat → Nat} {cy : Nat → ClassId} {b : Nat} (hG : gInj (gGX D ad cy b)) {a0 : Int32} {σ : gMem} {σ0 : gMem} (hM : m_X3_readPath a0 σ = some σ0) : gMv l yX3_readPath (Cond.code yX3_readPath cX3_readPath 2 none :: gBig) { frames := 2, cells := 0, slots := 0, locals := 46 } (gGX D ad cy b) [.ref (ad 49), .int a0] σ σ0 := by
  refine gIntro (own := RX3) hG (by decide +kernel) rfl rfl (Nat.le_of_ble_eq_true rfl) (lv := [(0, .ref (ad 49)), (1, .int a0)]) rfl (fun κ C E => ?_)
  unfold m_X3_readPath at hM
  refine x_aln C 0 rfl dX3_readPath_0 rfl ?_
  refine gXg_49_firsts C kf_X3_15 dX3_readPath_1 rfl ?_
  refine x_aln C 0 rfl dX3_readPath_4 rfl ?_
  refine gXg_49_rows C kf_X3_31 dX3_readPath_5 rfl ?_
  refine x_aln C 0 rfl dX3_readPath_8 rfl ?_
  refine x_iln C 1 rfl dX3_readPath_9 rfl ?_
  refine x_ic (v := (-1)) C (by decide) dX3_readPath_10 rfl ?_
  obtain ⟨r3, s2, h1, hM⟩ := gb2_some hM
  refine x_cvi (As := [.int a0, .int (-1)]) (rest := [.int (σ 49 5), .ref (ad 51)]) C E.2.2.2.2.2 2 (c_X3_readLetter hG h1) (gBv km_X3_68 kin_X3_readLetter ksel_X3_readLetter kini_X3 kc_X3_readLetter) rfl rfl rfl ⟨rfl, by decide +kernel, by decide +kernel, by decide +kernel⟩ ⟨Nat.le_of_ble_eq_true rfl, Nat.le_of_ble_eq_true rfl⟩ (by show 49 < 213; decide) rfl rfl rfl rfl (Nat.le_of_ble_eq_true rfl) dX3_readPath_11 rfl ?_
  obtain ⟨h4, hM⟩ := gck_some hM
  obtain ⟨s5, ev, hM⟩ := gnm_ex hM
  refine gXs_51 C ev h4 dX3_readPath_14 rfl ?_
  refine x_aln C 0 rfl dX3_readPath_15 rfl ?_
  refine gXg_49_seconds C kf_X3_18 dX3_readPath_16 rfl ?_
  refine x_aln C 0 rfl dX3_readPath_19 rfl ?_
  refine gXg_49_rows C kf_X3_31 dX3_readPath_20 rfl ?_
  refine x_aln C 0 rfl dX3_readPath_23 rfl ?_
  refine x_iln C 1 rfl dX3_readPath_24 rfl ?_
  refine x_aln C 0 rfl dX3_readPath_25 rfl ?_
  refine gXg_49_firsts C kf_X3_15 dX3_readPath_26 rfl ?_
  refine x_aln C 0 rfl dX3_readPath_29 rfl ?_
  refine gXg_49_rows C kf_X3_31 dX3_readPath_30 rfl ?_
  obtain ⟨h6, hM⟩ := gck_some hM
  refine gXa_51 C h6 dX3_readPath_33 rfl ?_
  obtain ⟨r9, s8, h7, hM⟩ := gb2_some hM
  refine x_cvi (As := [.int a0, .int (s5 51 (s5 49 5).toNatClampNeg)]) (rest := [.int (s5 49 5), .ref (ad 52)]) C E.2.2.2.2.2 2 (c_X3_readLetter hG h7) (gBv km_X3_68 kin_X3_readLetter ksel_X3_readLetter kini_X3 kc_X3_readLetter) rfl rfl rfl ⟨rfl, by decide +kernel, by decide +kernel, by decide +kernel⟩ ⟨Nat.le_of_ble_eq_true rfl, Nat.le_of_ble_eq_true rfl⟩ (by show 49 < 213; decide) rfl rfl rfl rfl (Nat.le_of_ble_eq_true rfl) dX3_readPath_34 rfl ?_
  obtain ⟨h10, hM⟩ := gck_some hM
  obtain ⟨s11, ev, hM⟩ := gnm_ex hM
  refine gXs_52 C ev h10 dX3_readPath_37 rfl ?_
  refine x_aln C 0 rfl dX3_readPath_38 rfl ?_
  refine gXg_49_lasts C kf_X3_21 dX3_readPath_39 rfl ?_
  refine x_aln C 0 rfl dX3_readPath_42 rfl ?_
  refine gXg_49_rows C kf_X3_31 dX3_readPath_43 rfl ?_
  refine x_aln C 0 rfl dX3_readPath_46 rfl ?_
  refine x_ic (v := 1) C (by decide) dX3_readPath_47 rfl ?_
  refine x_bi (v := 60) C (by decide) dX3_readPath_48 rfl ?_
  obtain ⟨r14, s13, h12, hM⟩ := gb2_some hM
  refine x_cvi (As := [.int 1, .int 60]) (rest := [.int (s11 49 5), .ref (ad 53)]) C E.2.2.2.2.2 2 (c_X3_readNumber hG h12) (gBv km_X3_64 kin_X3_readNumber ksel_X3_readNumber kini_X3 kc_X3_readNumber) rfl rfl rfl ⟨rfl, by decide +kernel, by decide +kernel, by decide +kernel⟩ ⟨Nat.le_of_ble_eq_true rfl, Nat.le_of_ble_eq_true rfl⟩ (by show 49 < 213; decide) rfl rfl rfl rfl (Nat.le_of_ble_eq_true rfl) dX3_readPath_50 rfl ?_
  obtain ⟨h15, hM⟩ := gck_some hM
  obtain ⟨s16, ev, hM⟩ := gnm_ex hM
  refine gXs_53 C ev h15 dX3_readPath_53 rfl ?_
  exact x_vret C E (gs1 hM) dX3_readPath_54
set_option maxRecDepth 100000 in
set_option maxHeartbeats 4000000 in
theorem c_X3_readPaths {l : Launch} {D : va_G} {ad : Nat → Nat} {cy : Nat → ClassId} {b : Nat} (hG : gInj (gGX D ad cy b)) {a0 : Int32} {σ : gMem} {r0 : Int32} {σ0 : gMem} (hM : m_X3_readPaths a0 σ = some (r0, σ0)) : gMi l yX3_readPaths (Cond.code yX3_readPaths cX3_readPaths 3 (some .int) :: gBig) { frames := 3, cells := 0, slots := 0, locals := 67 } (gGX D ad cy b) [.ref (ad 49), .int a0] σ r0 σ0 := by
  refine gIntro (own := RX3) hG (by decide +kernel) rfl rfl (Nat.le_of_ble_eq_true rfl) (lv := [(0, .ref (ad 49)), (1, .int a0)]) rfl (fun κ C E => ?_)
  unfold m_X3_readPaths at hM
  refine x_aln C 0 rfl dX3_readPaths_0 rfl ?_
  obtain ⟨s2, h1, hM⟩ := gb1_some hM
  refine x_cvv (As := []) (rest := []) C E.2.2.2.2.2 0 (c_X3_begin hG h1) (gBv km_X3_28 kin_X3_begin ksel_X3_begin kini_X3 kc_X3_begin) rfl rfl rfl ⟨rfl, by decide +kernel, by decide +kernel, by decide +kernel⟩ ⟨Nat.le_of_ble_eq_true rfl, Nat.le_of_ble_eq_true rfl⟩ (by show 49 < 213; decide) rfl rfl rfl rfl (Nat.le_of_ble_eq_true rfl) dX3_readPaths_1 rfl ?_
  refine x_ic (v := 1) C (by decide) dX3_readPaths_4 rfl ?_
  refine x_istn (lv' := [(2, .int 1), (0, .ref (ad 49)), (1, .int a0)]) C rfl rfl (by decide) rfl dX3_readPaths_5 rfl ?_
  have L6 : ∀ (n : Nat) (x2_3 : Int32) (s4 : gMem) (s5 : gMem), m_X3_readPaths_6 a0 n x2_3 s4 = some (s5) → (wx κ (gGX D ad cy b) (gA (gGX D ad cy b)) 3 s5 44 [(0, .ref (ad 49))] []) → wx κ (gGX D ad cy b) (gA (gGX D ad cy b)) 3 s4 6 [(0, .ref (ad 49)), (1, .int a0), (2, .int x2_3)] [] := by
    clear hM
    intro n
    induction n with
    | zero => intro _ _ _ hM; cases hM
    | succ n ih =>
      intro x2_3 s4 s5 hM kx0
      replace hM : b_X3_readPaths_6 a0 (m_X3_readPaths_6 a0 n) x2_3 s4 = some (s5) := hM
      unfold b_X3_readPaths_6 at hM
      refine x_iln C 2 rfl dX3_readPaths_6 rfl ?_
      refine x_if_eq (tgt := 44) C dX3_readPaths_7 (by decide) rfl (fun hc => ?_) (fun hc => ?_)
      · replace hM := gif_pos hc hM
        cases hM
        exact x_sub [0] rfl (kx0)
      · replace hM := gif_neg hc hM
        refine x_aln C 0 rfl dX3_readPaths_10 rfl ?_
        refine gXg_49_rows C kf_X3_31 dX3_readPaths_11 rfl ?_
        refine x_bi (v := 8) C (by decide) dX3_readPaths_14 rfl ?_
        refine x_ic_ge (tgt := 44) C dX3_readPaths_16 (by decide) rfl (fun hc => ?_) (fun hc => ?_)
        · replace hM := gif_pos hc hM
          cases hM
          exact x_sub [0] rfl (kx0)
        · replace hM := gif_neg hc hM
          refine x_aln C 0 rfl dX3_readPaths_19 rfl ?_
          refine x_iln C 1 rfl dX3_readPaths_20 rfl ?_
          obtain ⟨s7, h6, hM⟩ := gb1_some hM
          refine x_cvv (As := [.int a0]) (rest := []) C E.2.2.2.2.2 1 (c_X3_readPath hG h6) (gBv km_X3_45 kin_X3_readPath ksel_X3_readPath kini_X3 kc_X3_readPath) rfl rfl rfl ⟨rfl, by decide +kernel, by decide +kernel, by decide +kernel⟩ ⟨Nat.le_of_ble_eq_true rfl, Nat.le_of_ble_eq_true rfl⟩ (by show 49 < 213; decide) rfl rfl rfl rfl (Nat.le_of_ble_eq_true rfl) dX3_readPaths_21 rfl ?_
          refine x_aln C 0 rfl dX3_readPaths_24 rfl ?_
          refine x_dup C rfl dX3_readPaths_25 rfl ?_
          refine gXg_49_rows C kf_X3_31 dX3_readPaths_26 rfl ?_
          refine x_ic (v := 1) C (by decide) dX3_readPaths_29 rfl ?_
          refine x_iadd C dX3_readPaths_30 rfl ?_
          obtain ⟨s8, ev, hM⟩ := gnm_ex hM
          refine gXp_49_rows C ev kf_X3_31 dX3_readPaths_31 rfl ?_
          refine x_aln C 0 rfl dX3_readPaths_34 rfl ?_
          refine x_bi (v := 44) C (by decide) dX3_readPaths_35 rfl ?_
          obtain ⟨r11, s10, h9, hM⟩ := gb2_some hM
          refine x_cvi (As := [.int 44]) (rest := []) C E.2.2.2.2.2 1 (c_X3_goesOn hG h9) (gBv km_X3_37 kin_X3_goesOn ksel_X3_goesOn kini_X3 kc_X3_goesOn) rfl rfl rfl ⟨rfl, by decide +kernel, by decide +kernel, by decide +kernel⟩ ⟨Nat.le_of_ble_eq_true rfl, Nat.le_of_ble_eq_true rfl⟩ (by show 49 < 213; decide) rfl rfl rfl rfl (Nat.le_of_ble_eq_true rfl) dX3_readPaths_37 rfl ?_
          refine x_istn (lv' := [(2, .int r11), (0, .ref (ad 49)), (1, .int a0)]) C rfl rfl (by decide) rfl dX3_readPaths_40 rfl ?_
          refine x_goto (tgt := 6) C dX3_readPaths_41 (by decide) ?_
          exact x_sub [1, 2, 0] rfl (ih r11 s10 _ hM kx0)
  obtain ⟨s5, hL12, hM⟩ := gb1_some hM
  refine x_sub [1, 2, 0] rfl (L6 gFU 1 s2 _ hL12 ?_)
  clear L6
  refine x_aln C 0 rfl dX3_readPaths_44 rfl ?_
  obtain ⟨r14, h13, hM⟩ := gb1_some hM
  refine x_cvi (As := []) (rest := []) C E.2.2.2.2.2 0 (c_X3_outcome hG h13) (gBv km_X3_41 kin_X3_outcome ksel_X3_outcome kini_X3 kc_X3_outcome) rfl rfl rfl ⟨rfl, by decide +kernel, by decide +kernel, by decide +kernel⟩ ⟨Nat.le_of_ble_eq_true rfl, Nat.le_of_ble_eq_true rfl⟩ (by show 49 < 213; decide) rfl rfl rfl rfl (Nat.le_of_ble_eq_true rfl) dX3_readPaths_45 rfl ?_
  exact x_iret C E (gs2 hM) dX3_readPaths_48
set_option maxRecDepth 100000 in
set_option maxHeartbeats 4000000 in
theorem c_X1_joinAll {l : Launch} {D : va_G} {ad : Nat → Nat} {cy : Nat → ClassId} {b : Nat} (hG : gInj (gGX D ad cy b))  {σ : gMem} {σ0 : gMem} (hM : m_X1_joinAll  σ = some σ0) : gMv l yX1_joinAll (Cond.code yX1_joinAll cX1_joinAll 3 none :: gBig) { frames := 1, cells := 0, slots := 0, locals := 23 } (gGX D ad cy b) [.ref (ad 1), .ref (ad 49)] σ σ0 := by
  refine gIntro (own := RX1) hG (by decide +kernel) rfl rfl (Nat.le_of_ble_eq_true rfl) (lv := [(0, .ref (ad 1)), (1, .ref (ad 49))]) rfl (fun κ C E => ?_)
  unfold m_X1_joinAll at hM
  refine x_ic (v := 0) C (by decide) dX1_joinAll_0 rfl ?_
  refine x_istn (lv' := [(2, .int 0), (0, .ref (ad 1)), (1, .ref (ad 49))]) C rfl rfl (by decide) rfl dX1_joinAll_1 rfl ?_
  have L2 : ∀ (n : Nat) (x2_1 : Int32) (s2 : gMem) (s3 : gMem), m_X1_joinAll_2 n x2_1 s2 = some (s3) → (wx κ (gGX D ad cy b) (gA (gGX D ad cy b)) 3 s3 38 [] []) → wx κ (gGX D ad cy b) (gA (gGX D ad cy b)) 3 s2 2 [(0, .ref (ad 1)), (1, .ref (ad 49)), (2, .int x2_1)] [] := by
    clear hM
    intro n
    induction n with
    | zero => intro _ _ _ hM; cases hM
    | succ n ih =>
      intro x2_1 s2 s3 hM kx0
      replace hM : b_X1_joinAll_2 (m_X1_joinAll_2 n) x2_1 s2 = some (s3) := hM
      unfold b_X1_joinAll_2 at hM
      refine x_iln C 2 rfl dX1_joinAll_2 rfl ?_
      refine x_aln C 1 rfl dX1_joinAll_3 rfl ?_
      refine gXg_49_rows C kf_X1_76 dX1_joinAll_4 rfl ?_
      refine x_ic_ge (tgt := 38) C dX1_joinAll_7 (by decide) rfl (fun hc => ?_) (fun hc => ?_)
      · replace hM := gif_pos hc hM
        cases hM
        exact x_sub [] rfl (kx0)
      · replace hM := gif_neg hc hM
        refine x_aln C 0 rfl dX1_joinAll_10 rfl ?_
        refine x_aln C 1 rfl dX1_joinAll_11 rfl ?_
        refine gXg_49_firsts C kf_X1_81 dX1_joinAll_12 rfl ?_
        refine x_iln C 2 rfl dX1_joinAll_15 rfl ?_
        obtain ⟨h4, hM⟩ := gck_some hM
        refine gXa_51 C h4 dX1_joinAll_16 rfl ?_
        refine x_aln C 1 rfl dX1_joinAll_17 rfl ?_
        refine gXg_49_seconds C kf_X1_91 dX1_joinAll_18 rfl ?_
        refine x_iln C 2 rfl dX1_joinAll_21 rfl ?_
        obtain ⟨h5, hM⟩ := gck_some hM
        refine gXa_52 C h5 dX1_joinAll_22 rfl ?_
        refine x_aln C 1 rfl dX1_joinAll_23 rfl ?_
        refine gXg_49_lasts C kf_X1_84 dX1_joinAll_24 rfl ?_
        refine x_iln C 2 rfl dX1_joinAll_27 rfl ?_
        obtain ⟨h6, hM⟩ := gck_some hM
        refine gXa_53 C h6 dX1_joinAll_28 rfl ?_
        obtain ⟨s8, h7, hM⟩ := gb1_some hM
        refine x_cvv (As := [.int (s2 51 x2_1.toNatClampNeg), .int (s2 52 x2_1.toNatClampNeg), .int (s2 53 x2_1.toNatClampNeg)]) (rest := []) C E.2.2.2.2.2 3 (c_X1_join hG h7) (gBv km_X1_94 kin_X1_join ksel_X1_join kini_X1 kc_X1_join) rfl rfl rfl ⟨rfl, by decide +kernel, by decide +kernel, by decide +kernel⟩ ⟨Nat.le_of_ble_eq_true rfl, Nat.le_of_ble_eq_true rfl⟩ (by show 1 < 213; decide) rfl rfl rfl rfl (Nat.le_of_ble_eq_true rfl) dX1_joinAll_29 rfl ?_
        obtain ⟨x2_9, ev, hM⟩ := gnm_ex hM
        refine x_iinc (j := 2) (w := 1) (lv' := [(2, .int x2_9), (0, .ref (ad 1)), (1, .ref (ad 49))]) C rfl ev (by decide) (by decide) rfl dX1_joinAll_32 rfl ?_
        refine x_goto (tgt := 2) C dX1_joinAll_35 (by decide) ?_
        exact x_sub [1, 2, 0] rfl (ih x2_9 s8 _ hM kx0)
  obtain ⟨s3, hL10, hM⟩ := gb1_some hM
  refine x_sub [1, 2, 0] rfl (L2 gFU 0 σ _ hL10 ?_)
  clear L2
  exact x_vret C E (gs1 hM) dX1_joinAll_38
set_option maxRecDepth 100000 in
set_option maxHeartbeats 4000000 in
theorem c_X6_paths {l : Launch} {D : va_G} {ad : Nat → Nat} {cy : Nat → ClassId} {b : Nat} (hG : gInj (gGX D ad cy b))  {σ : gMem} {r0 : Int32} {σ0 : gMem} (hM : m_X6_paths  σ = some (r0, σ0)) : gMi l yX6_paths (Cond.code yX6_paths cX6_paths 2 (some .int) :: gBig) { frames := 4, cells := 0, slots := 0, locals := 89 } (gGX D ad cy b) [.ref (ad 0)] σ r0 σ0 := by
  refine gIntro (own := RX6) hG (by decide +kernel) rfl rfl (Nat.le_of_ble_eq_true rfl) (lv := [(0, .ref (ad 0))]) rfl (fun κ C E => ?_)
  unfold m_X6_paths at hM
  refine x_aln C 0 rfl dX6_paths_0 rfl ?_
  refine gXg_0_tape C kf_X6_22 dX6_paths_1 rfl ?_
  refine x_aln C 0 rfl dX6_paths_4 rfl ?_
  refine gXg_0_now C kf_X6_10 dX6_paths_5 rfl ?_
  refine gXg_1_places C kf_X6_58 dX6_paths_8 rfl ?_
  obtain ⟨r3, s2, h1, hM⟩ := gb2_some hM
  refine x_cvi (As := [.int (σ 1 0)]) (rest := []) C E.2.2.2.2.2 1 (c_X3_readPaths hG h1) (gBv km_X6_154 kin_X3_readPaths ksel_X3_readPaths kini_X3 kc_X3_readPaths) rfl rfl rfl ⟨rfl, by decide +kernel, by decide +kernel, by decide +kernel⟩ ⟨Nat.le_of_ble_eq_true rfl, Nat.le_of_ble_eq_true rfl⟩ (by show 49 < 213; decide) rfl rfl rfl rfl (Nat.le_of_ble_eq_true rfl) dX6_paths_11 rfl ?_
  refine x_istn (lv' := [(1, .int r3), (0, .ref (ad 0))]) C rfl rfl (by decide) rfl dX6_paths_14 rfl ?_
  refine x_iln C 0 rfl dX6_paths_15 rfl ?_
  refine x_if_le (tgt := 30) C dX6_paths_16 (by decide) rfl (fun hc => ?_) (fun hc => ?_)
  · replace hM := gif_pos hc hM
    refine x_aln C 1 rfl dX6_paths_30 rfl ?_
    refine gXg_0_tape C kf_X6_22 dX6_paths_31 rfl ?_
    refine x_ic (v := 0) C (by decide) dX6_paths_34 rfl ?_
    obtain ⟨s4, ev, hM⟩ := gnm_ex hM
    refine gXp_49_length C ev kf_X6_139 dX6_paths_35 rfl ?_
    refine x_iln C 0 rfl dX6_paths_38 rfl ?_
    exact x_iret C E (gs2 hM) dX6_paths_39
  · replace hM := gif_neg hc hM
    refine x_aln C 1 rfl dX6_paths_19 rfl ?_
    refine gXg_0_now C kf_X6_10 dX6_paths_20 rfl ?_
    refine x_aln C 1 rfl dX6_paths_23 rfl ?_
    refine gXg_0_tape C kf_X6_22 dX6_paths_24 rfl ?_
    obtain ⟨s6, h5, hM⟩ := gb1_some hM
    refine x_cvv (As := [.ref (ad 49)]) (rest := []) C E.2.2.2.2.2 1 (c_X1_joinAll hG h5) (gBv km_X6_157 kin_X1_joinAll ksel_X1_joinAll kini_X1 kc_X1_joinAll) rfl rfl rfl ⟨rfl, by decide +kernel, by decide +kernel, by decide +kernel⟩ ⟨Nat.le_of_ble_eq_true rfl, Nat.le_of_ble_eq_true rfl⟩ (by show 1 < 213; decide) rfl rfl rfl rfl (Nat.le_of_ble_eq_true rfl) dX6_paths_27 rfl ?_
    refine x_aln C 1 rfl dX6_paths_30 rfl ?_
    refine gXg_0_tape C kf_X6_22 dX6_paths_31 rfl ?_
    refine x_ic (v := 0) C (by decide) dX6_paths_34 rfl ?_
    obtain ⟨s7, ev, hM⟩ := gnm_ex hM
    refine gXp_49_length C ev kf_X6_139 dX6_paths_35 rfl ?_
    refine x_iln C 0 rfl dX6_paths_38 rfl ?_
    exact x_iret C E (gs2 hM) dX6_paths_39
set_option maxRecDepth 100000 in
set_option maxHeartbeats 4000000 in
theorem c_X1_countPaths {l : Launch} {D : va_G} {ad : Nat → Nat} {cy : Nat → ClassId} {b : Nat} (hG : gInj (gGX D ad cy b))  {σ : gMem} {r0 : Int32} (hM : m_X1_countPaths  σ = some r0) : gMi l yX1_countPaths (Cond.code yX1_countPaths cX1_countPaths 4 (some .int) :: gBig) { frames := 0, cells := 0, slots := 0, locals := 0 } (gGX D ad cy b) [.ref (ad 1)] σ r0 σ := by
  refine gIntro (own := RX1) hG (by decide +kernel) rfl rfl (Nat.le_of_ble_eq_true rfl) (lv := [(0, .ref (ad 1))]) rfl (fun κ C E => ?_)
  unfold m_X1_countPaths at hM
  refine x_ic (v := 0) C (by decide) dX1_countPaths_0 rfl ?_
  refine x_istn (lv' := [(1, .int 0), (0, .ref (ad 1))]) C rfl rfl (by decide) rfl dX1_countPaths_1 rfl ?_
  refine x_ic (v := 0) C (by decide) dX1_countPaths_2 rfl ?_
  refine x_istn (lv' := [(2, .int 0), (1, .int 0), (0, .ref (ad 1))]) C rfl rfl (by decide) rfl dX1_countPaths_3 rfl ?_
  have L4 : ∀ (n : Nat) (x1_1 : Int32) (x2_2 : Int32) (x1_3 : Int32), m_X1_countPaths_4 σ n x1_1 x2_2 = some (x1_3) → (wx κ (gGX D ad cy b) (gA (gGX D ad cy b)) 4 σ 45 [(1, .int x1_3)] []) → wx κ (gGX D ad cy b) (gA (gGX D ad cy b)) 4 σ 4 [(0, .ref (ad 1)), (1, .int x1_1), (2, .int x2_2)] [] := by
    clear hM
    intro n
    induction n with
    | zero => intro _ _ _ hM; cases hM
    | succ n ih =>
      intro x1_1 x2_2 x1_3 hM kx0
      replace hM : b_X1_countPaths_4 σ (m_X1_countPaths_4 σ n) x1_1 x2_2 = some (x1_3) := hM
      unfold b_X1_countPaths_4 at hM
      refine x_iln C 2 rfl dX1_countPaths_4 rfl ?_
      refine x_aln C 0 rfl dX1_countPaths_5 rfl ?_
      refine gXg_1_places C kf_X1_51 dX1_countPaths_6 rfl ?_
      refine x_ic_ge (tgt := 45) C dX1_countPaths_9 (by decide) rfl (fun hc => ?_) (fun hc => ?_)
      · replace hM := gif_pos hc hM
        cases hM
        exact x_sub [1] rfl (kx0)
      · replace hM := gif_neg hc hM
        refine x_ic (v := 0) C (by decide) dX1_countPaths_12 rfl ?_
        refine x_istn (lv' := [(3, .int 0), (0, .ref (ad 1)), (1, .int x1_1), (2, .int x2_2)]) C rfl rfl (by decide) rfl dX1_countPaths_13 rfl ?_
        have L14 : ∀ (n : Nat) (x1_4 : Int32) (x3_5 : Int32) (x1_6 : Int32), m_X1_countPaths_14 x2_2 σ n x1_4 x3_5 = some (x1_6) → (wx κ (gGX D ad cy b) (gA (gGX D ad cy b)) 4 σ 39 [(0, .ref (ad 1)), (1, .int x1_6), (2, .int x2_2)] []) → wx κ (gGX D ad cy b) (gA (gGX D ad cy b)) 4 σ 14 [(0, .ref (ad 1)), (1, .int x1_4), (2, .int x2_2), (3, .int x3_5)] [] := by
          clear hM
          intro n
          induction n with
          | zero => intro _ _ _ hM; cases hM
          | succ n ih =>
            intro x1_4 x3_5 x1_6 hM kx0
            replace hM : b_X1_countPaths_14 x2_2 σ (m_X1_countPaths_14 x2_2 σ n) x1_4 x3_5 = some (x1_6) := hM
            unfold b_X1_countPaths_14 at hM
            refine x_iln C 3 rfl dX1_countPaths_14 rfl ?_
            refine x_iln C 2 rfl dX1_countPaths_15 rfl ?_
            refine x_ic_ge (tgt := 39) C dX1_countPaths_16 (by decide) rfl (fun hc => ?_) (fun hc => ?_)
            · replace hM := gif_pos hc hM
              cases hM
              exact x_sub [0, 1, 2] rfl (kx0)
            · replace hM := gif_neg hc hM
              refine x_aln C 0 rfl dX1_countPaths_19 rfl ?_
              refine gXg_1_minutes C kf_X1_23 dX1_countPaths_20 rfl ?_
              refine x_iln C 2 rfl dX1_countPaths_23 rfl ?_
              obtain ⟨h7, hM⟩ := gck_some hM
              refine gXo_5 C h7 dX1_countPaths_24 rfl ?_
              refine x_iln C 3 rfl dX1_countPaths_25 rfl ?_
              obtain ⟨h8, hM⟩ := gck_some hM
              refine gXa_rown C (inb_lt h7) h8 dX1_countPaths_26 rfl ?_
              refine x_if_le (tgt := 33) C dX1_countPaths_27 (by decide) rfl (fun hc => ?_) (fun hc => ?_)
              · replace hM := gif_pos hc hM
                obtain ⟨x3_9, ev, hM⟩ := gnm_ex hM
                refine x_iinc (j := 3) (w := 1) (lv' := [(3, .int x3_9), (0, .ref (ad 1)), (1, .int x1_4), (2, .int x2_2)]) C rfl ev (by decide) (by decide) rfl dX1_countPaths_33 rfl ?_
                refine x_goto (tgt := 14) C dX1_countPaths_36 (by decide) ?_
                exact x_sub [1, 2, 3, 0] rfl (ih x1_4 x3_9 _ hM kx0)
              · replace hM := gif_neg hc hM
                obtain ⟨x1_10, ev, hM⟩ := gnm_ex hM
                refine x_iinc (j := 1) (w := 1) (lv' := [(1, .int x1_10), (0, .ref (ad 1)), (2, .int x2_2), (3, .int x3_5)]) C rfl ev (by decide) (by decide) rfl dX1_countPaths_30 rfl ?_
                obtain ⟨x3_11, ev, hM⟩ := gnm_ex hM
                refine x_iinc (j := 3) (w := 1) (lv' := [(3, .int x3_11), (1, .int x1_10), (0, .ref (ad 1)), (2, .int x2_2)]) C rfl ev (by decide) (by decide) rfl dX1_countPaths_33 rfl ?_
                refine x_goto (tgt := 14) C dX1_countPaths_36 (by decide) ?_
                exact x_sub [2, 1, 3, 0] rfl (ih x1_10 x3_11 _ hM kx0)
        obtain ⟨x1_6, hL12, hM⟩ := gb1_some hM
        refine x_sub [1, 2, 3, 0] rfl (L14 gFU x1_1 0 _ hL12 ?_)
        clear L14
        obtain ⟨x2_13, ev, hM⟩ := gnm_ex hM
        refine x_iinc (j := 2) (w := 1) (lv' := [(2, .int x2_13), (0, .ref (ad 1)), (1, .int x1_6)]) C rfl ev (by decide) (by decide) rfl dX1_countPaths_39 rfl ?_
        refine x_goto (tgt := 4) C dX1_countPaths_42 (by decide) ?_
        exact x_sub [1, 2, 0] rfl (ih x1_6 x2_13 _ hM kx0)
  obtain ⟨x1_3, hL14, hM⟩ := gb1_some hM
  refine x_sub [2, 1, 0] rfl (L4 gFU 0 0 _ hL14 ?_)
  clear L4
  refine x_iln C 0 rfl dX1_countPaths_45 rfl ?_
  exact x_iret C E ⟨gs1 hM, rfl⟩ dX1_countPaths_46
set_option maxRecDepth 100000 in
set_option maxHeartbeats 4000000 in
theorem c_X6_count {l : Launch} {D : va_G} {ad : Nat → Nat} {cy : Nat → ClassId} {b : Nat} (hG : gInj (gGX D ad cy b)) {a0 : Int32} {σ : gMem} {r0 : Int32} (hM : m_X6_count a0 σ = some r0) : gMi l yX6_count (Cond.code yX6_count cX6_count 2 (some .int) :: gBig) { frames := 1, cells := 0, slots := 0, locals := 23 } (gGX D ad cy b) [.ref (ad 0), .int a0] σ r0 σ := by
  refine gIntro (own := RX6) hG (by decide +kernel) rfl rfl (Nat.le_of_ble_eq_true rfl) (lv := [(0, .ref (ad 0)), (1, .int a0)]) rfl (fun κ C E => ?_)
  unfold m_X6_count at hM
  refine x_iln C 1 rfl dX6_count_0 rfl ?_
  by_cases h1 : a0 = 0
  · have hM := gif_pos h1 hM
    refine x_swin (tgt := 36) C dX6_count_1 (by rw [h1]; decide) (by rw [h1]; decide) (by rw [h1]; rfl) (by decide) ?_
    refine x_aln C 0 rfl dX6_count_36 rfl ?_
    refine gXg_0_now C kf_X6_10 dX6_count_37 rfl ?_
    refine gXg_1_places C kf_X6_58 dX6_count_40 rfl ?_
    exact x_iret C E ⟨gs1 hM, rfl⟩ dX6_count_43
  replace hM := gif_neg h1 hM
  by_cases h4 : a0 = 1
  · have hM := gif_pos h4 hM
    refine x_swin (tgt := 44) C dX6_count_1 (by rw [h4]; decide) (by rw [h4]; decide) (by rw [h4]; rfl) (by decide) ?_
    refine x_aln C 0 rfl dX6_count_44 rfl ?_
    refine gXg_0_now C kf_X6_10 dX6_count_45 rfl ?_
    obtain ⟨r3, h2, hM⟩ := gb1_some hM
    refine x_cvi (As := []) (rest := []) C E.2.2.2.2.2 0 (c_X1_countPaths hG h2) (gBv km_X6_160 kin_X1_countPaths ksel_X1_countPaths kini_X1 kc_X1_countPaths) rfl rfl rfl ⟨rfl, by decide +kernel, by decide +kernel, by decide +kernel⟩ ⟨Nat.le_of_ble_eq_true rfl, Nat.le_of_ble_eq_true rfl⟩ (by show 1 < 213; decide) rfl rfl rfl rfl (Nat.le_of_ble_eq_true rfl) dX6_count_48 rfl ?_
    exact x_iret C E ⟨gs1 hM, rfl⟩ dX6_count_51
  replace hM := gif_neg h4 hM
  by_cases h5 : a0 = 2
  · have hM := gif_pos h5 hM
    refine x_swin (tgt := 52) C dX6_count_1 (by rw [h5]; decide) (by rw [h5]; decide) (by rw [h5]; rfl) (by decide) ?_
    refine x_aln C 0 rfl dX6_count_52 rfl ?_
    refine gXg_0_now C kf_X6_10 dX6_count_53 rfl ?_
    refine gXg_1_people C kf_X6_113 dX6_count_56 rfl ?_
    exact x_iret C E ⟨gs1 hM, rfl⟩ dX6_count_59
  replace hM := gif_neg h5 hM
  by_cases h6 : a0 = 3
  · have hM := gif_pos h6 hM
    refine x_swin (tgt := 60) C dX6_count_1 (by rw [h6]; decide) (by rw [h6]; decide) (by rw [h6]; rfl) (by decide) ?_
    refine x_aln C 0 rfl dX6_count_60 rfl ?_
    refine gXg_0_now C kf_X6_10 dX6_count_61 rfl ?_
    refine gXg_1_needs C kf_X6_163 dX6_count_64 rfl ?_
    exact x_iret C E ⟨gs1 hM, rfl⟩ dX6_count_67
  replace hM := gif_neg h6 hM
  by_cases h7 : a0 = 4
  · have hM := gif_pos h7 hM
    refine x_swin (tgt := 68) C dX6_count_1 (by rw [h7]; decide) (by rw [h7]; decide) (by rw [h7]; rfl) (by decide) ?_
    refine x_aln C 0 rfl dX6_count_68 rfl ?_
    refine gXg_0_now C kf_X6_10 dX6_count_69 rfl ?_
    refine gXg_1_yearsGone C kf_X6_166 dX6_count_72 rfl ?_
    exact x_iret C E ⟨gs1 hM, rfl⟩ dX6_count_75
  replace hM := gif_neg h7 hM
  refine x_swout (tgt := 76) C dX6_count_1 (by have := gnI (k := 0) (n := 0) h1 (by decide); have := gnI (k := 1) (n := 1) h4 (by decide); have := gnI (k := 2) (n := 2) h5 (by decide); have := gnI (k := 3) (n := 3) h6 (by decide); have := gnI (k := 4) (n := 4) h7 (by decide); omega) (by decide) ?_
  refine x_ic (v := (-1)) C (by decide) dX6_count_76 rfl ?_
  exact x_iret C E ⟨gs1 hM, rfl⟩ dX6_count_77
set_option maxRecDepth 100000 in
set_option maxHeartbeats 4000000 in
theorem c_X1_waterOver {l : Launch} {D : va_G} {ad : Nat → Nat} {cy : Nat → ClassId} {b : Nat} (hG : gInj (gGX D ad cy b)) {a0 : Int32} {a1 : Int32} {a2 : Int32} {σ : gMem} {r0 : Int32} (hM : m_X1_waterOver a0 a1 a2 σ = some r0) : gMi l yX1_waterOver (Cond.code yX1_waterOver cX1_waterOver 4 (some .int) :: gBig) { frames := 1, cells := 0, slots := 0, locals := 13 } (gGX D ad cy b) [.ref (ad 1), .int a0, .int a1, .int a2] σ r0 σ := by
  refine gIntro (own := RX1) hG (by decide +kernel) rfl rfl (Nat.le_of_ble_eq_true rfl) (lv := [(0, .ref (ad 1)), (1, .int a0), (2, .int a1), (3, .int a2)]) rfl (fun κ C E => ?_)
  unfold m_X1_waterOver at hM
  refine x_ic (v := 0) C (by decide) dX1_waterOver_0 rfl ?_
  refine x_iln C 1 rfl dX1_waterOver_1 rfl ?_
  refine x_aln C 0 rfl dX1_waterOver_2 rfl ?_
  refine gXg_1_tideAt C kf_X1_26 dX1_waterOver_3 rfl ?_
  refine x_iln C 2 rfl dX1_waterOver_6 rfl ?_
  obtain ⟨h1, hM⟩ := gck_some hM
  refine gXa_6 C h1 dX1_waterOver_7 rfl ?_
  refine x_iadd C dX1_waterOver_8 rfl ?_
  refine x_iln C 3 rfl dX1_waterOver_9 rfl ?_
  refine x_iadd C dX1_waterOver_10 rfl ?_
  refine x_mmax C (gBc km_X1_101) (gBc kst_J9_max_7cf53) (gBc kini_J9) (gBc kc_J9_max_7cf53) (by decide) (Nat.le_of_ble_eq_true rfl) dX1_waterOver_11 rfl ?_
  exact x_iret C E ⟨gs1 hM, rfl⟩ dX1_waterOver_14
set_option maxRecDepth 100000 in
set_option maxHeartbeats 4000000 in
theorem c_X1_waterAt {l : Launch} {D : va_G} {ad : Nat → Nat} {cy : Nat → ClassId} {b : Nat} (hG : gInj (gGX D ad cy b)) {a0 : Int32} {a1 : Int32} {σ : gMem} {r0 : Int32} (hM : m_X1_waterAt a0 a1 σ = some r0) : gMi l yX1_waterAt (Cond.code yX1_waterAt cX1_waterAt 3 (some .int) :: gBig) { frames := 2, cells := 0, slots := 0, locals := 36 } (gGX D ad cy b) [.ref (ad 1), .int a0, .int a1] σ r0 σ := by
  refine gIntro (own := RX1) hG (by decide +kernel) rfl rfl (Nat.le_of_ble_eq_true rfl) (lv := [(0, .ref (ad 1)), (1, .int a0), (2, .int a1)]) rfl (fun κ C E => ?_)
  unfold m_X1_waterAt at hM
  refine x_aln C 0 rfl dX1_waterAt_0 rfl ?_
  refine x_aln C 0 rfl dX1_waterAt_1 rfl ?_
  refine gXg_1_depths C kf_X1_9 dX1_waterAt_2 rfl ?_
  refine x_iln C 1 rfl dX1_waterAt_5 rfl ?_
  obtain ⟨h1, hM⟩ := gck_some hM
  refine gXa_2 C h1 dX1_waterAt_6 rfl ?_
  refine x_iln C 2 rfl dX1_waterAt_7 rfl ?_
  refine x_aln C 0 rfl dX1_waterAt_8 rfl ?_
  refine gXg_1_floodTold C kf_X1_54 dX1_waterAt_9 rfl ?_
  obtain ⟨r3, h2, hM⟩ := gb1_some hM
  refine x_cvi (As := [.int (σ 2 a0.toNatClampNeg), .int a1, .int (σ 1 6)]) (rest := []) C E.2.2.2.2.2 3 (c_X1_waterOver hG h2) (gBv km_X1_109 kin_X1_waterOver ksel_X1_waterOver kini_X1 kc_X1_waterOver) rfl rfl rfl ⟨rfl, by decide +kernel, by decide +kernel, by decide +kernel⟩ ⟨Nat.le_of_ble_eq_true rfl, Nat.le_of_ble_eq_true rfl⟩ (by show 1 < 213; decide) rfl rfl rfl rfl (Nat.le_of_ble_eq_true rfl) dX1_waterAt_12 rfl ?_
  exact x_iret C E ⟨gs1 hM, rfl⟩ dX1_waterAt_15
set_option maxRecDepth 100000 in
set_option maxHeartbeats 4000000 in
theorem c_X6_water {l : Launch} {D : va_G} {ad : Nat → Nat} {cy : Nat → ClassId} {b : Nat} (hG : gInj (gGX D ad cy b)) {a0 : Int32} {a1 : Int32} {σ : gMem} {r0 : Int32} (hM : m_X6_water a0 a1 σ = some r0) : gMi l yX6_water (Cond.code yX6_water cX6_water 3 (some .int) :: gBig) { frames := 3, cells := 0, slots := 0, locals := 58 } (gGX D ad cy b) [.ref (ad 0), .int a0, .int a1] σ r0 σ := by
  refine gIntro (own := RX6) hG (by decide +kernel) rfl rfl (Nat.le_of_ble_eq_true rfl) (lv := [(0, .ref (ad 0)), (1, .int a0), (2, .int a1)]) rfl (fun κ C E => ?_)
  unfold m_X6_water at hM
  refine x_aln C 0 rfl dX6_water_0 rfl ?_
  refine gXg_0_now C kf_X6_10 dX6_water_1 rfl ?_
  refine x_iln C 1 rfl dX6_water_4 rfl ?_
  obtain ⟨r2, h1, hM⟩ := gb1_some hM
  refine x_cvi (As := [.int a0]) (rest := []) C E.2.2.2.2.2 1 (c_X1_hasPlace hG h1) (gBv km_X6_66 kin_X1_hasPlace ksel_X1_hasPlace kini_X1 kc_X1_hasPlace) rfl rfl rfl ⟨rfl, by decide +kernel, by decide +kernel, by decide +kernel⟩ ⟨Nat.le_of_ble_eq_true rfl, Nat.le_of_ble_eq_true rfl⟩ (by show 1 < 213; decide) rfl rfl rfl rfl (Nat.le_of_ble_eq_true rfl) dX6_water_5 rfl ?_
  refine x_if_eq (tgt := 18) C dX6_water_8 (by decide) rfl (fun hc => ?_) (fun hc => ?_)
  · replace hM := gif_pos hc hM
    refine x_ic (v := (-1)) C (by decide) dX6_water_18 rfl ?_
    exact x_iret C E ⟨gs1 hM, rfl⟩ dX6_water_19
  · replace hM := gif_neg hc hM
    refine x_iln C 2 rfl dX6_water_11 rfl ?_
    obtain ⟨r4, h3, hM⟩ := gb1_some hM
    refine x_csi (As := [.int a1]) (rest := []) C E.2.2.2.2.2 1 (c_X6_isHour hG h3) (gBs km_X6_101 kst_X6_isHour kini_X6 kc_X6_isHour) rfl rfl rfl ⟨by decide +kernel, by decide +kernel, by decide +kernel⟩ ⟨Nat.le_of_ble_eq_true rfl, Nat.le_of_ble_eq_true rfl⟩ rfl rfl (Nat.le_of_ble_eq_true rfl) dX6_water_12 rfl ?_
    refine x_if_ne (tgt := 20) C dX6_water_15 (by decide) rfl (fun hc => ?_) (fun hc => ?_)
    · replace hM := gif_neg hc hM
      refine x_aln C 0 rfl dX6_water_20 rfl ?_
      refine gXg_0_now C kf_X6_10 dX6_water_21 rfl ?_
      refine x_iln C 1 rfl dX6_water_24 rfl ?_
      refine x_iln C 2 rfl dX6_water_25 rfl ?_
      obtain ⟨r6, h5, hM⟩ := gb1_some hM
      refine x_cvi (As := [.int a0, .int a1]) (rest := []) C E.2.2.2.2.2 2 (c_X1_waterAt hG h5) (gBv km_X6_169 kin_X1_waterAt ksel_X1_waterAt kini_X1 kc_X1_waterAt) rfl rfl rfl ⟨rfl, by decide +kernel, by decide +kernel, by decide +kernel⟩ ⟨Nat.le_of_ble_eq_true rfl, Nat.le_of_ble_eq_true rfl⟩ (by show 1 < 213; decide) rfl rfl rfl rfl (Nat.le_of_ble_eq_true rfl) dX6_water_26 rfl ?_
      exact x_iret C E ⟨gs1 hM, rfl⟩ dX6_water_29
    · replace hM := gif_pos hc hM
      refine x_ic (v := (-1)) C (by decide) dX6_water_18 rfl ?_
      exact x_iret C E ⟨gs1 hM, rfl⟩ dX6_water_19
set_option maxRecDepth 100000 in
set_option maxHeartbeats 4000000 in
theorem c_X1_fits {l : Launch} {D : va_G} {ad : Nat → Nat} {cy : Nat → ClassId} {b : Nat} (hG : gInj (gGX D ad cy b)) {a0 : Int32} {a1 : Int32} {σ : gMem} {r0 : Int32} (hM : m_X1_fits a0 a1 σ = some r0) : gMi l yX1_fits (Cond.code yX1_fits cX1_fits 3 (some .boolean) :: gBig) { frames := 0, cells := 0, slots := 0, locals := 0 } (gGX D ad cy b) [.ref (ad 1), .int a0, .int a1] σ r0 σ := by
  refine gIntro (own := RX1) hG (by decide +kernel) rfl rfl (Nat.le_of_ble_eq_true rfl) (lv := [(0, .ref (ad 1)), (1, .int a0), (2, .int a1)]) rfl (fun κ C E => ?_)
  unfold m_X1_fits at hM
  refine x_iln C 2 rfl dX1_fits_0 rfl ?_
  refine x_iln C 1 rfl dX1_fits_1 rfl ?_
  refine x_ic_gt (tgt := 19) C dX1_fits_2 (by decide) rfl (fun hc => ?_) (fun hc => ?_)
  · replace hM := gif_pos hc hM
    refine x_ic (v := 0) C (by decide) dX1_fits_19 rfl ?_
    exact x_zret C E (by decide) ⟨gs1 hM, rfl⟩ dX1_fits_20
  · replace hM := gif_neg hc hM
    refine x_iln C 1 rfl dX1_fits_5 rfl ?_
    refine x_iln C 2 rfl dX1_fits_6 rfl ?_
    refine x_isub C dX1_fits_7 rfl ?_
    refine x_aln C 0 rfl dX1_fits_8 rfl ?_
    refine gXg_1_reach C kf_X1_29 dX1_fits_9 rfl ?_
    refine x_ic_gt (tgt := 19) C dX1_fits_12 (by decide) rfl (fun hc => ?_) (fun hc => ?_)
    · replace hM := gif_pos hc hM
      refine x_ic (v := 0) C (by decide) dX1_fits_19 rfl ?_
      exact x_zret C E (by decide) ⟨gs1 hM, rfl⟩ dX1_fits_20
    · replace hM := gif_neg hc hM
      refine x_ic (v := 1) C (by decide) dX1_fits_15 rfl ?_
      refine x_goto (tgt := 20) C dX1_fits_16 (by decide) ?_
      exact x_zret C E (by decide) ⟨gs1 hM, rfl⟩ dX1_fits_20
set_option maxRecDepth 100000 in
set_option maxHeartbeats 4000000 in
theorem c_X1_bears {l : Launch} {D : va_G} {ad : Nat → Nat} {cy : Nat → ClassId} {b : Nat} (hG : gInj (gGX D ad cy b)) {a0 : Int32} {a1 : Int32} {a2 : Int32} {a3 : Int32} {σ : gMem} {r0 : Int32} (hM : m_X1_bears a0 a1 a2 a3 σ = some r0) : gMi l yX1_bears (Cond.code yX1_bears cX1_bears 5 (some .boolean) :: gBig) { frames := 2, cells := 0, slots := 0, locals := 36 } (gGX D ad cy b) [.ref (ad 1), .int a0, .int a1, .int a2, .int a3] σ r0 σ := by
  refine gIntro (own := RX1) hG (by decide +kernel) rfl rfl (Nat.le_of_ble_eq_true rfl) (lv := [(0, .ref (ad 1)), (1, .int a0), (2, .int a1), (3, .int a2), (4, .int a3)]) rfl (fun κ C E => ?_)
  unfold m_X1_bears at hM
  refine x_iln C 1 rfl dX1_bears_0 rfl ?_
  refine x_ic (v := 1) C (by decide) dX1_bears_1 rfl ?_
  refine x_ic_ne (tgt := 19) C dX1_bears_2 (by decide) rfl (fun hc => ?_) (fun hc => ?_)
  · replace hM := gif_neg hc hM
    refine x_aln C 0 rfl dX1_bears_19 rfl ?_
    refine x_aln C 0 rfl dX1_bears_20 rfl ?_
    refine x_iln C 1 rfl dX1_bears_21 rfl ?_
    refine x_iln C 2 rfl dX1_bears_22 rfl ?_
    refine x_iln C 3 rfl dX1_bears_23 rfl ?_
    obtain ⟨r2, h1, hM⟩ := gb1_some hM
    refine x_cvi (As := [.int a0, .int a1, .int a2]) (rest := [.ref (ad 1)]) C E.2.2.2.2.2 3 (c_X1_lengthByKind hG h1) (gBv km_X1_113 kin_X1_lengthByKind ksel_X1_lengthByKind kini_X1 kc_X1_lengthByKind) rfl rfl rfl ⟨rfl, by decide +kernel, by decide +kernel, by decide +kernel⟩ ⟨Nat.le_of_ble_eq_true rfl, Nat.le_of_ble_eq_true rfl⟩ (by show 1 < 213; decide) rfl rfl rfl rfl (Nat.le_of_ble_eq_true rfl) dX1_bears_24 rfl ?_
    refine x_il C 4 rfl dX1_bears_27 rfl ?_
    obtain ⟨r4, h3, hM⟩ := gb1_some hM
    refine x_cvi (As := [.int r2, .int a3]) (rest := []) C E.2.2.2.2.2 2 (c_X1_fits hG h3) (gBv km_X1_116 kin_X1_fits ksel_X1_fits kini_X1 kc_X1_fits) rfl rfl rfl ⟨rfl, by decide +kernel, by decide +kernel, by decide +kernel⟩ ⟨Nat.le_of_ble_eq_true rfl, Nat.le_of_ble_eq_true rfl⟩ (by show 1 < 213; decide) rfl rfl rfl rfl (Nat.le_of_ble_eq_true rfl) dX1_bears_29 rfl ?_
    obtain ⟨h5, hM⟩ := gck_some hM
    exact x_zret C E h5 ⟨gs1 hM, rfl⟩ dX1_bears_32
  · replace hM := gif_pos hc hM
    refine x_aln C 0 rfl dX1_bears_5 rfl ?_
    refine x_iln C 2 rfl dX1_bears_6 rfl ?_
    refine x_ic (v := 2) C (by decide) dX1_bears_7 rfl ?_
    refine x_idiv C (by decide) dX1_bears_8 rfl ?_
    refine x_il C 4 rfl dX1_bears_9 rfl ?_
    obtain ⟨r7, h6, hM⟩ := gb1_some hM
    refine x_cvi (As := [.int (a1 / 2), .int a3]) (rest := []) C E.2.2.2.2.2 2 (c_X1_fits hG h6) (gBv km_X1_116 kin_X1_fits ksel_X1_fits kini_X1 kc_X1_fits) rfl rfl rfl ⟨rfl, by decide +kernel, by decide +kernel, by decide +kernel⟩ ⟨Nat.le_of_ble_eq_true rfl, Nat.le_of_ble_eq_true rfl⟩ (by show 1 < 213; decide) rfl rfl rfl rfl (Nat.le_of_ble_eq_true rfl) dX1_bears_11 rfl ?_
    refine x_if_eq (tgt := 19) C dX1_bears_14 (by decide) rfl (fun hc => ?_) (fun hc => ?_)
    · replace hM := gif_pos hc hM
      refine x_aln C 0 rfl dX1_bears_19 rfl ?_
      refine x_aln C 0 rfl dX1_bears_20 rfl ?_
      refine x_iln C 1 rfl dX1_bears_21 rfl ?_
      refine x_iln C 2 rfl dX1_bears_22 rfl ?_
      refine x_iln C 3 rfl dX1_bears_23 rfl ?_
      obtain ⟨r9, h8, hM⟩ := gb1_some hM
      refine x_cvi (As := [.int a0, .int a1, .int a2]) (rest := [.ref (ad 1)]) C E.2.2.2.2.2 3 (c_X1_lengthByKind hG h8) (gBv km_X1_113 kin_X1_lengthByKind ksel_X1_lengthByKind kini_X1 kc_X1_lengthByKind) rfl rfl rfl ⟨rfl, by decide +kernel, by decide +kernel, by decide +kernel⟩ ⟨Nat.le_of_ble_eq_true rfl, Nat.le_of_ble_eq_true rfl⟩ (by show 1 < 213; decide) rfl rfl rfl rfl (Nat.le_of_ble_eq_true rfl) dX1_bears_24 rfl ?_
      refine x_il C 4 rfl dX1_bears_27 rfl ?_
      obtain ⟨r11, h10, hM⟩ := gb1_some hM
      refine x_cvi (As := [.int r9, .int a3]) (rest := []) C E.2.2.2.2.2 2 (c_X1_fits hG h10) (gBv km_X1_116 kin_X1_fits ksel_X1_fits kini_X1 kc_X1_fits) rfl rfl rfl ⟨rfl, by decide +kernel, by decide +kernel, by decide +kernel⟩ ⟨Nat.le_of_ble_eq_true rfl, Nat.le_of_ble_eq_true rfl⟩ (by show 1 < 213; decide) rfl rfl rfl rfl (Nat.le_of_ble_eq_true rfl) dX1_bears_29 rfl ?_
      obtain ⟨h12, hM⟩ := gck_some hM
      exact x_zret C E h12 ⟨gs1 hM, rfl⟩ dX1_bears_32
    · replace hM := gif_neg hc hM
      refine x_ic (v := 1) C (by decide) dX1_bears_17 rfl ?_
      exact x_zret C E (by decide) ⟨gs1 hM, rfl⟩ dX1_bears_18
set_option maxRecDepth 100000 in
set_option maxHeartbeats 4000000 in
theorem c_X1_standsAt {l : Launch} {D : va_G} {ad : Nat → Nat} {cy : Nat → ClassId} {b : Nat} (hG : gInj (gGX D ad cy b)) {a0 : Int32} {a1 : Int32} {a2 : Int32} {σ : gMem} {r0 : Int32} (hM : m_X1_standsAt a0 a1 a2 σ = some r0) : gMi l yX1_standsAt (Cond.code yX1_standsAt cX1_standsAt 4 (some .boolean) :: gBig) { frames := 3, cells := 0, slots := 0, locals := 60 } (gGX D ad cy b) [.ref (ad 1), .int a0, .int a1, .int a2] σ r0 σ := by
  refine gIntro (own := RX1) hG (by decide +kernel) rfl rfl (Nat.le_of_ble_eq_true rfl) (lv := [(0, .ref (ad 1)), (1, .int a0), (2, .int a1), (3, .int a2)]) rfl (fun κ C E => ?_)
  unfold m_X1_standsAt at hM
  refine x_aln C 0 rfl dX1_standsAt_0 rfl ?_
  refine x_aln C 0 rfl dX1_standsAt_1 rfl ?_
  refine gXg_1_kinds C kf_X1_33 dX1_standsAt_2 rfl ?_
  refine x_iln C 1 rfl dX1_standsAt_5 rfl ?_
  obtain ⟨h1, hM⟩ := gck_some hM
  refine gXa_7 C h1 dX1_standsAt_6 rfl ?_
  refine x_aln C 0 rfl dX1_standsAt_7 rfl ?_
  refine gXg_1_told C kf_X1_36 dX1_standsAt_8 rfl ?_
  refine x_iln C 1 rfl dX1_standsAt_11 rfl ?_
  obtain ⟨h2, hM⟩ := gck_some hM
  refine gXa_8 C h2 dX1_standsAt_12 rfl ?_
  refine x_aln C 0 rfl dX1_standsAt_13 rfl ?_
  refine gXg_1_yearsGone C kf_X1_63 dX1_standsAt_14 rfl ?_
  refine x_aln C 0 rfl dX1_standsAt_17 rfl ?_
  refine x_iln C 2 rfl dX1_standsAt_18 rfl ?_
  refine x_iln C 3 rfl dX1_standsAt_19 rfl ?_
  obtain ⟨r4, h3, hM⟩ := gb1_some hM
  refine x_cvi (As := [.int a1, .int a2]) (rest := [.int (σ 1 16), .int (σ 8 a0.toNatClampNeg), .int (σ 7 a0.toNatClampNeg), .ref (ad 1)]) C E.2.2.2.2.2 2 (c_X1_waterAt hG h3) (gBv km_X1_120 kin_X1_waterAt ksel_X1_waterAt kini_X1 kc_X1_waterAt) rfl rfl rfl ⟨rfl, by decide +kernel, by decide +kernel, by decide +kernel⟩ ⟨Nat.le_of_ble_eq_true rfl, Nat.le_of_ble_eq_true rfl⟩ (by show 1 < 213; decide) rfl rfl rfl rfl (Nat.le_of_ble_eq_true rfl) dX1_standsAt_20 rfl ?_
  obtain ⟨r6, h5, hM⟩ := gb1_some hM
  refine x_cvi (As := [.int (σ 7 a0.toNatClampNeg), .int (σ 8 a0.toNatClampNeg), .int (σ 1 16), .int r4]) (rest := []) C E.2.2.2.2.2 4 (c_X1_bears hG h5) (gBv km_X1_123 kin_X1_bears ksel_X1_bears kini_X1 kc_X1_bears) rfl rfl rfl ⟨rfl, by decide +kernel, by decide +kernel, by decide +kernel⟩ ⟨Nat.le_of_ble_eq_true rfl, Nat.le_of_ble_eq_true rfl⟩ (by show 1 < 213; decide) rfl rfl rfl rfl (Nat.le_of_ble_eq_true rfl) dX1_standsAt_23 rfl ?_
  obtain ⟨h7, hM⟩ := gck_some hM
  exact x_zret C E h7 ⟨gs1 hM, rfl⟩ dX1_standsAt_26
set_option maxRecDepth 100000 in
set_option maxHeartbeats 4000000 in
theorem c_X6_stands {l : Launch} {D : va_G} {ad : Nat → Nat} {cy : Nat → ClassId} {b : Nat} (hG : gInj (gGX D ad cy b)) {a0 : Int32} {a1 : Int32} {a2 : Int32} {σ : gMem} {r0 : Int32} (hM : m_X6_stands a0 a1 a2 σ = some r0) : gMi l yX6_stands (Cond.code yX6_stands cX6_stands 4 (some .int) :: gBig) { frames := 4, cells := 0, slots := 0, locals := 83 } (gGX D ad cy b) [.ref (ad 0), .int a0, .int a1, .int a2] σ r0 σ := by
  refine gIntro (own := RX6) hG (by decide +kernel) rfl rfl (Nat.le_of_ble_eq_true rfl) (lv := [(0, .ref (ad 0)), (1, .int a0), (2, .int a1), (3, .int a2)]) rfl (fun κ C E => ?_)
  unfold m_X6_stands at hM
  refine x_aln C 0 rfl dX6_stands_0 rfl ?_
  refine gXg_0_now C kf_X6_10 dX6_stands_1 rfl ?_
  refine x_iln C 1 rfl dX6_stands_4 rfl ?_
  obtain ⟨r2, h1, hM⟩ := gb1_some hM
  refine x_cvi (As := [.int a0]) (rest := []) C E.2.2.2.2.2 1 (c_X1_hasPerson hG h1) (gBv km_X6_120 kin_X1_hasPerson ksel_X1_hasPerson kini_X1 kc_X1_hasPerson) rfl rfl rfl ⟨rfl, by decide +kernel, by decide +kernel, by decide +kernel⟩ ⟨Nat.le_of_ble_eq_true rfl, Nat.le_of_ble_eq_true rfl⟩ (by show 1 < 213; decide) rfl rfl rfl rfl (Nat.le_of_ble_eq_true rfl) dX6_stands_5 rfl ?_
  refine x_if_eq (tgt := 29) C dX6_stands_8 (by decide) rfl (fun hc => ?_) (fun hc => ?_)
  · replace hM := gif_pos hc hM
    refine x_ic (v := (-1)) C (by decide) dX6_stands_29 rfl ?_
    exact x_iret C E ⟨gs1 hM, rfl⟩ dX6_stands_30
  · replace hM := gif_neg hc hM
    refine x_aln C 0 rfl dX6_stands_11 rfl ?_
    refine gXg_0_now C kf_X6_10 dX6_stands_12 rfl ?_
    refine x_iln C 2 rfl dX6_stands_15 rfl ?_
    obtain ⟨r4, h3, hM⟩ := gb1_some hM
    refine x_cvi (As := [.int a1]) (rest := []) C E.2.2.2.2.2 1 (c_X1_hasPlace hG h3) (gBv km_X6_66 kin_X1_hasPlace ksel_X1_hasPlace kini_X1 kc_X1_hasPlace) rfl rfl rfl ⟨rfl, by decide +kernel, by decide +kernel, by decide +kernel⟩ ⟨Nat.le_of_ble_eq_true rfl, Nat.le_of_ble_eq_true rfl⟩ (by show 1 < 213; decide) rfl rfl rfl rfl (Nat.le_of_ble_eq_true rfl) dX6_stands_16 rfl ?_
    refine x_if_eq (tgt := 29) C dX6_stands_19 (by decide) rfl (fun hc => ?_) (fun hc => ?_)
    · replace hM := gif_pos hc hM
      refine x_ic (v := (-1)) C (by decide) dX6_stands_29 rfl ?_
      exact x_iret C E ⟨gs1 hM, rfl⟩ dX6_stands_30
    · replace hM := gif_neg hc hM
      refine x_iln C 3 rfl dX6_stands_22 rfl ?_
      obtain ⟨r6, h5, hM⟩ := gb1_some hM
      refine x_csi (As := [.int a2]) (rest := []) C E.2.2.2.2.2 1 (c_X6_isHour hG h5) (gBs km_X6_101 kst_X6_isHour kini_X6 kc_X6_isHour) rfl rfl rfl ⟨by decide +kernel, by decide +kernel, by decide +kernel⟩ ⟨Nat.le_of_ble_eq_true rfl, Nat.le_of_ble_eq_true rfl⟩ rfl rfl (Nat.le_of_ble_eq_true rfl) dX6_stands_23 rfl ?_
      refine x_if_ne (tgt := 31) C dX6_stands_26 (by decide) rfl (fun hc => ?_) (fun hc => ?_)
      · replace hM := gif_neg hc hM
        refine x_aln C 0 rfl dX6_stands_31 rfl ?_
        refine gXg_0_now C kf_X6_10 dX6_stands_32 rfl ?_
        refine x_iln C 1 rfl dX6_stands_35 rfl ?_
        refine x_iln C 2 rfl dX6_stands_36 rfl ?_
        refine x_iln C 3 rfl dX6_stands_37 rfl ?_
        obtain ⟨r8, h7, hM⟩ := gb1_some hM
        refine x_cvi (As := [.int a0, .int a1, .int a2]) (rest := []) C E.2.2.2.2.2 3 (c_X1_standsAt hG h7) (gBv km_X6_172 kin_X1_standsAt ksel_X1_standsAt kini_X1 kc_X1_standsAt) rfl rfl rfl ⟨rfl, by decide +kernel, by decide +kernel, by decide +kernel⟩ ⟨Nat.le_of_ble_eq_true rfl, Nat.le_of_ble_eq_true rfl⟩ (by show 1 < 213; decide) rfl rfl rfl rfl (Nat.le_of_ble_eq_true rfl) dX6_stands_38 rfl ?_
        refine x_if_eq (tgt := 48) C dX6_stands_41 (by decide) rfl (fun hc => ?_) (fun hc => ?_)
        · replace hM := gif_pos hc hM
          refine x_ic (v := 0) C (by decide) dX6_stands_48 rfl ?_
          exact x_iret C E ⟨gs1 hM, rfl⟩ dX6_stands_49
        · replace hM := gif_neg hc hM
          refine x_ic (v := 1) C (by decide) dX6_stands_44 rfl ?_
          refine x_goto (tgt := 49) C dX6_stands_45 (by decide) ?_
          exact x_iret C E ⟨gs1 hM, rfl⟩ dX6_stands_49
      · replace hM := gif_pos hc hM
        refine x_ic (v := (-1)) C (by decide) dX6_stands_29 rfl ?_
        exact x_iret C E ⟨gs1 hM, rfl⟩ dX6_stands_30
set_option maxRecDepth 100000 in
set_option maxHeartbeats 4000000 in
theorem c_X6_hours {l : Launch} {D : va_G} {ad : Nat → Nat} {cy : Nat → ClassId} {b : Nat} (hG : gInj (gGX D ad cy b)) {a0 : Int32} {a1 : Int32} {σ : gMem} {r0 : Int32} (hM : m_X6_hours a0 a1 σ = some r0) : gMi l yX6_hours (Cond.code yX6_hours cX6_hours 5 (some .int) :: gBig) { frames := 4, cells := 0, slots := 0, locals := 83 } (gGX D ad cy b) [.ref (ad 0), .int a0, .int a1] σ r0 σ := by
  refine gIntro (own := RX6) hG (by decide +kernel) rfl rfl (Nat.le_of_ble_eq_true rfl) (lv := [(0, .ref (ad 0)), (1, .int a0), (2, .int a1)]) rfl (fun κ C E => ?_)
  unfold m_X6_hours at hM
  refine x_aln C 0 rfl dX6_hours_0 rfl ?_
  refine gXg_0_now C kf_X6_10 dX6_hours_1 rfl ?_
  refine x_iln C 1 rfl dX6_hours_4 rfl ?_
  obtain ⟨r2, h1, hM⟩ := gb1_some hM
  refine x_cvi (As := [.int a0]) (rest := []) C E.2.2.2.2.2 1 (c_X1_hasPerson hG h1) (gBv km_X6_120 kin_X1_hasPerson ksel_X1_hasPerson kini_X1 kc_X1_hasPerson) rfl rfl rfl ⟨rfl, by decide +kernel, by decide +kernel, by decide +kernel⟩ ⟨Nat.le_of_ble_eq_true rfl, Nat.le_of_ble_eq_true rfl⟩ (by show 1 < 213; decide) rfl rfl rfl rfl (Nat.le_of_ble_eq_true rfl) dX6_hours_5 rfl ?_
  refine x_if_eq (tgt := 22) C dX6_hours_8 (by decide) rfl (fun hc => ?_) (fun hc => ?_)
  · replace hM := gif_pos hc hM
    refine x_ic (v := (-1)) C (by decide) dX6_hours_22 rfl ?_
    exact x_iret C E ⟨gs1 hM, rfl⟩ dX6_hours_23
  · replace hM := gif_neg hc hM
    refine x_aln C 0 rfl dX6_hours_11 rfl ?_
    refine gXg_0_now C kf_X6_10 dX6_hours_12 rfl ?_
    refine x_iln C 2 rfl dX6_hours_15 rfl ?_
    obtain ⟨r4, h3, hM⟩ := gb1_some hM
    refine x_cvi (As := [.int a1]) (rest := []) C E.2.2.2.2.2 1 (c_X1_hasPlace hG h3) (gBv km_X6_66 kin_X1_hasPlace ksel_X1_hasPlace kini_X1 kc_X1_hasPlace) rfl rfl rfl ⟨rfl, by decide +kernel, by decide +kernel, by decide +kernel⟩ ⟨Nat.le_of_ble_eq_true rfl, Nat.le_of_ble_eq_true rfl⟩ (by show 1 < 213; decide) rfl rfl rfl rfl (Nat.le_of_ble_eq_true rfl) dX6_hours_16 rfl ?_
    refine x_if_ne (tgt := 24) C dX6_hours_19 (by decide) rfl (fun hc => ?_) (fun hc => ?_)
    · replace hM := gif_neg hc hM
      refine x_ic (v := 0) C (by decide) dX6_hours_24 rfl ?_
      refine x_istn (lv' := [(3, .int 0), (0, .ref (ad 0)), (1, .int a0), (2, .int a1)]) C rfl rfl (by decide) rfl dX6_hours_25 rfl ?_
      refine x_ic (v := 0) C (by decide) dX6_hours_26 rfl ?_
      refine x_ist (lv' := [(4, .int 0), (3, .int 0), (0, .ref (ad 0)), (1, .int a0), (2, .int a1)]) C rfl (by decide) rfl dX6_hours_27 rfl ?_
      have L29 : ∀ (n : Nat) (x3_5 : Int32) (x4_6 : Int32) (x3_7 : Int32), m_X6_hours_29 a0 a1 σ n x3_5 x4_6 = some (x3_7) → (wx κ (gGX D ad cy b) (gA (gGX D ad cy b)) 5 σ 63 [(3, .int x3_7)] []) → wx κ (gGX D ad cy b) (gA (gGX D ad cy b)) 5 σ 29 [(0, .ref (ad 0)), (1, .int a0), (2, .int a1), (3, .int x3_5), (4, .int x4_6)] [] := by
        clear hM
        intro n
        induction n with
        | zero => intro _ _ _ hM; cases hM
        | succ n ih =>
          intro x3_5 x4_6 x3_7 hM kx0
          replace hM : b_X6_hours_29 a0 a1 σ (m_X6_hours_29 a0 a1 σ n) x3_5 x4_6 = some (x3_7) := hM
          unfold b_X6_hours_29 at hM
          refine x_il C 4 rfl dX6_hours_29 rfl ?_
          refine x_bi (v := 24) C (by decide) dX6_hours_31 rfl ?_
          refine x_ic_ge (tgt := 63) C dX6_hours_33 (by decide) rfl (fun hc => ?_) (fun hc => ?_)
          · replace hM := gif_pos hc hM
            cases hM
            exact x_sub [3] rfl (kx0)
          · replace hM := gif_neg hc hM
            refine x_aln C 0 rfl dX6_hours_36 rfl ?_
            refine gXg_0_now C kf_X6_10 dX6_hours_37 rfl ?_
            refine x_iln C 1 rfl dX6_hours_40 rfl ?_
            refine x_iln C 2 rfl dX6_hours_41 rfl ?_
            refine x_il C 4 rfl dX6_hours_42 rfl ?_
            obtain ⟨r9, h8, hM⟩ := gb1_some hM
            refine x_cvi (As := [.int a0, .int a1, .int x4_6]) (rest := []) C E.2.2.2.2.2 3 (c_X1_standsAt hG h8) (gBv km_X6_172 kin_X1_standsAt ksel_X1_standsAt kini_X1 kc_X1_standsAt) rfl rfl rfl ⟨rfl, by decide +kernel, by decide +kernel, by decide +kernel⟩ ⟨Nat.le_of_ble_eq_true rfl, Nat.le_of_ble_eq_true rfl⟩ (by show 1 < 213; decide) rfl rfl rfl rfl (Nat.le_of_ble_eq_true rfl) dX6_hours_44 rfl ?_
            refine x_if_eq (tgt := 57) C dX6_hours_47 (by decide) rfl (fun hc => ?_) (fun hc => ?_)
            · replace hM := gif_pos hc hM
              obtain ⟨x4_10, ev, hM⟩ := gnm_ex hM
              refine x_iinc (j := 4) (w := 1) (lv' := [(4, .int x4_10), (0, .ref (ad 0)), (1, .int a0), (2, .int a1), (3, .int x3_5)]) C rfl ev (by decide) (by decide) rfl dX6_hours_57 rfl ?_
              refine x_goto (tgt := 29) C dX6_hours_60 (by decide) ?_
              exact x_sub [1, 2, 3, 4, 0] rfl (ih x3_5 x4_10 _ hM kx0)
            · replace hM := gif_neg hc hM
              refine x_iln C 3 rfl dX6_hours_50 rfl ?_
              refine x_ic (v := 1) C (by decide) dX6_hours_51 rfl ?_
              refine x_il C 4 rfl dX6_hours_52 rfl ?_
              refine x_ishl C dX6_hours_54 rfl ?_
              refine x_ior C dX6_hours_55 rfl ?_
              obtain ⟨x3_11, ev, hM⟩ := gnm_ex hM
              refine x_istn (lv' := [(3, .int x3_11), (0, .ref (ad 0)), (1, .int a0), (2, .int a1), (4, .int x4_6)]) C rfl ev (by decide) rfl dX6_hours_56 rfl ?_
              obtain ⟨x4_12, ev, hM⟩ := gnm_ex hM
              refine x_iinc (j := 4) (w := 1) (lv' := [(4, .int x4_12), (3, .int x3_11), (0, .ref (ad 0)), (1, .int a0), (2, .int a1)]) C rfl ev (by decide) (by decide) rfl dX6_hours_57 rfl ?_
              refine x_goto (tgt := 29) C dX6_hours_60 (by decide) ?_
              exact x_sub [2, 3, 4, 1, 0] rfl (ih x3_11 x4_12 _ hM kx0)
      obtain ⟨x3_7, hL13, hM⟩ := gb1_some hM
      refine x_sub [2, 3, 4, 1, 0] rfl (L29 gFU 0 0 _ hL13 ?_)
      clear L29
      refine x_iln C 0 rfl dX6_hours_63 rfl ?_
      exact x_iret C E ⟨gs1 hM, rfl⟩ dX6_hours_64
    · replace hM := gif_pos hc hM
      refine x_ic (v := (-1)) C (by decide) dX6_hours_22 rfl ?_
      exact x_iret C E ⟨gs1 hM, rfl⟩ dX6_hours_23
set_option maxRecDepth 100000 in
set_option maxHeartbeats 4000000 in
theorem c_X1_depthIn {l : Launch} {D : va_G} {ad : Nat → Nat} {cy : Nat → ClassId} {b : Nat} (hG : gInj (gGX D ad cy b)) {a0 : Int32} {a1 : Int32} {σ : gMem} {r0 : Int32} (hM : m_X1_depthIn a0 a1 σ = some r0) : gMi l yX1_depthIn (Cond.code yX1_depthIn cX1_depthIn 3 (some .int) :: gBig) { frames := 1, cells := 0, slots := 0, locals := 14 } (gGX D ad cy b) [.ref (ad 1), .int a0, .int a1] σ r0 σ := by
  refine gIntro (own := RX1) hG (by decide +kernel) rfl rfl (Nat.le_of_ble_eq_true rfl) (lv := [(0, .ref (ad 1)), (1, .int a0), (2, .int a1)]) rfl (fun κ C E => ?_)
  unfold m_X1_depthIn at hM
  refine x_bi (v := 60) C (by decide) dX1_depthIn_0 rfl ?_
  refine x_bi (v := (-20)) C (by decide) dX1_depthIn_2 rfl ?_
  refine x_aln C 0 rfl dX1_depthIn_4 rfl ?_
  refine gXg_1_depths C kf_X1_9 dX1_depthIn_5 rfl ?_
  refine x_iln C 1 rfl dX1_depthIn_8 rfl ?_
  obtain ⟨h1, hM⟩ := gck_some hM
  refine gXa_2 C h1 dX1_depthIn_9 rfl ?_
  refine x_iln C 2 rfl dX1_depthIn_10 rfl ?_
  refine x_aln C 0 rfl dX1_depthIn_11 rfl ?_
  refine gXg_1_silts C kf_X1_18 dX1_depthIn_12 rfl ?_
  refine x_iln C 1 rfl dX1_depthIn_15 rfl ?_
  obtain ⟨h2, hM⟩ := gck_some hM
  refine gXa_4 C h2 dX1_depthIn_16 rfl ?_
  refine x_imul C dX1_depthIn_17 rfl ?_
  refine x_isub C dX1_depthIn_18 rfl ?_
  refine x_mmax C (gBc km_X1_101) (gBc kst_J9_max_7cf53) (gBc kini_J9) (gBc kc_J9_max_7cf53) (by decide) (Nat.le_of_ble_eq_true rfl) dX1_depthIn_19 rfl ?_
  refine x_mmin C (gBc km_X1_106) (gBc kst_J9_min_7cf53) (gBc kini_J9) (gBc kc_J9_min_7cf53) (by decide) (Nat.le_of_ble_eq_true rfl) dX1_depthIn_22 rfl ?_
  exact x_iret C E ⟨gs1 hM, rfl⟩ dX1_depthIn_25
set_option maxRecDepth 100000 in
set_option maxHeartbeats 4000000 in
theorem c_X1_age {l : Launch} {D : va_G} {ad : Nat → Nat} {cy : Nat → ClassId} {b : Nat} (hG : gInj (gGX D ad cy b)) {a0 : Int32} {σ : gMem} {σ0 : gMem} (hM : m_X1_age a0 σ = some σ0) : gMv l yX1_age (Cond.code yX1_age cX1_age 3 none :: gBig) { frames := 2, cells := 0, slots := 0, locals := 36 } (gGX D ad cy b) [.ref (ad 1), .int a0] σ σ0 := by
  refine gIntro (own := RX1) hG (by decide +kernel) rfl rfl (Nat.le_of_ble_eq_true rfl) (lv := [(0, .ref (ad 1)), (1, .int a0)]) rfl (fun κ C E => ?_)
  unfold m_X1_age at hM
  refine x_ic (v := 0) C (by decide) dX1_age_0 rfl ?_
  refine x_istn (lv' := [(2, .int 0), (0, .ref (ad 1)), (1, .int a0)]) C rfl rfl (by decide) rfl dX1_age_1 rfl ?_
  have L2 : ∀ (n : Nat) (x2_1 : Int32) (s2 : gMem) (s3 : gMem), m_X1_age_2 a0 n x2_1 s2 = some (s3) → (wx κ (gGX D ad cy b) (gA (gGX D ad cy b)) 3 s3 28 [(0, .ref (ad 1)), (1, .int a0)] []) → wx κ (gGX D ad cy b) (gA (gGX D ad cy b)) 3 s2 2 [(0, .ref (ad 1)), (1, .int a0), (2, .int x2_1)] [] := by
    clear hM
    intro n
    induction n with
    | zero => intro _ _ _ hM; cases hM
    | succ n ih =>
      intro x2_1 s2 s3 hM kx0
      replace hM : b_X1_age_2 a0 (m_X1_age_2 a0 n) x2_1 s2 = some (s3) := hM
      unfold b_X1_age_2 at hM
      refine x_iln C 2 rfl dX1_age_2 rfl ?_
      refine x_aln C 0 rfl dX1_age_3 rfl ?_
      refine gXg_1_places C kf_X1_51 dX1_age_4 rfl ?_
      refine x_ic_ge (tgt := 28) C dX1_age_7 (by decide) rfl (fun hc => ?_) (fun hc => ?_)
      · replace hM := gif_pos hc hM
        cases hM
        exact x_sub [0, 1] rfl (kx0)
      · replace hM := gif_neg hc hM
        refine x_aln C 0 rfl dX1_age_10 rfl ?_
        refine gXg_1_depths C kf_X1_9 dX1_age_11 rfl ?_
        refine x_iln C 2 rfl dX1_age_14 rfl ?_
        refine x_aln C 0 rfl dX1_age_15 rfl ?_
        refine x_iln C 2 rfl dX1_age_16 rfl ?_
        refine x_iln C 1 rfl dX1_age_17 rfl ?_
        obtain ⟨r5, h4, hM⟩ := gb1_some hM
        refine x_cvi (As := [.int x2_1, .int a0]) (rest := [.int x2_1, .ref (ad 2)]) C E.2.2.2.2.2 2 (c_X1_depthIn hG h4) (gBv km_X1_98 kin_X1_depthIn ksel_X1_depthIn kini_X1 kc_X1_depthIn) rfl rfl rfl ⟨rfl, by decide +kernel, by decide +kernel, by decide +kernel⟩ ⟨Nat.le_of_ble_eq_true rfl, Nat.le_of_ble_eq_true rfl⟩ (by show 1 < 213; decide) rfl rfl rfl rfl (Nat.le_of_ble_eq_true rfl) dX1_age_18 rfl ?_
        obtain ⟨h6, hM⟩ := gck_some hM
        obtain ⟨s7, ev, hM⟩ := gnm_ex hM
        refine gXs_2 C ev h6 dX1_age_21 rfl ?_
        obtain ⟨x2_8, ev, hM⟩ := gnm_ex hM
        refine x_iinc (j := 2) (w := 1) (lv' := [(2, .int x2_8), (0, .ref (ad 1)), (1, .int a0)]) C rfl ev (by decide) (by decide) rfl dX1_age_22 rfl ?_
        refine x_goto (tgt := 2) C dX1_age_25 (by decide) ?_
        exact x_sub [1, 2, 0] rfl (ih x2_8 s7 _ hM kx0)
  obtain ⟨s3, hL9, hM⟩ := gb1_some hM
  refine x_sub [1, 2, 0] rfl (L2 gFU 0 σ _ hL9 ?_)
  clear L2
  refine x_aln C 0 rfl dX1_age_28 rfl ?_
  refine x_dup C rfl dX1_age_29 rfl ?_
  refine gXg_1_yearsGone C kf_X1_63 dX1_age_30 rfl ?_
  refine x_iln C 1 rfl dX1_age_33 rfl ?_
  refine x_iadd C dX1_age_34 rfl ?_
  obtain ⟨s10, ev, hM⟩ := gnm_ex hM
  refine gXp_1_yearsGone C ev kf_X1_63 dX1_age_35 rfl ?_
  exact x_vret C E (gs1 hM) dX1_age_38
set_option maxRecDepth 100000 in
set_option maxHeartbeats 4000000 in
theorem c_X6_years {l : Launch} {D : va_G} {ad : Nat → Nat} {cy : Nat → ClassId} {b : Nat} (hG : gInj (gGX D ad cy b)) {a0 : Int32} {σ : gMem} {r0 : Int32} {σ0 : gMem} (hM : m_X6_years a0 σ = some (r0, σ0)) : gMi l yX6_years (Cond.code yX6_years cX6_years 2 (some .int) :: gBig) { frames := 3, cells := 0, slots := 0, locals := 58 } (gGX D ad cy b) [.ref (ad 0), .int a0] σ r0 σ0 := by
  refine gIntro (own := RX6) hG (by decide +kernel) rfl rfl (Nat.le_of_ble_eq_true rfl) (lv := [(0, .ref (ad 0)), (1, .int a0)]) rfl (fun κ C E => ?_)
  unfold m_X6_years at hM
  refine x_iln C 1 rfl dX6_years_0 rfl ?_
  refine x_ic (v := 1) C (by decide) dX6_years_1 rfl ?_
  refine x_bi (v := 30) C (by decide) dX6_years_2 rfl ?_
  obtain ⟨r2, h1, hM⟩ := gb1_some hM
  refine x_csi (As := [.int a0, .int 1, .int 30]) (rest := []) C E.2.2.2.2.2 3 (c_X6_within hG h1) (gBs km_X6_54 kst_X6_within kini_X6 kc_X6_within) rfl rfl rfl ⟨by decide +kernel, by decide +kernel, by decide +kernel⟩ ⟨Nat.le_of_ble_eq_true rfl, Nat.le_of_ble_eq_true rfl⟩ rfl rfl (Nat.le_of_ble_eq_true rfl) dX6_years_4 rfl ?_
  refine x_if_ne (tgt := 12) C dX6_years_7 (by decide) rfl (fun hc => ?_) (fun hc => ?_)
  · replace hM := gif_neg hc hM
    refine x_aln C 0 rfl dX6_years_12 rfl ?_
    refine gXg_0_now C kf_X6_10 dX6_years_13 rfl ?_
    refine gXg_1_yearsGone C kf_X6_166 dX6_years_16 rfl ?_
    refine x_si (v := 999) C (by decide) dX6_years_19 rfl ?_
    refine x_iln C 1 rfl dX6_years_22 rfl ?_
    refine x_isub C dX6_years_23 rfl ?_
    refine x_ic_le (tgt := 30) C dX6_years_24 (by decide) rfl (fun hc => ?_) (fun hc => ?_)
    · replace hM := gif_pos hc hM
      refine x_aln C 0 rfl dX6_years_30 rfl ?_
      refine gXg_0_now C kf_X6_10 dX6_years_31 rfl ?_
      refine x_iln C 1 rfl dX6_years_34 rfl ?_
      obtain ⟨s4, h3, hM⟩ := gb1_some hM
      refine x_cvv (As := [.int a0]) (rest := []) C E.2.2.2.2.2 1 (c_X1_age hG h3) (gBv km_X6_175 kin_X1_age ksel_X1_age kini_X1 kc_X1_age) rfl rfl rfl ⟨rfl, by decide +kernel, by decide +kernel, by decide +kernel⟩ ⟨Nat.le_of_ble_eq_true rfl, Nat.le_of_ble_eq_true rfl⟩ (by show 1 < 213; decide) rfl rfl rfl rfl (Nat.le_of_ble_eq_true rfl) dX6_years_35 rfl ?_
      refine x_aln C 0 rfl dX6_years_38 rfl ?_
      refine gXg_0_now C kf_X6_10 dX6_years_39 rfl ?_
      refine gXg_1_yearsGone C kf_X6_166 dX6_years_42 rfl ?_
      exact x_iret C E (gs2 hM) dX6_years_45
    · replace hM := gif_neg hc hM
      refine x_bi (v := (-3)) C (by decide) dX6_years_27 rfl ?_
      exact x_iret C E (gs2 hM) dX6_years_29
  · replace hM := gif_pos hc hM
    refine x_ic (v := (-1)) C (by decide) dX6_years_10 rfl ?_
    exact x_iret C E (gs2 hM) dX6_years_11
set_option maxRecDepth 100000 in
set_option maxHeartbeats 4000000 in
theorem c_X6_isMinute {l : Launch} {D : va_G} {ad : Nat → Nat} {cy : Nat → ClassId} {b : Nat} (hG : gInj (gGX D ad cy b)) {a0 : Int32} {σ : gMem} {r0 : Int32} (hM : m_X6_isMinute a0 σ = some r0) : gMi l yX6_isMinute (Cond.code yX6_isMinute cX6_isMinute 1 (some .boolean) :: gBig) { frames := 1, cells := 0, slots := 0, locals := 22 } (gGX D ad cy b) [.int a0] σ r0 σ := by
  refine gIntro (own := RX6) hG (by decide +kernel) rfl rfl (Nat.le_of_ble_eq_true rfl) (lv := [(0, .int a0)]) rfl (fun κ C E => ?_)
  unfold m_X6_isMinute at hM
  refine x_iln C 0 rfl dX6_isMinute_0 rfl ?_
  refine x_ic (v := 0) C (by decide) dX6_isMinute_1 rfl ?_
  refine x_si (v := 1439) C (by decide) dX6_isMinute_2 rfl ?_
  obtain ⟨r2, h1, hM⟩ := gb1_some hM
  refine x_csi (As := [.int a0, .int 0, .int 1439]) (rest := []) C E.2.2.2.2.2 3 (c_X6_within hG h1) (gBs km_X6_54 kst_X6_within kini_X6 kc_X6_within) rfl rfl rfl ⟨by decide +kernel, by decide +kernel, by decide +kernel⟩ ⟨Nat.le_of_ble_eq_true rfl, Nat.le_of_ble_eq_true rfl⟩ rfl rfl (Nat.le_of_ble_eq_true rfl) dX6_isMinute_5 rfl ?_
  obtain ⟨h3, hM⟩ := gck_some hM
  exact x_zret C E h3 ⟨gs1 hM, rfl⟩ dX6_isMinute_8
set_option maxRecDepth 100000 in
set_option maxHeartbeats 4000000 in
theorem c_X5_listPosts {l : Launch} {D : va_G} {ad : Nat → Nat} {cy : Nat → ClassId} {b : Nat} (hG : gInj (gGX D ad cy b))  {σ : gMem} {σ0 : gMem} (hM : m_X5_listPosts  σ = some σ0) : gMv l yX5_listPosts (Cond.code yX5_listPosts cX5_listPosts 5 none :: gBig) { frames := 0, cells := 0, slots := 0, locals := 0 } (gGX D ad cy b) [.ref (ad 54), .ref (ad 1)] σ σ0 := by
  refine gIntro (own := RX5) hG (by decide +kernel) rfl rfl (Nat.le_of_ble_eq_true rfl) (lv := [(0, .ref (ad 54)), (1, .ref (ad 1))]) rfl (fun κ C E => ?_)
  unfold m_X5_listPosts at hM
  refine x_aln C 0 rfl dX5_listPosts_0 rfl ?_
  refine x_ic (v := 0) C (by decide) dX5_listPosts_1 rfl ?_
  obtain ⟨s1, ev, hM⟩ := gnm_ex hM
  refine gXp_54_posts C ev kf_X5_69 dX5_listPosts_2 rfl ?_
  refine x_aln C 0 rfl dX5_listPosts_5 rfl ?_
  refine gXg_54_longer C kf_X5_15 dX5_listPosts_6 rfl ?_
  refine x_ic (v := 0) C (by decide) dX5_listPosts_9 rfl ?_
  refine x_ic (v := 0) C (by decide) dX5_listPosts_10 rfl ?_
  obtain ⟨h2, hM⟩ := gck_some hM
  obtain ⟨s3, ev, hM⟩ := gnm_ex hM
  refine gXs_56 C ev h2 dX5_listPosts_11 rfl ?_
  refine x_ic (v := 0) C (by decide) dX5_listPosts_12 rfl ?_
  refine x_istn (lv' := [(2, .int 0), (0, .ref (ad 54)), (1, .ref (ad 1))]) C rfl rfl (by decide) rfl dX5_listPosts_13 rfl ?_
  have L14 : ∀ (n : Nat) (x2_4 : Int32) (s5 : gMem) (s6 : gMem), m_X5_listPosts_14 n x2_4 s5 = some (s6) → (wx κ (gGX D ad cy b) (gA (gGX D ad cy b)) 5 s6 117 [] []) → wx κ (gGX D ad cy b) (gA (gGX D ad cy b)) 5 s5 14 [(0, .ref (ad 54)), (1, .ref (ad 1)), (2, .int x2_4)] [] := by
    clear hM
    intro n
    induction n with
    | zero => intro _ _ _ hM; cases hM
    | succ n ih =>
      intro x2_4 s5 s6 hM kx0
      replace hM : b_X5_listPosts_14 (m_X5_listPosts_14 n) x2_4 s5 = some (s6) := hM
      unfold b_X5_listPosts_14 at hM
      refine x_iln C 2 rfl dX5_listPosts_14 rfl ?_
      refine x_aln C 0 rfl dX5_listPosts_15 rfl ?_
      refine gXg_54_places C kf_X5_44 dX5_listPosts_16 rfl ?_
      refine x_ic_ge (tgt := 117) C dX5_listPosts_19 (by decide) rfl (fun hc => ?_) (fun hc => ?_)
      · replace hM := gif_pos hc hM
        cases hM
        exact x_sub [] rfl (kx0)
      · replace hM := gif_neg hc hM
        refine x_aln C 0 rfl dX5_listPosts_22 rfl ?_
        refine gXg_54_postAt C kf_X5_9 dX5_listPosts_23 rfl ?_
        refine x_iln C 2 rfl dX5_listPosts_26 rfl ?_
        refine x_ic (v := (-1)) C (by decide) dX5_listPosts_27 rfl ?_
        obtain ⟨h7, hM⟩ := gck_some hM
        obtain ⟨s8, ev, hM⟩ := gnm_ex hM
        refine gXs_55 C ev h7 dX5_listPosts_28 rfl ?_
        refine x_aln C 1 rfl dX5_listPosts_29 rfl ?_
        refine gXg_1_splices C kf_X5_72 dX5_listPosts_30 rfl ?_
        refine x_iln C 2 rfl dX5_listPosts_33 rfl ?_
        obtain ⟨h9, hM⟩ := gck_some hM
        refine gXa_3 C h9 dX5_listPosts_34 rfl ?_
        refine x_if_le (tgt := 111) C dX5_listPosts_35 (by decide) rfl (fun hc => ?_) (fun hc => ?_)
        · replace hM := gif_pos hc hM
          obtain ⟨x2_10, ev, hM⟩ := gnm_ex hM
          refine x_iinc (j := 2) (w := 1) (lv' := [(2, .int x2_10), (0, .ref (ad 54)), (1, .ref (ad 1))]) C rfl ev (by decide) (by decide) rfl dX5_listPosts_111 rfl ?_
          refine x_goto (tgt := 14) C dX5_listPosts_114 (by decide) ?_
          exact x_sub [1, 2, 0] rfl (ih x2_10 s8 _ hM kx0)
        · replace hM := gif_neg hc hM
          refine x_aln C 0 rfl dX5_listPosts_38 rfl ?_
          refine gXg_54_posts C kf_X5_69 dX5_listPosts_39 rfl ?_
          refine x_ic (v := 3) C (by decide) dX5_listPosts_42 rfl ?_
          refine x_ic_ge (tgt := 111) C dX5_listPosts_43 (by decide) rfl (fun hc => ?_) (fun hc => ?_)
          · replace hM := gif_pos hc hM
            obtain ⟨x2_11, ev, hM⟩ := gnm_ex hM
            refine x_iinc (j := 2) (w := 1) (lv' := [(2, .int x2_11), (0, .ref (ad 54)), (1, .ref (ad 1))]) C rfl ev (by decide) (by decide) rfl dX5_listPosts_111 rfl ?_
            refine x_goto (tgt := 14) C dX5_listPosts_114 (by decide) ?_
            exact x_sub [1, 2, 0] rfl (ih x2_11 s8 _ hM kx0)
          · replace hM := gif_neg hc hM
            refine x_aln C 0 rfl dX5_listPosts_46 rfl ?_
            refine gXg_54_postAt C kf_X5_9 dX5_listPosts_47 rfl ?_
            refine x_iln C 2 rfl dX5_listPosts_50 rfl ?_
            refine x_aln C 0 rfl dX5_listPosts_51 rfl ?_
            refine gXg_54_posts C kf_X5_69 dX5_listPosts_52 rfl ?_
            obtain ⟨h12, hM⟩ := gck_some hM
            obtain ⟨s13, ev, hM⟩ := gnm_ex hM
            refine gXs_55 C ev h12 dX5_listPosts_55 rfl ?_
            refine x_ic (v := 1) C (by decide) dX5_listPosts_56 rfl ?_
            refine x_aln C 0 rfl dX5_listPosts_57 rfl ?_
            refine gXg_54_posts C kf_X5_69 dX5_listPosts_58 rfl ?_
            refine x_ishl C dX5_listPosts_61 rfl ?_
            obtain ⟨x3_14, ev, hM⟩ := gnm_ex hM
            refine x_istn (lv' := [(3, .int x3_14), (0, .ref (ad 54)), (1, .ref (ad 1)), (2, .int x2_4)]) C rfl ev (by decide) rfl dX5_listPosts_62 rfl ?_
            refine x_ic (v := 0) C (by decide) dX5_listPosts_63 rfl ?_
            refine x_ist (lv' := [(4, .int 0), (3, .int x3_14), (0, .ref (ad 54)), (1, .ref (ad 1)), (2, .int x2_4)]) C rfl (by decide) rfl dX5_listPosts_64 rfl ?_
            have L66 : ∀ (n : Nat) (x4_15 : Int32) (s16 : gMem) (s17 : gMem), m_X5_listPosts_66 x2_4 x3_14 n x4_15 s16 = some (s17) → (wx κ (gGX D ad cy b) (gA (gGX D ad cy b)) 5 s17 101 [(0, .ref (ad 54)), (1, .ref (ad 1)), (2, .int x2_4)] []) → wx κ (gGX D ad cy b) (gA (gGX D ad cy b)) 5 s16 66 [(0, .ref (ad 54)), (1, .ref (ad 1)), (2, .int x2_4), (3, .int x3_14), (4, .int x4_15)] [] := by
              clear hM
              intro n
              induction n with
              | zero => intro _ _ _ hM; cases hM
              | succ n ih =>
                intro x4_15 s16 s17 hM kx0
                replace hM : b_X5_listPosts_66 x2_4 x3_14 (m_X5_listPosts_66 x2_4 x3_14 n) x4_15 s16 = some (s17) := hM
                unfold b_X5_listPosts_66 at hM
                refine x_il C 4 rfl dX5_listPosts_66 rfl ?_
                refine x_iln C 3 rfl dX5_listPosts_68 rfl ?_
                refine x_ic_ge (tgt := 101) C dX5_listPosts_69 (by decide) rfl (fun hc => ?_) (fun hc => ?_)
                · replace hM := gif_pos hc hM
                  cases hM
                  exact x_sub [0, 1, 2] rfl (kx0)
                · replace hM := gif_neg hc hM
                  refine x_aln C 0 rfl dX5_listPosts_72 rfl ?_
                  refine gXg_54_longer C kf_X5_15 dX5_listPosts_73 rfl ?_
                  refine x_iln C 3 rfl dX5_listPosts_76 rfl ?_
                  refine x_il C 4 rfl dX5_listPosts_77 rfl ?_
                  refine x_iadd C dX5_listPosts_79 rfl ?_
                  refine x_aln C 0 rfl dX5_listPosts_80 rfl ?_
                  refine gXg_54_longer C kf_X5_15 dX5_listPosts_81 rfl ?_
                  refine x_il C 4 rfl dX5_listPosts_84 rfl ?_
                  obtain ⟨h18, hM⟩ := gck_some hM
                  refine gXa_56 C h18 dX5_listPosts_86 rfl ?_
                  refine x_aln C 1 rfl dX5_listPosts_87 rfl ?_
                  refine gXg_1_splices C kf_X5_72 dX5_listPosts_88 rfl ?_
                  refine x_iln C 2 rfl dX5_listPosts_91 rfl ?_
                  obtain ⟨h19, hM⟩ := gck_some hM
                  refine gXa_3 C h19 dX5_listPosts_92 rfl ?_
                  refine x_iadd C dX5_listPosts_93 rfl ?_
                  obtain ⟨h20, hM⟩ := gck_some hM
                  obtain ⟨s21, ev, hM⟩ := gnm_ex hM
                  refine gXs_56 C ev h20 dX5_listPosts_94 rfl ?_
                  obtain ⟨x4_22, ev, hM⟩ := gnm_ex hM
                  refine x_iinc (j := 4) (w := 1) (lv' := [(4, .int x4_22), (0, .ref (ad 54)), (1, .ref (ad 1)), (2, .int x2_4), (3, .int x3_14)]) C rfl ev (by decide) (by decide) rfl dX5_listPosts_95 rfl ?_
                  refine x_goto (tgt := 66) C dX5_listPosts_98 (by decide) ?_
                  exact x_sub [1, 2, 3, 4, 0] rfl (ih x4_22 s21 _ hM kx0)
            obtain ⟨s17, hL23, hM⟩ := gb1_some hM
            refine x_sub [2, 3, 4, 1, 0] rfl (L66 gFU 0 s13 _ hL23 ?_)
            clear L66
            refine x_aln C 0 rfl dX5_listPosts_101 rfl ?_
            refine x_dup C rfl dX5_listPosts_102 rfl ?_
            refine gXg_54_posts C kf_X5_69 dX5_listPosts_103 rfl ?_
            refine x_ic (v := 1) C (by decide) dX5_listPosts_106 rfl ?_
            refine x_iadd C dX5_listPosts_107 rfl ?_
            obtain ⟨s24, ev, hM⟩ := gnm_ex hM
            refine gXp_54_posts C ev kf_X5_69 dX5_listPosts_108 rfl ?_
            obtain ⟨x2_25, ev, hM⟩ := gnm_ex hM
            refine x_iinc (j := 2) (w := 1) (lv' := [(2, .int x2_25), (0, .ref (ad 54)), (1, .ref (ad 1))]) C rfl ev (by decide) (by decide) rfl dX5_listPosts_111 rfl ?_
            refine x_goto (tgt := 14) C dX5_listPosts_114 (by decide) ?_
            exact x_sub [1, 2, 0] rfl (ih x2_25 s24 _ hM kx0)
  obtain ⟨s6, hL26, hM⟩ := gb1_some hM
  refine x_sub [1, 2, 0] rfl (L14 gFU 0 s3 _ hL26 ?_)
  clear L14
  exact x_vret C E (gs1 hM) dX5_listPosts_117
set_option maxRecDepth 100000 in
set_option maxHeartbeats 4000000 in
theorem c_X5_listEdges {l : Launch} {D : va_G} {ad : Nat → Nat} {cy : Nat → ClassId} {b : Nat} (hG : gInj (gGX D ad cy b))  {σ : gMem} {σ0 : gMem} (hM : m_X5_listEdges  σ = some σ0) : gMv l yX5_listEdges (Cond.code yX5_listEdges cX5_listEdges 4 none :: gBig) { frames := 0, cells := 0, slots := 0, locals := 0 } (gGX D ad cy b) [.ref (ad 54), .ref (ad 1)] σ σ0 := by
  refine gIntro (own := RX5) hG (by decide +kernel) rfl rfl (Nat.le_of_ble_eq_true rfl) (lv := [(0, .ref (ad 54)), (1, .ref (ad 1))]) rfl (fun κ C E => ?_)
  unfold m_X5_listEdges at hM
  refine x_aln C 0 rfl dX5_listEdges_0 rfl ?_
  refine x_ic (v := 0) C (by decide) dX5_listEdges_1 rfl ?_
  obtain ⟨s1, ev, hM⟩ := gnm_ex hM
  refine gXp_54_edges C ev kf_X5_75 dX5_listEdges_2 rfl ?_
  refine x_ic (v := 0) C (by decide) dX5_listEdges_5 rfl ?_
  refine x_istn (lv' := [(2, .int 0), (0, .ref (ad 54)), (1, .ref (ad 1))]) C rfl rfl (by decide) rfl dX5_listEdges_6 rfl ?_
  have L7 : ∀ (n : Nat) (x2_2 : Int32) (s3 : gMem) (s4 : gMem), m_X5_listEdges_7 n x2_2 s3 = some (s4) → (wx κ (gGX D ad cy b) (gA (gGX D ad cy b)) 4 s4 92 [] []) → wx κ (gGX D ad cy b) (gA (gGX D ad cy b)) 4 s3 7 [(0, .ref (ad 54)), (1, .ref (ad 1)), (2, .int x2_2)] [] := by
    clear hM
    intro n
    induction n with
    | zero => intro _ _ _ hM; cases hM
    | succ n ih =>
      intro x2_2 s3 s4 hM kx0
      replace hM : b_X5_listEdges_7 (m_X5_listEdges_7 n) x2_2 s3 = some (s4) := hM
      unfold b_X5_listEdges_7 at hM
      refine x_iln C 2 rfl dX5_listEdges_7 rfl ?_
      refine x_aln C 0 rfl dX5_listEdges_8 rfl ?_
      refine gXg_54_places C kf_X5_44 dX5_listEdges_9 rfl ?_
      refine x_ic_ge (tgt := 92) C dX5_listEdges_12 (by decide) rfl (fun hc => ?_) (fun hc => ?_)
      · replace hM := gif_pos hc hM
        cases hM
        exact x_sub [] rfl (kx0)
      · replace hM := gif_neg hc hM
        refine x_ic (v := 0) C (by decide) dX5_listEdges_15 rfl ?_
        refine x_istn (lv' := [(3, .int 0), (0, .ref (ad 54)), (1, .ref (ad 1)), (2, .int x2_2)]) C rfl rfl (by decide) rfl dX5_listEdges_16 rfl ?_
        have L17 : ∀ (n : Nat) (x3_5 : Int32) (s6 : gMem) (s7 : gMem), m_X5_listEdges_17 x2_2 n x3_5 s6 = some (s7) → (wx κ (gGX D ad cy b) (gA (gGX D ad cy b)) 4 s7 86 [(0, .ref (ad 54)), (1, .ref (ad 1)), (2, .int x2_2)] []) → wx κ (gGX D ad cy b) (gA (gGX D ad cy b)) 4 s6 17 [(0, .ref (ad 54)), (1, .ref (ad 1)), (2, .int x2_2), (3, .int x3_5)] [] := by
          clear hM
          intro n
          induction n with
          | zero => intro _ _ _ hM; cases hM
          | succ n ih =>
            intro x3_5 s6 s7 hM kx0
            replace hM : b_X5_listEdges_17 x2_2 (m_X5_listEdges_17 x2_2 n) x3_5 s6 = some (s7) := hM
            unfold b_X5_listEdges_17 at hM
            refine x_iln C 3 rfl dX5_listEdges_17 rfl ?_
            refine x_iln C 2 rfl dX5_listEdges_18 rfl ?_
            refine x_ic_ge (tgt := 86) C dX5_listEdges_19 (by decide) rfl (fun hc => ?_) (fun hc => ?_)
            · replace hM := gif_pos hc hM
              cases hM
              exact x_sub [0, 1, 2] rfl (kx0)
            · replace hM := gif_neg hc hM
              refine x_aln C 1 rfl dX5_listEdges_22 rfl ?_
              refine gXg_1_minutes C kf_X5_78 dX5_listEdges_23 rfl ?_
              refine x_iln C 2 rfl dX5_listEdges_26 rfl ?_
              obtain ⟨h8, hM⟩ := gck_some hM
              refine gXo_5 C h8 dX5_listEdges_27 rfl ?_
              refine x_iln C 3 rfl dX5_listEdges_28 rfl ?_
              obtain ⟨h9, hM⟩ := gck_some hM
              refine gXa_rown C (inb_lt h8) h9 dX5_listEdges_29 rfl ?_
              refine x_if_le (tgt := 80) C dX5_listEdges_30 (by decide) rfl (fun hc => ?_) (fun hc => ?_)
              · replace hM := gif_pos hc hM
                obtain ⟨x3_10, ev, hM⟩ := gnm_ex hM
                refine x_iinc (j := 3) (w := 1) (lv' := [(3, .int x3_10), (0, .ref (ad 54)), (1, .ref (ad 1)), (2, .int x2_2)]) C rfl ev (by decide) (by decide) rfl dX5_listEdges_80 rfl ?_
                refine x_goto (tgt := 17) C dX5_listEdges_83 (by decide) ?_
                exact x_sub [1, 2, 3, 0] rfl (ih x3_10 s6 _ hM kx0)
              · replace hM := gif_neg hc hM
                refine x_aln C 0 rfl dX5_listEdges_33 rfl ?_
                refine gXg_54_ends C kf_X5_29 dX5_listEdges_34 rfl ?_
                refine x_aln C 0 rfl dX5_listEdges_37 rfl ?_
                refine gXg_54_edges C kf_X5_75 dX5_listEdges_38 rfl ?_
                refine x_iln C 2 rfl dX5_listEdges_41 rfl ?_
                obtain ⟨h11, hM⟩ := gck_some hM
                obtain ⟨s12, ev, hM⟩ := gnm_ex hM
                refine gXs_60 C ev h11 dX5_listEdges_42 rfl ?_
                refine x_aln C 0 rfl dX5_listEdges_43 rfl ?_
                refine gXg_54_otherEnds C kf_X5_32 dX5_listEdges_44 rfl ?_
                refine x_aln C 0 rfl dX5_listEdges_47 rfl ?_
                refine gXg_54_edges C kf_X5_75 dX5_listEdges_48 rfl ?_
                refine x_iln C 3 rfl dX5_listEdges_51 rfl ?_
                obtain ⟨h13, hM⟩ := gck_some hM
                obtain ⟨s14, ev, hM⟩ := gnm_ex hM
                refine gXs_61 C ev h13 dX5_listEdges_52 rfl ?_
                refine x_aln C 0 rfl dX5_listEdges_53 rfl ?_
                refine gXg_54_paces C kf_X5_35 dX5_listEdges_54 rfl ?_
                refine x_aln C 0 rfl dX5_listEdges_57 rfl ?_
                refine gXg_54_edges C kf_X5_75 dX5_listEdges_58 rfl ?_
                refine x_aln C 1 rfl dX5_listEdges_61 rfl ?_
                refine gXg_1_minutes C kf_X5_78 dX5_listEdges_62 rfl ?_
                refine x_iln C 2 rfl dX5_listEdges_65 rfl ?_
                obtain ⟨h15, hM⟩ := gck_some hM
                refine gXo_5 C h15 dX5_listEdges_66 rfl ?_
                refine x_iln C 3 rfl dX5_listEdges_67 rfl ?_
                obtain ⟨h16, hM⟩ := gck_some hM
                refine gXa_rown C (inb_lt h15) h16 dX5_listEdges_68 rfl ?_
                obtain ⟨h17, hM⟩ := gck_some hM
                obtain ⟨s18, ev, hM⟩ := gnm_ex hM
                refine gXs_62 C ev h17 dX5_listEdges_69 rfl ?_
                refine x_aln C 0 rfl dX5_listEdges_70 rfl ?_
                refine x_dup C rfl dX5_listEdges_71 rfl ?_
                refine gXg_54_edges C kf_X5_75 dX5_listEdges_72 rfl ?_
                refine x_ic (v := 1) C (by decide) dX5_listEdges_75 rfl ?_
                refine x_iadd C dX5_listEdges_76 rfl ?_
                obtain ⟨s19, ev, hM⟩ := gnm_ex hM
                refine gXp_54_edges C ev kf_X5_75 dX5_listEdges_77 rfl ?_
                obtain ⟨x3_20, ev, hM⟩ := gnm_ex hM
                refine x_iinc (j := 3) (w := 1) (lv' := [(3, .int x3_20), (0, .ref (ad 54)), (1, .ref (ad 1)), (2, .int x2_2)]) C rfl ev (by decide) (by decide) rfl dX5_listEdges_80 rfl ?_
                refine x_goto (tgt := 17) C dX5_listEdges_83 (by decide) ?_
                exact x_sub [1, 2, 3, 0] rfl (ih x3_20 s19 _ hM kx0)
        obtain ⟨s7, hL21, hM⟩ := gb1_some hM
        refine x_sub [1, 2, 3, 0] rfl (L17 gFU 0 s3 _ hL21 ?_)
        clear L17
        obtain ⟨x2_22, ev, hM⟩ := gnm_ex hM
        refine x_iinc (j := 2) (w := 1) (lv' := [(2, .int x2_22), (0, .ref (ad 54)), (1, .ref (ad 1))]) C rfl ev (by decide) (by decide) rfl dX5_listEdges_86 rfl ?_
        refine x_goto (tgt := 7) C dX5_listEdges_89 (by decide) ?_
        exact x_sub [1, 2, 0] rfl (ih x2_22 s7 _ hM kx0)
  obtain ⟨s4, hL23, hM⟩ := gb1_some hM
  refine x_sub [1, 2, 0] rfl (L7 gFU 0 s1 _ hL23 ?_)
  clear L7
  exact x_vret C E (gs1 hM) dX5_listEdges_92
set_option maxRecDepth 100000 in
set_option maxHeartbeats 4000000 in
theorem c_X5_footingIn {l : Launch} {D : va_G} {ad : Nat → Nat} {cy : Nat → ClassId} {b : Nat} (hG : gInj (gGX D ad cy b)) {a1 : Int32} {a2 : Int32} {σ : gMem} {r0 : Int32} (hM : m_X5_footingIn a1 a2 σ = some r0) : gMi l yX5_footingIn (Cond.code yX5_footingIn cX5_footingIn 7 (some .int) :: gBig) { frames := 3, cells := 0, slots := 0, locals := 60 } (gGX D ad cy b) [.ref (ad 54), .ref (ad 1), .int a1, .int a2] σ r0 σ := by
  refine gIntro (own := RX5) hG (by decide +kernel) rfl rfl (Nat.le_of_ble_eq_true rfl) (lv := [(0, .ref (ad 54)), (1, .ref (ad 1)), (2, .int a1), (3, .int a2)]) rfl (fun κ C E => ?_)
  unfold m_X5_footingIn at hM
  refine x_ic (v := 0) C (by decide) dX5_footingIn_0 rfl ?_
  refine x_ist (lv' := [(4, .int 0), (0, .ref (ad 54)), (1, .ref (ad 1)), (2, .int a1), (3, .int a2)]) C rfl (by decide) rfl dX5_footingIn_1 rfl ?_
  refine x_ic (v := 0) C (by decide) dX5_footingIn_3 rfl ?_
  refine x_ist (lv' := [(5, .int 0), (4, .int 0), (0, .ref (ad 54)), (1, .ref (ad 1)), (2, .int a1), (3, .int a2)]) C rfl (by decide) rfl dX5_footingIn_4 rfl ?_
  have L6 : ∀ (n : Nat) (x4_1 : Int32) (x5_2 : Int32) (x4_3 : Int32), m_X5_footingIn_6 a1 a2 σ n x4_1 x5_2 = some (x4_3) → (wx κ (gGX D ad cy b) (gA (gGX D ad cy b)) 7 σ 68 [(4, .int x4_3)] []) → wx κ (gGX D ad cy b) (gA (gGX D ad cy b)) 7 σ 6 [(0, .ref (ad 54)), (1, .ref (ad 1)), (2, .int a1), (3, .int a2), (4, .int x4_1), (5, .int x5_2)] [] := by
    clear hM
    intro n
    induction n with
    | zero => intro _ _ _ hM; cases hM
    | succ n ih =>
      intro x4_1 x5_2 x4_3 hM kx0
      replace hM : b_X5_footingIn_6 a1 a2 σ (m_X5_footingIn_6 a1 a2 σ n) x4_1 x5_2 = some (x4_3) := hM
      unfold b_X5_footingIn_6 at hM
      refine x_il C 5 rfl dX5_footingIn_6 rfl ?_
      refine x_ic (v := 1) C (by decide) dX5_footingIn_8 rfl ?_
      refine x_aln C 0 rfl dX5_footingIn_9 rfl ?_
      refine gXg_54_posts C kf_X5_69 dX5_footingIn_10 rfl ?_
      refine x_ishl C dX5_footingIn_13 rfl ?_
      refine x_ic_ge (tgt := 68) C dX5_footingIn_14 (by decide) rfl (fun hc => ?_) (fun hc => ?_)
      · replace hM := gif_pos hc hM
        cases hM
        exact x_sub [4] rfl (kx0)
      · replace hM := gif_neg hc hM
        refine x_aln C 1 rfl dX5_footingIn_17 rfl ?_
        refine gXg_1_told C kf_X5_81 dX5_footingIn_18 rfl ?_
        refine x_iln C 2 rfl dX5_footingIn_21 rfl ?_
        obtain ⟨h4, hM⟩ := gck_some hM
        refine gXa_8 C h4 dX5_footingIn_22 rfl ?_
        refine x_aln C 0 rfl dX5_footingIn_23 rfl ?_
        refine gXg_54_longer C kf_X5_15 dX5_footingIn_24 rfl ?_
        refine x_il C 5 rfl dX5_footingIn_27 rfl ?_
        obtain ⟨h5, hM⟩ := gck_some hM
        refine gXa_56 C h5 dX5_footingIn_29 rfl ?_
        refine x_iadd C dX5_footingIn_30 rfl ?_
        obtain ⟨x6_6, ev, hM⟩ := gnm_ex hM
        refine x_ist (lv' := [(6, .int x6_6), (0, .ref (ad 54)), (1, .ref (ad 1)), (2, .int a1), (3, .int a2), (4, .int x4_1), (5, .int x5_2)]) C ev (by decide) rfl dX5_footingIn_31 rfl ?_
        refine x_aln C 2 rfl dX5_footingIn_33 rfl ?_
        refine x_aln C 2 rfl dX5_footingIn_34 rfl ?_
        refine gXg_1_kinds C kf_X5_84 dX5_footingIn_35 rfl ?_
        refine x_iln C 3 rfl dX5_footingIn_38 rfl ?_
        obtain ⟨h7, hM⟩ := gck_some hM
        refine gXa_7 C h7 dX5_footingIn_39 rfl ?_
        refine x_il C 0 rfl dX5_footingIn_40 rfl ?_
        refine x_aln C 2 rfl dX5_footingIn_42 rfl ?_
        refine gXg_1_yearsGone C kf_X5_87 dX5_footingIn_43 rfl ?_
        refine x_iln C 4 rfl dX5_footingIn_46 rfl ?_
        obtain ⟨r9, h8, hM⟩ := gb1_some hM
        refine x_cvi (As := [.int (σ 7 a1.toNatClampNeg), .int x6_6, .int (σ 1 16), .int a2]) (rest := []) C E.2.2.2.2.2 4 (c_X1_bears hG h8) (gBv km_X5_90 kin_X1_bears ksel_X1_bears kini_X1 kc_X1_bears) rfl rfl rfl ⟨rfl, by decide +kernel, by decide +kernel, by decide +kernel⟩ ⟨Nat.le_of_ble_eq_true rfl, Nat.le_of_ble_eq_true rfl⟩ (by show 1 < 213; decide) rfl rfl rfl rfl (Nat.le_of_ble_eq_true rfl) dX5_footingIn_47 rfl ?_
        refine x_if_eq (tgt := 62) C dX5_footingIn_50 (by decide) rfl (fun hc => ?_) (fun hc => ?_)
        · replace hM := gif_pos hc hM
          obtain ⟨x5_10, ev, hM⟩ := gnm_ex hM
          refine x_iinc (j := 6) (w := 1) (lv' := [(5, .int x5_10), (6, .int x6_6), (0, .ref (ad 54)), (1, .ref (ad 1)), (2, .int a1), (3, .int a2), (4, .int x4_1)]) C rfl ev (by decide) (by decide) rfl dX5_footingIn_62 rfl ?_
          refine x_goto (tgt := 6) C dX5_footingIn_65 (by decide) ?_
          exact x_sub [2, 3, 4, 5, 6, 0] rfl (ih x4_1 x5_10 _ hM kx0)
        · replace hM := gif_neg hc hM
          refine x_il C 5 rfl dX5_footingIn_53 rfl ?_
          refine x_ic (v := 1) C (by decide) dX5_footingIn_55 rfl ?_
          refine x_il C 6 rfl dX5_footingIn_56 rfl ?_
          refine x_ishl C dX5_footingIn_58 rfl ?_
          refine x_ior C dX5_footingIn_59 rfl ?_
          obtain ⟨x4_11, ev, hM⟩ := gnm_ex hM
          refine x_ist (lv' := [(4, .int x4_11), (6, .int x6_6), (0, .ref (ad 54)), (1, .ref (ad 1)), (2, .int a1), (3, .int a2), (5, .int x5_2)]) C ev (by decide) rfl dX5_footingIn_60 rfl ?_
          obtain ⟨x5_12, ev, hM⟩ := gnm_ex hM
          refine x_iinc (j := 6) (w := 1) (lv' := [(5, .int x5_12), (4, .int x4_11), (6, .int x6_6), (0, .ref (ad 54)), (1, .ref (ad 1)), (2, .int a1), (3, .int a2)]) C rfl ev (by decide) (by decide) rfl dX5_footingIn_62 rfl ?_
          refine x_goto (tgt := 6) C dX5_footingIn_65 (by decide) ?_
          exact x_sub [3, 4, 5, 6, 1, 0] rfl (ih x4_11 x5_12 _ hM kx0)
  obtain ⟨x4_3, hL13, hM⟩ := gb1_some hM
  refine x_sub [2, 3, 4, 5, 1, 0] rfl (L6 gFU 0 0 _ hL13 ?_)
  clear L6
  refine x_il C 0 rfl dX5_footingIn_68 rfl ?_
  exact x_iret C E ⟨gs1 hM, rfl⟩ dX5_footingIn_70
set_option maxRecDepth 100000 in
set_option maxHeartbeats 4000000 in
theorem c_X5_prepare {l : Launch} {D : va_G} {ad : Nat → Nat} {cy : Nat → ClassId} {b : Nat} (hG : gInj (gGX D ad cy b)) {a1 : Int32} {a2 : Int32} {σ : gMem} {σ0 : gMem} (hM : m_X5_prepare a1 a2 σ = some σ0) : gMv l yX5_prepare (Cond.code yX5_prepare cX5_prepare 6 none :: gBig) { frames := 4, cells := 0, slots := 0, locals := 86 } (gGX D ad cy b) [.ref (ad 54), .ref (ad 1), .int a1, .int a2] σ σ0 := by
  refine gIntro (own := RX5) hG (by decide +kernel) rfl rfl (Nat.le_of_ble_eq_true rfl) (lv := [(0, .ref (ad 54)), (1, .ref (ad 1)), (2, .int a1), (3, .int a2)]) rfl (fun κ C E => ?_)
  unfold m_X5_prepare at hM
  refine x_aln C 0 rfl dX5_prepare_0 rfl ?_
  refine x_aln C 1 rfl dX5_prepare_1 rfl ?_
  refine gXg_1_places C kf_X5_38 dX5_prepare_2 rfl ?_
  obtain ⟨s1, ev, hM⟩ := gnm_ex hM
  refine gXp_54_places C ev kf_X5_44 dX5_prepare_5 rfl ?_
  refine x_aln C 0 rfl dX5_prepare_8 rfl ?_
  refine x_aln C 1 rfl dX5_prepare_9 rfl ?_
  refine gXg_1_homes C kf_X5_45 dX5_prepare_10 rfl ?_
  refine x_iln C 2 rfl dX5_prepare_13 rfl ?_
  obtain ⟨h2, hM⟩ := gck_some hM
  refine gXa_9 C h2 dX5_prepare_14 rfl ?_
  obtain ⟨s3, ev, hM⟩ := gnm_ex hM
  refine gXp_54_home C ev kf_X5_48 dX5_prepare_15 rfl ?_
  refine x_aln C 0 rfl dX5_prepare_18 rfl ?_
  refine x_iln C 3 rfl dX5_prepare_19 rfl ?_
  obtain ⟨s4, ev, hM⟩ := gnm_ex hM
  refine gXp_54_start C ev kf_X5_51 dX5_prepare_20 rfl ?_
  refine x_aln C 0 rfl dX5_prepare_23 rfl ?_
  refine x_aln C 1 rfl dX5_prepare_24 rfl ?_
  obtain ⟨s6, h5, hM⟩ := gb1_some hM
  refine x_cvv (As := [.ref (ad 1)]) (rest := []) C E.2.2.2.2.2 1 (c_X5_listPosts hG h5) (gBv km_X5_54 kin_X5_listPosts ksel_X5_listPosts kini_X5 kc_X5_listPosts) rfl rfl rfl ⟨rfl, by decide +kernel, by decide +kernel, by decide +kernel⟩ ⟨Nat.le_of_ble_eq_true rfl, Nat.le_of_ble_eq_true rfl⟩ (by show 54 < 213; decide) rfl rfl rfl rfl (Nat.le_of_ble_eq_true rfl) dX5_prepare_25 rfl ?_
  refine x_aln C 0 rfl dX5_prepare_28 rfl ?_
  refine x_aln C 1 rfl dX5_prepare_29 rfl ?_
  obtain ⟨s8, h7, hM⟩ := gb1_some hM
  refine x_cvv (As := [.ref (ad 1)]) (rest := []) C E.2.2.2.2.2 1 (c_X5_listEdges hG h7) (gBv km_X5_58 kin_X5_listEdges ksel_X5_listEdges kini_X5 kc_X5_listEdges) rfl rfl rfl ⟨rfl, by decide +kernel, by decide +kernel, by decide +kernel⟩ ⟨Nat.le_of_ble_eq_true rfl, Nat.le_of_ble_eq_true rfl⟩ (by show 54 < 213; decide) rfl rfl rfl rfl (Nat.le_of_ble_eq_true rfl) dX5_prepare_30 rfl ?_
  refine x_ic (v := 0) C (by decide) dX5_prepare_33 rfl ?_
  refine x_ist (lv' := [(4, .int 0), (0, .ref (ad 54)), (1, .ref (ad 1)), (2, .int a1), (3, .int a2)]) C rfl (by decide) rfl dX5_prepare_34 rfl ?_
  have L36 : ∀ (n : Nat) (x4_9 : Int32) (s10 : gMem) (s11 : gMem), m_X5_prepare_36 a1 n x4_9 s10 = some (s11) → (wx κ (gGX D ad cy b) (gA (gGX D ad cy b)) 6 s11 91 [] []) → wx κ (gGX D ad cy b) (gA (gGX D ad cy b)) 6 s10 36 [(0, .ref (ad 54)), (1, .ref (ad 1)), (2, .int a1), (4, .int x4_9)] [] := by
    clear hM
    intro n
    induction n with
    | zero => intro _ _ _ hM; cases hM
    | succ n ih =>
      intro x4_9 s10 s11 hM kx0
      replace hM : b_X5_prepare_36 a1 (m_X5_prepare_36 a1 n) x4_9 s10 = some (s11) := hM
      unfold b_X5_prepare_36 at hM
      refine x_il C 3 rfl dX5_prepare_36 rfl ?_
      refine x_aln C 0 rfl dX5_prepare_38 rfl ?_
      refine gXg_54_places C kf_X5_44 dX5_prepare_39 rfl ?_
      refine x_ic_ge (tgt := 91) C dX5_prepare_42 (by decide) rfl (fun hc => ?_) (fun hc => ?_)
      · replace hM := gif_pos hc hM
        cases hM
        exact x_sub [] rfl (kx0)
      · replace hM := gif_neg hc hM
        refine x_ic (v := 0) C (by decide) dX5_prepare_45 rfl ?_
        refine x_ist (lv' := [(5, .int 0), (0, .ref (ad 54)), (1, .ref (ad 1)), (2, .int a1), (4, .int x4_9)]) C rfl (by decide) rfl dX5_prepare_46 rfl ?_
        have L48 : ∀ (n : Nat) (x5_12 : Int32) (s13 : gMem) (s14 : gMem), m_X5_prepare_48 a1 x4_9 n x5_12 s13 = some (s14) → (wx κ (gGX D ad cy b) (gA (gGX D ad cy b)) 6 s14 85 [(0, .ref (ad 54)), (1, .ref (ad 1)), (2, .int a1), (4, .int x4_9)] []) → wx κ (gGX D ad cy b) (gA (gGX D ad cy b)) 6 s13 48 [(0, .ref (ad 54)), (1, .ref (ad 1)), (2, .int a1), (4, .int x4_9), (5, .int x5_12)] [] := by
          clear hM
          intro n
          induction n with
          | zero => intro _ _ _ hM; cases hM
          | succ n ih =>
            intro x5_12 s13 s14 hM kx0
            replace hM : b_X5_prepare_48 a1 x4_9 (m_X5_prepare_48 a1 x4_9 n) x5_12 s13 = some (s14) := hM
            unfold b_X5_prepare_48 at hM
            refine x_il C 4 rfl dX5_prepare_48 rfl ?_
            refine x_bi (v := 24) C (by decide) dX5_prepare_50 rfl ?_
            refine x_ic_ge (tgt := 85) C dX5_prepare_52 (by decide) rfl (fun hc => ?_) (fun hc => ?_)
            · replace hM := gif_pos hc hM
              cases hM
              exact x_sub [0, 1, 2, 3] rfl (kx0)
            · replace hM := gif_neg hc hM
              refine x_aln C 0 rfl dX5_prepare_55 rfl ?_
              refine gXg_54_footing C kf_X5_20 dX5_prepare_56 rfl ?_
              refine x_il C 3 rfl dX5_prepare_59 rfl ?_
              obtain ⟨h15, hM⟩ := gck_some hM
              refine gXo_57 C h15 dX5_prepare_61 rfl ?_
              refine x_il C 4 rfl dX5_prepare_62 rfl ?_
              refine x_aln C 0 rfl dX5_prepare_64 rfl ?_
              refine x_aln C 1 rfl dX5_prepare_65 rfl ?_
              refine x_iln C 2 rfl dX5_prepare_66 rfl ?_
              refine x_aln C 1 rfl dX5_prepare_67 rfl ?_
              refine x_il C 3 rfl dX5_prepare_68 rfl ?_
              refine x_il C 4 rfl dX5_prepare_70 rfl ?_
              obtain ⟨r17, h16, hM⟩ := gb1_some hM
              refine x_cvi (As := [.int x4_9, .int x5_12]) (rest := [.int a1, .ref (ad 1), .ref (ad 54), .int x5_12, .ref (ad (63 + x4_9.toNatClampNeg))]) C E.2.2.2.2.2 2 (c_X1_waterAt hG h16) (gBv km_X5_61 kin_X1_waterAt ksel_X1_waterAt kini_X1 kc_X1_waterAt) rfl rfl rfl ⟨rfl, by decide +kernel, by decide +kernel, by decide +kernel⟩ ⟨Nat.le_of_ble_eq_true rfl, Nat.le_of_ble_eq_true rfl⟩ (by show 1 < 213; decide) rfl rfl rfl rfl (Nat.le_of_ble_eq_true rfl) dX5_prepare_72 rfl ?_
              obtain ⟨r19, h18, hM⟩ := gb1_some hM
              refine x_cvi (As := [.ref (ad 1), .int a1, .int r17]) (rest := [.int x5_12, .ref (ad (63 + x4_9.toNatClampNeg))]) C E.2.2.2.2.2 3 (c_X5_footingIn hG h18) (gBv km_X5_65 kin_X5_footingIn ksel_X5_footingIn kini_X5 kc_X5_footingIn) rfl rfl rfl ⟨rfl, by decide +kernel, by decide +kernel, by decide +kernel⟩ ⟨Nat.le_of_ble_eq_true rfl, Nat.le_of_ble_eq_true rfl⟩ (by show 54 < 213; decide) rfl rfl rfl rfl (Nat.le_of_ble_eq_true rfl) dX5_prepare_75 rfl ?_
              obtain ⟨h20, hM⟩ := gck_some hM
              obtain ⟨s21, ev, hM⟩ := gnm_ex hM
              refine gXs_foot C (inb_lt h15) ev h20 dX5_prepare_78 rfl ?_
              obtain ⟨x5_22, ev, hM⟩ := gnm_ex hM
              refine x_iinc (j := 4) (w := 1) (lv' := [(5, .int x5_22), (0, .ref (ad 54)), (1, .ref (ad 1)), (2, .int a1), (4, .int x4_9)]) C rfl ev (by decide) (by decide) rfl dX5_prepare_79 rfl ?_
              refine x_goto (tgt := 48) C dX5_prepare_82 (by decide) ?_
              exact x_sub [1, 2, 3, 4, 0] rfl (ih x5_22 s21 _ hM kx0)
        obtain ⟨s14, hL23, hM⟩ := gb1_some hM
        refine x_sub [1, 2, 3, 4, 0] rfl (L48 gFU 0 s10 _ hL23 ?_)
        clear L48
        obtain ⟨x4_24, ev, hM⟩ := gnm_ex hM
        refine x_iinc (j := 3) (w := 1) (lv' := [(4, .int x4_24), (0, .ref (ad 54)), (1, .ref (ad 1)), (2, .int a1)]) C rfl ev (by decide) (by decide) rfl dX5_prepare_85 rfl ?_
        refine x_goto (tgt := 36) C dX5_prepare_88 (by decide) ?_
        exact x_sub [1, 2, 3, 0] rfl (ih x4_24 s14 _ hM kx0)
  obtain ⟨s11, hL25, hM⟩ := gb1_some hM
  refine x_sub [1, 2, 3, 0] rfl (L36 gFU 0 s8 _ hL25 ?_)
  clear L36
  exact x_vret C E (gs1 hM) dX5_prepare_91
set_option maxRecDepth 100000 in
set_option maxHeartbeats 4000000 in
theorem c_X5_hourOf {l : Launch} {D : va_G} {ad : Nat → Nat} {cy : Nat → ClassId} {b : Nat} (hG : gInj (gGX D ad cy b)) {a0 : Int32} {σ : gMem} {r0 : Int32} (hM : m_X5_hourOf a0 σ = some r0) : gMi l yX5_hourOf (Cond.code yX5_hourOf cX5_hourOf 2 (some .int) :: gBig) { frames := 0, cells := 0, slots := 0, locals := 0 } (gGX D ad cy b) [.ref (ad 54), .int a0] σ r0 σ := by
  refine gIntro (own := RX5) hG (by decide +kernel) rfl rfl (Nat.le_of_ble_eq_true rfl) (lv := [(0, .ref (ad 54)), (1, .int a0)]) rfl (fun κ C E => ?_)
  unfold m_X5_hourOf at hM
  refine x_aln C 0 rfl dX5_hourOf_0 rfl ?_
  refine gXg_54_start C kf_X5_51 dX5_hourOf_1 rfl ?_
  refine x_iln C 1 rfl dX5_hourOf_4 rfl ?_
  refine x_iadd C dX5_hourOf_5 rfl ?_
  refine x_bi (v := 60) C (by decide) dX5_hourOf_6 rfl ?_
  refine x_idiv C (by decide) dX5_hourOf_8 rfl ?_
  refine x_bi (v := 24) C (by decide) dX5_hourOf_9 rfl ?_
  refine x_irem C (by decide) dX5_hourOf_11 rfl ?_
  exact x_iret C E ⟨gs1 hM, rfl⟩ dX5_hourOf_12
set_option maxRecDepth 100000 in
set_option maxHeartbeats 4000000 in
theorem c_X5_walkAlong {l : Launch} {D : va_G} {ad : Nat → Nat} {cy : Nat → ClassId} {b : Nat} (hG : gInj (gGX D ad cy b)) {a0 : Int32} {a1 : Int32} {a2 : Int32} {a3 : Int32} {σ : gMem} {σ0 : gMem} (hM : m_X5_walkAlong a0 a1 a2 a3 σ = some σ0) : gMv l yX5_walkAlong (Cond.code yX5_walkAlong cX5_walkAlong 8 none :: gBig) { frames := 1, cells := 0, slots := 0, locals := 21 } (gGX D ad cy b) [.ref (ad 54), .int a0, .int a1, .int a2, .int a3] σ σ0 := by
  refine gIntro (own := RX5) hG (by decide +kernel) rfl rfl (Nat.le_of_ble_eq_true rfl) (lv := [(0, .ref (ad 54)), (1, .int a0), (2, .int a1), (3, .int a2), (4, .int a3)]) rfl (fun κ C E => ?_)
  unfold m_X5_walkAlong at hM
  refine x_aln C 0 rfl dX5_walkAlong_0 rfl ?_
  refine x_iln C 3 rfl dX5_walkAlong_1 rfl ?_
  obtain ⟨r2, h1, hM⟩ := gb1_some hM
  refine x_cvi (As := [.int a2]) (rest := []) C E.2.2.2.2.2 1 (c_X5_hourOf hG h1) (gBv km_X5_116 kin_X5_hourOf ksel_X5_hourOf kini_X5 kc_X5_hourOf) rfl rfl rfl ⟨rfl, by decide +kernel, by decide +kernel, by decide +kernel⟩ ⟨Nat.le_of_ble_eq_true rfl, Nat.le_of_ble_eq_true rfl⟩ (by show 54 < 213; decide) rfl rfl rfl rfl (Nat.le_of_ble_eq_true rfl) dX5_walkAlong_2 rfl ?_
  refine x_ist (lv' := [(5, .int r2), (0, .ref (ad 54)), (1, .int a0), (2, .int a1), (3, .int a2), (4, .int a3)]) C rfl (by decide) rfl dX5_walkAlong_5 rfl ?_
  refine x_aln C 1 rfl dX5_walkAlong_7 rfl ?_
  refine gXg_54_footing C kf_X5_20 dX5_walkAlong_8 rfl ?_
  refine x_iln C 2 rfl dX5_walkAlong_11 rfl ?_
  obtain ⟨h3, hM⟩ := gck_some hM
  refine gXo_57 C h3 dX5_walkAlong_12 rfl ?_
  refine x_il C 0 rfl dX5_walkAlong_13 rfl ?_
  obtain ⟨h4, hM⟩ := gck_some hM
  refine gXa_foot C (inb_lt h3) h4 dX5_walkAlong_15 rfl ?_
  refine x_aln C 1 rfl dX5_walkAlong_16 rfl ?_
  refine gXg_54_footing C kf_X5_20 dX5_walkAlong_17 rfl ?_
  refine x_iln C 3 rfl dX5_walkAlong_20 rfl ?_
  obtain ⟨h5, hM⟩ := gck_some hM
  refine gXo_57 C h5 dX5_walkAlong_21 rfl ?_
  refine x_il C 0 rfl dX5_walkAlong_22 rfl ?_
  obtain ⟨h6, hM⟩ := gck_some hM
  refine gXa_foot C (inb_lt h5) h6 dX5_walkAlong_24 rfl ?_
  refine x_iand C dX5_walkAlong_25 rfl ?_
  refine x_aln C 1 rfl dX5_walkAlong_26 rfl ?_
  refine gXg_54_footing C kf_X5_20 dX5_walkAlong_27 rfl ?_
  refine x_iln C 2 rfl dX5_walkAlong_30 rfl ?_
  obtain ⟨h7, hM⟩ := gck_some hM
  refine gXo_57 C h7 dX5_walkAlong_31 rfl ?_
  refine x_il C 5 rfl dX5_walkAlong_32 rfl ?_
  obtain ⟨h8, hM⟩ := gck_some hM
  refine gXa_foot C (inb_lt h7) h8 dX5_walkAlong_34 rfl ?_
  refine x_iand C dX5_walkAlong_35 rfl ?_
  refine x_aln C 1 rfl dX5_walkAlong_36 rfl ?_
  refine gXg_54_footing C kf_X5_20 dX5_walkAlong_37 rfl ?_
  refine x_iln C 3 rfl dX5_walkAlong_40 rfl ?_
  obtain ⟨h9, hM⟩ := gck_some hM
  refine gXo_57 C h9 dX5_walkAlong_41 rfl ?_
  refine x_il C 5 rfl dX5_walkAlong_42 rfl ?_
  obtain ⟨h10, hM⟩ := gck_some hM
  refine gXa_foot C (inb_lt h9) h10 dX5_walkAlong_44 rfl ?_
  refine x_iand C dX5_walkAlong_45 rfl ?_
  obtain ⟨x6_11, ev, hM⟩ := gnm_ex hM
  refine x_ist (lv' := [(6, .int x6_11), (5, .int r2), (0, .ref (ad 54)), (1, .int a0), (2, .int a1), (3, .int a2), (4, .int a3)]) C ev (by decide) rfl dX5_walkAlong_46 rfl ?_
  refine x_aln C 2 rfl dX5_walkAlong_48 rfl ?_
  refine gXg_54_at C kf_X5_23 dX5_walkAlong_49 rfl ?_
  refine x_iln C 5 rfl dX5_walkAlong_52 rfl ?_
  refine x_bi (v := 61) C (by decide) dX5_walkAlong_53 rfl ?_
  refine x_irem C (by decide) dX5_walkAlong_55 rfl ?_
  obtain ⟨h12, hM⟩ := gck_some hM
  refine gXo_58 C h12 dX5_walkAlong_56 rfl ?_
  refine x_ast (lv' := [(7, .ref (ad (75 + (grem a2 61).toNatClampNeg))), (6, .int x6_11), (5, .int r2), (0, .ref (ad 54)), (1, .int a0), (2, .int a1), (3, .int a2), (4, .int a3)]) C (by decide) rfl dX5_walkAlong_57 rfl ?_
  refine x_aln C 3 rfl dX5_walkAlong_59 rfl ?_
  refine gXg_54_came C kf_X5_26 dX5_walkAlong_60 rfl ?_
  refine x_iln C 4 rfl dX5_walkAlong_63 rfl ?_
  refine x_dup2 C rfl rfl dX5_walkAlong_64 rfl ?_
  obtain ⟨h13, hM⟩ := gck_some hM
  refine gXa_59 C h13 dX5_walkAlong_65 rfl ?_
  refine x_al C 0 rfl dX5_walkAlong_66 rfl ?_
  refine x_iln C 5 rfl dX5_walkAlong_68 rfl ?_
  obtain ⟨h14, hM⟩ := gck_some hM
  refine gXa_at C (inb_lt h12) h14 dX5_walkAlong_69 rfl ?_
  refine x_il C 1 rfl dX5_walkAlong_70 rfl ?_
  refine x_iand C dX5_walkAlong_72 rfl ?_
  refine x_ior C dX5_walkAlong_73 rfl ?_
  obtain ⟨h15, hM⟩ := gck_some hM
  obtain ⟨s16, ev, hM⟩ := gnm_ex hM
  refine gXs_59 C ev h15 dX5_walkAlong_74 rfl ?_
  refine x_aln C 3 rfl dX5_walkAlong_75 rfl ?_
  refine gXg_54_came C kf_X5_26 dX5_walkAlong_76 rfl ?_
  refine x_iln C 5 rfl dX5_walkAlong_79 rfl ?_
  refine x_dup2 C rfl rfl dX5_walkAlong_80 rfl ?_
  obtain ⟨h17, hM⟩ := gck_some hM
  refine gXa_59 C h17 dX5_walkAlong_81 rfl ?_
  refine x_al C 0 rfl dX5_walkAlong_82 rfl ?_
  refine x_iln C 4 rfl dX5_walkAlong_84 rfl ?_
  obtain ⟨h18, hM⟩ := gck_some hM
  refine gXa_at C (inb_lt h12) h18 dX5_walkAlong_85 rfl ?_
  refine x_il C 1 rfl dX5_walkAlong_86 rfl ?_
  refine x_iand C dX5_walkAlong_88 rfl ?_
  refine x_ior C dX5_walkAlong_89 rfl ?_
  obtain ⟨h19, hM⟩ := gck_some hM
  obtain ⟨s20, ev, hM⟩ := gnm_ex hM
  refine gXs_59 C ev h19 dX5_walkAlong_90 rfl ?_
  exact x_vret C E (gs1 hM) dX5_walkAlong_91
set_option maxRecDepth 100000 in
set_option maxHeartbeats 4000000 in
theorem c_X5_arrive {l : Launch} {D : va_G} {ad : Nat → Nat} {cy : Nat → ClassId} {b : Nat} (hG : gInj (gGX D ad cy b)) {a0 : Int32} {a1 : Int32} {σ : gMem} {σ0 : gMem} (hM : m_X5_arrive a0 a1 σ = some σ0) : gMv l yX5_arrive (Cond.code yX5_arrive cX5_arrive 4 none :: gBig) { frames := 2, cells := 0, slots := 0, locals := 48 } (gGX D ad cy b) [.ref (ad 54), .int a0, .int a1] σ σ0 := by
  refine gIntro (own := RX5) hG (by decide +kernel) rfl rfl (Nat.le_of_ble_eq_true rfl) (lv := [(0, .ref (ad 54)), (1, .int a0), (2, .int a1)]) rfl (fun κ C E => ?_)
  unfold m_X5_arrive at hM
  refine x_ic (v := 0) C (by decide) dX5_arrive_0 rfl ?_
  refine x_istn (lv' := [(3, .int 0), (0, .ref (ad 54)), (1, .int a0), (2, .int a1)]) C rfl rfl (by decide) rfl dX5_arrive_1 rfl ?_
  have L2 : ∀ (n : Nat) (x3_1 : Int32) (s2 : gMem) (s3 : gMem), m_X5_arrive_2 n x3_1 s2 = some (s3) → (wx κ (gGX D ad cy b) (gA (gGX D ad cy b)) 4 s3 23 [(0, .ref (ad 54)), (1, .int a0), (2, .int a1)] []) → wx κ (gGX D ad cy b) (gA (gGX D ad cy b)) 4 s2 2 [(0, .ref (ad 54)), (1, .int a0), (2, .int a1), (3, .int x3_1)] [] := by
    clear hM
    intro n
    induction n with
    | zero => intro _ _ _ hM; cases hM
    | succ n ih =>
      intro x3_1 s2 s3 hM kx0
      replace hM : b_X5_arrive_2 (m_X5_arrive_2 n) x3_1 s2 = some (s3) := hM
      unfold b_X5_arrive_2 at hM
      refine x_iln C 3 rfl dX5_arrive_2 rfl ?_
      refine x_aln C 0 rfl dX5_arrive_3 rfl ?_
      refine gXg_54_places C kf_X5_44 dX5_arrive_4 rfl ?_
      refine x_ic_ge (tgt := 23) C dX5_arrive_7 (by decide) rfl (fun hc => ?_) (fun hc => ?_)
      · replace hM := gif_pos hc hM
        cases hM
        exact x_sub [0, 1, 2] rfl (kx0)
      · replace hM := gif_neg hc hM
        refine x_aln C 0 rfl dX5_arrive_10 rfl ?_
        refine gXg_54_came C kf_X5_26 dX5_arrive_11 rfl ?_
        refine x_iln C 3 rfl dX5_arrive_14 rfl ?_
        refine x_ic (v := 0) C (by decide) dX5_arrive_15 rfl ?_
        obtain ⟨h4, hM⟩ := gck_some hM
        obtain ⟨s5, ev, hM⟩ := gnm_ex hM
        refine gXs_59 C ev h4 dX5_arrive_16 rfl ?_
        obtain ⟨x3_6, ev, hM⟩ := gnm_ex hM
        refine x_iinc (j := 3) (w := 1) (lv' := [(3, .int x3_6), (0, .ref (ad 54)), (1, .int a0), (2, .int a1)]) C rfl ev (by decide) (by decide) rfl dX5_arrive_17 rfl ?_
        refine x_goto (tgt := 2) C dX5_arrive_20 (by decide) ?_
        exact x_sub [1, 2, 3, 0] rfl (ih x3_6 s5 _ hM kx0)
  obtain ⟨s3, hL7, hM⟩ := gb1_some hM
  refine x_sub [1, 2, 3, 0] rfl (L2 gFU 0 σ _ hL7 ?_)
  clear L2
  refine x_iln C 1 rfl dX5_arrive_23 rfl ?_
  obtain ⟨s8, hJ25, hM⟩ := gb1_some hM
  have J2 : wx κ (gGX D ad cy b) (gA (gGX D ad cy b)) 4 s8 49 [(0, .ref (ad 54)), (1, .int a0), (2, .int a1)] [] := by
    refine x_ic (v := 0) C (by decide) dX5_arrive_49 rfl ?_
    refine x_istn (lv' := [(3, .int 0), (0, .ref (ad 54)), (1, .int a0), (2, .int a1)]) C rfl rfl (by decide) rfl dX5_arrive_50 rfl ?_
    have L51 : ∀ (n : Nat) (x3_13 : Int32) (s14 : gMem) (s15 : gMem), m_X5_arrive_51 a0 a1 n x3_13 s14 = some (s15) → (wx κ (gGX D ad cy b) (gA (gGX D ad cy b)) 4 s15 100 [] []) → wx κ (gGX D ad cy b) (gA (gGX D ad cy b)) 4 s14 51 [(0, .ref (ad 54)), (1, .int a0), (2, .int a1), (3, .int x3_13)] [] := by
      clear hM
      intro n
      induction n with
      | zero => intro _ _ _ hM; cases hM
      | succ n ih =>
        intro x3_13 s14 s15 hM kx0
        replace hM : b_X5_arrive_51 a0 a1 (m_X5_arrive_51 a0 a1 n) x3_13 s14 = some (s15) := hM
        unfold b_X5_arrive_51 at hM
        refine x_iln C 3 rfl dX5_arrive_51 rfl ?_
        refine x_aln C 0 rfl dX5_arrive_52 rfl ?_
        refine gXg_54_edges C kf_X5_75 dX5_arrive_53 rfl ?_
        refine x_ic_ge (tgt := 100) C dX5_arrive_56 (by decide) rfl (fun hc => ?_) (fun hc => ?_)
        · replace hM := gif_pos hc hM
          cases hM
          exact x_sub [] rfl (kx0)
        · replace hM := gif_neg hc hM
          refine x_aln C 0 rfl dX5_arrive_59 rfl ?_
          refine gXg_54_paces C kf_X5_35 dX5_arrive_60 rfl ?_
          refine x_iln C 3 rfl dX5_arrive_63 rfl ?_
          obtain ⟨h16, hM⟩ := gck_some hM
          refine gXa_62 C h16 dX5_arrive_64 rfl ?_
          refine x_iln C 1 rfl dX5_arrive_65 rfl ?_
          refine x_ic_gt (tgt := 94) C dX5_arrive_66 (by decide) rfl (fun hc => ?_) (fun hc => ?_)
          · replace hM := gif_pos hc hM
            obtain ⟨x3_17, ev, hM⟩ := gnm_ex hM
            refine x_iinc (j := 3) (w := 1) (lv' := [(3, .int x3_17), (0, .ref (ad 54)), (1, .int a0), (2, .int a1)]) C rfl ev (by decide) (by decide) rfl dX5_arrive_94 rfl ?_
            refine x_goto (tgt := 51) C dX5_arrive_97 (by decide) ?_
            exact x_sub [1, 2, 3, 0] rfl (ih x3_17 s14 _ hM kx0)
          · replace hM := gif_neg hc hM
            refine x_aln C 0 rfl dX5_arrive_69 rfl ?_
            refine x_aln C 0 rfl dX5_arrive_70 rfl ?_
            refine gXg_54_ends C kf_X5_29 dX5_arrive_71 rfl ?_
            refine x_iln C 3 rfl dX5_arrive_74 rfl ?_
            obtain ⟨h18, hM⟩ := gck_some hM
            refine gXa_60 C h18 dX5_arrive_75 rfl ?_
            refine x_aln C 0 rfl dX5_arrive_76 rfl ?_
            refine gXg_54_otherEnds C kf_X5_32 dX5_arrive_77 rfl ?_
            refine x_iln C 3 rfl dX5_arrive_80 rfl ?_
            obtain ⟨h19, hM⟩ := gck_some hM
            refine gXa_61 C h19 dX5_arrive_81 rfl ?_
            refine x_iln C 1 rfl dX5_arrive_82 rfl ?_
            refine x_aln C 0 rfl dX5_arrive_83 rfl ?_
            refine gXg_54_paces C kf_X5_35 dX5_arrive_84 rfl ?_
            refine x_iln C 3 rfl dX5_arrive_87 rfl ?_
            obtain ⟨h20, hM⟩ := gck_some hM
            refine gXa_62 C h20 dX5_arrive_88 rfl ?_
            refine x_isub C dX5_arrive_89 rfl ?_
            refine x_iln C 2 rfl dX5_arrive_90 rfl ?_
            obtain ⟨s22, h21, hM⟩ := gb1_some hM
            refine x_cvv (As := [.int (s14 60 x3_13.toNatClampNeg), .int (s14 61 x3_13.toNatClampNeg), .int (a0 - (s14 62 x3_13.toNatClampNeg)), .int a1]) (rest := []) C E.2.2.2.2.2 4 (c_X5_walkAlong hG h21) (gBv km_X5_126 kin_X5_walkAlong ksel_X5_walkAlong kini_X5 kc_X5_walkAlong) rfl rfl rfl ⟨rfl, by decide +kernel, by decide +kernel, by decide +kernel⟩ ⟨Nat.le_of_ble_eq_true rfl, Nat.le_of_ble_eq_true rfl⟩ (by show 54 < 213; decide) rfl rfl rfl rfl (Nat.le_of_ble_eq_true rfl) dX5_arrive_91 rfl ?_
            obtain ⟨x3_23, ev, hM⟩ := gnm_ex hM
            refine x_iinc (j := 3) (w := 1) (lv' := [(3, .int x3_23), (0, .ref (ad 54)), (1, .int a0), (2, .int a1)]) C rfl ev (by decide) (by decide) rfl dX5_arrive_94 rfl ?_
            refine x_goto (tgt := 51) C dX5_arrive_97 (by decide) ?_
            exact x_sub [1, 2, 3, 0] rfl (ih x3_23 s22 _ hM kx0)
    obtain ⟨s15, hL24, hM⟩ := gb1_some hM
    refine x_sub [1, 2, 3, 0] rfl (L51 gFU 0 s8 _ hL24 ?_)
    clear L51
    exact x_vret C E (gs1 hM) dX5_arrive_100
  clear hM
  have hM := hJ25
  clear hJ25
  refine x_if_ne (tgt := 49) C dX5_arrive_24 (by decide) rfl (fun hc => ?_) (fun hc => ?_)
  · replace hM := gif_neg hc hM
    cases hM
    exact x_sub [0, 1, 2] rfl J2
  · replace hM := gif_pos hc hM
    refine x_aln C 0 rfl dX5_arrive_27 rfl ?_
    refine gXg_54_came C kf_X5_26 dX5_arrive_28 rfl ?_
    refine x_aln C 0 rfl dX5_arrive_31 rfl ?_
    refine gXg_54_home C kf_X5_48 dX5_arrive_32 rfl ?_
    refine x_ic (v := 1) C (by decide) dX5_arrive_35 rfl ?_
    refine x_aln C 0 rfl dX5_arrive_36 rfl ?_
    refine gXg_54_footing C kf_X5_20 dX5_arrive_37 rfl ?_
    refine x_aln C 0 rfl dX5_arrive_40 rfl ?_
    refine gXg_54_home C kf_X5_48 dX5_arrive_41 rfl ?_
    obtain ⟨h9, hM⟩ := gck_some hM
    refine gXo_57 C h9 dX5_arrive_44 rfl ?_
    refine x_iln C 2 rfl dX5_arrive_45 rfl ?_
    obtain ⟨h10, hM⟩ := gck_some hM
    refine gXa_foot C (inb_lt h9) h10 dX5_arrive_46 rfl ?_
    refine x_iand C dX5_arrive_47 rfl ?_
    obtain ⟨h11, hM⟩ := gck_some hM
    obtain ⟨s12, ev, hM⟩ := gnm_ex hM
    refine gXs_59 C ev h11 dX5_arrive_48 rfl ?_
    cases hM
    exact x_sub [0, 1, 2] rfl J2
set_option maxRecDepth 100000 in
set_option maxHeartbeats 4000000 in
theorem c_X5_withSplice {l : Launch} {D : va_G} {ad : Nat → Nat} {cy : Nat → ClassId} {b : Nat} (hG : gInj (gGX D ad cy b)) {a0 : Int32} {a1 : Int32} {σ : gMem} {r0 : Int32} (hM : m_X5_withSplice a0 a1 σ = some r0) : gMi l yX5_withSplice (Cond.code yX5_withSplice cX5_withSplice 4 (some .int) :: gBig) { frames := 1, cells := 0, slots := 0, locals := 22 } (gGX D ad cy b) [.ref (ad 54), .int a0, .int a1] σ r0 σ := by
  refine gIntro (own := RX5) hG (by decide +kernel) rfl rfl (Nat.le_of_ble_eq_true rfl) (lv := [(0, .ref (ad 54)), (1, .int a0), (2, .int a1)]) rfl (fun κ C E => ?_)
  unfold m_X5_withSplice at hM
  refine x_aln C 0 rfl dX5_withSplice_0 rfl ?_
  refine gXg_54_postAt C kf_X5_9 dX5_withSplice_1 rfl ?_
  refine x_iln C 1 rfl dX5_withSplice_4 rfl ?_
  obtain ⟨h1, hM⟩ := gck_some hM
  refine gXa_55 C h1 dX5_withSplice_5 rfl ?_
  obtain ⟨x3_2, ev, hM⟩ := gnm_ex hM
  refine x_istn (lv' := [(3, .int x3_2), (0, .ref (ad 54)), (1, .int a0), (2, .int a1)]) C rfl ev (by decide) rfl dX5_withSplice_6 rfl ?_
  refine x_iln C 0 rfl dX5_withSplice_7 rfl ?_
  refine x_ic (v := 0) C (by decide) dX5_withSplice_8 rfl ?_
  refine x_ic (v := 2) C (by decide) dX5_withSplice_9 rfl ?_
  obtain ⟨r4, h3, hM⟩ := gb1_some hM
  refine x_csni (As := [.int x3_2, .int 0, .int 2]) (rest := []) C E.2.2.2.2.2 3 (c_X6_within hG h3) (gBn kc_X6_within) rfl rfl rfl (by decide +kernel) (gBc kini_X6) (gBc kst_X6_within) ⟨by decide +kernel, by decide +kernel, by decide +kernel⟩ ⟨Nat.le_of_ble_eq_true rfl, Nat.le_of_ble_eq_true rfl⟩ rfl rfl (Nat.le_of_ble_eq_true rfl) dX5_withSplice_10 rfl ?_
  refine x_if_ne (tgt := 18) C dX5_withSplice_13 (by decide) rfl (fun hc => ?_) (fun hc => ?_)
  · replace hM := gif_neg hc hM
    refine x_iln C 3 rfl dX5_withSplice_18 rfl ?_
    refine x_lack C (gBc kf_X5_134) dX5_withSplice_19 rfl ?_
    refine x_iln C 0 rfl dX5_withSplice_22 rfl ?_
    obtain ⟨h5, hM⟩ := gck_some hM
    refine x_lald C h5 dX5_withSplice_23 rfl ?_
    refine x_iand C dX5_withSplice_24 rfl ?_
    refine x_ic (v := 1) C (by decide) dX5_withSplice_25 rfl ?_
    refine x_iln C 0 rfl dX5_withSplice_26 rfl ?_
    refine x_ishl C dX5_withSplice_27 rfl ?_
    refine x_ishl C dX5_withSplice_28 rfl ?_
    exact x_iret C E ⟨gs1 hM, rfl⟩ dX5_withSplice_29
  · replace hM := gif_pos hc hM
    refine x_ic (v := 0) C (by decide) dX5_withSplice_16 rfl ?_
    exact x_iret C E ⟨gs1 hM, rfl⟩ dX5_withSplice_17
set_option maxRecDepth 100000 in
set_option maxHeartbeats 4000000 in
theorem c_X5_step {l : Launch} {D : va_G} {ad : Nat → Nat} {cy : Nat → ClassId} {b : Nat} (hG : gInj (gGX D ad cy b)) {a0 : Int32} {σ : gMem} {r0 : Int32} {σ0 : gMem} (hM : m_X5_step a0 σ = some (r0, σ0)) : gMi l yX5_step (Cond.code yX5_step cX5_step 7 (some .boolean) :: gBig) { frames := 3, cells := 0, slots := 0, locals := 71 } (gGX D ad cy b) [.ref (ad 54), .int a0] σ r0 σ0 := by
  refine gIntro (own := RX5) hG (by decide +kernel) rfl rfl (Nat.le_of_ble_eq_true rfl) (lv := [(0, .ref (ad 54)), (1, .int a0)]) rfl (fun κ C E => ?_)
  unfold m_X5_step at hM
  refine x_aln C 0 rfl dX5_step_0 rfl ?_
  refine x_iln C 1 rfl dX5_step_1 rfl ?_
  obtain ⟨r2, h1, hM⟩ := gb1_some hM
  refine x_cvi (As := [.int a0]) (rest := []) C E.2.2.2.2.2 1 (c_X5_hourOf hG h1) (gBv km_X5_116 kin_X5_hourOf ksel_X5_hourOf kini_X5 kc_X5_hourOf) rfl rfl rfl ⟨rfl, by decide +kernel, by decide +kernel, by decide +kernel⟩ ⟨Nat.le_of_ble_eq_true rfl, Nat.le_of_ble_eq_true rfl⟩ (by show 54 < 213; decide) rfl rfl rfl rfl (Nat.le_of_ble_eq_true rfl) dX5_step_2 rfl ?_
  refine x_istn (lv' := [(2, .int r2), (0, .ref (ad 54)), (1, .int a0)]) C rfl rfl (by decide) rfl dX5_step_5 rfl ?_
  refine x_aln C 1 rfl dX5_step_6 rfl ?_
  refine x_iln C 2 rfl dX5_step_7 rfl ?_
  refine x_iln C 0 rfl dX5_step_8 rfl ?_
  obtain ⟨s4, h3, hM⟩ := gb1_some hM
  refine x_cvv (As := [.int a0, .int r2]) (rest := []) C E.2.2.2.2.2 2 (c_X5_arrive hG h3) (gBv km_X5_119 kin_X5_arrive ksel_X5_arrive kini_X5 kc_X5_arrive) rfl rfl rfl ⟨rfl, by decide +kernel, by decide +kernel, by decide +kernel⟩ ⟨Nat.le_of_ble_eq_true rfl, Nat.le_of_ble_eq_true rfl⟩ (by show 54 < 213; decide) rfl rfl rfl rfl (Nat.le_of_ble_eq_true rfl) dX5_step_9 rfl ?_
  refine x_aln C 1 rfl dX5_step_12 rfl ?_
  refine gXg_54_at C kf_X5_23 dX5_step_13 rfl ?_
  refine x_iln C 2 rfl dX5_step_16 rfl ?_
  refine x_bi (v := 61) C (by decide) dX5_step_17 rfl ?_
  refine x_irem C (by decide) dX5_step_19 rfl ?_
  obtain ⟨h5, hM⟩ := gck_some hM
  refine gXo_58 C h5 dX5_step_20 rfl ?_
  refine x_astn (lv' := [(3, .ref (ad (75 + (grem a0 61).toNatClampNeg))), (2, .int r2), (0, .ref (ad 54)), (1, .int a0)]) C rfl (by decide) rfl dX5_step_21 rfl ?_
  refine x_ic (v := 0) C (by decide) dX5_step_22 rfl ?_
  refine x_ist (lv' := [(4, .int 0), (3, .ref (ad (75 + (grem a0 61).toNatClampNeg))), (2, .int r2), (0, .ref (ad 54)), (1, .int a0)]) C rfl (by decide) rfl dX5_step_23 rfl ?_
  refine x_ic (v := 0) C (by decide) dX5_step_25 rfl ?_
  refine x_ist (lv' := [(5, .int 0), (4, .int 0), (3, .ref (ad (75 + (grem a0 61).toNatClampNeg))), (2, .int r2), (0, .ref (ad 54)), (1, .int a0)]) C rfl (by decide) rfl dX5_step_26 rfl ?_
  have L28 : ∀ (n : Nat) (x4_6 : Int32) (x5_7 : Int32) (s8 : gMem) (x4_9 : Int32) (s10 : gMem), m_X5_step_28 a0 r2 n x4_6 x5_7 s8 = some (x4_9, s10) → (wx κ (gGX D ad cy b) (gA (gGX D ad cy b)) 7 s10 122 [(4, .int x4_9)] []) → wx κ (gGX D ad cy b) (gA (gGX D ad cy b)) 7 s8 28 [(0, .ref (ad 54)), (1, .int a0), (2, .int r2), (3, .ref (ad (75 + (grem a0 61).toNatClampNeg))), (4, .int x4_6), (5, .int x5_7)] [] := by
    clear hM
    intro n
    induction n with
    | zero => intro _ _ _ _ _ hM; cases hM
    | succ n ih =>
      intro x4_6 x5_7 s8 x4_9 s10 hM kx0
      replace hM : b_X5_step_28 a0 r2 (m_X5_step_28 a0 r2 n) x4_6 x5_7 s8 = some (x4_9, s10) := hM
      unfold b_X5_step_28 at hM
      refine x_il C 5 rfl dX5_step_28 rfl ?_
      refine x_aln C 0 rfl dX5_step_30 rfl ?_
      refine gXg_54_places C kf_X5_44 dX5_step_31 rfl ?_
      refine x_ic_ge (tgt := 122) C dX5_step_34 (by decide) rfl (fun hc => ?_) (fun hc => ?_)
      · replace hM := gif_pos hc hM
        cases hM
        exact x_sub [4] rfl (kx0)
      · replace hM := gif_neg hc hM
        refine x_iln C 1 rfl dX5_step_37 rfl ?_
        obtain ⟨w11, hJ27, hM⟩ := gb1_some hM
        have J1 : wx κ (gGX D ad cy b) (gA (gGX D ad cy b)) 7 s8 59 [(0, .ref (ad 54)), (1, .int a0), (2, .int r2), (3, .ref (ad (75 + (grem a0 61).toNatClampNeg))), (4, .int x4_6), (5, .int x5_7)] [.int w11] := by
          refine x_ist (lv' := [(6, .int w11), (0, .ref (ad 54)), (1, .int a0), (2, .int r2), (3, .ref (ad (75 + (grem a0 61).toNatClampNeg))), (4, .int x4_6), (5, .int x5_7)]) C rfl (by decide) rfl dX5_step_59 rfl ?_
          refine x_aln C 4 rfl dX5_step_61 rfl ?_
          refine x_il C 6 rfl dX5_step_62 rfl ?_
          refine x_il C 0 rfl dX5_step_64 rfl ?_
          refine x_aln C 1 rfl dX5_step_66 rfl ?_
          refine gXg_54_came C kf_X5_26 dX5_step_67 rfl ?_
          refine x_il C 6 rfl dX5_step_70 rfl ?_
          obtain ⟨h14, hM⟩ := gck_some hM
          refine gXa_59 C h14 dX5_step_72 rfl ?_
          refine x_ior C dX5_step_73 rfl ?_
          refine x_aln C 1 rfl dX5_step_74 rfl ?_
          refine x_il C 6 rfl dX5_step_75 rfl ?_
          refine x_aln C 1 rfl dX5_step_77 rfl ?_
          refine gXg_54_came C kf_X5_26 dX5_step_78 rfl ?_
          refine x_il C 6 rfl dX5_step_81 rfl ?_
          obtain ⟨h15, hM⟩ := gck_some hM
          refine gXa_59 C h15 dX5_step_83 rfl ?_
          obtain ⟨r17, h16, hM⟩ := gb1_some hM
          refine x_cvi (As := [.int x5_7, .int (s8 59 x5_7.toNatClampNeg)]) (rest := [.int (w11 ||| (s8 59 x5_7.toNatClampNeg)), .int x5_7, .ref (ad (75 + (grem a0 61).toNatClampNeg))]) C E.2.2.2.2.2 2 (c_X5_withSplice hG h16) (gBv km_X5_123 kin_X5_withSplice ksel_X5_withSplice kini_X5 kc_X5_withSplice) rfl rfl rfl ⟨rfl, by decide +kernel, by decide +kernel, by decide +kernel⟩ ⟨Nat.le_of_ble_eq_true rfl, Nat.le_of_ble_eq_true rfl⟩ (by show 54 < 213; decide) rfl rfl rfl rfl (Nat.le_of_ble_eq_true rfl) dX5_step_84 rfl ?_
          refine x_ior C dX5_step_87 rfl ?_
          refine x_aln C 1 rfl dX5_step_88 rfl ?_
          refine gXg_54_footing C kf_X5_20 dX5_step_89 rfl ?_
          refine x_il C 6 rfl dX5_step_92 rfl ?_
          obtain ⟨h18, hM⟩ := gck_some hM
          refine gXo_57 C h18 dX5_step_94 rfl ?_
          refine x_iln C 3 rfl dX5_step_95 rfl ?_
          obtain ⟨h19, hM⟩ := gck_some hM
          refine gXa_foot C (inb_lt h18) h19 dX5_step_96 rfl ?_
          refine x_iand C dX5_step_97 rfl ?_
          obtain ⟨h20, hM⟩ := gck_some hM
          obtain ⟨s21, ev, hM⟩ := gnm_ex hM
          refine gXs_at C (inb_lt h5) ev h20 dX5_step_98 rfl ?_
          refine x_il C 5 rfl dX5_step_99 rfl ?_
          refine x_aln C 4 rfl dX5_step_101 rfl ?_
          refine x_il C 6 rfl dX5_step_102 rfl ?_
          obtain ⟨h22, hM⟩ := gck_some hM
          refine gXa_at C (inb_lt h5) h22 dX5_step_104 rfl ?_
          refine x_if_eq (tgt := 112) C dX5_step_105 (by decide) rfl (fun hc => ?_) (fun hc => ?_)
          · replace hM := gif_pos hc hM
            refine x_ic (v := 0) C (by decide) dX5_step_112 rfl ?_
            refine x_ior C dX5_step_113 rfl ?_
            obtain ⟨x4_23, ev, hM⟩ := gnm_ex hM
            refine x_ist (lv' := [(4, .int x4_23), (6, .int w11), (0, .ref (ad 54)), (1, .int a0), (2, .int r2), (3, .ref (ad (75 + (grem a0 61).toNatClampNeg))), (5, .int x5_7)]) C ev (by decide) rfl dX5_step_114 rfl ?_
            obtain ⟨x5_24, ev, hM⟩ := gnm_ex hM
            refine x_iinc (j := 6) (w := 1) (lv' := [(5, .int x5_24), (4, .int x4_23), (6, .int w11), (0, .ref (ad 54)), (1, .int a0), (2, .int r2), (3, .ref (ad (75 + (grem a0 61).toNatClampNeg)))]) C rfl ev (by decide) (by decide) rfl dX5_step_116 rfl ?_
            refine x_goto (tgt := 28) C dX5_step_119 (by decide) ?_
            exact x_sub [3, 4, 5, 6, 1, 0] rfl (ih x4_23 x5_24 s21 _ _ hM kx0)
          · replace hM := gif_neg hc hM
            refine x_ic (v := 1) C (by decide) dX5_step_108 rfl ?_
            refine x_goto (tgt := 113) C dX5_step_109 (by decide) ?_
            refine x_ior C dX5_step_113 rfl ?_
            obtain ⟨x4_25, ev, hM⟩ := gnm_ex hM
            refine x_ist (lv' := [(4, .int x4_25), (6, .int w11), (0, .ref (ad 54)), (1, .int a0), (2, .int r2), (3, .ref (ad (75 + (grem a0 61).toNatClampNeg))), (5, .int x5_7)]) C ev (by decide) rfl dX5_step_114 rfl ?_
            obtain ⟨x5_26, ev, hM⟩ := gnm_ex hM
            refine x_iinc (j := 6) (w := 1) (lv' := [(5, .int x5_26), (4, .int x4_25), (6, .int w11), (0, .ref (ad 54)), (1, .int a0), (2, .int r2), (3, .ref (ad (75 + (grem a0 61).toNatClampNeg)))]) C rfl ev (by decide) (by decide) rfl dX5_step_116 rfl ?_
            refine x_goto (tgt := 28) C dX5_step_119 (by decide) ?_
            exact x_sub [3, 4, 5, 6, 1, 0] rfl (ih x4_25 x5_26 s21 _ _ hM kx0)
        clear hM
        have hM := hJ27
        clear hJ27
        refine x_if_le (tgt := 58) C dX5_step_38 (by decide) rfl (fun hc => ?_) (fun hc => ?_)
        · replace hM := gif_pos hc hM
          refine x_ic (v := 0) C (by decide) dX5_step_58 rfl ?_
          cases hM
          exact x_sub [0, 1, 2, 3, 4, 5] rfl J1
        · replace hM := gif_neg hc hM
          refine x_aln C 0 rfl dX5_step_41 rfl ?_
          refine gXg_54_at C kf_X5_23 dX5_step_42 rfl ?_
          refine x_iln C 1 rfl dX5_step_45 rfl ?_
          refine x_ic (v := 1) C (by decide) dX5_step_46 rfl ?_
          refine x_isub C dX5_step_47 rfl ?_
          refine x_bi (v := 61) C (by decide) dX5_step_48 rfl ?_
          refine x_irem C (by decide) dX5_step_50 rfl ?_
          obtain ⟨h12, hM⟩ := gck_some hM
          refine gXo_58 C h12 dX5_step_51 rfl ?_
          refine x_il C 5 rfl dX5_step_52 rfl ?_
          obtain ⟨h13, hM⟩ := gck_some hM
          refine gXa_at C (inb_lt h12) h13 dX5_step_54 rfl ?_
          refine x_goto (tgt := 59) C dX5_step_55 (by decide) ?_
          cases hM
          exact x_sub [0, 1, 2, 3, 4, 5] rfl J1
  obtain ⟨x4_9, s10, hL28, hM⟩ := gb2_some hM
  refine x_sub [4, 5, 3, 2, 1, 0] rfl (L28 gFU 0 0 s4 _ _ hL28 ?_)
  clear L28
  refine x_il C 0 rfl dX5_step_122 rfl ?_
  obtain ⟨h29, hM⟩ := gck_some hM
  exact x_zret C E h29 (gs2 hM) dX5_step_124
set_option maxRecDepth 100000 in
set_option maxHeartbeats 4000000 in
theorem c_X6_holds {l : Launch} {D : va_G} {ad : Nat → Nat} {cy : Nat → ClassId} {b : Nat} (hG : gInj (gGX D ad cy b)) {a0 : Int32} {a1 : Int32} {σ : gMem} {r0 : Int32} (hM : m_X6_holds a0 a1 σ = some r0) : gMi l yX6_holds (Cond.code yX6_holds cX6_holds 2 (some .boolean) :: gBig) { frames := 0, cells := 0, slots := 0, locals := 0 } (gGX D ad cy b) [.int a0, .int a1] σ r0 σ := by
  refine gIntro (own := RX6) hG (by decide +kernel) rfl rfl (Nat.le_of_ble_eq_true rfl) (lv := [(0, .int a0), (1, .int a1)]) rfl (fun κ C E => ?_)
  unfold m_X6_holds at hM
  refine x_iln C 0 rfl dX6_holds_0 rfl ?_
  refine x_iln C 1 rfl dX6_holds_1 rfl ?_
  refine x_ishr C dX6_holds_2 rfl ?_
  refine x_ic (v := 1) C (by decide) dX6_holds_3 rfl ?_
  refine x_iand C dX6_holds_4 rfl ?_
  refine x_if_eq (tgt := 12) C dX6_holds_5 (by decide) rfl (fun hc => ?_) (fun hc => ?_)
  · replace hM := gif_pos hc hM
    refine x_ic (v := 0) C (by decide) dX6_holds_12 rfl ?_
    exact x_zret C E (by decide) ⟨gs1 hM, rfl⟩ dX6_holds_13
  · replace hM := gif_neg hc hM
    refine x_ic (v := 1) C (by decide) dX6_holds_8 rfl ?_
    refine x_goto (tgt := 13) C dX6_holds_9 (by decide) ?_
    exact x_zret C E (by decide) ⟨gs1 hM, rfl⟩ dX6_holds_13
set_option maxRecDepth 100000 in
set_option maxHeartbeats 4000000 in
theorem c_J6_bitCount_0f7a4 {l : Launch} {D : va_G} {ad : Nat → Nat} {cy : Nat → ClassId} {b : Nat} (hG : gInj (gGX D ad cy b)) {a0 : Int32} {σ : gMem} {r0 : Int32} (hM : m_J6_bitCount_0f7a4 a0 σ = some r0) : gMi l yJ6_bitCount_0f7a4 (Cond.code yJ6_bitCount_0f7a4 cJ6_bitCount_0f7a4 1 (some .int) :: gBig) { frames := 0, cells := 0, slots := 0, locals := 0 } (gGX D ad cy b) [.int a0] σ r0 σ := by
  refine gIntro (own := RJ6) hG (by decide +kernel) rfl rfl (Nat.le_of_ble_eq_true rfl) (lv := [(0, .int a0)]) rfl (fun κ C E => ?_)
  unfold m_J6_bitCount_0f7a4 at hM
  refine x_iln C 0 rfl dJ6_bitCount_0f7a4_0 rfl ?_
  refine x_iln C 0 rfl dJ6_bitCount_0f7a4_1 rfl ?_
  refine x_ic (v := 1) C (by decide) dJ6_bitCount_0f7a4_2 rfl ?_
  refine x_iushr C dJ6_bitCount_0f7a4_3 rfl ?_
  refine x_ldcw (v := 1431655765) C (gBc kk_J6_265) dJ6_bitCount_0f7a4_4 rfl ?_
  refine x_iand C dJ6_bitCount_0f7a4_7 rfl ?_
  refine x_isub C dJ6_bitCount_0f7a4_8 rfl ?_
  obtain ⟨x0_1, ev, hM⟩ := gnm_ex hM
  refine x_istn (lv' := [(0, .int x0_1)]) C rfl ev (by decide) rfl dJ6_bitCount_0f7a4_9 rfl ?_
  refine x_iln C 0 rfl dJ6_bitCount_0f7a4_10 rfl ?_
  refine x_ldcw (v := 858993459) C (gBc kk_J6_266) dJ6_bitCount_0f7a4_11 rfl ?_
  refine x_iand C dJ6_bitCount_0f7a4_14 rfl ?_
  refine x_iln C 0 rfl dJ6_bitCount_0f7a4_15 rfl ?_
  refine x_ic (v := 2) C (by decide) dJ6_bitCount_0f7a4_16 rfl ?_
  refine x_iushr C dJ6_bitCount_0f7a4_17 rfl ?_
  refine x_ldcw (v := 858993459) C (gBc kk_J6_266) dJ6_bitCount_0f7a4_18 rfl ?_
  refine x_iand C dJ6_bitCount_0f7a4_21 rfl ?_
  refine x_iadd C dJ6_bitCount_0f7a4_22 rfl ?_
  obtain ⟨x0_2, ev, hM⟩ := gnm_ex hM
  refine x_istn (lv' := [(0, .int x0_2)]) C rfl ev (by decide) rfl dJ6_bitCount_0f7a4_23 rfl ?_
  refine x_iln C 0 rfl dJ6_bitCount_0f7a4_24 rfl ?_
  refine x_iln C 0 rfl dJ6_bitCount_0f7a4_25 rfl ?_
  refine x_ic (v := 4) C (by decide) dJ6_bitCount_0f7a4_26 rfl ?_
  refine x_iushr C dJ6_bitCount_0f7a4_27 rfl ?_
  refine x_iadd C dJ6_bitCount_0f7a4_28 rfl ?_
  refine x_ldcw (v := 252645135) C (gBc kk_J6_267) dJ6_bitCount_0f7a4_29 rfl ?_
  refine x_iand C dJ6_bitCount_0f7a4_32 rfl ?_
  obtain ⟨x0_3, ev, hM⟩ := gnm_ex hM
  refine x_istn (lv' := [(0, .int x0_3)]) C rfl ev (by decide) rfl dJ6_bitCount_0f7a4_33 rfl ?_
  refine x_iln C 0 rfl dJ6_bitCount_0f7a4_34 rfl ?_
  refine x_iln C 0 rfl dJ6_bitCount_0f7a4_35 rfl ?_
  refine x_bi (v := 8) C (by decide) dJ6_bitCount_0f7a4_36 rfl ?_
  refine x_iushr C dJ6_bitCount_0f7a4_38 rfl ?_
  refine x_iadd C dJ6_bitCount_0f7a4_39 rfl ?_
  obtain ⟨x0_4, ev, hM⟩ := gnm_ex hM
  refine x_istn (lv' := [(0, .int x0_4)]) C rfl ev (by decide) rfl dJ6_bitCount_0f7a4_40 rfl ?_
  refine x_iln C 0 rfl dJ6_bitCount_0f7a4_41 rfl ?_
  refine x_iln C 0 rfl dJ6_bitCount_0f7a4_42 rfl ?_
  refine x_bi (v := 16) C (by decide) dJ6_bitCount_0f7a4_43 rfl ?_
  refine x_iushr C dJ6_bitCount_0f7a4_45 rfl ?_
  refine x_iadd C dJ6_bitCount_0f7a4_46 rfl ?_
  obtain ⟨x0_5, ev, hM⟩ := gnm_ex hM
  refine x_istn (lv' := [(0, .int x0_5)]) C rfl ev (by decide) rfl dJ6_bitCount_0f7a4_47 rfl ?_
  refine x_iln C 0 rfl dJ6_bitCount_0f7a4_48 rfl ?_
  refine x_bi (v := 63) C (by decide) dJ6_bitCount_0f7a4_49 rfl ?_
  refine x_iand C dJ6_bitCount_0f7a4_51 rfl ?_
  exact x_iret C E ⟨gs1 hM, rfl⟩ dJ6_bitCount_0f7a4_52
set_option maxRecDepth 100000 in
set_option maxHeartbeats 4000000 in
theorem c_X5_fewestTaken {l : Launch} {D : va_G} {ad : Nat → Nat} {cy : Nat → ClassId} {b : Nat} (hG : gInj (gGX D ad cy b)) {a0 : Int32} {σ : gMem} {r0 : Int32} (hM : m_X5_fewestTaken a0 σ = some r0) : gMi l yX5_fewestTaken (Cond.code yX5_fewestTaken cX5_fewestTaken 4 (some .int) :: gBig) { frames := 1, cells := 0, slots := 0, locals := 21 } (gGX D ad cy b) [.ref (ad 54), .int a0] σ r0 σ := by
  refine gIntro (own := RX5) hG (by decide +kernel) rfl rfl (Nat.le_of_ble_eq_true rfl) (lv := [(0, .ref (ad 54)), (1, .int a0)]) rfl (fun κ C E => ?_)
  unfold m_X5_fewestTaken at hM
  refine x_ic (v := 4) C (by decide) dX5_fewestTaken_0 rfl ?_
  refine x_istn (lv' := [(2, .int 4), (0, .ref (ad 54)), (1, .int a0)]) C rfl rfl (by decide) rfl dX5_fewestTaken_1 rfl ?_
  refine x_ic (v := 0) C (by decide) dX5_fewestTaken_2 rfl ?_
  refine x_istn (lv' := [(3, .int 0), (2, .int 4), (0, .ref (ad 54)), (1, .int a0)]) C rfl rfl (by decide) rfl dX5_fewestTaken_3 rfl ?_
  have L4 : ∀ (n : Nat) (x2_1 : Int32) (x3_2 : Int32) (x2_3 : Int32), m_X5_fewestTaken_4 a0 σ n x2_1 x3_2 = some (x2_3) → (wx κ (gGX D ad cy b) (gA (gGX D ad cy b)) 4 σ 33 [(2, .int x2_3)] []) → wx κ (gGX D ad cy b) (gA (gGX D ad cy b)) 4 σ 4 [(1, .int a0), (2, .int x2_1), (3, .int x3_2)] [] := by
    clear hM
    intro n
    induction n with
    | zero => intro _ _ _ hM; cases hM
    | succ n ih =>
      intro x2_1 x3_2 x2_3 hM kx0
      replace hM : b_X5_fewestTaken_4 a0 σ (m_X5_fewestTaken_4 a0 σ n) x2_1 x3_2 = some (x2_3) := hM
      unfold b_X5_fewestTaken_4 at hM
      refine x_iln C 2 rfl dX5_fewestTaken_4 rfl ?_
      refine x_bi (v := 8) C (by decide) dX5_fewestTaken_5 rfl ?_
      refine x_ic_ge (tgt := 33) C dX5_fewestTaken_7 (by decide) rfl (fun hc => ?_) (fun hc => ?_)
      · replace hM := gif_pos hc hM
        cases hM
        exact x_sub [1] rfl (kx0)
      · replace hM := gif_neg hc hM
        refine x_iln C 0 rfl dX5_fewestTaken_10 rfl ?_
        refine x_iln C 2 rfl dX5_fewestTaken_11 rfl ?_
        obtain ⟨r5, h4, hM⟩ := gb1_some hM
        refine x_csni (As := [.int a0, .int x3_2]) (rest := []) C E.2.2.2.2.2 2 (c_X6_holds hG h4) (gBn kc_X6_holds) rfl rfl rfl (by decide +kernel) (gBc kini_X6) (gBc kst_X6_holds) ⟨by decide +kernel, by decide +kernel, by decide +kernel⟩ ⟨Nat.le_of_ble_eq_true rfl, Nat.le_of_ble_eq_true rfl⟩ rfl rfl (Nat.le_of_ble_eq_true rfl) dX5_fewestTaken_12 rfl ?_
        refine x_if_eq (tgt := 27) C dX5_fewestTaken_15 (by decide) rfl (fun hc => ?_) (fun hc => ?_)
        · replace hM := gif_pos hc hM
          obtain ⟨x3_6, ev, hM⟩ := gnm_ex hM
          refine x_iinc (j := 2) (w := 1) (lv' := [(3, .int x3_6), (1, .int a0), (2, .int x2_1)]) C rfl ev (by decide) (by decide) rfl dX5_fewestTaken_27 rfl ?_
          refine x_goto (tgt := 4) C dX5_fewestTaken_30 (by decide) ?_
          exact x_sub [1, 2, 0] rfl (ih x2_1 x3_6 _ hM kx0)
        · replace hM := gif_neg hc hM
          refine x_iln C 1 rfl dX5_fewestTaken_18 rfl ?_
          refine x_iln C 2 rfl dX5_fewestTaken_19 rfl ?_
          obtain ⟨r8, h7, hM⟩ := gb1_some hM
          refine x_csi (As := [.int x3_2]) (rest := [.int x2_1]) C E.2.2.2.2.2 1 (c_J6_bitCount_0f7a4 hG h7) (gBs km_X5_111 kst_J6_bitCount_0f7a4 kini_J6 kc_J6_bitCount_0f7a4) rfl rfl rfl ⟨by decide +kernel, by decide +kernel, by decide +kernel⟩ ⟨Nat.le_of_ble_eq_true rfl, Nat.le_of_ble_eq_true rfl⟩ rfl rfl (Nat.le_of_ble_eq_true rfl) dX5_fewestTaken_20 rfl ?_
          refine x_mmin C (gBc km_X5_102) (gBc kst_J9_min_7cf53) (gBc kini_J9) (gBc kc_J9_min_7cf53) (by decide) (Nat.le_of_ble_eq_true rfl) dX5_fewestTaken_23 rfl ?_
          obtain ⟨x2_9, ev, hM⟩ := gnm_ex hM
          refine x_istn (lv' := [(2, .int x2_9), (1, .int a0), (3, .int x3_2)]) C rfl ev (by decide) rfl dX5_fewestTaken_26 rfl ?_
          obtain ⟨x3_10, ev, hM⟩ := gnm_ex hM
          refine x_iinc (j := 2) (w := 1) (lv' := [(3, .int x3_10), (2, .int x2_9), (1, .int a0)]) C rfl ev (by decide) (by decide) rfl dX5_fewestTaken_27 rfl ?_
          refine x_goto (tgt := 4) C dX5_fewestTaken_30 (by decide) ?_
          exact x_sub [2, 1, 0] rfl (ih x2_9 x3_10 _ hM kx0)
  obtain ⟨x2_3, hL11, hM⟩ := gb1_some hM
  refine x_sub [3, 1, 0] rfl (L4 gFU 4 0 _ hL11 ?_)
  clear L4
  refine x_iln C 0 rfl dX5_fewestTaken_33 rfl ?_
  exact x_iret C E ⟨gs1 hM, rfl⟩ dX5_fewestTaken_34
set_option maxRecDepth 100000 in
set_option maxHeartbeats 4000000 in
theorem c_X5_lightest {l : Launch} {D : va_G} {ad : Nat → Nat} {cy : Nat → ClassId} {b : Nat} (hG : gInj (gGX D ad cy b)) {a0 : Int32} {σ : gMem} {r0 : Int32} {σ0 : gMem} (hM : m_X5_lightest a0 σ = some (r0, σ0)) : gMi l yX5_lightest (Cond.code yX5_lightest cX5_lightest 4 (some .int) :: gBig) { frames := 4, cells := 0, slots := 0, locals := 97 } (gGX D ad cy b) [.ref (ad 54), .int a0] σ r0 σ0 := by
  refine gIntro (own := RX5) hG (by decide +kernel) rfl rfl (Nat.le_of_ble_eq_true rfl) (lv := [(0, .ref (ad 54)), (1, .int a0)]) rfl (fun κ C E => ?_)
  unfold m_X5_lightest at hM
  refine x_ic (v := 4) C (by decide) dX5_lightest_0 rfl ?_
  refine x_istn (lv' := [(2, .int 4), (0, .ref (ad 54)), (1, .int a0)]) C rfl rfl (by decide) rfl dX5_lightest_1 rfl ?_
  refine x_ic (v := 0) C (by decide) dX5_lightest_2 rfl ?_
  refine x_istn (lv' := [(3, .int 0), (2, .int 4), (0, .ref (ad 54)), (1, .int a0)]) C rfl rfl (by decide) rfl dX5_lightest_3 rfl ?_
  have L4 : ∀ (n : Nat) (x2_1 : Int32) (x3_2 : Int32) (s3 : gMem) (x2_4 : Int32) (s5 : gMem), m_X5_lightest_4 a0 n x2_1 x3_2 s3 = some (x2_4, s5) → (wx κ (gGX D ad cy b) (gA (gGX D ad cy b)) 4 s5 49 [(2, .int x2_4)] []) → wx κ (gGX D ad cy b) (gA (gGX D ad cy b)) 4 s3 4 [(0, .ref (ad 54)), (1, .int a0), (2, .int x2_1), (3, .int x3_2)] [] := by
    clear hM
    intro n
    induction n with
    | zero => intro _ _ _ _ _ hM; cases hM
    | succ n ih =>
      intro x2_1 x3_2 s3 x2_4 s5 hM kx0
      replace hM : b_X5_lightest_4 a0 (m_X5_lightest_4 a0 n) x2_1 x3_2 s3 = some (x2_4, s5) := hM
      unfold b_X5_lightest_4 at hM
      refine x_iln C 3 rfl dX5_lightest_4 rfl ?_
      refine x_si (v := 600) C (by decide) dX5_lightest_5 rfl ?_
      refine x_ic_gt (tgt := 49) C dX5_lightest_8 (by decide) rfl (fun hc => ?_) (fun hc => ?_)
      · replace hM := gif_pos hc hM
        cases hM
        exact x_sub [2] rfl (kx0)
      · replace hM := gif_neg hc hM
        refine x_iln C 2 rfl dX5_lightest_11 rfl ?_
        refine x_if_le (tgt := 49) C dX5_lightest_12 (by decide) rfl (fun hc => ?_) (fun hc => ?_)
        · replace hM := gif_pos hc hM
          cases hM
          exact x_sub [2] rfl (kx0)
        · replace hM := gif_neg hc hM
          refine x_aln C 0 rfl dX5_lightest_15 rfl ?_
          refine x_iln C 3 rfl dX5_lightest_16 rfl ?_
          obtain ⟨r8, s7, h6, hM⟩ := gb2_some hM
          refine x_cvi (As := [.int x3_2]) (rest := []) C E.2.2.2.2.2 1 (c_X5_step hG h6) (gBv km_X5_94 kin_X5_step ksel_X5_step kini_X5 kc_X5_step) rfl rfl rfl ⟨rfl, by decide +kernel, by decide +kernel, by decide +kernel⟩ ⟨Nat.le_of_ble_eq_true rfl, Nat.le_of_ble_eq_true rfl⟩ (by show 54 < 213; decide) rfl rfl rfl rfl (Nat.le_of_ble_eq_true rfl) dX5_lightest_17 rfl ?_
          refine x_if_eq (tgt := 49) C dX5_lightest_20 (by decide) rfl (fun hc => ?_) (fun hc => ?_)
          · replace hM := gif_pos hc hM
            cases hM
            exact x_sub [2] rfl (kx0)
          · replace hM := gif_neg hc hM
            refine x_iln C 2 rfl dX5_lightest_23 rfl ?_
            refine x_aln C 0 rfl dX5_lightest_24 rfl ?_
            refine x_aln C 0 rfl dX5_lightest_25 rfl ?_
            refine gXg_54_at C kf_X5_23 dX5_lightest_26 rfl ?_
            refine x_iln C 3 rfl dX5_lightest_29 rfl ?_
            refine x_bi (v := 61) C (by decide) dX5_lightest_30 rfl ?_
            refine x_irem C (by decide) dX5_lightest_32 rfl ?_
            obtain ⟨h9, hM⟩ := gck_some hM
            refine gXo_58 C h9 dX5_lightest_33 rfl ?_
            refine x_iln C 1 rfl dX5_lightest_34 rfl ?_
            obtain ⟨h10, hM⟩ := gck_some hM
            refine gXa_at C (inb_lt h9) h10 dX5_lightest_35 rfl ?_
            obtain ⟨r12, h11, hM⟩ := gb1_some hM
            refine x_cvi (As := [.int (s7 (75 + (grem x3_2 61).toNatClampNeg) a0.toNatClampNeg)]) (rest := [.int x2_1]) C E.2.2.2.2.2 1 (c_X5_fewestTaken hG h11) (gBv km_X5_98 kin_X5_fewestTaken ksel_X5_fewestTaken kini_X5 kc_X5_fewestTaken) rfl rfl rfl ⟨rfl, by decide +kernel, by decide +kernel, by decide +kernel⟩ ⟨Nat.le_of_ble_eq_true rfl, Nat.le_of_ble_eq_true rfl⟩ (by show 54 < 213; decide) rfl rfl rfl rfl (Nat.le_of_ble_eq_true rfl) dX5_lightest_36 rfl ?_
            refine x_mmin C (gBc km_X5_102) (gBc kst_J9_min_7cf53) (gBc kini_J9) (gBc kc_J9_min_7cf53) (by decide) (Nat.le_of_ble_eq_true rfl) dX5_lightest_39 rfl ?_
            obtain ⟨x2_13, ev, hM⟩ := gnm_ex hM
            refine x_istn (lv' := [(2, .int x2_13), (0, .ref (ad 54)), (1, .int a0), (3, .int x3_2)]) C rfl ev (by decide) rfl dX5_lightest_42 rfl ?_
            obtain ⟨x3_14, ev, hM⟩ := gnm_ex hM
            refine x_iinc (j := 3) (w := 1) (lv' := [(3, .int x3_14), (2, .int x2_13), (0, .ref (ad 54)), (1, .int a0)]) C rfl ev (by decide) (by decide) rfl dX5_lightest_43 rfl ?_
            refine x_goto (tgt := 4) C dX5_lightest_46 (by decide) ?_
            exact x_sub [2, 3, 1, 0] rfl (ih x2_13 x3_14 s7 _ _ hM kx0)
  obtain ⟨x2_4, s5, hL15, hM⟩ := gb2_some hM
  refine x_sub [2, 3, 1, 0] rfl (L4 gFU 4 0 σ _ _ hL15 ?_)
  clear L4
  refine x_iln C 0 rfl dX5_lightest_49 rfl ?_
  refine x_ic (v := 3) C (by decide) dX5_lightest_50 rfl ?_
  refine x_ic_le (tgt := 59) C dX5_lightest_51 (by decide) rfl (fun hc => ?_) (fun hc => ?_)
  · replace hM := gif_pos hc hM
    refine x_iln C 0 rfl dX5_lightest_59 rfl ?_
    exact x_iret C E (gs2 hM) dX5_lightest_60
  · replace hM := gif_neg hc hM
    refine x_bi (v := (-4)) C (by decide) dX5_lightest_54 rfl ?_
    refine x_goto (tgt := 60) C dX5_lightest_56 (by decide) ?_
    exact x_iret C E (gs2 hM) dX5_lightest_60
set_option maxRecDepth 100000 in
set_option maxHeartbeats 4000000 in
theorem c_X5_soonest {l : Launch} {D : va_G} {ad : Nat → Nat} {cy : Nat → ClassId} {b : Nat} (hG : gInj (gGX D ad cy b)) {a0 : Int32} {σ : gMem} {r0 : Int32} {σ0 : gMem} (hM : m_X5_soonest a0 σ = some (r0, σ0)) : gMi l yX5_soonest (Cond.code yX5_soonest cX5_soonest 3 (some .int) :: gBig) { frames := 4, cells := 0, slots := 0, locals := 97 } (gGX D ad cy b) [.ref (ad 54), .int a0] σ r0 σ0 := by
  refine gIntro (own := RX5) hG (by decide +kernel) rfl rfl (Nat.le_of_ble_eq_true rfl) (lv := [(0, .ref (ad 54)), (1, .int a0)]) rfl (fun κ C E => ?_)
  unfold m_X5_soonest at hM
  refine x_ic (v := 0) C (by decide) dX5_soonest_0 rfl ?_
  refine x_istn (lv' := [(2, .int 0), (0, .ref (ad 54)), (1, .int a0)]) C rfl rfl (by decide) rfl dX5_soonest_1 rfl ?_
  have L2 : ∀ (n : Nat) (x2_1 : Int32) (s2 : gMem) (t5 : Nat) (x2_3 : Int32) (s4 : gMem), m_X5_soonest_2 a0 n x2_1 s2 = some (t5, x2_3, s4) → (t5 = 0 → wx κ (gGX D ad cy b) (gA (gGX D ad cy b)) 3 s4 31 [(2, .int x2_3)] []) → (t5 = 1 → wx κ (gGX D ad cy b) (gA (gGX D ad cy b)) 3 s4 39 [] []) → wx κ (gGX D ad cy b) (gA (gGX D ad cy b)) 3 s2 2 [(0, .ref (ad 54)), (1, .int a0), (2, .int x2_1)] [] := by
    clear hM
    intro n
    induction n with
    | zero => intro _ _ _ _ _ hM; cases hM
    | succ n ih =>
      intro x2_1 s2 t5 x2_3 s4 hM kx0 kx1
      replace hM : b_X5_soonest_2 a0 (m_X5_soonest_2 a0 n) x2_1 s2 = some (t5, x2_3, s4) := hM
      unfold b_X5_soonest_2 at hM
      refine x_iln C 2 rfl dX5_soonest_2 rfl ?_
      refine x_si (v := 600) C (by decide) dX5_soonest_3 rfl ?_
      refine x_ic_gt (tgt := 39) C dX5_soonest_6 (by decide) rfl (fun hc => ?_) (fun hc => ?_)
      · replace hM := gif_pos hc hM
        cases hM
        exact x_sub [] rfl (kx1 rfl)
      · replace hM := gif_neg hc hM
        refine x_aln C 0 rfl dX5_soonest_9 rfl ?_
        refine x_iln C 2 rfl dX5_soonest_10 rfl ?_
        obtain ⟨r8, s7, h6, hM⟩ := gb2_some hM
        refine x_cvi (As := [.int x2_1]) (rest := []) C E.2.2.2.2.2 1 (c_X5_step hG h6) (gBv km_X5_94 kin_X5_step ksel_X5_step kini_X5 kc_X5_step) rfl rfl rfl ⟨rfl, by decide +kernel, by decide +kernel, by decide +kernel⟩ ⟨Nat.le_of_ble_eq_true rfl, Nat.le_of_ble_eq_true rfl⟩ (by show 54 < 213; decide) rfl rfl rfl rfl (Nat.le_of_ble_eq_true rfl) dX5_soonest_11 rfl ?_
        refine x_if_eq (tgt := 39) C dX5_soonest_14 (by decide) rfl (fun hc => ?_) (fun hc => ?_)
        · replace hM := gif_pos hc hM
          cases hM
          exact x_sub [] rfl (kx1 rfl)
        · replace hM := gif_neg hc hM
          refine x_aln C 0 rfl dX5_soonest_17 rfl ?_
          refine gXg_54_at C kf_X5_23 dX5_soonest_18 rfl ?_
          refine x_iln C 2 rfl dX5_soonest_21 rfl ?_
          refine x_bi (v := 61) C (by decide) dX5_soonest_22 rfl ?_
          refine x_irem C (by decide) dX5_soonest_24 rfl ?_
          obtain ⟨h9, hM⟩ := gck_some hM
          refine gXo_58 C h9 dX5_soonest_25 rfl ?_
          refine x_iln C 1 rfl dX5_soonest_26 rfl ?_
          obtain ⟨h10, hM⟩ := gck_some hM
          refine gXa_at C (inb_lt h9) h10 dX5_soonest_27 rfl ?_
          refine x_if_eq (tgt := 33) C dX5_soonest_28 (by decide) rfl (fun hc => ?_) (fun hc => ?_)
          · replace hM := gif_pos hc hM
            obtain ⟨x2_11, ev, hM⟩ := gnm_ex hM
            refine x_iinc (j := 2) (w := 1) (lv' := [(2, .int x2_11), (0, .ref (ad 54)), (1, .int a0)]) C rfl ev (by decide) (by decide) rfl dX5_soonest_33 rfl ?_
            refine x_goto (tgt := 2) C dX5_soonest_36 (by decide) ?_
            exact x_sub [1, 2, 0] rfl (ih x2_11 s7 _ _ _ hM kx0 kx1)
          · replace hM := gif_neg hc hM
            cases hM
            exact x_sub [2] rfl (kx0 rfl)
  obtain ⟨t5, x2_3, s4, hL12, hM⟩ := gb3_some hM
  refine x_sub [1, 2, 0] rfl (L2 gFU 0 σ _ _ _ hL12 (fun ht => ?_) (fun ht => ?_))
  · clear L2
    replace hM := gif_pos ht hM
    refine x_iln C 0 rfl dX5_soonest_31 rfl ?_
    exact x_iret C E (gs2 hM) dX5_soonest_32
  · clear L2
    replace hM := gif_neg (by omega : ¬ t5 = 0) hM
    refine x_bi (v := (-4)) C (by decide) dX5_soonest_39 rfl ?_
    exact x_iret C E (gs2 hM) dX5_soonest_41
set_option maxRecDepth 100000 in
set_option maxHeartbeats 4000000 in
theorem c_X6_way {l : Launch} {D : va_G} {ad : Nat → Nat} {cy : Nat → ClassId} {b : Nat} (hG : gInj (gGX D ad cy b)) {a0 : Int32} {a1 : Int32} {a2 : Int32} {a3 : Int32} {σ : gMem} {r0 : Int32} {σ0 : gMem} (hM : m_X6_way a0 a1 a2 a3 σ = some (r0, σ0)) : gMi l yX6_way (Cond.code yX6_way cX6_way 5 (some .int) :: gBig) { frames := 5, cells := 0, slots := 0, locals := 120 } (gGX D ad cy b) [.ref (ad 0), .int a0, .int a1, .int a2, .int a3] σ r0 σ0 := by
  refine gIntro (own := RX6) hG (by decide +kernel) rfl rfl (Nat.le_of_ble_eq_true rfl) (lv := [(0, .ref (ad 0)), (1, .int a0), (2, .int a1), (3, .int a2), (4, .int a3)]) rfl (fun κ C E => ?_)
  unfold m_X6_way at hM
  refine x_aln C 0 rfl dX6_way_0 rfl ?_
  refine gXg_0_now C kf_X6_10 dX6_way_1 rfl ?_
  refine x_iln C 1 rfl dX6_way_4 rfl ?_
  obtain ⟨r2, h1, hM⟩ := gb1_some hM
  refine x_cvi (As := [.int a0]) (rest := []) C E.2.2.2.2.2 1 (c_X1_hasPerson hG h1) (gBv km_X6_120 kin_X1_hasPerson ksel_X1_hasPerson kini_X1 kc_X1_hasPerson) rfl rfl rfl ⟨rfl, by decide +kernel, by decide +kernel, by decide +kernel⟩ ⟨Nat.le_of_ble_eq_true rfl, Nat.le_of_ble_eq_true rfl⟩ (by show 1 < 213; decide) rfl rfl rfl rfl (Nat.le_of_ble_eq_true rfl) dX6_way_5 rfl ?_
  refine x_if_eq (tgt := 39) C dX6_way_8 (by decide) rfl (fun hc => ?_) (fun hc => ?_)
  · replace hM := gif_pos hc hM
    refine x_ic (v := (-1)) C (by decide) dX6_way_39 rfl ?_
    exact x_iret C E (gs2 hM) dX6_way_40
  · replace hM := gif_neg hc hM
    refine x_aln C 0 rfl dX6_way_11 rfl ?_
    refine gXg_0_now C kf_X6_10 dX6_way_12 rfl ?_
    refine x_iln C 2 rfl dX6_way_15 rfl ?_
    obtain ⟨r4, h3, hM⟩ := gb1_some hM
    refine x_cvi (As := [.int a1]) (rest := []) C E.2.2.2.2.2 1 (c_X1_hasPlace hG h3) (gBv km_X6_66 kin_X1_hasPlace ksel_X1_hasPlace kini_X1 kc_X1_hasPlace) rfl rfl rfl ⟨rfl, by decide +kernel, by decide +kernel, by decide +kernel⟩ ⟨Nat.le_of_ble_eq_true rfl, Nat.le_of_ble_eq_true rfl⟩ (by show 1 < 213; decide) rfl rfl rfl rfl (Nat.le_of_ble_eq_true rfl) dX6_way_16 rfl ?_
    refine x_if_eq (tgt := 39) C dX6_way_19 (by decide) rfl (fun hc => ?_) (fun hc => ?_)
    · replace hM := gif_pos hc hM
      refine x_ic (v := (-1)) C (by decide) dX6_way_39 rfl ?_
      exact x_iret C E (gs2 hM) dX6_way_40
    · replace hM := gif_neg hc hM
      refine x_iln C 3 rfl dX6_way_22 rfl ?_
      obtain ⟨r6, h5, hM⟩ := gb1_some hM
      refine x_csi (As := [.int a2]) (rest := []) C E.2.2.2.2.2 1 (c_X6_isMinute hG h5) (gBs km_X6_178 kst_X6_isMinute kini_X6 kc_X6_isMinute) rfl rfl rfl ⟨by decide +kernel, by decide +kernel, by decide +kernel⟩ ⟨Nat.le_of_ble_eq_true rfl, Nat.le_of_ble_eq_true rfl⟩ rfl rfl (Nat.le_of_ble_eq_true rfl) dX6_way_23 rfl ?_
      refine x_if_eq (tgt := 39) C dX6_way_26 (by decide) rfl (fun hc => ?_) (fun hc => ?_)
      · replace hM := gif_pos hc hM
        refine x_ic (v := (-1)) C (by decide) dX6_way_39 rfl ?_
        exact x_iret C E (gs2 hM) dX6_way_40
      · replace hM := gif_neg hc hM
        refine x_il C 4 rfl dX6_way_29 rfl ?_
        refine x_ic (v := 0) C (by decide) dX6_way_31 rfl ?_
        refine x_ic (v := 1) C (by decide) dX6_way_32 rfl ?_
        obtain ⟨r8, h7, hM⟩ := gb1_some hM
        refine x_csi (As := [.int a3, .int 0, .int 1]) (rest := []) C E.2.2.2.2.2 3 (c_X6_within hG h7) (gBs km_X6_54 kst_X6_within kini_X6 kc_X6_within) rfl rfl rfl ⟨by decide +kernel, by decide +kernel, by decide +kernel⟩ ⟨Nat.le_of_ble_eq_true rfl, Nat.le_of_ble_eq_true rfl⟩ rfl rfl (Nat.le_of_ble_eq_true rfl) dX6_way_33 rfl ?_
        refine x_if_ne (tgt := 41) C dX6_way_36 (by decide) rfl (fun hc => ?_) (fun hc => ?_)
        · replace hM := gif_neg hc hM
          refine x_aln C 0 rfl dX6_way_41 rfl ?_
          refine gXg_0_walk C kf_X6_29 dX6_way_42 rfl ?_
          refine x_aln C 0 rfl dX6_way_45 rfl ?_
          refine gXg_0_now C kf_X6_10 dX6_way_46 rfl ?_
          refine x_iln C 1 rfl dX6_way_49 rfl ?_
          refine x_iln C 3 rfl dX6_way_50 rfl ?_
          obtain ⟨s10, h9, hM⟩ := gb1_some hM
          refine x_cvv (As := [.ref (ad 1), .int a0, .int a2]) (rest := []) C E.2.2.2.2.2 3 (c_X5_prepare hG h9) (gBv km_X6_181 kin_X5_prepare ksel_X5_prepare kini_X5 kc_X5_prepare) rfl rfl rfl ⟨rfl, by decide +kernel, by decide +kernel, by decide +kernel⟩ ⟨Nat.le_of_ble_eq_true rfl, Nat.le_of_ble_eq_true rfl⟩ (by show 54 < 213; decide) rfl rfl rfl rfl (Nat.le_of_ble_eq_true rfl) dX6_way_51 rfl ?_
          refine x_il C 4 rfl dX6_way_54 rfl ?_
          refine x_if_ne (tgt := 70) C dX6_way_56 (by decide) rfl (fun hc => ?_) (fun hc => ?_)
          · replace hM := gif_neg hc hM
            refine x_aln C 0 rfl dX6_way_70 rfl ?_
            refine gXg_0_walk C kf_X6_29 dX6_way_71 rfl ?_
            refine x_iln C 2 rfl dX6_way_74 rfl ?_
            obtain ⟨r13, s12, h11, hM⟩ := gb2_some hM
            refine x_cvi (As := [.int a1]) (rest := []) C E.2.2.2.2.2 1 (c_X5_lightest hG h11) (gBv km_X6_188 kin_X5_lightest ksel_X5_lightest kini_X5 kc_X5_lightest) rfl rfl rfl ⟨rfl, by decide +kernel, by decide +kernel, by decide +kernel⟩ ⟨Nat.le_of_ble_eq_true rfl, Nat.le_of_ble_eq_true rfl⟩ (by show 54 < 213; decide) rfl rfl rfl rfl (Nat.le_of_ble_eq_true rfl) dX6_way_75 rfl ?_
            exact x_iret C E (gs2 hM) dX6_way_78
          · replace hM := gif_pos hc hM
            refine x_aln C 0 rfl dX6_way_59 rfl ?_
            refine gXg_0_walk C kf_X6_29 dX6_way_60 rfl ?_
            refine x_iln C 2 rfl dX6_way_63 rfl ?_
            obtain ⟨r16, s15, h14, hM⟩ := gb2_some hM
            refine x_cvi (As := [.int a1]) (rest := []) C E.2.2.2.2.2 1 (c_X5_soonest hG h14) (gBv km_X6_185 kin_X5_soonest ksel_X5_soonest kini_X5 kc_X5_soonest) rfl rfl rfl ⟨rfl, by decide +kernel, by decide +kernel, by decide +kernel⟩ ⟨Nat.le_of_ble_eq_true rfl, Nat.le_of_ble_eq_true rfl⟩ (by show 54 < 213; decide) rfl rfl rfl rfl (Nat.le_of_ble_eq_true rfl) dX6_way_64 rfl ?_
            refine x_goto (tgt := 78) C dX6_way_67 (by decide) ?_
            exact x_iret C E (gs2 hM) dX6_way_78
        · replace hM := gif_pos hc hM
          refine x_ic (v := (-1)) C (by decide) dX6_way_39 rfl ?_
          exact x_iret C E (gs2 hM) dX6_way_40
set_option maxRecDepth 100000 in
set_option maxHeartbeats 4000000 in
theorem c_X1_hasPeople {l : Launch} {D : va_G} {ad : Nat → Nat} {cy : Nat → ClassId} {b : Nat} (hG : gInj (gGX D ad cy b)) {a0 : Int32} {σ : gMem} {r0 : Int32} (hM : m_X1_hasPeople a0 σ = some r0) : gMi l yX1_hasPeople (Cond.code yX1_hasPeople cX1_hasPeople 2 (some .boolean) :: gBig) { frames := 1, cells := 0, slots := 0, locals := 22 } (gGX D ad cy b) [.ref (ad 1), .int a0] σ r0 σ := by
  refine gIntro (own := RX1) hG (by decide +kernel) rfl rfl (Nat.le_of_ble_eq_true rfl) (lv := [(0, .ref (ad 1)), (1, .int a0)]) rfl (fun κ C E => ?_)
  unfold m_X1_hasPeople at hM
  refine x_iln C 1 rfl dX1_hasPeople_0 rfl ?_
  refine x_ic (v := 1) C (by decide) dX1_hasPeople_1 rfl ?_
  refine x_ic (v := 1) C (by decide) dX1_hasPeople_2 rfl ?_
  refine x_aln C 0 rfl dX1_hasPeople_3 rfl ?_
  refine gXg_1_people C kf_X1_57 dX1_hasPeople_4 rfl ?_
  refine x_ishl C dX1_hasPeople_7 rfl ?_
  refine x_ic (v := 1) C (by decide) dX1_hasPeople_8 rfl ?_
  refine x_isub C dX1_hasPeople_9 rfl ?_
  obtain ⟨r2, h1, hM⟩ := gb1_some hM
  refine x_csni (As := [.int a0, .int 1, .int (((1 : Int32) <<< ((σ 1 8) &&& 31)) - 1)]) (rest := []) C E.2.2.2.2.2 3 (c_X6_within hG h1) (gBn kc_X6_within) rfl rfl rfl (by decide +kernel) (gBc kini_X6) (gBc kst_X6_within) ⟨by decide +kernel, by decide +kernel, by decide +kernel⟩ ⟨Nat.le_of_ble_eq_true rfl, Nat.le_of_ble_eq_true rfl⟩ rfl rfl (Nat.le_of_ble_eq_true rfl) dX1_hasPeople_10 rfl ?_
  obtain ⟨h3, hM⟩ := gck_some hM
  exact x_zret C E h3 ⟨gs1 hM, rfl⟩ dX1_hasPeople_13
set_option maxRecDepth 100000 in
set_option maxHeartbeats 4000000 in
theorem c_X6_race {l : Launch} {D : va_G} {ad : Nat → Nat} {cy : Nat → ClassId} {b : Nat} (hG : gInj (gGX D ad cy b)) {a0 : Int32} {a1 : Int32} {a2 : Int32} {a3 : Int32} {σ : gMem} {r0 : Int32} {σ0 : gMem} (hM : m_X6_race a0 a1 a2 a3 σ = some (r0, σ0)) : gMi l yX6_race (Cond.code yX6_race cX6_race 10 (some .int) :: gBig) { frames := 5, cells := 0, slots := 0, locals := 119 } (gGX D ad cy b) [.ref (ad 0), .int a0, .int a1, .int a2, .int a3] σ r0 σ0 := by
  refine gIntro (own := RX6) hG (by decide +kernel) rfl rfl (Nat.le_of_ble_eq_true rfl) (lv := [(0, .ref (ad 0)), (1, .int a0), (2, .int a1), (3, .int a2), (4, .int a3)]) rfl (fun κ C E => ?_)
  unfold m_X6_race at hM
  refine x_aln C 0 rfl dX6_race_0 rfl ?_
  refine gXg_0_now C kf_X6_10 dX6_race_1 rfl ?_
  refine x_iln C 1 rfl dX6_race_4 rfl ?_
  obtain ⟨r2, h1, hM⟩ := gb1_some hM
  refine x_cvi (As := [.int a0]) (rest := []) C E.2.2.2.2.2 1 (c_X1_hasPeople hG h1) (gBv km_X6_191 kin_X1_hasPeople ksel_X1_hasPeople kini_X1 kc_X1_hasPeople) rfl rfl rfl ⟨rfl, by decide +kernel, by decide +kernel, by decide +kernel⟩ ⟨Nat.le_of_ble_eq_true rfl, Nat.le_of_ble_eq_true rfl⟩ (by show 1 < 213; decide) rfl rfl rfl rfl (Nat.le_of_ble_eq_true rfl) dX6_race_5 rfl ?_
  refine x_if_eq (tgt := 39) C dX6_race_8 (by decide) rfl (fun hc => ?_) (fun hc => ?_)
  · replace hM := gif_pos hc hM
    refine x_ic (v := (-1)) C (by decide) dX6_race_39 rfl ?_
    exact x_iret C E (gs2 hM) dX6_race_40
  · replace hM := gif_neg hc hM
    refine x_aln C 0 rfl dX6_race_11 rfl ?_
    refine gXg_0_now C kf_X6_10 dX6_race_12 rfl ?_
    refine x_iln C 2 rfl dX6_race_15 rfl ?_
    obtain ⟨r4, h3, hM⟩ := gb1_some hM
    refine x_cvi (As := [.int a1]) (rest := []) C E.2.2.2.2.2 1 (c_X1_hasPlace hG h3) (gBv km_X6_66 kin_X1_hasPlace ksel_X1_hasPlace kini_X1 kc_X1_hasPlace) rfl rfl rfl ⟨rfl, by decide +kernel, by decide +kernel, by decide +kernel⟩ ⟨Nat.le_of_ble_eq_true rfl, Nat.le_of_ble_eq_true rfl⟩ (by show 1 < 213; decide) rfl rfl rfl rfl (Nat.le_of_ble_eq_true rfl) dX6_race_16 rfl ?_
    refine x_if_eq (tgt := 39) C dX6_race_19 (by decide) rfl (fun hc => ?_) (fun hc => ?_)
    · replace hM := gif_pos hc hM
      refine x_ic (v := (-1)) C (by decide) dX6_race_39 rfl ?_
      exact x_iret C E (gs2 hM) dX6_race_40
    · replace hM := gif_neg hc hM
      refine x_iln C 3 rfl dX6_race_22 rfl ?_
      obtain ⟨r6, h5, hM⟩ := gb1_some hM
      refine x_csi (As := [.int a2]) (rest := []) C E.2.2.2.2.2 1 (c_X6_isMinute hG h5) (gBs km_X6_178 kst_X6_isMinute kini_X6 kc_X6_isMinute) rfl rfl rfl ⟨by decide +kernel, by decide +kernel, by decide +kernel⟩ ⟨Nat.le_of_ble_eq_true rfl, Nat.le_of_ble_eq_true rfl⟩ rfl rfl (Nat.le_of_ble_eq_true rfl) dX6_race_23 rfl ?_
      refine x_if_eq (tgt := 39) C dX6_race_26 (by decide) rfl (fun hc => ?_) (fun hc => ?_)
      · replace hM := gif_pos hc hM
        refine x_ic (v := (-1)) C (by decide) dX6_race_39 rfl ?_
        exact x_iret C E (gs2 hM) dX6_race_40
      · replace hM := gif_neg hc hM
        refine x_il C 4 rfl dX6_race_29 rfl ?_
        refine x_ic (v := 0) C (by decide) dX6_race_31 rfl ?_
        refine x_ic (v := 1) C (by decide) dX6_race_32 rfl ?_
        obtain ⟨r8, h7, hM⟩ := gb1_some hM
        refine x_csi (As := [.int a3, .int 0, .int 1]) (rest := []) C E.2.2.2.2.2 3 (c_X6_within hG h7) (gBs km_X6_54 kst_X6_within kini_X6 kc_X6_within) rfl rfl rfl ⟨by decide +kernel, by decide +kernel, by decide +kernel⟩ ⟨Nat.le_of_ble_eq_true rfl, Nat.le_of_ble_eq_true rfl⟩ rfl rfl (Nat.le_of_ble_eq_true rfl) dX6_race_33 rfl ?_
        refine x_if_ne (tgt := 41) C dX6_race_36 (by decide) rfl (fun hc => ?_) (fun hc => ?_)
        · replace hM := gif_neg hc hM
          refine x_bi (v := (-4)) C (by decide) dX6_race_41 rfl ?_
          refine x_ist (lv' := [(5, .int (-4)), (0, .ref (ad 0)), (1, .int a0), (2, .int a1), (3, .int a2), (4, .int a3)]) C rfl (by decide) rfl dX6_race_43 rfl ?_
          refine x_si (v := 601) C (by decide) dX6_race_45 rfl ?_
          refine x_ist (lv' := [(6, .int 601), (5, .int (-4)), (0, .ref (ad 0)), (1, .int a0), (2, .int a1), (3, .int a2), (4, .int a3)]) C rfl (by decide) rfl dX6_race_48 rfl ?_
          refine x_ic (v := 0) C (by decide) dX6_race_50 rfl ?_
          refine x_ist (lv' := [(7, .int 0), (6, .int 601), (5, .int (-4)), (0, .ref (ad 0)), (1, .int a0), (2, .int a1), (3, .int a2), (4, .int a3)]) C rfl (by decide) rfl dX6_race_51 rfl ?_
          refine x_ic (v := 0) C (by decide) dX6_race_53 rfl ?_
          refine x_ist (lv' := [(8, .int 0), (7, .int 0), (6, .int 601), (5, .int (-4)), (0, .ref (ad 0)), (1, .int a0), (2, .int a1), (3, .int a2), (4, .int a3)]) C rfl (by decide) rfl dX6_race_54 rfl ?_
          have L56 : ∀ (n : Nat) (x5_9 : Int32) (x6_10 : Int32) (x7_11 : Int32) (x8_12 : Int32) (s13 : gMem) (x5_14 : Int32) (x7_15 : Int32) (s16 : gMem), m_X6_race_56 a0 a1 a2 n x5_9 x6_10 x7_11 x8_12 s13 = some (x5_14, x7_15, s16) → (wx κ (gGX D ad cy b) (gA (gGX D ad cy b)) 10 s16 138 [(4, .int a3), (5, .int x5_14), (7, .int x7_15)] []) → wx κ (gGX D ad cy b) (gA (gGX D ad cy b)) 10 s13 56 [(0, .ref (ad 0)), (1, .int a0), (2, .int a1), (3, .int a2), (4, .int a3), (5, .int x5_9), (6, .int x6_10), (7, .int x7_11), (8, .int x8_12)] [] := by
            clear hM
            intro n
            induction n with
            | zero => intro _ _ _ _ _ _ _ _ hM; cases hM
            | succ n ih =>
              intro x5_9 x6_10 x7_11 x8_12 s13 x5_14 x7_15 s16 hM kx0
              replace hM : b_X6_race_56 a0 a1 a2 (m_X6_race_56 a0 a1 a2 n) x5_9 x6_10 x7_11 x8_12 s13 = some (x5_14, x7_15, s16) := hM
              unfold b_X6_race_56 at hM
              refine x_il C 8 rfl dX6_race_56 rfl ?_
              refine x_aln C 0 rfl dX6_race_58 rfl ?_
              refine gXg_0_now C kf_X6_10 dX6_race_59 rfl ?_
              refine gXg_1_people C kf_X6_113 dX6_race_62 rfl ?_
              refine x_ic_ge (tgt := 138) C dX6_race_65 (by decide) rfl (fun hc => ?_) (fun hc => ?_)
              · replace hM := gif_pos hc hM
                cases hM
                exact x_sub [4, 5, 7] rfl (kx0)
              · replace hM := gif_neg hc hM
                refine x_iln C 1 rfl dX6_race_68 rfl ?_
                refine x_il C 8 rfl dX6_race_69 rfl ?_
                obtain ⟨r18, h17, hM⟩ := gb1_some hM
                refine x_csi (As := [.int a0, .int x8_12]) (rest := []) C E.2.2.2.2.2 2 (c_X6_holds hG h17) (gBs km_X6_194 kst_X6_holds kini_X6 kc_X6_holds) rfl rfl rfl ⟨by decide +kernel, by decide +kernel, by decide +kernel⟩ ⟨Nat.le_of_ble_eq_true rfl, Nat.le_of_ble_eq_true rfl⟩ rfl rfl (Nat.le_of_ble_eq_true rfl) dX6_race_71 rfl ?_
                refine x_if_ne (tgt := 80) C dX6_race_74 (by decide) rfl (fun hc => ?_) (fun hc => ?_)
                · replace hM := gif_neg hc hM
                  refine x_aln C 0 rfl dX6_race_80 rfl ?_
                  refine gXg_0_walk C kf_X6_29 dX6_race_81 rfl ?_
                  refine x_aln C 0 rfl dX6_race_84 rfl ?_
                  refine gXg_0_now C kf_X6_10 dX6_race_85 rfl ?_
                  refine x_il C 8 rfl dX6_race_88 rfl ?_
                  refine x_iln C 3 rfl dX6_race_90 rfl ?_
                  obtain ⟨s20, h19, hM⟩ := gb1_some hM
                  refine x_cvv (As := [.ref (ad 1), .int x8_12, .int a2]) (rest := []) C E.2.2.2.2.2 3 (c_X5_prepare hG h19) (gBv km_X6_181 kin_X5_prepare ksel_X5_prepare kini_X5 kc_X5_prepare) rfl rfl rfl ⟨rfl, by decide +kernel, by decide +kernel, by decide +kernel⟩ ⟨Nat.le_of_ble_eq_true rfl, Nat.le_of_ble_eq_true rfl⟩ (by show 54 < 213; decide) rfl rfl rfl rfl (Nat.le_of_ble_eq_true rfl) dX6_race_91 rfl ?_
                  refine x_aln C 0 rfl dX6_race_94 rfl ?_
                  refine gXg_0_walk C kf_X6_29 dX6_race_95 rfl ?_
                  refine x_iln C 2 rfl dX6_race_98 rfl ?_
                  obtain ⟨r23, s22, h21, hM⟩ := gb2_some hM
                  refine x_cvi (As := [.int a1]) (rest := []) C E.2.2.2.2.2 1 (c_X5_soonest hG h21) (gBv km_X6_185 kin_X5_soonest ksel_X5_soonest kini_X5 kc_X5_soonest) rfl rfl rfl ⟨rfl, by decide +kernel, by decide +kernel, by decide +kernel⟩ ⟨Nat.le_of_ble_eq_true rfl, Nat.le_of_ble_eq_true rfl⟩ (by show 54 < 213; decide) rfl rfl rfl rfl (Nat.le_of_ble_eq_true rfl) dX6_race_99 rfl ?_
                  refine x_ist (lv' := [(9, .int r23), (0, .ref (ad 0)), (1, .int a0), (2, .int a1), (3, .int a2), (4, .int a3), (5, .int x5_9), (6, .int x6_10), (7, .int x7_11), (8, .int x8_12)]) C rfl (by decide) rfl dX6_race_102 rfl ?_
                  refine x_il C 0 rfl dX6_race_104 rfl ?_
                  refine x_bi (v := (-4)) C (by decide) dX6_race_106 rfl ?_
                  refine x_ic_ne (tgt := 114) C dX6_race_108 (by decide) rfl (fun hc => ?_) (fun hc => ?_)
                  · replace hM := gif_neg hc hM
                    obtain ⟨x7_24, ev, hM⟩ := gnm_ex hM
                    refine x_iinc (j := 8) (w := 1) (lv' := [(7, .int x7_24), (9, .int r23), (0, .ref (ad 0)), (1, .int a0), (2, .int a1), (3, .int a2), (4, .int a3), (5, .int x5_9), (6, .int x6_10), (8, .int x8_12)]) C rfl ev (by decide) (by decide) rfl dX6_race_114 rfl ?_
                    refine x_il C 1 rfl dX6_race_117 rfl ?_
                    refine x_il C 8 rfl dX6_race_119 rfl ?_
                    refine x_ic_ge (tgt := 132) C dX6_race_121 (by decide) rfl (fun hc => ?_) (fun hc => ?_)
                    · replace hM := gif_pos hc hM
                      obtain ⟨x8_25, ev, hM⟩ := gnm_ex hM
                      refine x_iinc (j := 9) (w := 1) (lv' := [(8, .int x8_25), (7, .int x7_24), (9, .int r23), (0, .ref (ad 0)), (1, .int a0), (2, .int a1), (3, .int a2), (4, .int a3), (5, .int x5_9), (6, .int x6_10)]) C rfl ev (by decide) (by decide) rfl dX6_race_132 rfl ?_
                      refine x_goto (tgt := 56) C dX6_race_135 (by decide) ?_
                      exact x_sub [3, 4, 5, 6, 7, 8, 9, 1, 0] rfl (ih x5_9 x6_10 x7_24 x8_25 s22 _ _ _ hM kx0)
                    · replace hM := gif_neg hc hM
                      refine x_il C 1 rfl dX6_race_124 rfl ?_
                      refine x_ist (lv' := [(6, .int r23), (7, .int x7_24), (9, .int r23), (0, .ref (ad 0)), (1, .int a0), (2, .int a1), (3, .int a2), (4, .int a3), (5, .int x5_9), (8, .int x8_12)]) C rfl (by decide) rfl dX6_race_126 rfl ?_
                      refine x_il C 9 rfl dX6_race_128 rfl ?_
                      refine x_ist (lv' := [(5, .int x8_12), (6, .int r23), (7, .int x7_24), (9, .int r23), (0, .ref (ad 0)), (1, .int a0), (2, .int a1), (3, .int a2), (4, .int a3), (8, .int x8_12)]) C rfl (by decide) rfl dX6_race_130 rfl ?_
                      obtain ⟨x8_26, ev, hM⟩ := gnm_ex hM
                      refine x_iinc (j := 9) (w := 1) (lv' := [(8, .int x8_26), (5, .int x8_12), (6, .int r23), (7, .int x7_24), (9, .int r23), (0, .ref (ad 0)), (1, .int a0), (2, .int a1), (3, .int a2), (4, .int a3)]) C rfl ev (by decide) (by decide) rfl dX6_race_132 rfl ?_
                      refine x_goto (tgt := 56) C dX6_race_135 (by decide) ?_
                      exact x_sub [5, 6, 7, 8, 9, 1, 2, 3, 0] rfl (ih x8_12 r23 x7_24 x8_26 s22 _ _ _ hM kx0)
                  · replace hM := gif_pos hc hM
                    refine x_goto (tgt := 132) C dX6_race_111 (by decide) ?_
                    obtain ⟨x8_27, ev, hM⟩ := gnm_ex hM
                    refine x_iinc (j := 9) (w := 1) (lv' := [(8, .int x8_27), (9, .int r23), (0, .ref (ad 0)), (1, .int a0), (2, .int a1), (3, .int a2), (4, .int a3), (5, .int x5_9), (6, .int x6_10), (7, .int x7_11)]) C rfl ev (by decide) (by decide) rfl dX6_race_132 rfl ?_
                    refine x_goto (tgt := 56) C dX6_race_135 (by decide) ?_
                    exact x_sub [2, 3, 4, 5, 6, 7, 8, 9, 0] rfl (ih x5_9 x6_10 x7_11 x8_27 s22 _ _ _ hM kx0)
                · replace hM := gif_pos hc hM
                  refine x_goto (tgt := 132) C dX6_race_77 (by decide) ?_
                  obtain ⟨x8_28, ev, hM⟩ := gnm_ex hM
                  refine x_iinc (j := 8) (w := 1) (lv' := [(8, .int x8_28), (0, .ref (ad 0)), (1, .int a0), (2, .int a1), (3, .int a2), (4, .int a3), (5, .int x5_9), (6, .int x6_10), (7, .int x7_11)]) C rfl ev (by decide) (by decide) rfl dX6_race_132 rfl ?_
                  refine x_goto (tgt := 56) C dX6_race_135 (by decide) ?_
                  exact x_sub [1, 2, 3, 4, 5, 6, 7, 8, 0] rfl (ih x5_9 x6_10 x7_11 x8_28 s13 _ _ _ hM kx0)
          obtain ⟨x5_14, x7_15, s16, hL29, hM⟩ := gb3_some hM
          refine x_sub [4, 5, 6, 7, 8, 3, 2, 1, 0] rfl (L56 gFU (-4) 601 0 0 σ _ _ _ hL29 ?_)
          clear L56
          refine x_il C 0 rfl dX6_race_138 rfl ?_
          refine x_if_ne (tgt := 148) C dX6_race_140 (by decide) rfl (fun hc => ?_) (fun hc => ?_)
          · replace hM := gif_neg hc hM
            refine x_il C 2 rfl dX6_race_148 rfl ?_
            exact x_iret C E (gs2 hM) dX6_race_150
          · replace hM := gif_pos hc hM
            refine x_il C 1 rfl dX6_race_143 rfl ?_
            refine x_goto (tgt := 150) C dX6_race_145 (by decide) ?_
            exact x_iret C E (gs2 hM) dX6_race_150
        · replace hM := gif_pos hc hM
          refine x_ic (v := (-1)) C (by decide) dX6_race_39 rfl ?_
          exact x_iret C E (gs2 hM) dX6_race_40
set_option maxRecDepth 100000 in
set_option maxHeartbeats 4000000 in
theorem c_X1_addNeed {l : Launch} {D : va_G} {ad : Nat → Nat} {cy : Nat → ClassId} {b : Nat} (hG : gInj (gGX D ad cy b)) {a0 : Int32} {a1 : Int32} {a2 : Int32} {σ : gMem} {r0 : Int32} {σ0 : gMem} (hM : m_X1_addNeed a0 a1 a2 σ = some (r0, σ0)) : gMi l yX1_addNeed (Cond.code yX1_addNeed cX1_addNeed 4 (some .int) :: gBig) { frames := 0, cells := 0, slots := 0, locals := 0 } (gGX D ad cy b) [.ref (ad 1), .int a0, .int a1, .int a2] σ r0 σ0 := by
  refine gIntro (own := RX1) hG (by decide +kernel) rfl rfl (Nat.le_of_ble_eq_true rfl) (lv := [(0, .ref (ad 1)), (1, .int a0), (2, .int a1), (3, .int a2)]) rfl (fun κ C E => ?_)
  unfold m_X1_addNeed at hM
  refine x_aln C 0 rfl dX1_addNeed_0 rfl ?_
  refine gXg_1_needers C kf_X1_42 dX1_addNeed_1 rfl ?_
  refine x_aln C 0 rfl dX1_addNeed_4 rfl ?_
  refine gXg_1_needs C kf_X1_60 dX1_addNeed_5 rfl ?_
  refine x_iln C 1 rfl dX1_addNeed_8 rfl ?_
  obtain ⟨h1, hM⟩ := gck_some hM
  obtain ⟨s2, ev, hM⟩ := gnm_ex hM
  refine gXs_10 C ev h1 dX1_addNeed_9 rfl ?_
  refine x_aln C 0 rfl dX1_addNeed_10 rfl ?_
  refine gXg_1_needPlaces C kf_X1_45 dX1_addNeed_11 rfl ?_
  refine x_aln C 0 rfl dX1_addNeed_14 rfl ?_
  refine gXg_1_needs C kf_X1_60 dX1_addNeed_15 rfl ?_
  refine x_iln C 2 rfl dX1_addNeed_18 rfl ?_
  obtain ⟨h3, hM⟩ := gck_some hM
  obtain ⟨s4, ev, hM⟩ := gnm_ex hM
  refine gXs_11 C ev h3 dX1_addNeed_19 rfl ?_
  refine x_aln C 0 rfl dX1_addNeed_20 rfl ?_
  refine gXg_1_needHours C kf_X1_48 dX1_addNeed_21 rfl ?_
  refine x_aln C 0 rfl dX1_addNeed_24 rfl ?_
  refine gXg_1_needs C kf_X1_60 dX1_addNeed_25 rfl ?_
  refine x_iln C 3 rfl dX1_addNeed_28 rfl ?_
  obtain ⟨h5, hM⟩ := gck_some hM
  obtain ⟨s6, ev, hM⟩ := gnm_ex hM
  refine gXs_12 C ev h5 dX1_addNeed_29 rfl ?_
  refine x_aln C 0 rfl dX1_addNeed_30 rfl ?_
  refine x_dup C rfl dX1_addNeed_31 rfl ?_
  refine gXg_1_needs C kf_X1_60 dX1_addNeed_32 rfl ?_
  refine x_dupx1 C rfl rfl dX1_addNeed_35 rfl ?_
  refine x_ic (v := 1) C (by decide) dX1_addNeed_36 rfl ?_
  refine x_iadd C dX1_addNeed_37 rfl ?_
  obtain ⟨s7, ev, hM⟩ := gnm_ex hM
  refine gXp_1_needs C ev kf_X1_60 dX1_addNeed_38 rfl ?_
  exact x_iret C E (gs2 hM) dX1_addNeed_41
set_option maxRecDepth 100000 in
set_option maxHeartbeats 4000000 in
theorem c_X6_need {l : Launch} {D : va_G} {ad : Nat → Nat} {cy : Nat → ClassId} {b : Nat} (hG : gInj (gGX D ad cy b)) {a0 : Int32} {a1 : Int32} {a2 : Int32} {σ : gMem} {r0 : Int32} {σ0 : gMem} (hM : m_X6_need a0 a1 a2 σ = some (r0, σ0)) : gMi l yX6_need (Cond.code yX6_need cX6_need 4 (some .int) :: gBig) { frames := 2, cells := 0, slots := 0, locals := 43 } (gGX D ad cy b) [.ref (ad 0), .int a0, .int a1, .int a2] σ r0 σ0 := by
  refine gIntro (own := RX6) hG (by decide +kernel) rfl rfl (Nat.le_of_ble_eq_true rfl) (lv := [(0, .ref (ad 0)), (1, .int a0), (2, .int a1), (3, .int a2)]) rfl (fun κ C E => ?_)
  unfold m_X6_need at hM
  refine x_aln C 0 rfl dX6_need_0 rfl ?_
  refine gXg_0_now C kf_X6_10 dX6_need_1 rfl ?_
  refine x_iln C 1 rfl dX6_need_4 rfl ?_
  obtain ⟨r2, h1, hM⟩ := gb1_some hM
  refine x_cvi (As := [.int a0]) (rest := []) C E.2.2.2.2.2 1 (c_X1_hasPerson hG h1) (gBv km_X6_120 kin_X1_hasPerson ksel_X1_hasPerson kini_X1 kc_X1_hasPerson) rfl rfl rfl ⟨rfl, by decide +kernel, by decide +kernel, by decide +kernel⟩ ⟨Nat.le_of_ble_eq_true rfl, Nat.le_of_ble_eq_true rfl⟩ (by show 1 < 213; decide) rfl rfl rfl rfl (Nat.le_of_ble_eq_true rfl) dX6_need_5 rfl ?_
  refine x_if_eq (tgt := 29) C dX6_need_8 (by decide) rfl (fun hc => ?_) (fun hc => ?_)
  · replace hM := gif_pos hc hM
    refine x_ic (v := (-1)) C (by decide) dX6_need_29 rfl ?_
    exact x_iret C E (gs2 hM) dX6_need_30
  · replace hM := gif_neg hc hM
    refine x_aln C 0 rfl dX6_need_11 rfl ?_
    refine gXg_0_now C kf_X6_10 dX6_need_12 rfl ?_
    refine x_iln C 2 rfl dX6_need_15 rfl ?_
    obtain ⟨r4, h3, hM⟩ := gb1_some hM
    refine x_cvi (As := [.int a1]) (rest := []) C E.2.2.2.2.2 1 (c_X1_hasPlace hG h3) (gBv km_X6_66 kin_X1_hasPlace ksel_X1_hasPlace kini_X1 kc_X1_hasPlace) rfl rfl rfl ⟨rfl, by decide +kernel, by decide +kernel, by decide +kernel⟩ ⟨Nat.le_of_ble_eq_true rfl, Nat.le_of_ble_eq_true rfl⟩ (by show 1 < 213; decide) rfl rfl rfl rfl (Nat.le_of_ble_eq_true rfl) dX6_need_16 rfl ?_
    refine x_if_eq (tgt := 29) C dX6_need_19 (by decide) rfl (fun hc => ?_) (fun hc => ?_)
    · replace hM := gif_pos hc hM
      refine x_ic (v := (-1)) C (by decide) dX6_need_29 rfl ?_
      exact x_iret C E (gs2 hM) dX6_need_30
    · replace hM := gif_neg hc hM
      refine x_iln C 3 rfl dX6_need_22 rfl ?_
      obtain ⟨r6, h5, hM⟩ := gb1_some hM
      refine x_csi (As := [.int a2]) (rest := []) C E.2.2.2.2.2 1 (c_X6_isHour hG h5) (gBs km_X6_101 kst_X6_isHour kini_X6 kc_X6_isHour) rfl rfl rfl ⟨by decide +kernel, by decide +kernel, by decide +kernel⟩ ⟨Nat.le_of_ble_eq_true rfl, Nat.le_of_ble_eq_true rfl⟩ rfl rfl (Nat.le_of_ble_eq_true rfl) dX6_need_23 rfl ?_
      refine x_if_ne (tgt := 31) C dX6_need_26 (by decide) rfl (fun hc => ?_) (fun hc => ?_)
      · replace hM := gif_neg hc hM
        refine x_aln C 0 rfl dX6_need_31 rfl ?_
        refine gXg_0_now C kf_X6_10 dX6_need_32 rfl ?_
        refine gXg_1_needs C kf_X6_163 dX6_need_35 rfl ?_
        refine x_bi (v := 10) C (by decide) dX6_need_38 rfl ?_
        refine x_ic_lt (tgt := 46) C dX6_need_40 (by decide) rfl (fun hc => ?_) (fun hc => ?_)
        · replace hM := gif_pos hc hM
          refine x_aln C 0 rfl dX6_need_46 rfl ?_
          refine gXg_0_now C kf_X6_10 dX6_need_47 rfl ?_
          refine x_iln C 1 rfl dX6_need_50 rfl ?_
          refine x_iln C 2 rfl dX6_need_51 rfl ?_
          refine x_iln C 3 rfl dX6_need_52 rfl ?_
          obtain ⟨r9, s8, h7, hM⟩ := gb2_some hM
          refine x_cvi (As := [.int a0, .int a1, .int a2]) (rest := []) C E.2.2.2.2.2 3 (c_X1_addNeed hG h7) (gBv km_X6_198 kin_X1_addNeed ksel_X1_addNeed kini_X1 kc_X1_addNeed) rfl rfl rfl ⟨rfl, by decide +kernel, by decide +kernel, by decide +kernel⟩ ⟨Nat.le_of_ble_eq_true rfl, Nat.le_of_ble_eq_true rfl⟩ (by show 1 < 213; decide) rfl rfl rfl rfl (Nat.le_of_ble_eq_true rfl) dX6_need_53 rfl ?_
          exact x_iret C E (gs2 hM) dX6_need_56
        · replace hM := gif_neg hc hM
          refine x_bi (v := (-3)) C (by decide) dX6_need_43 rfl ?_
          exact x_iret C E (gs2 hM) dX6_need_45
      · replace hM := gif_pos hc hM
        refine x_ic (v := (-1)) C (by decide) dX6_need_29 rfl ?_
        exact x_iret C E (gs2 hM) dX6_need_30
set_option maxRecDepth 100000 in
set_option maxHeartbeats 4000000 in
theorem c_X1_isMet {l : Launch} {D : va_G} {ad : Nat → Nat} {cy : Nat → ClassId} {b : Nat} (hG : gInj (gGX D ad cy b)) {a0 : Int32} {a1 : Int32} {σ : gMem} {r0 : Int32} (hM : m_X1_isMet a0 a1 σ = some r0) : gMi l yX1_isMet (Cond.code yX1_isMet cX1_isMet 4 (some .boolean) :: gBig) { frames := 3, cells := 0, slots := 0, locals := 60 } (gGX D ad cy b) [.ref (ad 1), .int a0, .int a1] σ r0 σ := by
  refine gIntro (own := RX1) hG (by decide +kernel) rfl rfl (Nat.le_of_ble_eq_true rfl) (lv := [(0, .ref (ad 1)), (1, .int a0), (2, .int a1)]) rfl (fun κ C E => ?_)
  unfold m_X1_isMet at hM
  refine x_aln C 0 rfl dX1_isMet_0 rfl ?_
  refine x_aln C 0 rfl dX1_isMet_1 rfl ?_
  refine gXg_1_needPlaces C kf_X1_45 dX1_isMet_2 rfl ?_
  refine x_iln C 1 rfl dX1_isMet_5 rfl ?_
  obtain ⟨h1, hM⟩ := gck_some hM
  refine gXa_11 C h1 dX1_isMet_6 rfl ?_
  refine x_aln C 0 rfl dX1_isMet_7 rfl ?_
  refine gXg_1_needHours C kf_X1_48 dX1_isMet_8 rfl ?_
  refine x_iln C 1 rfl dX1_isMet_11 rfl ?_
  obtain ⟨h2, hM⟩ := gck_some hM
  refine gXa_12 C h2 dX1_isMet_12 rfl ?_
  obtain ⟨r4, h3, hM⟩ := gb1_some hM
  refine x_cvi (As := [.int (σ 11 a0.toNatClampNeg), .int (σ 12 a0.toNatClampNeg)]) (rest := []) C E.2.2.2.2.2 2 (c_X1_waterAt hG h3) (gBv km_X1_120 kin_X1_waterAt ksel_X1_waterAt kini_X1 kc_X1_waterAt) rfl rfl rfl ⟨rfl, by decide +kernel, by decide +kernel, by decide +kernel⟩ ⟨Nat.le_of_ble_eq_true rfl, Nat.le_of_ble_eq_true rfl⟩ (by show 1 < 213; decide) rfl rfl rfl rfl (Nat.le_of_ble_eq_true rfl) dX1_isMet_13 rfl ?_
  refine x_istn (lv' := [(3, .int r4), (0, .ref (ad 1)), (1, .int a0), (2, .int a1)]) C rfl rfl (by decide) rfl dX1_isMet_16 rfl ?_
  refine x_aln C 1 rfl dX1_isMet_17 rfl ?_
  refine x_aln C 1 rfl dX1_isMet_18 rfl ?_
  refine gXg_1_kinds C kf_X1_33 dX1_isMet_19 rfl ?_
  refine x_aln C 1 rfl dX1_isMet_22 rfl ?_
  refine gXg_1_needers C kf_X1_42 dX1_isMet_23 rfl ?_
  refine x_iln C 2 rfl dX1_isMet_26 rfl ?_
  obtain ⟨h5, hM⟩ := gck_some hM
  refine gXa_10 C h5 dX1_isMet_27 rfl ?_
  obtain ⟨h6, hM⟩ := gck_some hM
  refine gXa_7 C h6 dX1_isMet_28 rfl ?_
  refine x_iln C 3 rfl dX1_isMet_29 rfl ?_
  refine x_aln C 1 rfl dX1_isMet_30 rfl ?_
  refine gXg_1_yearsGone C kf_X1_63 dX1_isMet_31 rfl ?_
  refine x_iln C 0 rfl dX1_isMet_34 rfl ?_
  obtain ⟨r8, h7, hM⟩ := gb1_some hM
  refine x_cvi (As := [.int (σ 7 (σ 10 a0.toNatClampNeg).toNatClampNeg), .int a1, .int (σ 1 16), .int r4]) (rest := []) C E.2.2.2.2.2 4 (c_X1_bears hG h7) (gBv km_X1_123 kin_X1_bears ksel_X1_bears kini_X1 kc_X1_bears) rfl rfl rfl ⟨rfl, by decide +kernel, by decide +kernel, by decide +kernel⟩ ⟨Nat.le_of_ble_eq_true rfl, Nat.le_of_ble_eq_true rfl⟩ (by show 1 < 213; decide) rfl rfl rfl rfl (Nat.le_of_ble_eq_true rfl) dX1_isMet_35 rfl ?_
  obtain ⟨h9, hM⟩ := gck_some hM
  exact x_zret C E h9 ⟨gs1 hM, rfl⟩ dX1_isMet_38
set_option maxRecDepth 100000 in
set_option maxHeartbeats 4000000 in
theorem c_X6_met {l : Launch} {D : va_G} {ad : Nat → Nat} {cy : Nat → ClassId} {b : Nat} (hG : gInj (gGX D ad cy b))  {σ : gMem} {r0 : Int32} (hM : m_X6_met  σ = some r0) : gMi l yX6_met (Cond.code yX6_met cX6_met 3 (some .int) :: gBig) { frames := 4, cells := 0, slots := 0, locals := 83 } (gGX D ad cy b) [.ref (ad 0)] σ r0 σ := by
  refine gIntro (own := RX6) hG (by decide +kernel) rfl rfl (Nat.le_of_ble_eq_true rfl) (lv := [(0, .ref (ad 0))]) rfl (fun κ C E => ?_)
  unfold m_X6_met at hM
  refine x_ic (v := 0) C (by decide) dX6_met_0 rfl ?_
  refine x_istn (lv' := [(1, .int 0), (0, .ref (ad 0))]) C rfl rfl (by decide) rfl dX6_met_1 rfl ?_
  refine x_ic (v := 0) C (by decide) dX6_met_2 rfl ?_
  refine x_istn (lv' := [(2, .int 0), (1, .int 0), (0, .ref (ad 0))]) C rfl rfl (by decide) rfl dX6_met_3 rfl ?_
  have L4 : ∀ (n : Nat) (x1_1 : Int32) (x2_2 : Int32) (x1_3 : Int32), m_X6_met_4 σ n x1_1 x2_2 = some (x1_3) → (wx κ (gGX D ad cy b) (gA (gGX D ad cy b)) 3 σ 55 [(1, .int x1_3)] []) → wx κ (gGX D ad cy b) (gA (gGX D ad cy b)) 3 σ 4 [(0, .ref (ad 0)), (1, .int x1_1), (2, .int x2_2)] [] := by
    clear hM
    intro n
    induction n with
    | zero => intro _ _ _ hM; cases hM
    | succ n ih =>
      intro x1_1 x2_2 x1_3 hM kx0
      replace hM : b_X6_met_4 σ (m_X6_met_4 σ n) x1_1 x2_2 = some (x1_3) := hM
      unfold b_X6_met_4 at hM
      refine x_iln C 2 rfl dX6_met_4 rfl ?_
      refine x_aln C 0 rfl dX6_met_5 rfl ?_
      refine gXg_0_now C kf_X6_10 dX6_met_6 rfl ?_
      refine gXg_1_needs C kf_X6_163 dX6_met_9 rfl ?_
      refine x_ic_ge (tgt := 55) C dX6_met_12 (by decide) rfl (fun hc => ?_) (fun hc => ?_)
      · replace hM := gif_pos hc hM
        cases hM
        exact x_sub [1] rfl (kx0)
      · replace hM := gif_neg hc hM
        refine x_aln C 0 rfl dX6_met_15 rfl ?_
        refine gXg_0_now C kf_X6_10 dX6_met_16 rfl ?_
        refine x_iln C 2 rfl dX6_met_19 rfl ?_
        refine x_aln C 0 rfl dX6_met_20 rfl ?_
        refine gXg_0_now C kf_X6_10 dX6_met_21 rfl ?_
        refine gXg_1_told C kf_X6_126 dX6_met_24 rfl ?_
        refine x_aln C 0 rfl dX6_met_27 rfl ?_
        refine gXg_0_now C kf_X6_10 dX6_met_28 rfl ?_
        refine gXg_1_needers C kf_X6_201 dX6_met_31 rfl ?_
        refine x_iln C 2 rfl dX6_met_34 rfl ?_
        obtain ⟨h4, hM⟩ := gck_some hM
        refine gXa_10 C h4 dX6_met_35 rfl ?_
        obtain ⟨h5, hM⟩ := gck_some hM
        refine gXa_8 C h5 dX6_met_36 rfl ?_
        obtain ⟨r7, h6, hM⟩ := gb1_some hM
        refine x_cvi (As := [.int x2_2, .int (σ 8 (σ 10 x2_2.toNatClampNeg).toNatClampNeg)]) (rest := []) C E.2.2.2.2.2 2 (c_X1_isMet hG h6) (gBv km_X6_204 kin_X1_isMet ksel_X1_isMet kini_X1 kc_X1_isMet) rfl rfl rfl ⟨rfl, by decide +kernel, by decide +kernel, by decide +kernel⟩ ⟨Nat.le_of_ble_eq_true rfl, Nat.le_of_ble_eq_true rfl⟩ (by show 1 < 213; decide) rfl rfl rfl rfl (Nat.le_of_ble_eq_true rfl) dX6_met_37 rfl ?_
        refine x_if_eq (tgt := 49) C dX6_met_40 (by decide) rfl (fun hc => ?_) (fun hc => ?_)
        · replace hM := gif_pos hc hM
          obtain ⟨x2_8, ev, hM⟩ := gnm_ex hM
          refine x_iinc (j := 2) (w := 1) (lv' := [(2, .int x2_8), (0, .ref (ad 0)), (1, .int x1_1)]) C rfl ev (by decide) (by decide) rfl dX6_met_49 rfl ?_
          refine x_goto (tgt := 4) C dX6_met_52 (by decide) ?_
          exact x_sub [1, 2, 0] rfl (ih x1_1 x2_8 _ hM kx0)
        · replace hM := gif_neg hc hM
          refine x_iln C 1 rfl dX6_met_43 rfl ?_
          refine x_ic (v := 1) C (by decide) dX6_met_44 rfl ?_
          refine x_iln C 2 rfl dX6_met_45 rfl ?_
          refine x_ishl C dX6_met_46 rfl ?_
          refine x_ior C dX6_met_47 rfl ?_
          obtain ⟨x1_9, ev, hM⟩ := gnm_ex hM
          refine x_istn (lv' := [(1, .int x1_9), (0, .ref (ad 0)), (2, .int x2_2)]) C rfl ev (by decide) rfl dX6_met_48 rfl ?_
          obtain ⟨x2_10, ev, hM⟩ := gnm_ex hM
          refine x_iinc (j := 2) (w := 1) (lv' := [(2, .int x2_10), (1, .int x1_9), (0, .ref (ad 0))]) C rfl ev (by decide) (by decide) rfl dX6_met_49 rfl ?_
          refine x_goto (tgt := 4) C dX6_met_52 (by decide) ?_
          exact x_sub [2, 1, 0] rfl (ih x1_9 x2_10 _ hM kx0)
  obtain ⟨x1_3, hL11, hM⟩ := gb1_some hM
  refine x_sub [2, 1, 0] rfl (L4 gFU 0 0 _ hL11 ?_)
  clear L4
  refine x_iln C 0 rfl dX6_met_55 rfl ?_
  exact x_iret C E ⟨gs1 hM, rfl⟩ dX6_met_56
set_option maxRecDepth 100000 in
set_option maxHeartbeats 4000000 in
theorem c_X4_suitedBy {l : Launch} {D : va_G} {ad : Nat → Nat} {cy : Nat → ClassId} {b : Nat} (hG : gInj (gGX D ad cy b)) {a1 : Int32} {σ : gMem} {r0 : Int32} (hM : m_X4_suitedBy a1 σ = some r0) : gMi l yX4_suitedBy (Cond.code yX4_suitedBy cX4_suitedBy 5 (some .int) :: gBig) { frames := 4, cells := 0, slots := 0, locals := 83 } (gGX D ad cy b) [.ref (ad 136), .ref (ad 1), .int a1] σ r0 σ := by
  refine gIntro (own := RX4) hG (by decide +kernel) rfl rfl (Nat.le_of_ble_eq_true rfl) (lv := [(0, .ref (ad 136)), (1, .ref (ad 1)), (2, .int a1)]) rfl (fun κ C E => ?_)
  unfold m_X4_suitedBy at hM
  refine x_aln C 0 rfl dX4_suitedBy_0 rfl ?_
  refine gXg_136_needy C kf_X4_20 dX4_suitedBy_1 rfl ?_
  obtain ⟨x3_1, ev, hM⟩ := gnm_ex hM
  refine x_istn (lv' := [(3, .int x3_1), (0, .ref (ad 136)), (1, .ref (ad 1)), (2, .int a1)]) C rfl ev (by decide) rfl dX4_suitedBy_4 rfl ?_
  refine x_ic (v := 0) C (by decide) dX4_suitedBy_5 rfl ?_
  refine x_ist (lv' := [(4, .int 0), (3, .int x3_1), (0, .ref (ad 136)), (1, .ref (ad 1)), (2, .int a1)]) C rfl (by decide) rfl dX4_suitedBy_6 rfl ?_
  have L8 : ∀ (n : Nat) (x3_2 : Int32) (x4_3 : Int32) (x3_4 : Int32), m_X4_suitedBy_8 a1 σ n x3_2 x4_3 = some (x3_4) → (wx κ (gGX D ad cy b) (gA (gGX D ad cy b)) 5 σ 47 [(3, .int x3_4)] []) → wx κ (gGX D ad cy b) (gA (gGX D ad cy b)) 5 σ 8 [(1, .ref (ad 1)), (2, .int a1), (3, .int x3_2), (4, .int x4_3)] [] := by
    clear hM
    intro n
    induction n with
    | zero => intro _ _ _ hM; cases hM
    | succ n ih =>
      intro x3_2 x4_3 x3_4 hM kx0
      replace hM : b_X4_suitedBy_8 a1 σ (m_X4_suitedBy_8 a1 σ n) x3_2 x4_3 = some (x3_4) := hM
      unfold b_X4_suitedBy_8 at hM
      refine x_il C 3 rfl dX4_suitedBy_8 rfl ?_
      refine x_aln C 0 rfl dX4_suitedBy_10 rfl ?_
      refine gXg_1_needs C kf_X4_24 dX4_suitedBy_11 rfl ?_
      refine x_ic_ge (tgt := 47) C dX4_suitedBy_14 (by decide) rfl (fun hc => ?_) (fun hc => ?_)
      · replace hM := gif_pos hc hM
        cases hM
        exact x_sub [2] rfl (kx0)
      · replace hM := gif_neg hc hM
        refine x_aln C 0 rfl dX4_suitedBy_17 rfl ?_
        refine x_il C 3 rfl dX4_suitedBy_18 rfl ?_
        refine x_iln C 1 rfl dX4_suitedBy_20 rfl ?_
        obtain ⟨r6, h5, hM⟩ := gb1_some hM
        refine x_cvi (As := [.int x4_3, .int a1]) (rest := []) C E.2.2.2.2.2 2 (c_X1_isMet hG h5) (gBv km_X4_40 kin_X1_isMet ksel_X1_isMet kini_X1 kc_X1_isMet) rfl rfl rfl ⟨rfl, by decide +kernel, by decide +kernel, by decide +kernel⟩ ⟨Nat.le_of_ble_eq_true rfl, Nat.le_of_ble_eq_true rfl⟩ (by show 1 < 213; decide) rfl rfl rfl rfl (Nat.le_of_ble_eq_true rfl) dX4_suitedBy_21 rfl ?_
        refine x_if_ne (tgt := 41) C dX4_suitedBy_24 (by decide) rfl (fun hc => ?_) (fun hc => ?_)
        · replace hM := gif_neg hc hM
          obtain ⟨x4_7, ev, hM⟩ := gnm_ex hM
          refine x_iinc (j := 3) (w := 1) (lv' := [(4, .int x4_7), (1, .ref (ad 1)), (2, .int a1), (3, .int x3_2)]) C rfl ev (by decide) (by decide) rfl dX4_suitedBy_41 rfl ?_
          refine x_goto (tgt := 8) C dX4_suitedBy_44 (by decide) ?_
          exact x_sub [1, 2, 3, 0] rfl (ih x3_2 x4_7 _ hM kx0)
        · replace hM := gif_pos hc hM
          refine x_iln C 2 rfl dX4_suitedBy_27 rfl ?_
          refine x_ic (v := 1) C (by decide) dX4_suitedBy_28 rfl ?_
          refine x_aln C 0 rfl dX4_suitedBy_29 rfl ?_
          refine gXg_1_needers C kf_X4_29 dX4_suitedBy_30 rfl ?_
          refine x_il C 3 rfl dX4_suitedBy_33 rfl ?_
          obtain ⟨h8, hM⟩ := gck_some hM
          refine gXa_10 C h8 dX4_suitedBy_35 rfl ?_
          refine x_ishl C dX4_suitedBy_36 rfl ?_
          refine x_ic (v := (-1)) C (by decide) dX4_suitedBy_37 rfl ?_
          refine x_ixor C dX4_suitedBy_38 rfl ?_
          refine x_iand C dX4_suitedBy_39 rfl ?_
          obtain ⟨x3_9, ev, hM⟩ := gnm_ex hM
          refine x_istn (lv' := [(3, .int x3_9), (1, .ref (ad 1)), (2, .int a1), (4, .int x4_3)]) C rfl ev (by decide) rfl dX4_suitedBy_40 rfl ?_
          obtain ⟨x4_10, ev, hM⟩ := gnm_ex hM
          refine x_iinc (j := 3) (w := 1) (lv' := [(4, .int x4_10), (3, .int x3_9), (1, .ref (ad 1)), (2, .int a1)]) C rfl ev (by decide) (by decide) rfl dX4_suitedBy_41 rfl ?_
          refine x_goto (tgt := 8) C dX4_suitedBy_44 (by decide) ?_
          exact x_sub [2, 3, 1, 0] rfl (ih x3_9 x4_10 _ hM kx0)
  obtain ⟨x3_4, hL11, hM⟩ := gb1_some hM
  refine x_sub [3, 4, 1, 0] rfl (L8 gFU x3_1 0 _ hL11 ?_)
  clear L8
  refine x_iln C 0 rfl dX4_suitedBy_47 rfl ?_
  exact x_iret C E ⟨gs1 hM, rfl⟩ dX4_suitedBy_48
set_option maxRecDepth 100000 in
set_option maxHeartbeats 4000000 in
theorem c_X4_weighWith {l : Launch} {D : va_G} {ad : Nat → Nat} {cy : Nat → ClassId} {b : Nat} (hG : gInj (gGX D ad cy b)) {a0 : Int32} {σ : gMem} {σ0 : gMem} (hM : m_X4_weighWith a0 σ = some σ0) : gMv l yX4_weighWith (Cond.code yX4_weighWith cX4_weighWith 4 none :: gBig) { frames := 1, cells := 0, slots := 0, locals := 15 } (gGX D ad cy b) [.ref (ad 136), .int a0] σ σ0 := by
  refine gIntro (own := RX4) hG (by decide +kernel) rfl rfl (Nat.le_of_ble_eq_true rfl) (lv := [(0, .ref (ad 136)), (1, .int a0)]) rfl (fun κ C E => ?_)
  unfold m_X4_weighWith at hM
  refine x_aln C 0 rfl dX4_weighWith_0 rfl ?_
  refine gXg_136_fewest C kf_X4_17 dX4_weighWith_1 rfl ?_
  refine x_iln C 1 rfl dX4_weighWith_4 rfl ?_
  refine x_ic (v := 1) C (by decide) dX4_weighWith_5 rfl ?_
  refine x_iadd C dX4_weighWith_6 rfl ?_
  obtain ⟨h1, hM⟩ := gck_some hM
  refine gXo_138 C h1 dX4_weighWith_7 rfl ?_
  refine x_astn (lv' := [(2, .ref (ad (139 + (a0 + 1).toNatClampNeg))), (0, .ref (ad 136)), (1, .int a0)]) C rfl (by decide) rfl dX4_weighWith_8 rfl ?_
  refine x_ic (v := 0) C (by decide) dX4_weighWith_9 rfl ?_
  refine x_istn (lv' := [(3, .int 0), (2, .ref (ad (139 + (a0 + 1).toNatClampNeg))), (0, .ref (ad 136)), (1, .int a0)]) C rfl rfl (by decide) rfl dX4_weighWith_10 rfl ?_
  have L11 : ∀ (n : Nat) (x3_2 : Int32) (s3 : gMem) (s4 : gMem), m_X4_weighWith_11 a0 n x3_2 s3 = some (s4) → (wx κ (gGX D ad cy b) (gA (gGX D ad cy b)) 4 s4 53 [] []) → wx κ (gGX D ad cy b) (gA (gGX D ad cy b)) 4 s3 11 [(0, .ref (ad 136)), (1, .int a0), (2, .ref (ad (139 + (a0 + 1).toNatClampNeg))), (3, .int x3_2)] [] := by
    clear hM
    intro n
    induction n with
    | zero => intro _ _ _ hM; cases hM
    | succ n ih =>
      intro x3_2 s3 s4 hM kx0
      replace hM : b_X4_weighWith_11 a0 (m_X4_weighWith_11 a0 n) x3_2 s3 = some (s4) := hM
      unfold b_X4_weighWith_11 at hM
      refine x_iln C 3 rfl dX4_weighWith_11 rfl ?_
      refine x_aln C 0 rfl dX4_weighWith_12 rfl ?_
      refine gXg_136_needy C kf_X4_20 dX4_weighWith_13 rfl ?_
      refine x_ic_gt (tgt := 53) C dX4_weighWith_16 (by decide) rfl (fun hc => ?_) (fun hc => ?_)
      · replace hM := gif_pos hc hM
        cases hM
        exact x_sub [] rfl (kx0)
      · replace hM := gif_neg hc hM
        refine x_aln C 0 rfl dX4_weighWith_19 rfl ?_
        refine gXg_136_fewest C kf_X4_17 dX4_weighWith_20 rfl ?_
        refine x_iln C 1 rfl dX4_weighWith_23 rfl ?_
        obtain ⟨h5, hM⟩ := gck_some hM
        refine gXo_138 C h5 dX4_weighWith_24 rfl ?_
        refine x_iln C 3 rfl dX4_weighWith_25 rfl ?_
        refine x_aln C 2 rfl dX4_weighWith_26 rfl ?_
        refine x_iln C 3 rfl dX4_weighWith_27 rfl ?_
        obtain ⟨h6, hM⟩ := gck_some hM
        refine gXa_few C (inb_lt h1) h6 dX4_weighWith_28 rfl ?_
        refine x_ic (v := 1) C (by decide) dX4_weighWith_29 rfl ?_
        refine x_aln C 2 rfl dX4_weighWith_30 rfl ?_
        refine x_iln C 3 rfl dX4_weighWith_31 rfl ?_
        refine x_aln C 0 rfl dX4_weighWith_32 rfl ?_
        refine gXg_136_suits C kf_X4_9 dX4_weighWith_33 rfl ?_
        refine x_iln C 1 rfl dX4_weighWith_36 rfl ?_
        obtain ⟨h7, hM⟩ := gck_some hM
        refine gXa_137 C h7 dX4_weighWith_37 rfl ?_
        refine x_ic (v := (-1)) C (by decide) dX4_weighWith_38 rfl ?_
        refine x_ixor C dX4_weighWith_39 rfl ?_
        refine x_iand C dX4_weighWith_40 rfl ?_
        obtain ⟨h8, hM⟩ := gck_some hM
        refine gXa_few C (inb_lt h1) h8 dX4_weighWith_41 rfl ?_
        refine x_iadd C dX4_weighWith_42 rfl ?_
        refine x_mmin C (gBc km_X4_44) (gBc kst_J9_min_7cf53) (gBc kini_J9) (gBc kc_J9_min_7cf53) (by decide) (Nat.le_of_ble_eq_true rfl) dX4_weighWith_43 rfl ?_
        obtain ⟨h9, hM⟩ := gck_some hM
        obtain ⟨s10, ev, hM⟩ := gnm_ex hM
        refine gXs_few C (inb_lt h5) ev h9 dX4_weighWith_46 rfl ?_
        obtain ⟨x3_11, ev, hM⟩ := gnm_ex hM
        refine x_iinc (j := 3) (w := 1) (lv' := [(3, .int x3_11), (0, .ref (ad 136)), (1, .int a0), (2, .ref (ad (139 + (a0 + 1).toNatClampNeg)))]) C rfl ev (by decide) (by decide) rfl dX4_weighWith_47 rfl ?_
        refine x_goto (tgt := 11) C dX4_weighWith_50 (by decide) ?_
        exact x_sub [1, 2, 3, 0] rfl (ih x3_11 s10 _ hM kx0)
  obtain ⟨s4, hL12, hM⟩ := gb1_some hM
  refine x_sub [2, 3, 1, 0] rfl (L11 gFU 0 σ _ hL12 ?_)
  clear L11
  exact x_vret C E (gs1 hM) dX4_weighWith_53
set_option maxRecDepth 100000 in
set_option maxHeartbeats 4000000 in
theorem c_X4_weigh {l : Launch} {D : va_G} {ad : Nat → Nat} {cy : Nat → ClassId} {b : Nat} (hG : gInj (gGX D ad cy b))  {σ : gMem} {σ0 : gMem} (hM : m_X4_weigh  σ = some σ0) : gMv l yX4_weigh (Cond.code yX4_weigh cX4_weigh 3 none :: gBig) { frames := 5, cells := 0, slots := 0, locals := 107 } (gGX D ad cy b) [.ref (ad 136), .ref (ad 1)] σ σ0 := by
  refine gIntro (own := RX4) hG (by decide +kernel) rfl rfl (Nat.le_of_ble_eq_true rfl) (lv := [(0, .ref (ad 136)), (1, .ref (ad 1))]) rfl (fun κ C E => ?_)
  unfold m_X4_weigh at hM
  refine x_aln C 0 rfl dX4_weigh_0 rfl ?_
  refine x_ic (v := 0) C (by decide) dX4_weigh_1 rfl ?_
  obtain ⟨s1, ev, hM⟩ := gnm_ex hM
  refine gXp_136_needy C ev kf_X4_20 dX4_weigh_2 rfl ?_
  refine x_ic (v := 0) C (by decide) dX4_weigh_5 rfl ?_
  refine x_istn (lv' := [(2, .int 0), (0, .ref (ad 136)), (1, .ref (ad 1))]) C rfl rfl (by decide) rfl dX4_weigh_6 rfl ?_
  have L7 : ∀ (n : Nat) (x2_2 : Int32) (s3 : gMem) (s4 : gMem), m_X4_weigh_7 n x2_2 s3 = some (s4) → (wx κ (gGX D ad cy b) (gA (gGX D ad cy b)) 3 s4 38 [(0, .ref (ad 136)), (1, .ref (ad 1))] []) → wx κ (gGX D ad cy b) (gA (gGX D ad cy b)) 3 s3 7 [(0, .ref (ad 136)), (1, .ref (ad 1)), (2, .int x2_2)] [] := by
    clear hM
    intro n
    induction n with
    | zero => intro _ _ _ hM; cases hM
    | succ n ih =>
      intro x2_2 s3 s4 hM kx0
      replace hM : b_X4_weigh_7 (m_X4_weigh_7 n) x2_2 s3 = some (s4) := hM
      unfold b_X4_weigh_7 at hM
      refine x_iln C 2 rfl dX4_weigh_7 rfl ?_
      refine x_aln C 1 rfl dX4_weigh_8 rfl ?_
      refine gXg_1_needs C kf_X4_24 dX4_weigh_9 rfl ?_
      refine x_ic_ge (tgt := 38) C dX4_weigh_12 (by decide) rfl (fun hc => ?_) (fun hc => ?_)
      · replace hM := gif_pos hc hM
        cases hM
        exact x_sub [0, 1] rfl (kx0)
      · replace hM := gif_neg hc hM
        refine x_aln C 0 rfl dX4_weigh_15 rfl ?_
        refine x_dup C rfl dX4_weigh_16 rfl ?_
        refine gXg_136_needy C kf_X4_20 dX4_weigh_17 rfl ?_
        refine x_ic (v := 1) C (by decide) dX4_weigh_20 rfl ?_
        refine x_aln C 1 rfl dX4_weigh_21 rfl ?_
        refine gXg_1_needers C kf_X4_29 dX4_weigh_22 rfl ?_
        refine x_iln C 2 rfl dX4_weigh_25 rfl ?_
        obtain ⟨h5, hM⟩ := gck_some hM
        refine gXa_10 C h5 dX4_weigh_26 rfl ?_
        refine x_ishl C dX4_weigh_27 rfl ?_
        refine x_ior C dX4_weigh_28 rfl ?_
        obtain ⟨s6, ev, hM⟩ := gnm_ex hM
        refine gXp_136_needy C ev kf_X4_20 dX4_weigh_29 rfl ?_
        obtain ⟨x2_7, ev, hM⟩ := gnm_ex hM
        refine x_iinc (j := 2) (w := 1) (lv' := [(2, .int x2_7), (0, .ref (ad 136)), (1, .ref (ad 1))]) C rfl ev (by decide) (by decide) rfl dX4_weigh_32 rfl ?_
        refine x_goto (tgt := 7) C dX4_weigh_35 (by decide) ?_
        exact x_sub [1, 2, 0] rfl (ih x2_7 s6 _ hM kx0)
  obtain ⟨s4, hL8, hM⟩ := gb1_some hM
  refine x_sub [1, 2, 0] rfl (L7 gFU 0 s1 _ hL8 ?_)
  clear L7
  refine x_ic (v := 0) C (by decide) dX4_weigh_38 rfl ?_
  refine x_istn (lv' := [(2, .int 0), (0, .ref (ad 136)), (1, .ref (ad 1))]) C rfl rfl (by decide) rfl dX4_weigh_39 rfl ?_
  have L40 : ∀ (n : Nat) (x2_9 : Int32) (s10 : gMem) (s11 : gMem), m_X4_weigh_40 n x2_9 s10 = some (s11) → (wx κ (gGX D ad cy b) (gA (gGX D ad cy b)) 3 s11 72 [(0, .ref (ad 136)), (1, .ref (ad 1))] []) → wx κ (gGX D ad cy b) (gA (gGX D ad cy b)) 3 s10 40 [(0, .ref (ad 136)), (1, .ref (ad 1)), (2, .int x2_9)] [] := by
    clear hM
    intro n
    induction n with
    | zero => intro _ _ _ hM; cases hM
    | succ n ih =>
      intro x2_9 s10 s11 hM kx0
      replace hM : b_X4_weigh_40 (m_X4_weigh_40 n) x2_9 s10 = some (s11) := hM
      unfold b_X4_weigh_40 at hM
      refine x_iln C 2 rfl dX4_weigh_40 rfl ?_
      refine x_si (v := 256) C (by decide) dX4_weigh_41 rfl ?_
      refine x_ic_ge (tgt := 72) C dX4_weigh_44 (by decide) rfl (fun hc => ?_) (fun hc => ?_)
      · replace hM := gif_pos hc hM
        cases hM
        exact x_sub [0, 1] rfl (kx0)
      · replace hM := gif_neg hc hM
        refine x_aln C 0 rfl dX4_weigh_47 rfl ?_
        refine gXg_136_fewest C kf_X4_17 dX4_weigh_48 rfl ?_
        refine x_bi (v := 61) C (by decide) dX4_weigh_51 rfl ?_
        obtain ⟨h12, hM⟩ := gck_some hM
        refine gXo_138 C h12 dX4_weigh_53 rfl ?_
        refine x_iln C 2 rfl dX4_weigh_54 rfl ?_
        refine x_iln C 2 rfl dX4_weigh_55 rfl ?_
        refine x_if_ne (tgt := 63) C dX4_weigh_56 (by decide) rfl (fun hc => ?_) (fun hc => ?_)
        · replace hM := gif_neg hc hM
          refine x_bi (v := 100) C (by decide) dX4_weigh_63 rfl ?_
          obtain ⟨h13, hM⟩ := gck_some hM
          obtain ⟨s14, ev, hM⟩ := gnm_ex hM
          refine gXs_few C (inb_lt h12) ev h13 dX4_weigh_65 rfl ?_
          obtain ⟨x2_15, ev, hM⟩ := gnm_ex hM
          refine x_iinc (j := 2) (w := 1) (lv' := [(2, .int x2_15), (0, .ref (ad 136)), (1, .ref (ad 1))]) C rfl ev (by decide) (by decide) rfl dX4_weigh_66 rfl ?_
          refine x_goto (tgt := 40) C dX4_weigh_69 (by decide) ?_
          exact x_sub [1, 2, 0] rfl (ih x2_15 s14 _ hM kx0)
        · replace hM := gif_pos hc hM
          refine x_ic (v := 0) C (by decide) dX4_weigh_59 rfl ?_
          refine x_goto (tgt := 65) C dX4_weigh_60 (by decide) ?_
          obtain ⟨h16, hM⟩ := gck_some hM
          obtain ⟨s17, ev, hM⟩ := gnm_ex hM
          refine gXs_few C (inb_lt h12) ev h16 dX4_weigh_65 rfl ?_
          obtain ⟨x2_18, ev, hM⟩ := gnm_ex hM
          refine x_iinc (j := 2) (w := 1) (lv' := [(2, .int x2_18), (0, .ref (ad 136)), (1, .ref (ad 1))]) C rfl ev (by decide) (by decide) rfl dX4_weigh_66 rfl ?_
          refine x_goto (tgt := 40) C dX4_weigh_69 (by decide) ?_
          exact x_sub [1, 2, 0] rfl (ih x2_18 s17 _ hM kx0)
  obtain ⟨s11, hL19, hM⟩ := gb1_some hM
  refine x_sub [1, 2, 0] rfl (L40 gFU 0 s4 _ hL19 ?_)
  clear L40
  refine x_bi (v := 60) C (by decide) dX4_weigh_72 rfl ?_
  refine x_istn (lv' := [(2, .int 60), (0, .ref (ad 136)), (1, .ref (ad 1))]) C rfl rfl (by decide) rfl dX4_weigh_74 rfl ?_
  have L75 : ∀ (n : Nat) (x2_20 : Int32) (s21 : gMem) (s22 : gMem), m_X4_weigh_75 n x2_20 s21 = some (s22) → (wx κ (gGX D ad cy b) (gA (gGX D ad cy b)) 3 s22 102 [] []) → wx κ (gGX D ad cy b) (gA (gGX D ad cy b)) 3 s21 75 [(0, .ref (ad 136)), (1, .ref (ad 1)), (2, .int x2_20)] [] := by
    clear hM
    intro n
    induction n with
    | zero => intro _ _ _ hM; cases hM
    | succ n ih =>
      intro x2_20 s21 s22 hM kx0
      replace hM : b_X4_weigh_75 (m_X4_weigh_75 n) x2_20 s21 = some (s22) := hM
      unfold b_X4_weigh_75 at hM
      refine x_iln C 2 rfl dX4_weigh_75 rfl ?_
      refine x_if_lt (tgt := 102) C dX4_weigh_76 (by decide) rfl (fun hc => ?_) (fun hc => ?_)
      · replace hM := gif_pos hc hM
        cases hM
        exact x_sub [] rfl (kx0)
      · replace hM := gif_neg hc hM
        refine x_aln C 0 rfl dX4_weigh_79 rfl ?_
        refine gXg_136_suits C kf_X4_9 dX4_weigh_80 rfl ?_
        refine x_iln C 2 rfl dX4_weigh_83 rfl ?_
        refine x_aln C 0 rfl dX4_weigh_84 rfl ?_
        refine x_aln C 1 rfl dX4_weigh_85 rfl ?_
        refine x_iln C 2 rfl dX4_weigh_86 rfl ?_
        obtain ⟨r24, h23, hM⟩ := gb1_some hM
        refine x_cvi (As := [.ref (ad 1), .int x2_20]) (rest := [.int x2_20, .ref (ad 137)]) C E.2.2.2.2.2 2 (c_X4_suitedBy hG h23) (gBv km_X4_32 kin_X4_suitedBy ksel_X4_suitedBy kini_X4 kc_X4_suitedBy) rfl rfl rfl ⟨rfl, by decide +kernel, by decide +kernel, by decide +kernel⟩ ⟨Nat.le_of_ble_eq_true rfl, Nat.le_of_ble_eq_true rfl⟩ (by show 136 < 213; decide) rfl rfl rfl rfl (Nat.le_of_ble_eq_true rfl) dX4_weigh_87 rfl ?_
        obtain ⟨h25, hM⟩ := gck_some hM
        obtain ⟨s26, ev, hM⟩ := gnm_ex hM
        refine gXs_137 C ev h25 dX4_weigh_90 rfl ?_
        refine x_aln C 0 rfl dX4_weigh_91 rfl ?_
        refine x_iln C 2 rfl dX4_weigh_92 rfl ?_
        obtain ⟨s28, h27, hM⟩ := gb1_some hM
        refine x_cvv (As := [.int x2_20]) (rest := []) C E.2.2.2.2.2 1 (c_X4_weighWith hG h27) (gBv km_X4_36 kin_X4_weighWith ksel_X4_weighWith kini_X4 kc_X4_weighWith) rfl rfl rfl ⟨rfl, by decide +kernel, by decide +kernel, by decide +kernel⟩ ⟨Nat.le_of_ble_eq_true rfl, Nat.le_of_ble_eq_true rfl⟩ (by show 136 < 213; decide) rfl rfl rfl rfl (Nat.le_of_ble_eq_true rfl) dX4_weigh_93 rfl ?_
        obtain ⟨x2_29, ev, hM⟩ := gnm_ex hM
        refine x_iinc (j := 2) (w := (-1)) (lv' := [(2, .int x2_29), (0, .ref (ad 136)), (1, .ref (ad 1))]) C rfl ev (by decide) (by decide) rfl dX4_weigh_96 rfl ?_
        refine x_goto (tgt := 75) C dX4_weigh_99 (by decide) ?_
        exact x_sub [1, 2, 0] rfl (ih x2_29 s28 _ hM kx0)
  obtain ⟨s22, hL30, hM⟩ := gb1_some hM
  refine x_sub [1, 2, 0] rfl (L75 gFU 60 s11 _ hL30 ?_)
  clear L75
  exact x_vret C E (gs1 hM) dX4_weigh_102
set_option maxRecDepth 100000 in
set_option maxHeartbeats 4000000 in
theorem c_X4_fewestLengths {l : Launch} {D : va_G} {ad : Nat → Nat} {cy : Nat → ClassId} {b : Nat} (hG : gInj (gGX D ad cy b))  {σ : gMem} {r0 : Int32} (hM : m_X4_fewestLengths  σ = some r0) : gMi l yX4_fewestLengths (Cond.code yX4_fewestLengths cX4_fewestLengths 1 (some .int) :: gBig) { frames := 0, cells := 0, slots := 0, locals := 0 } (gGX D ad cy b) [.ref (ad 136)] σ r0 σ := by
  refine gIntro (own := RX4) hG (by decide +kernel) rfl rfl (Nat.le_of_ble_eq_true rfl) (lv := [(0, .ref (ad 136))]) rfl (fun κ C E => ?_)
  unfold m_X4_fewestLengths at hM
  refine x_aln C 0 rfl dX4_fewestLengths_0 rfl ?_
  refine gXg_136_fewest C kf_X4_17 dX4_fewestLengths_1 rfl ?_
  refine x_ic (v := 0) C (by decide) dX4_fewestLengths_4 rfl ?_
  obtain ⟨h1, hM⟩ := gck_some hM
  refine gXo_138 C h1 dX4_fewestLengths_5 rfl ?_
  refine x_aln C 0 rfl dX4_fewestLengths_6 rfl ?_
  refine gXg_136_needy C kf_X4_20 dX4_fewestLengths_7 rfl ?_
  obtain ⟨h2, hM⟩ := gck_some hM
  refine gXa_few C (inb_lt h1) h2 dX4_fewestLengths_10 rfl ?_
  refine x_bi (v := 100) C (by decide) dX4_fewestLengths_11 rfl ?_
  refine x_ic_ge (tgt := 30) C dX4_fewestLengths_13 (by decide) rfl (fun hc => ?_) (fun hc => ?_)
  · replace hM := gif_pos hc hM
    refine x_bi (v := (-4)) C (by decide) dX4_fewestLengths_30 rfl ?_
    exact x_iret C E ⟨gs1 hM, rfl⟩ dX4_fewestLengths_32
  · replace hM := gif_neg hc hM
    refine x_aln C 0 rfl dX4_fewestLengths_16 rfl ?_
    refine gXg_136_fewest C kf_X4_17 dX4_fewestLengths_17 rfl ?_
    refine x_ic (v := 0) C (by decide) dX4_fewestLengths_20 rfl ?_
    obtain ⟨h3, hM⟩ := gck_some hM
    refine gXo_138 C h3 dX4_fewestLengths_21 rfl ?_
    refine x_aln C 0 rfl dX4_fewestLengths_22 rfl ?_
    refine gXg_136_needy C kf_X4_20 dX4_fewestLengths_23 rfl ?_
    obtain ⟨h4, hM⟩ := gck_some hM
    refine gXa_few C (inb_lt h3) h4 dX4_fewestLengths_26 rfl ?_
    refine x_goto (tgt := 32) C dX4_fewestLengths_27 (by decide) ?_
    exact x_iret C E ⟨gs1 hM, rfl⟩ dX4_fewestLengths_32
set_option maxRecDepth 100000 in
set_option maxHeartbeats 4000000 in
theorem c_X4_chosen {l : Launch} {D : va_G} {ad : Nat → Nat} {cy : Nat → ClassId} {b : Nat} (hG : gInj (gGX D ad cy b)) {a0 : Int32} {σ : gMem} {r0 : Int32} (hM : m_X4_chosen a0 σ = some r0) : gMi l yX4_chosen (Cond.code yX4_chosen cX4_chosen 6 (some .int) :: gBig) { frames := 1, cells := 0, slots := 0, locals := 20 } (gGX D ad cy b) [.ref (ad 136), .int a0] σ r0 σ := by
  refine gIntro (own := RX4) hG (by decide +kernel) rfl rfl (Nat.le_of_ble_eq_true rfl) (lv := [(0, .ref (ad 136)), (1, .int a0)]) rfl (fun κ C E => ?_)
  unfold m_X4_chosen at hM
  refine x_iln C 1 rfl dX4_chosen_0 rfl ?_
  refine x_aln C 0 rfl dX4_chosen_1 rfl ?_
  obtain ⟨r2, h1, hM⟩ := gb1_some hM
  refine x_cvi (As := []) (rest := [.int a0]) C E.2.2.2.2.2 0 (c_X4_fewestLengths hG h1) (gBv km_X4_50 kin_X4_fewestLengths ksel_X4_fewestLengths kini_X4 kc_X4_fewestLengths) rfl rfl rfl ⟨rfl, by decide +kernel, by decide +kernel, by decide +kernel⟩ ⟨Nat.le_of_ble_eq_true rfl, Nat.le_of_ble_eq_true rfl⟩ (by show 136 < 213; decide) rfl rfl rfl rfl (Nat.le_of_ble_eq_true rfl) dX4_chosen_2 rfl ?_
  refine x_ic_lt (tgt := 11) C dX4_chosen_5 (by decide) rfl (fun hc => ?_) (fun hc => ?_)
  · replace hM := gif_pos hc hM
    refine x_aln C 0 rfl dX4_chosen_11 rfl ?_
    refine gXg_136_needy C kf_X4_20 dX4_chosen_12 rfl ?_
    obtain ⟨x2_3, ev, hM⟩ := gnm_ex hM
    refine x_istn (lv' := [(2, .int x2_3), (0, .ref (ad 136)), (1, .int a0)]) C rfl ev (by decide) rfl dX4_chosen_15 rfl ?_
    refine x_ic (v := 0) C (by decide) dX4_chosen_16 rfl ?_
    refine x_istn (lv' := [(3, .int 0), (2, .int x2_3), (0, .ref (ad 136)), (1, .int a0)]) C rfl rfl (by decide) rfl dX4_chosen_17 rfl ?_
    refine x_ic (v := 0) C (by decide) dX4_chosen_18 rfl ?_
    refine x_ist (lv' := [(4, .int 0), (3, .int 0), (2, .int x2_3), (0, .ref (ad 136)), (1, .int a0)]) C rfl (by decide) rfl dX4_chosen_19 rfl ?_
    have L21 : ∀ (n : Nat) (x2_4 : Int32) (x3_5 : Int32) (x4_6 : Int32) (t8 : Nat) (x4_7 : Int32), m_X4_chosen_21 a0 σ n x2_4 x3_5 x4_6 = some (t8, x4_7) → (t8 = 0 → wx κ (gGX D ad cy b) (gA (gGX D ad cy b)) 6 σ 72 [(4, .int x4_7)] []) → (t8 = 1 → wx κ (gGX D ad cy b) (gA (gGX D ad cy b)) 6 σ 87 [] []) → wx κ (gGX D ad cy b) (gA (gGX D ad cy b)) 6 σ 21 [(0, .ref (ad 136)), (1, .int a0), (2, .int x2_4), (3, .int x3_5), (4, .int x4_6)] [] := by
      clear hM
      intro n
      induction n with
      | zero => intro _ _ _ _ _ hM; cases hM
      | succ n ih =>
        intro x2_4 x3_5 x4_6 t8 x4_7 hM kx0 kx1
        replace hM : b_X4_chosen_21 a0 σ (m_X4_chosen_21 a0 σ n) x2_4 x3_5 x4_6 = some (t8, x4_7) := hM
        unfold b_X4_chosen_21 at hM
        refine x_il C 4 rfl dX4_chosen_21 rfl ?_
        refine x_bi (v := 60) C (by decide) dX4_chosen_23 rfl ?_
        refine x_ic_gt (tgt := 87) C dX4_chosen_25 (by decide) rfl (fun hc => ?_) (fun hc => ?_)
        · replace hM := gif_pos hc hM
          cases hM
          exact x_sub [] rfl (kx1 rfl)
        · replace hM := gif_neg hc hM
          refine x_iln C 2 rfl dX4_chosen_28 rfl ?_
          refine x_aln C 0 rfl dX4_chosen_29 rfl ?_
          refine gXg_136_suits C kf_X4_9 dX4_chosen_30 rfl ?_
          refine x_il C 4 rfl dX4_chosen_33 rfl ?_
          obtain ⟨h9, hM⟩ := gck_some hM
          refine gXa_137 C h9 dX4_chosen_35 rfl ?_
          refine x_ic (v := (-1)) C (by decide) dX4_chosen_36 rfl ?_
          refine x_ixor C dX4_chosen_37 rfl ?_
          refine x_iand C dX4_chosen_38 rfl ?_
          obtain ⟨x5_10, ev, hM⟩ := gnm_ex hM
          refine x_ist (lv' := [(5, .int x5_10), (0, .ref (ad 136)), (1, .int a0), (2, .int x2_4), (3, .int x3_5), (4, .int x4_6)]) C ev (by decide) rfl dX4_chosen_39 rfl ?_
          refine x_aln C 1 rfl dX4_chosen_41 rfl ?_
          refine gXg_136_fewest C kf_X4_17 dX4_chosen_42 rfl ?_
          refine x_il C 5 rfl dX4_chosen_45 rfl ?_
          obtain ⟨h11, hM⟩ := gck_some hM
          refine gXo_138 C h11 dX4_chosen_47 rfl ?_
          refine x_iln C 3 rfl dX4_chosen_48 rfl ?_
          obtain ⟨h12, hM⟩ := gck_some hM
          refine gXa_few C (inb_lt h11) h12 dX4_chosen_49 rfl ?_
          refine x_ic (v := 1) C (by decide) dX4_chosen_50 rfl ?_
          refine x_aln C 1 rfl dX4_chosen_51 rfl ?_
          refine gXg_136_fewest C kf_X4_17 dX4_chosen_52 rfl ?_
          refine x_il C 5 rfl dX4_chosen_55 rfl ?_
          refine x_ic (v := 1) C (by decide) dX4_chosen_57 rfl ?_
          refine x_iadd C dX4_chosen_58 rfl ?_
          obtain ⟨h13, hM⟩ := gck_some hM
          refine gXo_138 C h13 dX4_chosen_59 rfl ?_
          refine x_il C 0 rfl dX4_chosen_60 rfl ?_
          obtain ⟨h14, hM⟩ := gck_some hM
          refine gXa_few C (inb_lt h13) h14 dX4_chosen_62 rfl ?_
          refine x_iadd C dX4_chosen_63 rfl ?_
          refine x_ic_ne (tgt := 81) C dX4_chosen_64 (by decide) rfl (fun hc => ?_) (fun hc => ?_)
          · replace hM := gif_neg hc hM
            obtain ⟨x4_15, ev, hM⟩ := gnm_ex hM
            refine x_iinc (j := 5) (w := 1) (lv' := [(4, .int x4_15), (5, .int x5_10), (0, .ref (ad 136)), (1, .int a0), (2, .int x2_4), (3, .int x3_5)]) C rfl ev (by decide) (by decide) rfl dX4_chosen_81 rfl ?_
            refine x_goto (tgt := 21) C dX4_chosen_84 (by decide) ?_
            exact x_sub [2, 3, 4, 5, 0] rfl (ih x2_4 x3_5 x4_15 _ _ hM kx0 kx1)
          · replace hM := gif_pos hc hM
            refine x_iln C 4 rfl dX4_chosen_67 rfl ?_
            refine x_iln C 2 rfl dX4_chosen_68 rfl ?_
            refine x_ic_ne (tgt := 75) C dX4_chosen_69 (by decide) rfl (fun hc => ?_) (fun hc => ?_)
            · replace hM := gif_neg hc hM
              obtain ⟨x3_16, ev, hM⟩ := gnm_ex hM
              refine x_iinc (j := 4) (w := 1) (lv' := [(3, .int x3_16), (5, .int x5_10), (0, .ref (ad 136)), (1, .int a0), (2, .int x2_4), (4, .int x4_6)]) C rfl ev (by decide) (by decide) rfl dX4_chosen_75 rfl ?_
              refine x_il C 1 rfl dX4_chosen_78 rfl ?_
              refine x_istn (lv' := [(2, .int x5_10), (3, .int x3_16), (5, .int x5_10), (0, .ref (ad 136)), (1, .int a0), (4, .int x4_6)]) C rfl rfl (by decide) rfl dX4_chosen_80 rfl ?_
              obtain ⟨x4_17, ev, hM⟩ := gnm_ex hM
              refine x_iinc (j := 5) (w := 1) (lv' := [(4, .int x4_17), (2, .int x5_10), (3, .int x3_16), (5, .int x5_10), (0, .ref (ad 136)), (1, .int a0)]) C rfl ev (by decide) (by decide) rfl dX4_chosen_81 rfl ?_
              refine x_goto (tgt := 21) C dX4_chosen_84 (by decide) ?_
              exact x_sub [4, 5, 1, 2, 0] rfl (ih x5_10 x3_16 x4_17 _ _ hM kx0 kx1)
            · replace hM := gif_pos hc hM
              cases hM
              exact x_sub [5] rfl (kx0 rfl)
    obtain ⟨t8, x4_7, hL18, hM⟩ := gb2_some hM
    refine x_sub [3, 4, 2, 1, 0] rfl (L21 gFU x2_3 0 0 _ _ hL18 (fun ht => ?_) (fun ht => ?_))
    · clear L21
      replace hM := gif_pos ht hM
      refine x_il C 0 rfl dX4_chosen_72 rfl ?_
      exact x_iret C E ⟨gs1 hM, rfl⟩ dX4_chosen_74
    · clear L21
      replace hM := gif_neg (by omega : ¬ t8 = 0) hM
      refine x_bi (v := (-4)) C (by decide) dX4_chosen_87 rfl ?_
      exact x_iret C E ⟨gs1 hM, rfl⟩ dX4_chosen_89
  · replace hM := gif_neg hc hM
    refine x_bi (v := (-4)) C (by decide) dX4_chosen_8 rfl ?_
    exact x_iret C E ⟨gs1 hM, rfl⟩ dX4_chosen_10
set_option maxRecDepth 100000 in
set_option maxHeartbeats 4000000 in
theorem c_X6_lengths {l : Launch} {D : va_G} {ad : Nat → Nat} {cy : Nat → ClassId} {b : Nat} (hG : gInj (gGX D ad cy b)) {a0 : Int32} {σ : gMem} {r0 : Int32} {σ0 : gMem} (hM : m_X6_lengths a0 σ = some (r0, σ0)) : gMi l yX6_lengths (Cond.code yX6_lengths cX6_lengths 2 (some .int) :: gBig) { frames := 6, cells := 0, slots := 0, locals := 129 } (gGX D ad cy b) [.ref (ad 0), .int a0] σ r0 σ0 := by
  refine gIntro (own := RX6) hG (by decide +kernel) rfl rfl (Nat.le_of_ble_eq_true rfl) (lv := [(0, .ref (ad 0)), (1, .int a0)]) rfl (fun κ C E => ?_)
  unfold m_X6_lengths at hM
  refine x_iln C 1 rfl dX6_lengths_0 rfl ?_
  refine x_ic (v := (-1)) C (by decide) dX6_lengths_1 rfl ?_
  refine x_ic_ge (tgt := 7) C dX6_lengths_2 (by decide) rfl (fun hc => ?_) (fun hc => ?_)
  · replace hM := gif_pos hc hM
    refine x_aln C 0 rfl dX6_lengths_7 rfl ?_
    refine gXg_0_now C kf_X6_10 dX6_lengths_8 rfl ?_
    refine gXg_1_needs C kf_X6_163 dX6_lengths_11 rfl ?_
    refine x_if_ne (tgt := 20) C dX6_lengths_14 (by decide) rfl (fun hc => ?_) (fun hc => ?_)
    · replace hM := gif_neg hc hM
      refine x_aln C 0 rfl dX6_lengths_20 rfl ?_
      refine gXg_0_village C kf_X6_36 dX6_lengths_21 rfl ?_
      refine x_aln C 0 rfl dX6_lengths_24 rfl ?_
      refine gXg_0_now C kf_X6_10 dX6_lengths_25 rfl ?_
      obtain ⟨s2, h1, hM⟩ := gb1_some hM
      refine x_cvv (As := [.ref (ad 1)]) (rest := []) C E.2.2.2.2.2 1 (c_X4_weigh hG h1) (gBv km_X6_207 kin_X4_weigh ksel_X4_weigh kini_X4 kc_X4_weigh) rfl rfl rfl ⟨rfl, by decide +kernel, by decide +kernel, by decide +kernel⟩ ⟨Nat.le_of_ble_eq_true rfl, Nat.le_of_ble_eq_true rfl⟩ (by show 136 < 213; decide) rfl rfl rfl rfl (Nat.le_of_ble_eq_true rfl) dX6_lengths_28 rfl ?_
      refine x_iln C 1 rfl dX6_lengths_31 rfl ?_
      refine x_ic (v := (-1)) C (by decide) dX6_lengths_32 rfl ?_
      refine x_ic_ne (tgt := 46) C dX6_lengths_33 (by decide) rfl (fun hc => ?_) (fun hc => ?_)
      · replace hM := gif_neg hc hM
        refine x_aln C 0 rfl dX6_lengths_46 rfl ?_
        refine gXg_0_village C kf_X6_36 dX6_lengths_47 rfl ?_
        refine x_iln C 1 rfl dX6_lengths_50 rfl ?_
        obtain ⟨r4, h3, hM⟩ := gb1_some hM
        refine x_cvi (As := [.int a0]) (rest := []) C E.2.2.2.2.2 1 (c_X4_chosen hG h3) (gBv km_X6_214 kin_X4_chosen ksel_X4_chosen kini_X4 kc_X4_chosen) rfl rfl rfl ⟨rfl, by decide +kernel, by decide +kernel, by decide +kernel⟩ ⟨Nat.le_of_ble_eq_true rfl, Nat.le_of_ble_eq_true rfl⟩ (by show 136 < 213; decide) rfl rfl rfl rfl (Nat.le_of_ble_eq_true rfl) dX6_lengths_51 rfl ?_
        exact x_iret C E (gs2 hM) dX6_lengths_54
      · replace hM := gif_pos hc hM
        refine x_aln C 0 rfl dX6_lengths_36 rfl ?_
        refine gXg_0_village C kf_X6_36 dX6_lengths_37 rfl ?_
        obtain ⟨r6, h5, hM⟩ := gb1_some hM
        refine x_cvi (As := []) (rest := []) C E.2.2.2.2.2 0 (c_X4_fewestLengths hG h5) (gBv km_X6_211 kin_X4_fewestLengths ksel_X4_fewestLengths kini_X4 kc_X4_fewestLengths) rfl rfl rfl ⟨rfl, by decide +kernel, by decide +kernel, by decide +kernel⟩ ⟨Nat.le_of_ble_eq_true rfl, Nat.le_of_ble_eq_true rfl⟩ (by show 136 < 213; decide) rfl rfl rfl rfl (Nat.le_of_ble_eq_true rfl) dX6_lengths_40 rfl ?_
        refine x_goto (tgt := 54) C dX6_lengths_43 (by decide) ?_
        exact x_iret C E (gs2 hM) dX6_lengths_54
    · replace hM := gif_pos hc hM
      refine x_bi (v := (-2)) C (by decide) dX6_lengths_17 rfl ?_
      exact x_iret C E (gs2 hM) dX6_lengths_19
  · replace hM := gif_neg hc hM
    refine x_ic (v := (-1)) C (by decide) dX6_lengths_5 rfl ?_
    exact x_iret C E (gs2 hM) dX6_lengths_6
set_option maxRecDepth 100000 in
set_option maxHeartbeats 4000000 in
theorem c_X1_countStanding {l : Launch} {D : va_G} {ad : Nat → Nat} {cy : Nat → ClassId} {b : Nat} (hG : gInj (gGX D ad cy b)) {a0 : Int32} {a1 : Int32} {σ : gMem} {r0 : Int32} (hM : m_X1_countStanding a0 a1 σ = some r0) : gMi l yX1_countStanding (Cond.code yX1_countStanding cX1_countStanding 5 (some .int) :: gBig) { frames := 4, cells := 0, slots := 0, locals := 83 } (gGX D ad cy b) [.ref (ad 1), .int a0, .int a1] σ r0 σ := by
  refine gIntro (own := RX1) hG (by decide +kernel) rfl rfl (Nat.le_of_ble_eq_true rfl) (lv := [(0, .ref (ad 1)), (1, .int a0), (2, .int a1)]) rfl (fun κ C E => ?_)
  unfold m_X1_countStanding at hM
  refine x_ic (v := 0) C (by decide) dX1_countStanding_0 rfl ?_
  refine x_istn (lv' := [(3, .int 0), (0, .ref (ad 1)), (1, .int a0), (2, .int a1)]) C rfl rfl (by decide) rfl dX1_countStanding_1 rfl ?_
  refine x_ic (v := 0) C (by decide) dX1_countStanding_2 rfl ?_
  refine x_ist (lv' := [(4, .int 0), (3, .int 0), (0, .ref (ad 1)), (1, .int a0), (2, .int a1)]) C rfl (by decide) rfl dX1_countStanding_3 rfl ?_
  have L5 : ∀ (n : Nat) (x3_1 : Int32) (x4_2 : Int32) (x3_3 : Int32), m_X1_countStanding_5 a0 a1 σ n x3_1 x4_2 = some (x3_3) → (wx κ (gGX D ad cy b) (gA (gGX D ad cy b)) 5 σ 34 [(3, .int x3_3)] []) → wx κ (gGX D ad cy b) (gA (gGX D ad cy b)) 5 σ 5 [(0, .ref (ad 1)), (1, .int a0), (2, .int a1), (3, .int x3_1), (4, .int x4_2)] [] := by
    clear hM
    intro n
    induction n with
    | zero => intro _ _ _ hM; cases hM
    | succ n ih =>
      intro x3_1 x4_2 x3_3 hM kx0
      replace hM : b_X1_countStanding_5 a0 a1 σ (m_X1_countStanding_5 a0 a1 σ n) x3_1 x4_2 = some (x3_3) := hM
      unfold b_X1_countStanding_5 at hM
      refine x_il C 4 rfl dX1_countStanding_5 rfl ?_
      refine x_aln C 0 rfl dX1_countStanding_7 rfl ?_
      refine gXg_1_people C kf_X1_57 dX1_countStanding_8 rfl ?_
      refine x_ic_ge (tgt := 34) C dX1_countStanding_11 (by decide) rfl (fun hc => ?_) (fun hc => ?_)
      · replace hM := gif_pos hc hM
        cases hM
        exact x_sub [3] rfl (kx0)
      · replace hM := gif_neg hc hM
        refine x_aln C 0 rfl dX1_countStanding_14 rfl ?_
        refine x_il C 4 rfl dX1_countStanding_15 rfl ?_
        refine x_iln C 1 rfl dX1_countStanding_17 rfl ?_
        refine x_iln C 2 rfl dX1_countStanding_18 rfl ?_
        obtain ⟨r5, h4, hM⟩ := gb1_some hM
        refine x_cvi (As := [.int x4_2, .int a0, .int a1]) (rest := []) C E.2.2.2.2.2 3 (c_X1_standsAt hG h4) (gBv km_X1_127 kin_X1_standsAt ksel_X1_standsAt kini_X1 kc_X1_standsAt) rfl rfl rfl ⟨rfl, by decide +kernel, by decide +kernel, by decide +kernel⟩ ⟨Nat.le_of_ble_eq_true rfl, Nat.le_of_ble_eq_true rfl⟩ (by show 1 < 213; decide) rfl rfl rfl rfl (Nat.le_of_ble_eq_true rfl) dX1_countStanding_19 rfl ?_
        refine x_if_eq (tgt := 28) C dX1_countStanding_22 (by decide) rfl (fun hc => ?_) (fun hc => ?_)
        · replace hM := gif_pos hc hM
          obtain ⟨x4_6, ev, hM⟩ := gnm_ex hM
          refine x_iinc (j := 4) (w := 1) (lv' := [(4, .int x4_6), (0, .ref (ad 1)), (1, .int a0), (2, .int a1), (3, .int x3_1)]) C rfl ev (by decide) (by decide) rfl dX1_countStanding_28 rfl ?_
          refine x_goto (tgt := 5) C dX1_countStanding_31 (by decide) ?_
          exact x_sub [1, 2, 3, 4, 0] rfl (ih x3_1 x4_6 _ hM kx0)
        · replace hM := gif_neg hc hM
          obtain ⟨x3_7, ev, hM⟩ := gnm_ex hM
          refine x_iinc (j := 3) (w := 1) (lv' := [(3, .int x3_7), (0, .ref (ad 1)), (1, .int a0), (2, .int a1), (4, .int x4_2)]) C rfl ev (by decide) (by decide) rfl dX1_countStanding_25 rfl ?_
          obtain ⟨x4_8, ev, hM⟩ := gnm_ex hM
          refine x_iinc (j := 4) (w := 1) (lv' := [(4, .int x4_8), (3, .int x3_7), (0, .ref (ad 1)), (1, .int a0), (2, .int a1)]) C rfl ev (by decide) (by decide) rfl dX1_countStanding_28 rfl ?_
          refine x_goto (tgt := 5) C dX1_countStanding_31 (by decide) ?_
          exact x_sub [2, 3, 4, 1, 0] rfl (ih x3_7 x4_8 _ hM kx0)
  obtain ⟨x3_3, hL9, hM⟩ := gb1_some hM
  refine x_sub [2, 3, 4, 1, 0] rfl (L5 gFU 0 0 _ hL9 ?_)
  clear L5
  refine x_iln C 0 rfl dX1_countStanding_34 rfl ?_
  exact x_iret C E ⟨gs1 hM, rfl⟩ dX1_countStanding_35
set_option maxRecDepth 100000 in
set_option maxHeartbeats 4000000 in
theorem c_X6_meeting {l : Launch} {D : va_G} {ad : Nat → Nat} {cy : Nat → ClassId} {b : Nat} (hG : gInj (gGX D ad cy b)) {a0 : Int32} {σ : gMem} {r0 : Int32} (hM : m_X6_meeting a0 σ = some r0) : gMi l yX6_meeting (Cond.code yX6_meeting cX6_meeting 8 (some .int) :: gBig) { frames := 5, cells := 0, slots := 0, locals := 107 } (gGX D ad cy b) [.ref (ad 0), .int a0] σ r0 σ := by
  refine gIntro (own := RX6) hG (by decide +kernel) rfl rfl (Nat.le_of_ble_eq_true rfl) (lv := [(0, .ref (ad 0)), (1, .int a0)]) rfl (fun κ C E => ?_)
  unfold m_X6_meeting at hM
  refine x_iln C 1 rfl dX6_meeting_0 rfl ?_
  refine x_ic (v := 0) C (by decide) dX6_meeting_1 rfl ?_
  refine x_ic (v := 2) C (by decide) dX6_meeting_2 rfl ?_
  obtain ⟨r2, h1, hM⟩ := gb1_some hM
  refine x_csi (As := [.int a0, .int 0, .int 2]) (rest := []) C E.2.2.2.2.2 3 (c_X6_within hG h1) (gBs km_X6_54 kst_X6_within kini_X6 kc_X6_within) rfl rfl rfl ⟨by decide +kernel, by decide +kernel, by decide +kernel⟩ ⟨Nat.le_of_ble_eq_true rfl, Nat.le_of_ble_eq_true rfl⟩ rfl rfl (Nat.le_of_ble_eq_true rfl) dX6_meeting_3 rfl ?_
  refine x_if_ne (tgt := 11) C dX6_meeting_6 (by decide) rfl (fun hc => ?_) (fun hc => ?_)
  · replace hM := gif_neg hc hM
    refine x_bi (v := (-4)) C (by decide) dX6_meeting_11 rfl ?_
    refine x_istn (lv' := [(2, .int (-4)), (0, .ref (ad 0)), (1, .int a0)]) C rfl rfl (by decide) rfl dX6_meeting_13 rfl ?_
    refine x_bi (v := (-4)) C (by decide) dX6_meeting_14 rfl ?_
    refine x_istn (lv' := [(3, .int (-4)), (2, .int (-4)), (0, .ref (ad 0)), (1, .int a0)]) C rfl rfl (by decide) rfl dX6_meeting_16 rfl ?_
    refine x_bi (v := (-4)) C (by decide) dX6_meeting_17 rfl ?_
    refine x_ist (lv' := [(4, .int (-4)), (3, .int (-4)), (2, .int (-4)), (0, .ref (ad 0)), (1, .int a0)]) C rfl (by decide) rfl dX6_meeting_19 rfl ?_
    refine x_ic (v := 0) C (by decide) dX6_meeting_21 rfl ?_
    refine x_ist (lv' := [(5, .int 0), (4, .int (-4)), (3, .int (-4)), (2, .int (-4)), (0, .ref (ad 0)), (1, .int a0)]) C rfl (by decide) rfl dX6_meeting_22 rfl ?_
    have L24 : ∀ (n : Nat) (x2_3 : Int32) (x3_4 : Int32) (x4_5 : Int32) (x5_6 : Int32) (x2_7 : Int32) (x3_8 : Int32) (x4_9 : Int32), m_X6_meeting_24 σ n x2_3 x3_4 x4_5 x5_6 = some (x2_7, x3_8, x4_9) → (wx κ (gGX D ad cy b) (gA (gGX D ad cy b)) 8 σ 106 [(1, .int a0), (2, .int x2_7), (3, .int x3_8), (4, .int x4_9)] []) → wx κ (gGX D ad cy b) (gA (gGX D ad cy b)) 8 σ 24 [(0, .ref (ad 0)), (1, .int a0), (2, .int x2_3), (3, .int x3_4), (4, .int x4_5), (5, .int x5_6)] [] := by
      clear hM
      intro n
      induction n with
      | zero => intro _ _ _ _ _ _ _ hM; cases hM
      | succ n ih =>
        intro x2_3 x3_4 x4_5 x5_6 x2_7 x3_8 x4_9 hM kx0
        replace hM : b_X6_meeting_24 σ (m_X6_meeting_24 σ n) x2_3 x3_4 x4_5 x5_6 = some (x2_7, x3_8, x4_9) := hM
        unfold b_X6_meeting_24 at hM
        refine x_il C 5 rfl dX6_meeting_24 rfl ?_
        refine x_bi (v := 24) C (by decide) dX6_meeting_26 rfl ?_
        refine x_ic_ge (tgt := 106) C dX6_meeting_28 (by decide) rfl (fun hc => ?_) (fun hc => ?_)
        · replace hM := gif_pos hc hM
          cases hM
          exact x_sub [1, 2, 3, 4] rfl (kx0)
        · replace hM := gif_neg hc hM
          refine x_ic (v := 0) C (by decide) dX6_meeting_31 rfl ?_
          refine x_ist (lv' := [(6, .int 0), (0, .ref (ad 0)), (1, .int a0), (2, .int x2_3), (3, .int x3_4), (4, .int x4_5), (5, .int x5_6)]) C rfl (by decide) rfl dX6_meeting_32 rfl ?_
          have L34 : ∀ (n : Nat) (x2_10 : Int32) (x3_11 : Int32) (x4_12 : Int32) (x6_13 : Int32) (x2_14 : Int32) (x3_15 : Int32) (x4_16 : Int32), m_X6_meeting_34 x5_6 σ n x2_10 x3_11 x4_12 x6_13 = some (x2_14, x3_15, x4_16) → (wx κ (gGX D ad cy b) (gA (gGX D ad cy b)) 8 σ 100 [(0, .ref (ad 0)), (1, .int a0), (2, .int x2_14), (3, .int x3_15), (4, .int x4_16), (5, .int x5_6)] []) → wx κ (gGX D ad cy b) (gA (gGX D ad cy b)) 8 σ 34 [(0, .ref (ad 0)), (1, .int a0), (2, .int x2_10), (3, .int x3_11), (4, .int x4_12), (5, .int x5_6), (6, .int x6_13)] [] := by
            clear hM
            intro n
            induction n with
            | zero => intro _ _ _ _ _ _ _ hM; cases hM
            | succ n ih =>
              intro x2_10 x3_11 x4_12 x6_13 x2_14 x3_15 x4_16 hM kx0
              replace hM : b_X6_meeting_34 x5_6 σ (m_X6_meeting_34 x5_6 σ n) x2_10 x3_11 x4_12 x6_13 = some (x2_14, x3_15, x4_16) := hM
              unfold b_X6_meeting_34 at hM
              refine x_il C 6 rfl dX6_meeting_34 rfl ?_
              refine x_aln C 0 rfl dX6_meeting_36 rfl ?_
              refine gXg_0_now C kf_X6_10 dX6_meeting_37 rfl ?_
              refine gXg_1_places C kf_X6_58 dX6_meeting_40 rfl ?_
              refine x_ic_ge (tgt := 100) C dX6_meeting_43 (by decide) rfl (fun hc => ?_) (fun hc => ?_)
              · replace hM := gif_pos hc hM
                cases hM
                exact x_sub [0, 1, 2, 3, 4, 5] rfl (kx0)
              · replace hM := gif_neg hc hM
                refine x_aln C 0 rfl dX6_meeting_46 rfl ?_
                refine gXg_0_now C kf_X6_10 dX6_meeting_47 rfl ?_
                refine gXg_1_depths C kf_X6_71 dX6_meeting_50 rfl ?_
                refine x_il C 6 rfl dX6_meeting_53 rfl ?_
                obtain ⟨h17, hM⟩ := gck_some hM
                refine gXa_2 C h17 dX6_meeting_55 rfl ?_
                refine x_if_ge (tgt := 73) C dX6_meeting_56 (by decide) rfl (fun hc => ?_) (fun hc => ?_)
                · replace hM := gif_pos hc hM
                  refine x_bi (v := (-4)) C (by decide) dX6_meeting_73 rfl ?_
                  refine x_ist (lv' := [(7, .int (-4)), (0, .ref (ad 0)), (1, .int a0), (2, .int x2_10), (3, .int x3_11), (4, .int x4_12), (5, .int x5_6), (6, .int x6_13)]) C rfl (by decide) rfl dX6_meeting_75 rfl ?_
                  refine x_il C 0 rfl dX6_meeting_77 rfl ?_
                  refine x_il C 5 rfl dX6_meeting_79 rfl ?_
                  refine x_ic_le (tgt := 94) C dX6_meeting_81 (by decide) rfl (fun hc => ?_) (fun hc => ?_)
                  · replace hM := gif_pos hc hM
                    obtain ⟨x6_18, ev, hM⟩ := gnm_ex hM
                    refine x_iinc (j := 7) (w := 1) (lv' := [(6, .int x6_18), (7, .int (-4)), (0, .ref (ad 0)), (1, .int a0), (2, .int x2_10), (3, .int x3_11), (4, .int x4_12), (5, .int x5_6)]) C rfl ev (by decide) (by decide) rfl dX6_meeting_94 rfl ?_
                    refine x_goto (tgt := 34) C dX6_meeting_97 (by decide) ?_
                    exact x_sub [2, 3, 4, 5, 6, 7, 0] rfl (ih x2_10 x3_11 x4_12 x6_18 _ _ _ hM kx0)
                  · replace hM := gif_neg hc hM
                    refine x_il C 7 rfl dX6_meeting_84 rfl ?_
                    refine x_istn (lv' := [(2, .int x6_13), (7, .int (-4)), (0, .ref (ad 0)), (1, .int a0), (3, .int x3_11), (4, .int x4_12), (5, .int x5_6), (6, .int x6_13)]) C rfl rfl (by decide) rfl dX6_meeting_86 rfl ?_
                    refine x_il C 6 rfl dX6_meeting_87 rfl ?_
                    refine x_istn (lv' := [(3, .int x5_6), (2, .int x6_13), (7, .int (-4)), (0, .ref (ad 0)), (1, .int a0), (4, .int x4_12), (5, .int x5_6), (6, .int x6_13)]) C rfl rfl (by decide) rfl dX6_meeting_89 rfl ?_
                    refine x_il C 2 rfl dX6_meeting_90 rfl ?_
                    refine x_ist (lv' := [(4, .int (-4)), (3, .int x5_6), (2, .int x6_13), (7, .int (-4)), (0, .ref (ad 0)), (1, .int a0), (5, .int x5_6), (6, .int x6_13)]) C rfl (by decide) rfl dX6_meeting_92 rfl ?_
                    obtain ⟨x6_19, ev, hM⟩ := gnm_ex hM
                    refine x_iinc (j := 7) (w := 1) (lv' := [(6, .int x6_19), (4, .int (-4)), (3, .int x5_6), (2, .int x6_13), (7, .int (-4)), (0, .ref (ad 0)), (1, .int a0), (5, .int x5_6)]) C rfl ev (by decide) (by decide) rfl dX6_meeting_94 rfl ?_
                    refine x_goto (tgt := 34) C dX6_meeting_97 (by decide) ?_
                    exact x_sub [5, 6, 3, 2, 1, 7, 0] rfl (ih x6_13 x5_6 (-4) x6_19 _ _ _ hM kx0)
                · replace hM := gif_neg hc hM
                  refine x_aln C 0 rfl dX6_meeting_59 rfl ?_
                  refine gXg_0_now C kf_X6_10 dX6_meeting_60 rfl ?_
                  refine x_il C 6 rfl dX6_meeting_63 rfl ?_
                  refine x_il C 5 rfl dX6_meeting_65 rfl ?_
                  obtain ⟨r21, h20, hM⟩ := gb1_some hM
                  refine x_cvi (As := [.int x6_13, .int x5_6]) (rest := []) C E.2.2.2.2.2 2 (c_X1_countStanding hG h20) (gBv km_X6_217 kin_X1_countStanding ksel_X1_countStanding kini_X1 kc_X1_countStanding) rfl rfl rfl ⟨rfl, by decide +kernel, by decide +kernel, by decide +kernel⟩ ⟨Nat.le_of_ble_eq_true rfl, Nat.le_of_ble_eq_true rfl⟩ (by show 1 < 213; decide) rfl rfl rfl rfl (Nat.le_of_ble_eq_true rfl) dX6_meeting_67 rfl ?_
                  refine x_goto (tgt := 75) C dX6_meeting_70 (by decide) ?_
                  refine x_ist (lv' := [(7, .int r21), (0, .ref (ad 0)), (1, .int a0), (2, .int x2_10), (3, .int x3_11), (4, .int x4_12), (5, .int x5_6), (6, .int x6_13)]) C rfl (by decide) rfl dX6_meeting_75 rfl ?_
                  refine x_il C 0 rfl dX6_meeting_77 rfl ?_
                  refine x_il C 5 rfl dX6_meeting_79 rfl ?_
                  refine x_ic_le (tgt := 94) C dX6_meeting_81 (by decide) rfl (fun hc => ?_) (fun hc => ?_)
                  · replace hM := gif_pos hc hM
                    obtain ⟨x6_22, ev, hM⟩ := gnm_ex hM
                    refine x_iinc (j := 7) (w := 1) (lv' := [(6, .int x6_22), (7, .int r21), (0, .ref (ad 0)), (1, .int a0), (2, .int x2_10), (3, .int x3_11), (4, .int x4_12), (5, .int x5_6)]) C rfl ev (by decide) (by decide) rfl dX6_meeting_94 rfl ?_
                    refine x_goto (tgt := 34) C dX6_meeting_97 (by decide) ?_
                    exact x_sub [2, 3, 4, 5, 6, 7, 0] rfl (ih x2_10 x3_11 x4_12 x6_22 _ _ _ hM kx0)
                  · replace hM := gif_neg hc hM
                    refine x_il C 7 rfl dX6_meeting_84 rfl ?_
                    refine x_istn (lv' := [(2, .int x6_13), (7, .int r21), (0, .ref (ad 0)), (1, .int a0), (3, .int x3_11), (4, .int x4_12), (5, .int x5_6), (6, .int x6_13)]) C rfl rfl (by decide) rfl dX6_meeting_86 rfl ?_
                    refine x_il C 6 rfl dX6_meeting_87 rfl ?_
                    refine x_istn (lv' := [(3, .int x5_6), (2, .int x6_13), (7, .int r21), (0, .ref (ad 0)), (1, .int a0), (4, .int x4_12), (5, .int x5_6), (6, .int x6_13)]) C rfl rfl (by decide) rfl dX6_meeting_89 rfl ?_
                    refine x_il C 2 rfl dX6_meeting_90 rfl ?_
                    refine x_ist (lv' := [(4, .int r21), (3, .int x5_6), (2, .int x6_13), (7, .int r21), (0, .ref (ad 0)), (1, .int a0), (5, .int x5_6), (6, .int x6_13)]) C rfl (by decide) rfl dX6_meeting_92 rfl ?_
                    obtain ⟨x6_23, ev, hM⟩ := gnm_ex hM
                    refine x_iinc (j := 7) (w := 1) (lv' := [(6, .int x6_23), (4, .int r21), (3, .int x5_6), (2, .int x6_13), (7, .int r21), (0, .ref (ad 0)), (1, .int a0), (5, .int x5_6)]) C rfl ev (by decide) (by decide) rfl dX6_meeting_94 rfl ?_
                    refine x_goto (tgt := 34) C dX6_meeting_97 (by decide) ?_
                    exact x_sub [5, 6, 3, 2, 1, 7, 0] rfl (ih x6_13 x5_6 r21 x6_23 _ _ _ hM kx0)
          obtain ⟨x2_14, x3_15, x4_16, hL24, hM⟩ := gb3_some hM
          refine x_sub [1, 2, 3, 4, 5, 6, 0] rfl (L34 gFU x2_3 x3_4 x4_5 0 _ _ _ hL24 ?_)
          clear L34
          obtain ⟨x5_25, ev, hM⟩ := gnm_ex hM
          refine x_iinc (j := 5) (w := 1) (lv' := [(5, .int x5_25), (0, .ref (ad 0)), (1, .int a0), (2, .int x2_14), (3, .int x3_15), (4, .int x4_16)]) C rfl ev (by decide) (by decide) rfl dX6_meeting_100 rfl ?_
          refine x_goto (tgt := 24) C dX6_meeting_103 (by decide) ?_
          exact x_sub [1, 2, 3, 4, 5, 0] rfl (ih x2_14 x3_15 x4_16 x5_25 _ _ _ hM kx0)
    obtain ⟨x2_7, x3_8, x4_9, hL26, hM⟩ := gb3_some hM
    refine x_sub [4, 5, 3, 2, 1, 0] rfl (L24 gFU (-4) (-4) (-4) 0 _ _ _ hL26 ?_)
    clear L24
    refine x_iln C 0 rfl dX6_meeting_106 rfl ?_
    refine x_if_ne (tgt := 114) C dX6_meeting_107 (by decide) rfl (fun hc => ?_) (fun hc => ?_)
    · replace hM := gif_neg hc hM
      refine x_iln C 0 rfl dX6_meeting_114 rfl ?_
      refine x_ic (v := 1) C (by decide) dX6_meeting_115 rfl ?_
      refine x_ic_ne (tgt := 123) C dX6_meeting_116 (by decide) rfl (fun hc => ?_) (fun hc => ?_)
      · replace hM := gif_neg hc hM
        refine x_il C 3 rfl dX6_meeting_123 rfl ?_
        exact x_iret C E ⟨gs1 hM, rfl⟩ dX6_meeting_125
      · replace hM := gif_pos hc hM
        refine x_iln C 2 rfl dX6_meeting_119 rfl ?_
        refine x_goto (tgt := 125) C dX6_meeting_120 (by decide) ?_
        exact x_iret C E ⟨gs1 hM, rfl⟩ dX6_meeting_125
    · replace hM := gif_pos hc hM
      refine x_iln C 1 rfl dX6_meeting_110 rfl ?_
      refine x_goto (tgt := 125) C dX6_meeting_111 (by decide) ?_
      exact x_iret C E ⟨gs1 hM, rfl⟩ dX6_meeting_125
  · replace hM := gif_pos hc hM
    refine x_ic (v := (-1)) C (by decide) dX6_meeting_9 rfl ?_
    exact x_iret C E ⟨gs1 hM, rfl⟩ dX6_meeting_10
set_option maxRecDepth 100000 in
set_option maxHeartbeats 4000000 in
theorem c_X1_shortestOf {l : Launch} {D : va_G} {ad : Nat → Nat} {cy : Nat → ClassId} {b : Nat} (hG : gInj (gGX D ad cy b)) {a0 : Int32} {σ : gMem} {r0 : Int32} (hM : m_X1_shortestOf a0 σ = some r0) : gMi l yX1_shortestOf (Cond.code yX1_shortestOf cX1_shortestOf 4 (some .int) :: gBig) { frames := 3, cells := 0, slots := 0, locals := 57 } (gGX D ad cy b) [.ref (ad 1), .int a0] σ r0 σ := by
  refine gIntro (own := RX1) hG (by decide +kernel) rfl rfl (Nat.le_of_ble_eq_true rfl) (lv := [(0, .ref (ad 1)), (1, .int a0)]) rfl (fun κ C E => ?_)
  unfold m_X1_shortestOf at hM
  refine x_ic (v := (-1)) C (by decide) dX1_shortestOf_0 rfl ?_
  refine x_istn (lv' := [(2, .int (-1)), (0, .ref (ad 1)), (1, .int a0)]) C rfl rfl (by decide) rfl dX1_shortestOf_1 rfl ?_
  refine x_ic (v := 0) C (by decide) dX1_shortestOf_2 rfl ?_
  refine x_istn (lv' := [(3, .int 0), (2, .int (-1)), (0, .ref (ad 1)), (1, .int a0)]) C rfl rfl (by decide) rfl dX1_shortestOf_3 rfl ?_
  have L4 : ∀ (n : Nat) (x2_1 : Int32) (x3_2 : Int32) (x2_3 : Int32), m_X1_shortestOf_4 a0 σ n x2_1 x3_2 = some (x2_3) → (wx κ (gGX D ad cy b) (gA (gGX D ad cy b)) 4 σ 45 [(2, .int x2_3)] []) → wx κ (gGX D ad cy b) (gA (gGX D ad cy b)) 4 σ 4 [(0, .ref (ad 1)), (1, .int a0), (2, .int x2_1), (3, .int x3_2)] [] := by
    clear hM
    intro n
    induction n with
    | zero => intro _ _ _ hM; cases hM
    | succ n ih =>
      intro x2_1 x3_2 x2_3 hM kx0
      replace hM : b_X1_shortestOf_4 a0 σ (m_X1_shortestOf_4 a0 σ n) x2_1 x3_2 = some (x2_3) := hM
      unfold b_X1_shortestOf_4 at hM
      refine x_iln C 3 rfl dX1_shortestOf_4 rfl ?_
      refine x_aln C 0 rfl dX1_shortestOf_5 rfl ?_
      refine gXg_1_people C kf_X1_57 dX1_shortestOf_6 rfl ?_
      refine x_ic_ge (tgt := 45) C dX1_shortestOf_9 (by decide) rfl (fun hc => ?_) (fun hc => ?_)
      · replace hM := gif_pos hc hM
        cases hM
        exact x_sub [2] rfl (kx0)
      · replace hM := gif_neg hc hM
        refine x_iln C 1 rfl dX1_shortestOf_12 rfl ?_
        refine x_iln C 3 rfl dX1_shortestOf_13 rfl ?_
        obtain ⟨r5, h4, hM⟩ := gb1_some hM
        refine x_csni (As := [.int a0, .int x3_2]) (rest := []) C E.2.2.2.2.2 2 (c_X6_holds hG h4) (gBn kc_X6_holds) rfl rfl rfl (by decide +kernel) (gBc kini_X6) (gBc kst_X6_holds) ⟨by decide +kernel, by decide +kernel, by decide +kernel⟩ ⟨Nat.le_of_ble_eq_true rfl, Nat.le_of_ble_eq_true rfl⟩ rfl rfl (Nat.le_of_ble_eq_true rfl) dX1_shortestOf_14 rfl ?_
        refine x_if_eq (tgt := 39) C dX1_shortestOf_17 (by decide) rfl (fun hc => ?_) (fun hc => ?_)
        · replace hM := gif_pos hc hM
          obtain ⟨x3_6, ev, hM⟩ := gnm_ex hM
          refine x_iinc (j := 3) (w := 1) (lv' := [(3, .int x3_6), (0, .ref (ad 1)), (1, .int a0), (2, .int x2_1)]) C rfl ev (by decide) (by decide) rfl dX1_shortestOf_39 rfl ?_
          refine x_goto (tgt := 4) C dX1_shortestOf_42 (by decide) ?_
          exact x_sub [1, 2, 3, 0] rfl (ih x2_1 x3_6 _ hM kx0)
        · replace hM := gif_neg hc hM
          refine x_iln C 2 rfl dX1_shortestOf_20 rfl ?_
          refine x_if_lt (tgt := 37) C dX1_shortestOf_21 (by decide) rfl (fun hc => ?_) (fun hc => ?_)
          · replace hM := gif_pos hc hM
            refine x_iln C 3 rfl dX1_shortestOf_37 rfl ?_
            refine x_istn (lv' := [(2, .int x3_2), (0, .ref (ad 1)), (1, .int a0), (3, .int x3_2)]) C rfl rfl (by decide) rfl dX1_shortestOf_38 rfl ?_
            obtain ⟨x3_7, ev, hM⟩ := gnm_ex hM
            refine x_iinc (j := 3) (w := 1) (lv' := [(3, .int x3_7), (2, .int x3_2), (0, .ref (ad 1)), (1, .int a0)]) C rfl ev (by decide) (by decide) rfl dX1_shortestOf_39 rfl ?_
            refine x_goto (tgt := 4) C dX1_shortestOf_42 (by decide) ?_
            exact x_sub [2, 3, 1, 0] rfl (ih x3_2 x3_7 _ hM kx0)
          · replace hM := gif_neg hc hM
            refine x_aln C 0 rfl dX1_shortestOf_24 rfl ?_
            refine x_iln C 3 rfl dX1_shortestOf_25 rfl ?_
            obtain ⟨r9, h8, hM⟩ := gb1_some hM
            refine x_cvi (As := [.int x3_2]) (rest := []) C E.2.2.2.2.2 1 (c_X1_lengthOf hG h8) (gBv km_X1_133 kin_X1_lengthOf ksel_X1_lengthOf kini_X1 kc_X1_lengthOf) rfl rfl rfl ⟨rfl, by decide +kernel, by decide +kernel, by decide +kernel⟩ ⟨Nat.le_of_ble_eq_true rfl, Nat.le_of_ble_eq_true rfl⟩ (by show 1 < 213; decide) rfl rfl rfl rfl (Nat.le_of_ble_eq_true rfl) dX1_shortestOf_26 rfl ?_
            refine x_aln C 0 rfl dX1_shortestOf_29 rfl ?_
            refine x_iln C 2 rfl dX1_shortestOf_30 rfl ?_
            obtain ⟨r11, h10, hM⟩ := gb1_some hM
            refine x_cvi (As := [.int x2_1]) (rest := [.int r9]) C E.2.2.2.2.2 1 (c_X1_lengthOf hG h10) (gBv km_X1_133 kin_X1_lengthOf ksel_X1_lengthOf kini_X1 kc_X1_lengthOf) rfl rfl rfl ⟨rfl, by decide +kernel, by decide +kernel, by decide +kernel⟩ ⟨Nat.le_of_ble_eq_true rfl, Nat.le_of_ble_eq_true rfl⟩ (by show 1 < 213; decide) rfl rfl rfl rfl (Nat.le_of_ble_eq_true rfl) dX1_shortestOf_31 rfl ?_
            refine x_ic_ge (tgt := 39) C dX1_shortestOf_34 (by decide) rfl (fun hc => ?_) (fun hc => ?_)
            · replace hM := gif_pos hc hM
              obtain ⟨x3_12, ev, hM⟩ := gnm_ex hM
              refine x_iinc (j := 3) (w := 1) (lv' := [(3, .int x3_12), (0, .ref (ad 1)), (1, .int a0), (2, .int x2_1)]) C rfl ev (by decide) (by decide) rfl dX1_shortestOf_39 rfl ?_
              refine x_goto (tgt := 4) C dX1_shortestOf_42 (by decide) ?_
              exact x_sub [1, 2, 3, 0] rfl (ih x2_1 x3_12 _ hM kx0)
            · replace hM := gif_neg hc hM
              refine x_iln C 3 rfl dX1_shortestOf_37 rfl ?_
              refine x_istn (lv' := [(2, .int x3_2), (0, .ref (ad 1)), (1, .int a0), (3, .int x3_2)]) C rfl rfl (by decide) rfl dX1_shortestOf_38 rfl ?_
              obtain ⟨x3_13, ev, hM⟩ := gnm_ex hM
              refine x_iinc (j := 3) (w := 1) (lv' := [(3, .int x3_13), (2, .int x3_2), (0, .ref (ad 1)), (1, .int a0)]) C rfl ev (by decide) (by decide) rfl dX1_shortestOf_39 rfl ?_
              refine x_goto (tgt := 4) C dX1_shortestOf_42 (by decide) ?_
              exact x_sub [2, 3, 1, 0] rfl (ih x3_2 x3_13 _ hM kx0)
  obtain ⟨x2_3, hL14, hM⟩ := gb1_some hM
  refine x_sub [2, 3, 1, 0] rfl (L4 gFU (-1) 0 _ hL14 ?_)
  clear L4
  refine x_ic (v := 0) C (by decide) dX1_shortestOf_45 rfl ?_
  refine x_iln C 0 rfl dX1_shortestOf_46 rfl ?_
  refine x_mmax C (gBc km_X1_101) (gBc kst_J9_max_7cf53) (gBc kini_J9) (gBc kc_J9_max_7cf53) (by decide) (Nat.le_of_ble_eq_true rfl) dX1_shortestOf_47 rfl ?_
  exact x_iret C E ⟨gs1 hM, rfl⟩ dX1_shortestOf_50
set_option maxRecDepth 100000 in
set_option maxHeartbeats 4000000 in
theorem c_X6_pairs {l : Launch} {D : va_G} {ad : Nat → Nat} {cy : Nat → ClassId} {b : Nat} (hG : gInj (gGX D ad cy b)) {a0 : Int32} {σ : gMem} {r0 : Int32} (hM : m_X6_pairs a0 σ = some r0) : gMi l yX6_pairs (Cond.code yX6_pairs cX6_pairs 7 (some .int) :: gBig) { frames := 4, cells := 0, slots := 0, locals := 80 } (gGX D ad cy b) [.ref (ad 0), .int a0] σ r0 σ := by
  refine gIntro (own := RX6) hG (by decide +kernel) rfl rfl (Nat.le_of_ble_eq_true rfl) (lv := [(0, .ref (ad 0)), (1, .int a0)]) rfl (fun κ C E => ?_)
  unfold m_X6_pairs at hM
  refine x_iln C 1 rfl dX6_pairs_0 rfl ?_
  refine x_ic (v := 0) C (by decide) dX6_pairs_1 rfl ?_
  refine x_bi (v := 60) C (by decide) dX6_pairs_2 rfl ?_
  obtain ⟨r2, h1, hM⟩ := gb1_some hM
  refine x_csi (As := [.int a0, .int 0, .int 60]) (rest := []) C E.2.2.2.2.2 3 (c_X6_within hG h1) (gBs km_X6_54 kst_X6_within kini_X6 kc_X6_within) rfl rfl rfl ⟨by decide +kernel, by decide +kernel, by decide +kernel⟩ ⟨Nat.le_of_ble_eq_true rfl, Nat.le_of_ble_eq_true rfl⟩ rfl rfl (Nat.le_of_ble_eq_true rfl) dX6_pairs_4 rfl ?_
  refine x_if_ne (tgt := 12) C dX6_pairs_7 (by decide) rfl (fun hc => ?_) (fun hc => ?_)
  · replace hM := gif_neg hc hM
    refine x_ic (v := 0) C (by decide) dX6_pairs_12 rfl ?_
    refine x_istn (lv' := [(2, .int 0), (0, .ref (ad 0)), (1, .int a0)]) C rfl rfl (by decide) rfl dX6_pairs_13 rfl ?_
    refine x_ic (v := 1) C (by decide) dX6_pairs_14 rfl ?_
    refine x_aln C 1 rfl dX6_pairs_15 rfl ?_
    refine gXg_0_now C kf_X6_10 dX6_pairs_16 rfl ?_
    refine gXg_1_people C kf_X6_113 dX6_pairs_19 rfl ?_
    refine x_ishl C dX6_pairs_22 rfl ?_
    refine x_ic (v := 1) C (by decide) dX6_pairs_23 rfl ?_
    refine x_isub C dX6_pairs_24 rfl ?_
    obtain ⟨x3_3, ev, hM⟩ := gnm_ex hM
    refine x_istn (lv' := [(3, .int x3_3), (2, .int 0), (0, .ref (ad 0)), (1, .int a0)]) C rfl ev (by decide) rfl dX6_pairs_25 rfl ?_
    refine x_ic (v := 0) C (by decide) dX6_pairs_26 rfl ?_
    refine x_ist (lv' := [(4, .int 0), (3, .int x3_3), (2, .int 0), (0, .ref (ad 0)), (1, .int a0)]) C rfl (by decide) rfl dX6_pairs_27 rfl ?_
    have L29 : ∀ (n : Nat) (x2_4 : Int32) (x3_5 : Int32) (x4_6 : Int32) (t8 : Nat) (x2_7 : Int32), m_X6_pairs_29 a0 σ n x2_4 x3_5 x4_6 = some (t8, x2_7) → (t8 = 0 → wx κ (gGX D ad cy b) (gA (gGX D ad cy b)) 7 σ 63 [(2, .int x2_7)] []) → (t8 = 1 → wx κ (gGX D ad cy b) (gA (gGX D ad cy b)) 7 σ 117 [(2, .int x2_7)] []) → wx κ (gGX D ad cy b) (gA (gGX D ad cy b)) 7 σ 29 [(0, .ref (ad 0)), (1, .int a0), (2, .int x2_4), (3, .int x3_5), (4, .int x4_6)] [] := by
      clear hM
      intro n
      induction n with
      | zero => intro _ _ _ _ _ hM; cases hM
      | succ n ih =>
        intro x2_4 x3_5 x4_6 t8 x2_7 hM kx0 kx1
        replace hM : b_X6_pairs_29 a0 σ (m_X6_pairs_29 a0 σ n) x2_4 x3_5 x4_6 = some (t8, x2_7) := hM
        unfold b_X6_pairs_29 at hM
        refine x_il C 4 rfl dX6_pairs_29 rfl ?_
        refine x_bi (v := 8) C (by decide) dX6_pairs_31 rfl ?_
        refine x_ic_ge (tgt := 117) C dX6_pairs_33 (by decide) rfl (fun hc => ?_) (fun hc => ?_)
        · replace hM := gif_pos hc hM
          cases hM
          exact x_sub [2] rfl (kx1 rfl)
        · replace hM := gif_neg hc hM
          refine x_iln C 3 rfl dX6_pairs_36 rfl ?_
          refine x_if_eq (tgt := 117) C dX6_pairs_37 (by decide) rfl (fun hc => ?_) (fun hc => ?_)
          · replace hM := gif_pos hc hM
            cases hM
            exact x_sub [2] rfl (kx1 rfl)
          · replace hM := gif_neg hc hM
            refine x_aln C 0 rfl dX6_pairs_40 rfl ?_
            refine gXg_0_now C kf_X6_10 dX6_pairs_41 rfl ?_
            refine x_iln C 3 rfl dX6_pairs_44 rfl ?_
            obtain ⟨r10, h9, hM⟩ := gb1_some hM
            refine x_cvi (As := [.int x3_5]) (rest := []) C E.2.2.2.2.2 1 (c_X1_shortestOf hG h9) (gBv km_X6_220 kin_X1_shortestOf ksel_X1_shortestOf kini_X1 kc_X1_shortestOf) rfl rfl rfl ⟨rfl, by decide +kernel, by decide +kernel, by decide +kernel⟩ ⟨Nat.le_of_ble_eq_true rfl, Nat.le_of_ble_eq_true rfl⟩ (by show 1 < 213; decide) rfl rfl rfl rfl (Nat.le_of_ble_eq_true rfl) dX6_pairs_45 rfl ?_
            refine x_ist (lv' := [(5, .int r10), (0, .ref (ad 0)), (1, .int a0), (2, .int x2_4), (3, .int x3_5), (4, .int x4_6)]) C rfl (by decide) rfl dX6_pairs_48 rfl ?_
            refine x_iln C 4 rfl dX6_pairs_50 rfl ?_
            refine x_ic (v := 1) C (by decide) dX6_pairs_51 rfl ?_
            refine x_il C 0 rfl dX6_pairs_52 rfl ?_
            refine x_ishl C dX6_pairs_54 rfl ?_
            refine x_ic (v := (-1)) C (by decide) dX6_pairs_55 rfl ?_
            refine x_ixor C dX6_pairs_56 rfl ?_
            refine x_iand C dX6_pairs_57 rfl ?_
            obtain ⟨x3_11, ev, hM⟩ := gnm_ex hM
            refine x_istn (lv' := [(3, .int x3_11), (5, .int r10), (0, .ref (ad 0)), (1, .int a0), (2, .int x2_4), (4, .int x4_6)]) C rfl ev (by decide) rfl dX6_pairs_58 rfl ?_
            refine x_iln C 0 rfl dX6_pairs_59 rfl ?_
            refine x_if_ne (tgt := 66) C dX6_pairs_60 (by decide) rfl (fun hc => ?_) (fun hc => ?_)
            · replace hM := gif_neg hc hM
              refine x_aln C 2 rfl dX6_pairs_66 rfl ?_
              refine gXg_0_now C kf_X6_10 dX6_pairs_67 rfl ?_
              refine x_iln C 0 rfl dX6_pairs_70 rfl ?_
              obtain ⟨r13, h12, hM⟩ := gb1_some hM
              refine x_cvi (As := [.int x3_11]) (rest := []) C E.2.2.2.2.2 1 (c_X1_shortestOf hG h12) (gBv km_X6_220 kin_X1_shortestOf ksel_X1_shortestOf kini_X1 kc_X1_shortestOf) rfl rfl rfl ⟨rfl, by decide +kernel, by decide +kernel, by decide +kernel⟩ ⟨Nat.le_of_ble_eq_true rfl, Nat.le_of_ble_eq_true rfl⟩ (by show 1 < 213; decide) rfl rfl rfl rfl (Nat.le_of_ble_eq_true rfl) dX6_pairs_71 rfl ?_
              refine x_ist (lv' := [(6, .int r13), (3, .int x3_11), (5, .int r10), (0, .ref (ad 0)), (1, .int a0), (2, .int x2_4), (4, .int x4_6)]) C rfl (by decide) rfl dX6_pairs_74 rfl ?_
              refine x_aln C 3 rfl dX6_pairs_76 rfl ?_
              refine gXg_0_now C kf_X6_10 dX6_pairs_77 rfl ?_
              refine x_il C 0 rfl dX6_pairs_80 rfl ?_
              obtain ⟨r15, h14, hM⟩ := gb1_some hM
              refine x_cvi (As := [.int r13]) (rest := []) C E.2.2.2.2.2 1 (c_X1_lengthOf hG h14) (gBv km_X6_129 kin_X1_lengthOf ksel_X1_lengthOf kini_X1 kc_X1_lengthOf) rfl rfl rfl ⟨rfl, by decide +kernel, by decide +kernel, by decide +kernel⟩ ⟨Nat.le_of_ble_eq_true rfl, Nat.le_of_ble_eq_true rfl⟩ (by show 1 < 213; decide) rfl rfl rfl rfl (Nat.le_of_ble_eq_true rfl) dX6_pairs_82 rfl ?_
              refine x_aln C 3 rfl dX6_pairs_85 rfl ?_
              refine gXg_0_now C kf_X6_10 dX6_pairs_86 rfl ?_
              refine x_il C 2 rfl dX6_pairs_89 rfl ?_
              obtain ⟨r17, h16, hM⟩ := gb1_some hM
              refine x_cvi (As := [.int r10]) (rest := [.int r15]) C E.2.2.2.2.2 1 (c_X1_lengthOf hG h16) (gBv km_X6_129 kin_X1_lengthOf ksel_X1_lengthOf kini_X1 kc_X1_lengthOf) rfl rfl rfl ⟨rfl, by decide +kernel, by decide +kernel, by decide +kernel⟩ ⟨Nat.le_of_ble_eq_true rfl, Nat.le_of_ble_eq_true rfl⟩ (by show 1 < 213; decide) rfl rfl rfl rfl (Nat.le_of_ble_eq_true rfl) dX6_pairs_91 rfl ?_
              refine x_isub C dX6_pairs_94 rfl ?_
              refine x_iln C 4 rfl dX6_pairs_95 rfl ?_
              refine x_ic_gt (tgt := 111) C dX6_pairs_96 (by decide) rfl (fun hc => ?_) (fun hc => ?_)
              · replace hM := gif_pos hc hM
                obtain ⟨x4_18, ev, hM⟩ := gnm_ex hM
                refine x_iinc (j := 6) (w := 1) (lv' := [(4, .int x4_18), (6, .int r13), (3, .int x3_11), (5, .int r10), (0, .ref (ad 0)), (1, .int a0), (2, .int x2_4)]) C rfl ev (by decide) (by decide) rfl dX6_pairs_111 rfl ?_
                refine x_goto (tgt := 29) C dX6_pairs_114 (by decide) ?_
                exact x_sub [4, 5, 6, 2, 0] rfl (ih x2_4 x3_11 x4_18 _ _ hM kx0 kx1)
              · replace hM := gif_neg hc hM
                obtain ⟨x2_19, ev, hM⟩ := gnm_ex hM
                refine x_iinc (j := 5) (w := 1) (lv' := [(2, .int x2_19), (6, .int r13), (3, .int x3_11), (5, .int r10), (0, .ref (ad 0)), (1, .int a0), (4, .int x4_6)]) C rfl ev (by decide) (by decide) rfl dX6_pairs_99 rfl ?_
                refine x_iln C 2 rfl dX6_pairs_102 rfl ?_
                refine x_ic (v := 1) C (by decide) dX6_pairs_103 rfl ?_
                refine x_il C 1 rfl dX6_pairs_104 rfl ?_
                refine x_ishl C dX6_pairs_106 rfl ?_
                refine x_ic (v := (-1)) C (by decide) dX6_pairs_107 rfl ?_
                refine x_ixor C dX6_pairs_108 rfl ?_
                refine x_iand C dX6_pairs_109 rfl ?_
                obtain ⟨x3_20, ev, hM⟩ := gnm_ex hM
                refine x_istn (lv' := [(3, .int x3_20), (2, .int x2_19), (6, .int r13), (5, .int r10), (0, .ref (ad 0)), (1, .int a0), (4, .int x4_6)]) C rfl ev (by decide) rfl dX6_pairs_110 rfl ?_
                obtain ⟨x4_21, ev, hM⟩ := gnm_ex hM
                refine x_iinc (j := 6) (w := 1) (lv' := [(4, .int x4_21), (3, .int x3_20), (2, .int x2_19), (6, .int r13), (5, .int r10), (0, .ref (ad 0)), (1, .int a0)]) C rfl ev (by decide) (by decide) rfl dX6_pairs_111 rfl ?_
                refine x_goto (tgt := 29) C dX6_pairs_114 (by decide) ?_
                exact x_sub [5, 6, 2, 1, 0] rfl (ih x2_19 x3_20 x4_21 _ _ hM kx0 kx1)
            · replace hM := gif_pos hc hM
              cases hM
              exact x_sub [4] rfl (kx0 rfl)
    obtain ⟨t8, x2_7, hL22, hM⟩ := gb2_some hM
    refine x_sub [3, 4, 2, 1, 0] rfl (L29 gFU 0 x3_3 0 _ _ hL22 (fun ht => ?_) (fun ht => ?_))
    · clear L29
      replace hM := gif_pos ht hM
      refine x_goto (tgt := 117) C dX6_pairs_63 (by decide) ?_
      refine x_iln C 0 rfl dX6_pairs_117 rfl ?_
      exact x_iret C E ⟨gs1 hM, rfl⟩ dX6_pairs_118
    · clear L29
      replace hM := gif_neg (by omega : ¬ t8 = 0) hM
      refine x_iln C 0 rfl dX6_pairs_117 rfl ?_
      exact x_iret C E ⟨gs1 hM, rfl⟩ dX6_pairs_118
  · replace hM := gif_pos hc hM
    refine x_ic (v := (-1)) C (by decide) dX6_pairs_10 rfl ?_
    exact x_iret C E ⟨gs1 hM, rfl⟩ dX6_pairs_11
set_option maxRecDepth 100000 in
set_option maxHeartbeats 4000000 in
theorem c_X1_drownsWith {l : Launch} {D : va_G} {ad : Nat → Nat} {cy : Nat → ClassId} {b : Nat} (hG : gInj (gGX D ad cy b)) {a0 : Int32} {a1 : Int32} {a2 : Int32} {σ : gMem} {r0 : Int32} (hM : m_X1_drownsWith a0 a1 a2 σ = some r0) : gMi l yX1_drownsWith (Cond.code yX1_drownsWith cX1_drownsWith 6 (some .boolean) :: gBig) { frames := 3, cells := 0, slots := 0, locals := 60 } (gGX D ad cy b) [.ref (ad 1), .int a0, .int a1, .int a2] σ r0 σ := by
  refine gIntro (own := RX1) hG (by decide +kernel) rfl rfl (Nat.le_of_ble_eq_true rfl) (lv := [(0, .ref (ad 1)), (1, .int a0), (2, .int a1), (3, .int a2)]) rfl (fun κ C E => ?_)
  unfold m_X1_drownsWith at hM
  refine x_aln C 0 rfl dX1_drownsWith_0 rfl ?_
  refine gXg_1_depths C kf_X1_9 dX1_drownsWith_1 rfl ?_
  refine x_aln C 0 rfl dX1_drownsWith_4 rfl ?_
  refine gXg_1_homes C kf_X1_39 dX1_drownsWith_5 rfl ?_
  refine x_iln C 1 rfl dX1_drownsWith_8 rfl ?_
  obtain ⟨h1, hM⟩ := gck_some hM
  refine gXa_9 C h1 dX1_drownsWith_9 rfl ?_
  obtain ⟨h2, hM⟩ := gck_some hM
  refine gXa_2 C h2 dX1_drownsWith_10 rfl ?_
  obtain ⟨x4_3, ev, hM⟩ := gnm_ex hM
  refine x_ist (lv' := [(4, .int x4_3), (0, .ref (ad 1)), (1, .int a0), (2, .int a1), (3, .int a2)]) C ev (by decide) rfl dX1_drownsWith_11 rfl ?_
  refine x_ic (v := 0) C (by decide) dX1_drownsWith_13 rfl ?_
  refine x_ist (lv' := [(5, .int 0), (4, .int x4_3), (0, .ref (ad 1)), (1, .int a0), (2, .int a1), (3, .int a2)]) C rfl (by decide) rfl dX1_drownsWith_14 rfl ?_
  have L16 : ∀ (n : Nat) (x5_4 : Int32) (t5 : Nat), m_X1_drownsWith_16 a0 a1 a2 x4_3 σ n x5_4 = some (t5) → (t5 = 0 → wx κ (gGX D ad cy b) (gA (gGX D ad cy b)) 6 σ 50 [] []) → (t5 = 1 → wx κ (gGX D ad cy b) (gA (gGX D ad cy b)) 6 σ 58 [] []) → wx κ (gGX D ad cy b) (gA (gGX D ad cy b)) 6 σ 16 [(0, .ref (ad 1)), (1, .int a0), (2, .int a1), (3, .int a2), (4, .int x4_3), (5, .int x5_4)] [] := by
    clear hM
    intro n
    induction n with
    | zero => intro _ _ hM; cases hM
    | succ n ih =>
      intro x5_4 t5 hM kx0 kx1
      replace hM : b_X1_drownsWith_16 a0 a1 a2 x4_3 σ (m_X1_drownsWith_16 a0 a1 a2 x4_3 σ n) x5_4 = some (t5) := hM
      unfold b_X1_drownsWith_16 at hM
      refine x_il C 5 rfl dX1_drownsWith_16 rfl ?_
      refine x_bi (v := 24) C (by decide) dX1_drownsWith_18 rfl ?_
      refine x_ic_ge (tgt := 58) C dX1_drownsWith_20 (by decide) rfl (fun hc => ?_) (fun hc => ?_)
      · replace hM := gif_pos hc hM
        cases hM
        exact x_sub [] rfl (kx1 rfl)
      · replace hM := gif_neg hc hM
        refine x_aln C 0 rfl dX1_drownsWith_23 rfl ?_
        refine x_aln C 0 rfl dX1_drownsWith_24 rfl ?_
        refine gXg_1_kinds C kf_X1_33 dX1_drownsWith_25 rfl ?_
        refine x_iln C 1 rfl dX1_drownsWith_28 rfl ?_
        obtain ⟨h6, hM⟩ := gck_some hM
        refine gXa_7 C h6 dX1_drownsWith_29 rfl ?_
        refine x_iln C 2 rfl dX1_drownsWith_30 rfl ?_
        refine x_aln C 0 rfl dX1_drownsWith_31 rfl ?_
        refine gXg_1_yearsGone C kf_X1_63 dX1_drownsWith_32 rfl ?_
        refine x_aln C 0 rfl dX1_drownsWith_35 rfl ?_
        refine x_il C 4 rfl dX1_drownsWith_36 rfl ?_
        refine x_il C 5 rfl dX1_drownsWith_38 rfl ?_
        refine x_iln C 3 rfl dX1_drownsWith_40 rfl ?_
        obtain ⟨r8, h7, hM⟩ := gb1_some hM
        refine x_cvi (As := [.int x4_3, .int x5_4, .int a2]) (rest := [.int (σ 1 16), .int a1, .int (σ 7 a0.toNatClampNeg), .ref (ad 1)]) C E.2.2.2.2.2 3 (c_X1_waterOver hG h7) (gBv km_X1_109 kin_X1_waterOver ksel_X1_waterOver kini_X1 kc_X1_waterOver) rfl rfl rfl ⟨rfl, by decide +kernel, by decide +kernel, by decide +kernel⟩ ⟨Nat.le_of_ble_eq_true rfl, Nat.le_of_ble_eq_true rfl⟩ (by show 1 < 213; decide) rfl rfl rfl rfl (Nat.le_of_ble_eq_true rfl) dX1_drownsWith_41 rfl ?_
        obtain ⟨r10, h9, hM⟩ := gb1_some hM
        refine x_cvi (As := [.int (σ 7 a0.toNatClampNeg), .int a1, .int (σ 1 16), .int r8]) (rest := []) C E.2.2.2.2.2 4 (c_X1_bears hG h9) (gBv km_X1_123 kin_X1_bears ksel_X1_bears kini_X1 kc_X1_bears) rfl rfl rfl ⟨rfl, by decide +kernel, by decide +kernel, by decide +kernel⟩ ⟨Nat.le_of_ble_eq_true rfl, Nat.le_of_ble_eq_true rfl⟩ (by show 1 < 213; decide) rfl rfl rfl rfl (Nat.le_of_ble_eq_true rfl) dX1_drownsWith_44 rfl ?_
        refine x_if_ne (tgt := 52) C dX1_drownsWith_47 (by decide) rfl (fun hc => ?_) (fun hc => ?_)
        · replace hM := gif_neg hc hM
          obtain ⟨x5_11, ev, hM⟩ := gnm_ex hM
          refine x_iinc (j := 5) (w := 1) (lv' := [(5, .int x5_11), (0, .ref (ad 1)), (1, .int a0), (2, .int a1), (3, .int a2), (4, .int x4_3)]) C rfl ev (by decide) (by decide) rfl dX1_drownsWith_52 rfl ?_
          refine x_goto (tgt := 16) C dX1_drownsWith_55 (by decide) ?_
          exact x_sub [1, 2, 3, 4, 5, 0] rfl (ih x5_11 _ hM kx0 kx1)
        · replace hM := gif_pos hc hM
          cases hM
          exact x_sub [] rfl (kx0 rfl)
  obtain ⟨t5, hL12, hM⟩ := gb1_some hM
  refine x_sub [2, 3, 4, 5, 1, 0] rfl (L16 gFU 0 _ hL12 (fun ht => ?_) (fun ht => ?_))
  · clear L16
    replace hM := gif_pos ht hM
    refine x_ic (v := 1) C (by decide) dX1_drownsWith_50 rfl ?_
    exact x_zret C E (by decide) ⟨gs1 hM, rfl⟩ dX1_drownsWith_51
  · clear L16
    replace hM := gif_neg (by omega : ¬ t5 = 0) hM
    refine x_ic (v := 0) C (by decide) dX1_drownsWith_58 rfl ?_
    exact x_zret C E (by decide) ⟨gs1 hM, rfl⟩ dX1_drownsWith_59
set_option maxRecDepth 100000 in
set_option maxHeartbeats 4000000 in
theorem c_X0_drownedBehind {l : Launch} {D : va_G} {ad : Nat → Nat} {cy : Nat → ClassId} {b : Nat} (hG : gInj (gGX D ad cy b)) {a0 : Int32} {a1 : Int32} {σ : gMem} {r0 : Int32} (hM : m_X0_drownedBehind a0 a1 σ = some r0) : gMi l yX0_drownedBehind (Cond.code yX0_drownedBehind cX0_drownedBehind 4 (some .int) :: gBig) { frames := 1, cells := 0, slots := 0, locals := 20 } (gGX D ad cy b) [.ref (ad 201), .int a0, .int a1] σ r0 σ := by
  refine gIntro (own := RX0) hG (by decide +kernel) rfl rfl (Nat.le_of_ble_eq_true rfl) (lv := [(0, .ref (ad 201)), (1, .int a0), (2, .int a1)]) rfl (fun κ C E => ?_)
  unfold m_X0_drownedBehind at hM
  refine x_iln C 1 rfl dX0_drownedBehind_0 rfl ?_
  obtain ⟨r2, h1, hM⟩ := gb1_some hM
  refine x_csi (As := [.int a0]) (rest := []) C E.2.2.2.2.2 1 (c_J6_bitCount_0f7a4 hG h1) (gBs km_X0_40 kst_J6_bitCount_0f7a4 kini_J6 kc_J6_bitCount_0f7a4) rfl rfl rfl ⟨by decide +kernel, by decide +kernel, by decide +kernel⟩ ⟨Nat.le_of_ble_eq_true rfl, Nat.le_of_ble_eq_true rfl⟩ rfl rfl (Nat.le_of_ble_eq_true rfl) dX0_drownedBehind_1 rfl ?_
  refine x_bi (v := 7) C (by decide) dX0_drownedBehind_4 rfl ?_
  refine x_mmin C (gBc km_X0_45) (gBc kst_J9_min_7cf53) (gBc kini_J9) (gBc kc_J9_min_7cf53) (by decide) (Nat.le_of_ble_eq_true rfl) dX0_drownedBehind_6 rfl ?_
  obtain ⟨x3_3, ev, hM⟩ := gnm_ex hM
  refine x_istn (lv' := [(3, .int x3_3), (0, .ref (ad 201)), (1, .int a0), (2, .int a1)]) C rfl ev (by decide) rfl dX0_drownedBehind_9 rfl ?_
  refine x_aln C 1 rfl dX0_drownedBehind_10 rfl ?_
  refine gXg_201_drowning C kf_X0_9 dX0_drownedBehind_11 rfl ?_
  refine x_iln C 0 rfl dX0_drownedBehind_14 rfl ?_
  obtain ⟨h4, hM⟩ := gck_some hM
  refine gXa_202 C h4 dX0_drownedBehind_15 rfl ?_
  refine x_iln C 3 rfl dX0_drownedBehind_16 rfl ?_
  refine x_ishr C dX0_drownedBehind_17 rfl ?_
  refine x_ic (v := 1) C (by decide) dX0_drownedBehind_18 rfl ?_
  refine x_iand C dX0_drownedBehind_19 rfl ?_
  refine x_aln C 1 rfl dX0_drownedBehind_20 rfl ?_
  refine gXg_201_fewest C kf_X0_15 dX0_drownedBehind_21 rfl ?_
  refine x_iln C 2 rfl dX0_drownedBehind_24 rfl ?_
  refine x_ic (v := 1) C (by decide) dX0_drownedBehind_25 rfl ?_
  refine x_iln C 3 rfl dX0_drownedBehind_26 rfl ?_
  refine x_ishl C dX0_drownedBehind_27 rfl ?_
  refine x_ior C dX0_drownedBehind_28 rfl ?_
  obtain ⟨h5, hM⟩ := gck_some hM
  refine gXa_203 C h5 dX0_drownedBehind_29 rfl ?_
  refine x_iadd C dX0_drownedBehind_30 rfl ?_
  exact x_iret C E ⟨gs1 hM, rfl⟩ dX0_drownedBehind_31
set_option maxRecDepth 100000 in
set_option maxHeartbeats 4000000 in
theorem c_X0_firstBest {l : Launch} {D : va_G} {ad : Nat → Nat} {cy : Nat → ClassId} {b : Nat} (hG : gInj (gGX D ad cy b)) {a0 : Int32} {σ : gMem} {r0 : Int32} (hM : m_X0_firstBest a0 σ = some r0) : gMi l yX0_firstBest (Cond.code yX0_firstBest cX0_firstBest 4 (some .int) :: gBig) { frames := 2, cells := 0, slots := 0, locals := 43 } (gGX D ad cy b) [.ref (ad 201), .int a0] σ r0 σ := by
  refine gIntro (own := RX0) hG (by decide +kernel) rfl rfl (Nat.le_of_ble_eq_true rfl) (lv := [(0, .ref (ad 201)), (1, .int a0)]) rfl (fun κ C E => ?_)
  unfold m_X0_firstBest at hM
  refine x_ic (v := (-1)) C (by decide) dX0_firstBest_0 rfl ?_
  refine x_istn (lv' := [(2, .int (-1)), (0, .ref (ad 201)), (1, .int a0)]) C rfl rfl (by decide) rfl dX0_firstBest_1 rfl ?_
  refine x_ic (v := 0) C (by decide) dX0_firstBest_2 rfl ?_
  refine x_istn (lv' := [(3, .int 0), (2, .int (-1)), (0, .ref (ad 201)), (1, .int a0)]) C rfl rfl (by decide) rfl dX0_firstBest_3 rfl ?_
  have L4 : ∀ (n : Nat) (x2_1 : Int32) (x3_2 : Int32) (x2_3 : Int32), m_X0_firstBest_4 a0 σ n x2_1 x3_2 = some (x2_3) → (wx κ (gGX D ad cy b) (gA (gGX D ad cy b)) 4 σ 50 [(2, .int x2_3)] []) → wx κ (gGX D ad cy b) (gA (gGX D ad cy b)) 4 σ 4 [(0, .ref (ad 201)), (1, .int a0), (2, .int x2_1), (3, .int x3_2)] [] := by
    clear hM
    intro n
    induction n with
    | zero => intro _ _ _ hM; cases hM
    | succ n ih =>
      intro x2_1 x3_2 x2_3 hM kx0
      replace hM : b_X0_firstBest_4 a0 σ (m_X0_firstBest_4 a0 σ n) x2_1 x3_2 = some (x2_3) := hM
      unfold b_X0_firstBest_4 at hM
      refine x_iln C 3 rfl dX0_firstBest_4 rfl ?_
      refine x_aln C 0 rfl dX0_firstBest_5 rfl ?_
      refine gXg_201_people C kf_X0_24 dX0_firstBest_6 rfl ?_
      refine x_ic_ge (tgt := 50) C dX0_firstBest_9 (by decide) rfl (fun hc => ?_) (fun hc => ?_)
      · replace hM := gif_pos hc hM
        cases hM
        exact x_sub [2] rfl (kx0)
      · replace hM := gif_neg hc hM
        refine x_iln C 1 rfl dX0_firstBest_12 rfl ?_
        refine x_iln C 3 rfl dX0_firstBest_13 rfl ?_
        obtain ⟨r5, h4, hM⟩ := gb1_some hM
        refine x_csni (As := [.int a0, .int x3_2]) (rest := []) C E.2.2.2.2.2 2 (c_X6_holds hG h4) (gBn kc_X6_holds) rfl rfl rfl (by decide +kernel) (gBc kini_X6) (gBc kst_X6_holds) ⟨by decide +kernel, by decide +kernel, by decide +kernel⟩ ⟨Nat.le_of_ble_eq_true rfl, Nat.le_of_ble_eq_true rfl⟩ rfl rfl (Nat.le_of_ble_eq_true rfl) dX0_firstBest_14 rfl ?_
        refine x_if_eq (tgt := 23) C dX0_firstBest_17 (by decide) rfl (fun hc => ?_) (fun hc => ?_)
        · replace hM := gif_pos hc hM
          refine x_iln C 2 rfl dX0_firstBest_23 rfl ?_
          refine x_if_lt (tgt := 42) C dX0_firstBest_24 (by decide) rfl (fun hc => ?_) (fun hc => ?_)
          · replace hM := gif_pos hc hM
            refine x_iln C 3 rfl dX0_firstBest_42 rfl ?_
            refine x_istn (lv' := [(2, .int x3_2), (0, .ref (ad 201)), (1, .int a0), (3, .int x3_2)]) C rfl rfl (by decide) rfl dX0_firstBest_43 rfl ?_
            obtain ⟨x3_6, ev, hM⟩ := gnm_ex hM
            refine x_iinc (j := 3) (w := 1) (lv' := [(3, .int x3_6), (2, .int x3_2), (0, .ref (ad 201)), (1, .int a0)]) C rfl ev (by decide) (by decide) rfl dX0_firstBest_44 rfl ?_
            refine x_goto (tgt := 4) C dX0_firstBest_47 (by decide) ?_
            exact x_sub [2, 3, 1, 0] rfl (ih x3_2 x3_6 _ hM kx0)
          · replace hM := gif_neg hc hM
            refine x_aln C 0 rfl dX0_firstBest_27 rfl ?_
            refine x_iln C 1 rfl dX0_firstBest_28 rfl ?_
            refine x_iln C 3 rfl dX0_firstBest_29 rfl ?_
            obtain ⟨r8, h7, hM⟩ := gb1_some hM
            refine x_cvi (As := [.int a0, .int x3_2]) (rest := []) C E.2.2.2.2.2 2 (c_X0_drownedBehind hG h7) (gBv km_X0_36 kin_X0_drownedBehind ksel_X0_drownedBehind kini_X0 kc_X0_drownedBehind) rfl rfl rfl ⟨rfl, by decide +kernel, by decide +kernel, by decide +kernel⟩ ⟨Nat.le_of_ble_eq_true rfl, Nat.le_of_ble_eq_true rfl⟩ (by show 201 < 213; decide) rfl rfl rfl rfl (Nat.le_of_ble_eq_true rfl) dX0_firstBest_30 rfl ?_
            refine x_aln C 0 rfl dX0_firstBest_33 rfl ?_
            refine x_iln C 1 rfl dX0_firstBest_34 rfl ?_
            refine x_iln C 2 rfl dX0_firstBest_35 rfl ?_
            obtain ⟨r10, h9, hM⟩ := gb1_some hM
            refine x_cvi (As := [.int a0, .int x2_1]) (rest := [.int r8]) C E.2.2.2.2.2 2 (c_X0_drownedBehind hG h9) (gBv km_X0_36 kin_X0_drownedBehind ksel_X0_drownedBehind kini_X0 kc_X0_drownedBehind) rfl rfl rfl ⟨rfl, by decide +kernel, by decide +kernel, by decide +kernel⟩ ⟨Nat.le_of_ble_eq_true rfl, Nat.le_of_ble_eq_true rfl⟩ (by show 201 < 213; decide) rfl rfl rfl rfl (Nat.le_of_ble_eq_true rfl) dX0_firstBest_36 rfl ?_
            refine x_ic_ge (tgt := 44) C dX0_firstBest_39 (by decide) rfl (fun hc => ?_) (fun hc => ?_)
            · replace hM := gif_pos hc hM
              obtain ⟨x3_11, ev, hM⟩ := gnm_ex hM
              refine x_iinc (j := 3) (w := 1) (lv' := [(3, .int x3_11), (0, .ref (ad 201)), (1, .int a0), (2, .int x2_1)]) C rfl ev (by decide) (by decide) rfl dX0_firstBest_44 rfl ?_
              refine x_goto (tgt := 4) C dX0_firstBest_47 (by decide) ?_
              exact x_sub [1, 2, 3, 0] rfl (ih x2_1 x3_11 _ hM kx0)
            · replace hM := gif_neg hc hM
              refine x_iln C 3 rfl dX0_firstBest_42 rfl ?_
              refine x_istn (lv' := [(2, .int x3_2), (0, .ref (ad 201)), (1, .int a0), (3, .int x3_2)]) C rfl rfl (by decide) rfl dX0_firstBest_43 rfl ?_
              obtain ⟨x3_12, ev, hM⟩ := gnm_ex hM
              refine x_iinc (j := 3) (w := 1) (lv' := [(3, .int x3_12), (2, .int x3_2), (0, .ref (ad 201)), (1, .int a0)]) C rfl ev (by decide) (by decide) rfl dX0_firstBest_44 rfl ?_
              refine x_goto (tgt := 4) C dX0_firstBest_47 (by decide) ?_
              exact x_sub [2, 3, 1, 0] rfl (ih x3_2 x3_12 _ hM kx0)
        · replace hM := gif_neg hc hM
          refine x_goto (tgt := 44) C dX0_firstBest_20 (by decide) ?_
          obtain ⟨x3_13, ev, hM⟩ := gnm_ex hM
          refine x_iinc (j := 3) (w := 1) (lv' := [(3, .int x3_13), (0, .ref (ad 201)), (1, .int a0), (2, .int x2_1)]) C rfl ev (by decide) (by decide) rfl dX0_firstBest_44 rfl ?_
          refine x_goto (tgt := 4) C dX0_firstBest_47 (by decide) ?_
          exact x_sub [1, 2, 3, 0] rfl (ih x2_1 x3_13 _ hM kx0)
  obtain ⟨x2_3, hL14, hM⟩ := gb1_some hM
  refine x_sub [2, 3, 1, 0] rfl (L4 gFU (-1) 0 _ hL14 ?_)
  clear L4
  refine x_ic (v := 0) C (by decide) dX0_firstBest_50 rfl ?_
  refine x_iln C 0 rfl dX0_firstBest_51 rfl ?_
  refine x_mmax C (gBc km_X0_54) (gBc kst_J9_max_7cf53) (gBc kini_J9) (gBc kc_J9_max_7cf53) (by decide) (Nat.le_of_ble_eq_true rfl) dX0_firstBest_52 rfl ?_
  exact x_iret C E ⟨gs1 hM, rfl⟩ dX0_firstBest_55
set_option maxRecDepth 100000 in
set_option maxHeartbeats 4000000 in
theorem c_X0_weigh {l : Launch} {D : va_G} {ad : Nat → Nat} {cy : Nat → ClassId} {b : Nat} (hG : gInj (gGX D ad cy b)) {a1 : Int32} {σ : gMem} {σ0 : gMem} (hM : m_X0_weigh a1 σ = some σ0) : gMv l yX0_weigh (Cond.code yX0_weigh cX0_weigh 5 none :: gBig) { frames := 4, cells := 0, slots := 0, locals := 85 } (gGX D ad cy b) [.ref (ad 201), .ref (ad 1), .int a1] σ σ0 := by
  refine gIntro (own := RX0) hG (by decide +kernel) rfl rfl (Nat.le_of_ble_eq_true rfl) (lv := [(0, .ref (ad 201)), (1, .ref (ad 1)), (2, .int a1)]) rfl (fun κ C E => ?_)
  unfold m_X0_weigh at hM
  refine x_aln C 0 rfl dX0_weigh_0 rfl ?_
  refine x_aln C 1 rfl dX0_weigh_1 rfl ?_
  refine gXg_1_people C kf_X0_18 dX0_weigh_2 rfl ?_
  obtain ⟨s1, ev, hM⟩ := gnm_ex hM
  refine gXp_201_people C ev kf_X0_24 dX0_weigh_5 rfl ?_
  refine x_ic (v := 0) C (by decide) dX0_weigh_8 rfl ?_
  refine x_istn (lv' := [(3, .int 0), (0, .ref (ad 201)), (1, .ref (ad 1)), (2, .int a1)]) C rfl rfl (by decide) rfl dX0_weigh_9 rfl ?_
  have L10 : ∀ (n : Nat) (x3_2 : Int32) (s3 : gMem) (s4 : gMem), m_X0_weigh_10 a1 n x3_2 s3 = some (s4) → (wx κ (gGX D ad cy b) (gA (gGX D ad cy b)) 5 s4 78 [(0, .ref (ad 201))] []) → wx κ (gGX D ad cy b) (gA (gGX D ad cy b)) 5 s3 10 [(0, .ref (ad 201)), (1, .ref (ad 1)), (2, .int a1), (3, .int x3_2)] [] := by
    clear hM
    intro n
    induction n with
    | zero => intro _ _ _ hM; cases hM
    | succ n ih =>
      intro x3_2 s3 s4 hM kx0
      replace hM : b_X0_weigh_10 a1 (m_X0_weigh_10 a1 n) x3_2 s3 = some (s4) := hM
      unfold b_X0_weigh_10 at hM
      refine x_iln C 3 rfl dX0_weigh_10 rfl ?_
      refine x_aln C 0 rfl dX0_weigh_11 rfl ?_
      refine gXg_201_people C kf_X0_24 dX0_weigh_12 rfl ?_
      refine x_ic_ge (tgt := 78) C dX0_weigh_15 (by decide) rfl (fun hc => ?_) (fun hc => ?_)
      · replace hM := gif_pos hc hM
        cases hM
        exact x_sub [0] rfl (kx0)
      · replace hM := gif_neg hc hM
        refine x_aln C 0 rfl dX0_weigh_18 rfl ?_
        refine gXg_201_drowning C kf_X0_9 dX0_weigh_19 rfl ?_
        refine x_iln C 3 rfl dX0_weigh_22 rfl ?_
        refine x_ic (v := 0) C (by decide) dX0_weigh_23 rfl ?_
        obtain ⟨h5, hM⟩ := gck_some hM
        obtain ⟨s6, ev, hM⟩ := gnm_ex hM
        refine gXs_202 C ev h5 dX0_weigh_24 rfl ?_
        refine x_ic (v := 0) C (by decide) dX0_weigh_25 rfl ?_
        refine x_ist (lv' := [(4, .int 0), (0, .ref (ad 201)), (1, .ref (ad 1)), (2, .int a1), (3, .int x3_2)]) C rfl (by decide) rfl dX0_weigh_26 rfl ?_
        have L28 : ∀ (n : Nat) (x4_7 : Int32) (s8 : gMem) (s9 : gMem), m_X0_weigh_28 a1 x3_2 n x4_7 s8 = some (s9) → (wx κ (gGX D ad cy b) (gA (gGX D ad cy b)) 5 s9 72 [(0, .ref (ad 201)), (1, .ref (ad 1)), (2, .int a1), (3, .int x3_2)] []) → wx κ (gGX D ad cy b) (gA (gGX D ad cy b)) 5 s8 28 [(0, .ref (ad 201)), (1, .ref (ad 1)), (2, .int a1), (3, .int x3_2), (4, .int x4_7)] [] := by
          clear hM
          intro n
          induction n with
          | zero => intro _ _ _ hM; cases hM
          | succ n ih =>
            intro x4_7 s8 s9 hM kx0
            replace hM : b_X0_weigh_28 a1 x3_2 (m_X0_weigh_28 a1 x3_2 n) x4_7 s8 = some (s9) := hM
            unfold b_X0_weigh_28 at hM
            refine x_il C 4 rfl dX0_weigh_28 rfl ?_
            refine x_aln C 0 rfl dX0_weigh_30 rfl ?_
            refine gXg_201_people C kf_X0_24 dX0_weigh_31 rfl ?_
            refine x_ic_ge (tgt := 72) C dX0_weigh_34 (by decide) rfl (fun hc => ?_) (fun hc => ?_)
            · replace hM := gif_pos hc hM
              cases hM
              exact x_sub [0, 1, 2, 3] rfl (kx0)
            · replace hM := gif_neg hc hM
              refine x_aln C 1 rfl dX0_weigh_37 rfl ?_
              refine x_iln C 3 rfl dX0_weigh_38 rfl ?_
              refine x_aln C 1 rfl dX0_weigh_39 rfl ?_
              refine gXg_1_told C kf_X0_25 dX0_weigh_40 rfl ?_
              refine x_il C 4 rfl dX0_weigh_43 rfl ?_
              obtain ⟨h10, hM⟩ := gck_some hM
              refine gXa_8 C h10 dX0_weigh_45 rfl ?_
              refine x_iln C 2 rfl dX0_weigh_46 rfl ?_
              obtain ⟨r12, h11, hM⟩ := gb1_some hM
              refine x_cvi (As := [.int x3_2, .int (s8 8 x4_7.toNatClampNeg), .int a1]) (rest := []) C E.2.2.2.2.2 3 (c_X1_drownsWith hG h11) (gBv km_X0_28 kin_X1_drownsWith ksel_X1_drownsWith kini_X1 kc_X1_drownsWith) rfl rfl rfl ⟨rfl, by decide +kernel, by decide +kernel, by decide +kernel⟩ ⟨Nat.le_of_ble_eq_true rfl, Nat.le_of_ble_eq_true rfl⟩ (by show 1 < 213; decide) rfl rfl rfl rfl (Nat.le_of_ble_eq_true rfl) dX0_weigh_47 rfl ?_
              refine x_if_eq (tgt := 66) C dX0_weigh_50 (by decide) rfl (fun hc => ?_) (fun hc => ?_)
              · replace hM := gif_pos hc hM
                obtain ⟨x4_13, ev, hM⟩ := gnm_ex hM
                refine x_iinc (j := 4) (w := 1) (lv' := [(4, .int x4_13), (0, .ref (ad 201)), (1, .ref (ad 1)), (2, .int a1), (3, .int x3_2)]) C rfl ev (by decide) (by decide) rfl dX0_weigh_66 rfl ?_
                refine x_goto (tgt := 28) C dX0_weigh_69 (by decide) ?_
                exact x_sub [1, 2, 3, 4, 0] rfl (ih x4_13 s8 _ hM kx0)
              · replace hM := gif_neg hc hM
                refine x_aln C 0 rfl dX0_weigh_53 rfl ?_
                refine gXg_201_drowning C kf_X0_9 dX0_weigh_54 rfl ?_
                refine x_iln C 3 rfl dX0_weigh_57 rfl ?_
                refine x_dup2 C rfl rfl dX0_weigh_58 rfl ?_
                obtain ⟨h14, hM⟩ := gck_some hM
                refine gXa_202 C h14 dX0_weigh_59 rfl ?_
                refine x_ic (v := 1) C (by decide) dX0_weigh_60 rfl ?_
                refine x_il C 4 rfl dX0_weigh_61 rfl ?_
                refine x_ishl C dX0_weigh_63 rfl ?_
                refine x_ior C dX0_weigh_64 rfl ?_
                obtain ⟨h15, hM⟩ := gck_some hM
                obtain ⟨s16, ev, hM⟩ := gnm_ex hM
                refine gXs_202 C ev h15 dX0_weigh_65 rfl ?_
                obtain ⟨x4_17, ev, hM⟩ := gnm_ex hM
                refine x_iinc (j := 4) (w := 1) (lv' := [(4, .int x4_17), (0, .ref (ad 201)), (1, .ref (ad 1)), (2, .int a1), (3, .int x3_2)]) C rfl ev (by decide) (by decide) rfl dX0_weigh_66 rfl ?_
                refine x_goto (tgt := 28) C dX0_weigh_69 (by decide) ?_
                exact x_sub [1, 2, 3, 4, 0] rfl (ih x4_17 s16 _ hM kx0)
        obtain ⟨s9, hL18, hM⟩ := gb1_some hM
        refine x_sub [1, 2, 3, 4, 0] rfl (L28 gFU 0 s6 _ hL18 ?_)
        clear L28
        obtain ⟨x3_19, ev, hM⟩ := gnm_ex hM
        refine x_iinc (j := 3) (w := 1) (lv' := [(3, .int x3_19), (0, .ref (ad 201)), (1, .ref (ad 1)), (2, .int a1)]) C rfl ev (by decide) (by decide) rfl dX0_weigh_72 rfl ?_
        refine x_goto (tgt := 10) C dX0_weigh_75 (by decide) ?_
        exact x_sub [1, 2, 3, 0] rfl (ih x3_19 s9 _ hM kx0)
  obtain ⟨s4, hL20, hM⟩ := gb1_some hM
  refine x_sub [1, 2, 3, 0] rfl (L10 gFU 0 s1 _ hL20 ?_)
  clear L10
  refine x_ic (v := 1) C (by decide) dX0_weigh_78 rfl ?_
  refine x_aln C 0 rfl dX0_weigh_79 rfl ?_
  refine gXg_201_people C kf_X0_24 dX0_weigh_80 rfl ?_
  refine x_ishl C dX0_weigh_83 rfl ?_
  refine x_ic (v := 1) C (by decide) dX0_weigh_84 rfl ?_
  refine x_isub C dX0_weigh_85 rfl ?_
  obtain ⟨x3_21, ev, hM⟩ := gnm_ex hM
  refine x_istn (lv' := [(3, .int x3_21), (0, .ref (ad 201))]) C rfl ev (by decide) rfl dX0_weigh_86 rfl ?_
  refine x_aln C 1 rfl dX0_weigh_87 rfl ?_
  refine gXg_201_fewest C kf_X0_15 dX0_weigh_88 rfl ?_
  refine x_iln C 0 rfl dX0_weigh_91 rfl ?_
  refine x_ic (v := 0) C (by decide) dX0_weigh_92 rfl ?_
  obtain ⟨h22, hM⟩ := gck_some hM
  obtain ⟨s23, ev, hM⟩ := gnm_ex hM
  refine gXs_203 C ev h22 dX0_weigh_93 rfl ?_
  refine x_iln C 0 rfl dX0_weigh_94 rfl ?_
  refine x_ic (v := 1) C (by decide) dX0_weigh_95 rfl ?_
  refine x_isub C dX0_weigh_96 rfl ?_
  obtain ⟨x4_24, ev, hM⟩ := gnm_ex hM
  refine x_ist (lv' := [(4, .int x4_24), (3, .int x3_21), (0, .ref (ad 201))]) C ev (by decide) rfl dX0_weigh_97 rfl ?_
  have L99 : ∀ (n : Nat) (x4_25 : Int32) (s26 : gMem) (s27 : gMem), m_X0_weigh_99 n x4_25 s26 = some (s27) → (wx κ (gGX D ad cy b) (gA (gGX D ad cy b)) 5 s27 129 [] []) → wx κ (gGX D ad cy b) (gA (gGX D ad cy b)) 5 s26 99 [(0, .ref (ad 201)), (4, .int x4_25)] [] := by
    clear hM
    intro n
    induction n with
    | zero => intro _ _ _ hM; cases hM
    | succ n ih =>
      intro x4_25 s26 s27 hM kx0
      replace hM : b_X0_weigh_99 (m_X0_weigh_99 n) x4_25 s26 = some (s27) := hM
      unfold b_X0_weigh_99 at hM
      refine x_il C 1 rfl dX0_weigh_99 rfl ?_
      refine x_if_lt (tgt := 129) C dX0_weigh_101 (by decide) rfl (fun hc => ?_) (fun hc => ?_)
      · replace hM := gif_pos hc hM
        cases hM
        exact x_sub [] rfl (kx0)
      · replace hM := gif_neg hc hM
        refine x_aln C 0 rfl dX0_weigh_104 rfl ?_
        refine gXg_201_fewest C kf_X0_15 dX0_weigh_105 rfl ?_
        refine x_il C 1 rfl dX0_weigh_108 rfl ?_
        refine x_aln C 0 rfl dX0_weigh_110 rfl ?_
        refine x_il C 1 rfl dX0_weigh_111 rfl ?_
        refine x_aln C 0 rfl dX0_weigh_113 rfl ?_
        refine x_il C 1 rfl dX0_weigh_114 rfl ?_
        obtain ⟨r29, h28, hM⟩ := gb1_some hM
        refine x_cvi (As := [.int x4_25]) (rest := [.int x4_25, .ref (ad 201), .int x4_25, .ref (ad 203)]) C E.2.2.2.2.2 1 (c_X0_firstBest hG h28) (gBv km_X0_32 kin_X0_firstBest ksel_X0_firstBest kini_X0 kc_X0_firstBest) rfl rfl rfl ⟨rfl, by decide +kernel, by decide +kernel, by decide +kernel⟩ ⟨Nat.le_of_ble_eq_true rfl, Nat.le_of_ble_eq_true rfl⟩ (by show 201 < 213; decide) rfl rfl rfl rfl (Nat.le_of_ble_eq_true rfl) dX0_weigh_116 rfl ?_
        obtain ⟨r31, h30, hM⟩ := gb1_some hM
        refine x_cvi (As := [.int x4_25, .int r29]) (rest := [.int x4_25, .ref (ad 203)]) C E.2.2.2.2.2 2 (c_X0_drownedBehind hG h30) (gBv km_X0_36 kin_X0_drownedBehind ksel_X0_drownedBehind kini_X0 kc_X0_drownedBehind) rfl rfl rfl ⟨rfl, by decide +kernel, by decide +kernel, by decide +kernel⟩ ⟨Nat.le_of_ble_eq_true rfl, Nat.le_of_ble_eq_true rfl⟩ (by show 201 < 213; decide) rfl rfl rfl rfl (Nat.le_of_ble_eq_true rfl) dX0_weigh_119 rfl ?_
        obtain ⟨h32, hM⟩ := gck_some hM
        obtain ⟨s33, ev, hM⟩ := gnm_ex hM
        refine gXs_203 C ev h32 dX0_weigh_122 rfl ?_
        obtain ⟨x4_34, ev, hM⟩ := gnm_ex hM
        refine x_iinc (j := 1) (w := (-1)) (lv' := [(4, .int x4_34), (0, .ref (ad 201))]) C rfl ev (by decide) (by decide) rfl dX0_weigh_123 rfl ?_
        refine x_goto (tgt := 99) C dX0_weigh_126 (by decide) ?_
        exact x_sub [1, 0] rfl (ih x4_34 s33 _ hM kx0)
  obtain ⟨s27, hL35, hM⟩ := gb1_some hM
  refine x_sub [2, 0] rfl (L99 gFU x4_24 s23 _ hL35 ?_)
  clear L99
  exact x_vret C E (gs1 hM) dX0_weigh_129
set_option maxRecDepth 100000 in
set_option maxHeartbeats 4000000 in
theorem c_X0_lengthGivenTo {l : Launch} {D : va_G} {ad : Nat → Nat} {cy : Nat → ClassId} {b : Nat} (hG : gInj (gGX D ad cy b)) {a0 : Int32} {σ : gMem} {r0 : Int32} (hM : m_X0_lengthGivenTo a0 σ = some r0) : gMi l yX0_lengthGivenTo (Cond.code yX0_lengthGivenTo cX0_lengthGivenTo 4 (some .int) :: gBig) { frames := 3, cells := 0, slots := 0, locals := 66 } (gGX D ad cy b) [.ref (ad 201), .int a0] σ r0 σ := by
  refine gIntro (own := RX0) hG (by decide +kernel) rfl rfl (Nat.le_of_ble_eq_true rfl) (lv := [(0, .ref (ad 201)), (1, .int a0)]) rfl (fun κ C E => ?_)
  unfold m_X0_lengthGivenTo at hM
  refine x_ic (v := 0) C (by decide) dX0_lengthGivenTo_0 rfl ?_
  refine x_istn (lv' := [(2, .int 0), (0, .ref (ad 201)), (1, .int a0)]) C rfl rfl (by decide) rfl dX0_lengthGivenTo_1 rfl ?_
  refine x_ic (v := 0) C (by decide) dX0_lengthGivenTo_2 rfl ?_
  refine x_istn (lv' := [(3, .int 0), (2, .int 0), (0, .ref (ad 201)), (1, .int a0)]) C rfl rfl (by decide) rfl dX0_lengthGivenTo_3 rfl ?_
  have L4 : ∀ (n : Nat) (x2_1 : Int32) (x3_2 : Int32) (x2_3 : Int32), m_X0_lengthGivenTo_4 a0 σ n x2_1 x3_2 = some (x2_3) → (wx κ (gGX D ad cy b) (gA (gGX D ad cy b)) 4 σ 25 [(0, .ref (ad 201)), (2, .int x2_3)] []) → wx κ (gGX D ad cy b) (gA (gGX D ad cy b)) 4 σ 4 [(0, .ref (ad 201)), (1, .int a0), (2, .int x2_1), (3, .int x3_2)] [] := by
    clear hM
    intro n
    induction n with
    | zero => intro _ _ _ hM; cases hM
    | succ n ih =>
      intro x2_1 x3_2 x2_3 hM kx0
      replace hM : b_X0_lengthGivenTo_4 a0 σ (m_X0_lengthGivenTo_4 a0 σ n) x2_1 x3_2 = some (x2_3) := hM
      unfold b_X0_lengthGivenTo_4 at hM
      refine x_iln C 3 rfl dX0_lengthGivenTo_4 rfl ?_
      refine x_iln C 1 rfl dX0_lengthGivenTo_5 rfl ?_
      refine x_ic_ge (tgt := 25) C dX0_lengthGivenTo_6 (by decide) rfl (fun hc => ?_) (fun hc => ?_)
      · replace hM := gif_pos hc hM
        cases hM
        exact x_sub [0, 2] rfl (kx0)
      · replace hM := gif_neg hc hM
        refine x_iln C 2 rfl dX0_lengthGivenTo_9 rfl ?_
        refine x_ic (v := 1) C (by decide) dX0_lengthGivenTo_10 rfl ?_
        refine x_aln C 0 rfl dX0_lengthGivenTo_11 rfl ?_
        refine x_iln C 2 rfl dX0_lengthGivenTo_12 rfl ?_
        obtain ⟨r5, h4, hM⟩ := gb1_some hM
        refine x_cvi (As := [.int x2_1]) (rest := [.int 1, .int x2_1]) C E.2.2.2.2.2 1 (c_X0_firstBest hG h4) (gBv km_X0_32 kin_X0_firstBest ksel_X0_firstBest kini_X0 kc_X0_firstBest) rfl rfl rfl ⟨rfl, by decide +kernel, by decide +kernel, by decide +kernel⟩ ⟨Nat.le_of_ble_eq_true rfl, Nat.le_of_ble_eq_true rfl⟩ (by show 201 < 213; decide) rfl rfl rfl rfl (Nat.le_of_ble_eq_true rfl) dX0_lengthGivenTo_13 rfl ?_
        refine x_ishl C dX0_lengthGivenTo_16 rfl ?_
        refine x_ior C dX0_lengthGivenTo_17 rfl ?_
        obtain ⟨x2_6, ev, hM⟩ := gnm_ex hM
        refine x_istn (lv' := [(2, .int x2_6), (0, .ref (ad 201)), (1, .int a0), (3, .int x3_2)]) C rfl ev (by decide) rfl dX0_lengthGivenTo_18 rfl ?_
        obtain ⟨x3_7, ev, hM⟩ := gnm_ex hM
        refine x_iinc (j := 3) (w := 1) (lv' := [(3, .int x3_7), (2, .int x2_6), (0, .ref (ad 201)), (1, .int a0)]) C rfl ev (by decide) (by decide) rfl dX0_lengthGivenTo_19 rfl ?_
        refine x_goto (tgt := 4) C dX0_lengthGivenTo_22 (by decide) ?_
        exact x_sub [2, 3, 1, 0] rfl (ih x2_6 x3_7 _ hM kx0)
  obtain ⟨x2_3, hL8, hM⟩ := gb1_some hM
  refine x_sub [2, 3, 1, 0] rfl (L4 gFU 0 0 _ hL8 ?_)
  clear L4
  refine x_aln C 0 rfl dX0_lengthGivenTo_25 rfl ?_
  refine x_iln C 1 rfl dX0_lengthGivenTo_26 rfl ?_
  obtain ⟨r10, h9, hM⟩ := gb1_some hM
  refine x_cvi (As := [.int x2_3]) (rest := []) C E.2.2.2.2.2 1 (c_X0_firstBest hG h9) (gBv km_X0_32 kin_X0_firstBest ksel_X0_firstBest kini_X0 kc_X0_firstBest) rfl rfl rfl ⟨rfl, by decide +kernel, by decide +kernel, by decide +kernel⟩ ⟨Nat.le_of_ble_eq_true rfl, Nat.le_of_ble_eq_true rfl⟩ (by show 201 < 213; decide) rfl rfl rfl rfl (Nat.le_of_ble_eq_true rfl) dX0_lengthGivenTo_27 rfl ?_
  exact x_iret C E ⟨gs1 hM, rfl⟩ dX0_lengthGivenTo_30
set_option maxRecDepth 100000 in
set_option maxHeartbeats 4000000 in
theorem c_X0_fewestDrowned {l : Launch} {D : va_G} {ad : Nat → Nat} {cy : Nat → ClassId} {b : Nat} (hG : gInj (gGX D ad cy b))  {σ : gMem} {r0 : Int32} (hM : m_X0_fewestDrowned  σ = some r0) : gMi l yX0_fewestDrowned (Cond.code yX0_fewestDrowned cX0_fewestDrowned 1 (some .int) :: gBig) { frames := 0, cells := 0, slots := 0, locals := 0 } (gGX D ad cy b) [.ref (ad 201)] σ r0 σ := by
  refine gIntro (own := RX0) hG (by decide +kernel) rfl rfl (Nat.le_of_ble_eq_true rfl) (lv := [(0, .ref (ad 201))]) rfl (fun κ C E => ?_)
  unfold m_X0_fewestDrowned at hM
  refine x_aln C 0 rfl dX0_fewestDrowned_0 rfl ?_
  refine gXg_201_fewest C kf_X0_15 dX0_fewestDrowned_1 rfl ?_
  refine x_ic (v := 0) C (by decide) dX0_fewestDrowned_4 rfl ?_
  obtain ⟨h1, hM⟩ := gck_some hM
  refine gXa_203 C h1 dX0_fewestDrowned_5 rfl ?_
  exact x_iret C E ⟨gs1 hM, rfl⟩ dX0_fewestDrowned_6
set_option maxRecDepth 100000 in
set_option maxHeartbeats 4000000 in
theorem c_X0_drownedAsTheyAre {l : Launch} {D : va_G} {ad : Nat → Nat} {cy : Nat → ClassId} {b : Nat} (hG : gInj (gGX D ad cy b))  {σ : gMem} {r0 : Int32} (hM : m_X0_drownedAsTheyAre  σ = some r0) : gMi l yX0_drownedAsTheyAre (Cond.code yX0_drownedAsTheyAre cX0_drownedAsTheyAre 3 (some .int) :: gBig) { frames := 1, cells := 0, slots := 0, locals := 21 } (gGX D ad cy b) [.ref (ad 201)] σ r0 σ := by
  refine gIntro (own := RX0) hG (by decide +kernel) rfl rfl (Nat.le_of_ble_eq_true rfl) (lv := [(0, .ref (ad 201))]) rfl (fun κ C E => ?_)
  unfold m_X0_drownedAsTheyAre at hM
  refine x_ic (v := 0) C (by decide) dX0_drownedAsTheyAre_0 rfl ?_
  refine x_istn (lv' := [(1, .int 0), (0, .ref (ad 201))]) C rfl rfl (by decide) rfl dX0_drownedAsTheyAre_1 rfl ?_
  refine x_ic (v := 0) C (by decide) dX0_drownedAsTheyAre_2 rfl ?_
  refine x_istn (lv' := [(2, .int 0), (1, .int 0), (0, .ref (ad 201))]) C rfl rfl (by decide) rfl dX0_drownedAsTheyAre_3 rfl ?_
  have L4 : ∀ (n : Nat) (x1_1 : Int32) (x2_2 : Int32) (x1_3 : Int32), m_X0_drownedAsTheyAre_4 σ n x1_1 x2_2 = some (x1_3) → (wx κ (gGX D ad cy b) (gA (gGX D ad cy b)) 3 σ 37 [(1, .int x1_3)] []) → wx κ (gGX D ad cy b) (gA (gGX D ad cy b)) 3 σ 4 [(0, .ref (ad 201)), (1, .int x1_1), (2, .int x2_2)] [] := by
    clear hM
    intro n
    induction n with
    | zero => intro _ _ _ hM; cases hM
    | succ n ih =>
      intro x1_1 x2_2 x1_3 hM kx0
      replace hM : b_X0_drownedAsTheyAre_4 σ (m_X0_drownedAsTheyAre_4 σ n) x1_1 x2_2 = some (x1_3) := hM
      unfold b_X0_drownedAsTheyAre_4 at hM
      refine x_iln C 2 rfl dX0_drownedAsTheyAre_4 rfl ?_
      refine x_aln C 0 rfl dX0_drownedAsTheyAre_5 rfl ?_
      refine gXg_201_people C kf_X0_24 dX0_drownedAsTheyAre_6 rfl ?_
      refine x_ic_ge (tgt := 37) C dX0_drownedAsTheyAre_9 (by decide) rfl (fun hc => ?_) (fun hc => ?_)
      · replace hM := gif_pos hc hM
        cases hM
        exact x_sub [1] rfl (kx0)
      · replace hM := gif_neg hc hM
        refine x_aln C 0 rfl dX0_drownedAsTheyAre_12 rfl ?_
        refine gXg_201_drowning C kf_X0_9 dX0_drownedAsTheyAre_13 rfl ?_
        refine x_iln C 2 rfl dX0_drownedAsTheyAre_16 rfl ?_
        obtain ⟨h4, hM⟩ := gck_some hM
        refine gXa_202 C h4 dX0_drownedAsTheyAre_17 rfl ?_
        refine x_iln C 2 rfl dX0_drownedAsTheyAre_18 rfl ?_
        obtain ⟨r6, h5, hM⟩ := gb1_some hM
        refine x_csni (As := [.int (σ 202 x2_2.toNatClampNeg), .int x2_2]) (rest := []) C E.2.2.2.2.2 2 (c_X6_holds hG h5) (gBn kc_X6_holds) rfl rfl rfl (by decide +kernel) (gBc kini_X6) (gBc kst_X6_holds) ⟨by decide +kernel, by decide +kernel, by decide +kernel⟩ ⟨Nat.le_of_ble_eq_true rfl, Nat.le_of_ble_eq_true rfl⟩ rfl rfl (Nat.le_of_ble_eq_true rfl) dX0_drownedAsTheyAre_19 rfl ?_
        refine x_if_eq (tgt := 31) C dX0_drownedAsTheyAre_22 (by decide) rfl (fun hc => ?_) (fun hc => ?_)
        · replace hM := gif_pos hc hM
          obtain ⟨x2_7, ev, hM⟩ := gnm_ex hM
          refine x_iinc (j := 2) (w := 1) (lv' := [(2, .int x2_7), (0, .ref (ad 201)), (1, .int x1_1)]) C rfl ev (by decide) (by decide) rfl dX0_drownedAsTheyAre_31 rfl ?_
          refine x_goto (tgt := 4) C dX0_drownedAsTheyAre_34 (by decide) ?_
          exact x_sub [1, 2, 0] rfl (ih x1_1 x2_7 _ hM kx0)
        · replace hM := gif_neg hc hM
          refine x_iln C 1 rfl dX0_drownedAsTheyAre_25 rfl ?_
          refine x_ic (v := 1) C (by decide) dX0_drownedAsTheyAre_26 rfl ?_
          refine x_iln C 2 rfl dX0_drownedAsTheyAre_27 rfl ?_
          refine x_ishl C dX0_drownedAsTheyAre_28 rfl ?_
          refine x_ior C dX0_drownedAsTheyAre_29 rfl ?_
          obtain ⟨x1_8, ev, hM⟩ := gnm_ex hM
          refine x_istn (lv' := [(1, .int x1_8), (0, .ref (ad 201)), (2, .int x2_2)]) C rfl ev (by decide) rfl dX0_drownedAsTheyAre_30 rfl ?_
          obtain ⟨x2_9, ev, hM⟩ := gnm_ex hM
          refine x_iinc (j := 2) (w := 1) (lv' := [(2, .int x2_9), (1, .int x1_8), (0, .ref (ad 201))]) C rfl ev (by decide) (by decide) rfl dX0_drownedAsTheyAre_31 rfl ?_
          refine x_goto (tgt := 4) C dX0_drownedAsTheyAre_34 (by decide) ?_
          exact x_sub [2, 1, 0] rfl (ih x1_8 x2_9 _ hM kx0)
  obtain ⟨x1_3, hL10, hM⟩ := gb1_some hM
  refine x_sub [2, 1, 0] rfl (L4 gFU 0 0 _ hL10 ?_)
  clear L4
  refine x_iln C 0 rfl dX0_drownedAsTheyAre_37 rfl ?_
  exact x_iret C E ⟨gs1 hM, rfl⟩ dX0_drownedAsTheyAre_38
set_option maxRecDepth 100000 in
set_option maxHeartbeats 4000000 in
theorem c_X6_flood {l : Launch} {D : va_G} {ad : Nat → Nat} {cy : Nat → ClassId} {b : Nat} (hG : gInj (gGX D ad cy b)) {a0 : Int32} {a1 : Int32} {σ : gMem} {r0 : Int32} {σ0 : gMem} (hM : m_X6_flood a0 a1 σ = some (r0, σ0)) : gMi l yX6_flood (Cond.code yX6_flood cX6_flood 3 (some .int) :: gBig) { frames := 5, cells := 0, slots := 0, locals := 109 } (gGX D ad cy b) [.ref (ad 0), .int a0, .int a1] σ r0 σ0 := by
  refine gIntro (own := RX6) hG (by decide +kernel) rfl rfl (Nat.le_of_ble_eq_true rfl) (lv := [(0, .ref (ad 0)), (1, .int a0), (2, .int a1)]) rfl (fun κ C E => ?_)
  unfold m_X6_flood at hM
  refine x_iln C 1 rfl dX6_flood_0 rfl ?_
  refine x_ic (v := 0) C (by decide) dX6_flood_1 rfl ?_
  refine x_bi (v := 40) C (by decide) dX6_flood_2 rfl ?_
  obtain ⟨r2, h1, hM⟩ := gb1_some hM
  refine x_csi (As := [.int a0, .int 0, .int 40]) (rest := []) C E.2.2.2.2.2 3 (c_X6_within hG h1) (gBs km_X6_54 kst_X6_within kini_X6 kc_X6_within) rfl rfl rfl ⟨by decide +kernel, by decide +kernel, by decide +kernel⟩ ⟨Nat.le_of_ble_eq_true rfl, Nat.le_of_ble_eq_true rfl⟩ rfl rfl (Nat.le_of_ble_eq_true rfl) dX6_flood_4 rfl ?_
  refine x_if_eq (tgt := 28) C dX6_flood_7 (by decide) rfl (fun hc => ?_) (fun hc => ?_)
  · replace hM := gif_pos hc hM
    refine x_ic (v := (-1)) C (by decide) dX6_flood_28 rfl ?_
    exact x_iret C E (gs2 hM) dX6_flood_29
  · replace hM := gif_neg hc hM
    refine x_iln C 2 rfl dX6_flood_10 rfl ?_
    refine x_bi (v := (-2)) C (by decide) dX6_flood_11 rfl ?_
    refine x_aln C 0 rfl dX6_flood_13 rfl ?_
    refine gXg_0_now C kf_X6_10 dX6_flood_14 rfl ?_
    refine gXg_1_people C kf_X6_113 dX6_flood_17 rfl ?_
    refine x_ic (v := 1) C (by decide) dX6_flood_20 rfl ?_
    refine x_isub C dX6_flood_21 rfl ?_
    obtain ⟨r4, h3, hM⟩ := gb1_some hM
    refine x_csi (As := [.int a1, .int (-2), .int ((σ 1 8) - 1)]) (rest := []) C E.2.2.2.2.2 3 (c_X6_within hG h3) (gBs km_X6_54 kst_X6_within kini_X6 kc_X6_within) rfl rfl rfl ⟨by decide +kernel, by decide +kernel, by decide +kernel⟩ ⟨Nat.le_of_ble_eq_true rfl, Nat.le_of_ble_eq_true rfl⟩ rfl rfl (Nat.le_of_ble_eq_true rfl) dX6_flood_22 rfl ?_
    refine x_if_ne (tgt := 30) C dX6_flood_25 (by decide) rfl (fun hc => ?_) (fun hc => ?_)
    · replace hM := gif_neg hc hM
      refine x_aln C 0 rfl dX6_flood_30 rfl ?_
      refine gXg_0_exchange C kf_X6_43 dX6_flood_31 rfl ?_
      refine x_aln C 0 rfl dX6_flood_34 rfl ?_
      refine gXg_0_now C kf_X6_10 dX6_flood_35 rfl ?_
      refine x_iln C 1 rfl dX6_flood_38 rfl ?_
      obtain ⟨s6, h5, hM⟩ := gb1_some hM
      refine x_cvv (As := [.ref (ad 1), .int a0]) (rest := []) C E.2.2.2.2.2 2 (c_X0_weigh hG h5) (gBv km_X6_223 kin_X0_weigh ksel_X0_weigh kini_X0 kc_X0_weigh) rfl rfl rfl ⟨rfl, by decide +kernel, by decide +kernel, by decide +kernel⟩ ⟨Nat.le_of_ble_eq_true rfl, Nat.le_of_ble_eq_true rfl⟩ (by show 201 < 213; decide) rfl rfl rfl rfl (Nat.le_of_ble_eq_true rfl) dX6_flood_39 rfl ?_
      refine x_iln C 2 rfl dX6_flood_42 rfl ?_
      refine x_ic (v := (-1)) C (by decide) dX6_flood_43 rfl ?_
      refine x_ic_ne (tgt := 55) C dX6_flood_44 (by decide) rfl (fun hc => ?_) (fun hc => ?_)
      · replace hM := gif_neg hc hM
        refine x_iln C 2 rfl dX6_flood_55 rfl ?_
        refine x_bi (v := (-2)) C (by decide) dX6_flood_56 rfl ?_
        refine x_ic_ne (tgt := 71) C dX6_flood_58 (by decide) rfl (fun hc => ?_) (fun hc => ?_)
        · replace hM := gif_neg hc hM
          refine x_aln C 0 rfl dX6_flood_71 rfl ?_
          refine gXg_0_exchange C kf_X6_43 dX6_flood_72 rfl ?_
          refine x_iln C 2 rfl dX6_flood_75 rfl ?_
          obtain ⟨r8, h7, hM⟩ := gb1_some hM
          refine x_cvi (As := [.int a1]) (rest := []) C E.2.2.2.2.2 1 (c_X0_lengthGivenTo hG h7) (gBv km_X6_232 kin_X0_lengthGivenTo ksel_X0_lengthGivenTo kini_X0 kc_X0_lengthGivenTo) rfl rfl rfl ⟨rfl, by decide +kernel, by decide +kernel, by decide +kernel⟩ ⟨Nat.le_of_ble_eq_true rfl, Nat.le_of_ble_eq_true rfl⟩ (by show 201 < 213; decide) rfl rfl rfl rfl (Nat.le_of_ble_eq_true rfl) dX6_flood_76 rfl ?_
          exact x_iret C E (gs2 hM) dX6_flood_79
        · replace hM := gif_pos hc hM
          refine x_aln C 0 rfl dX6_flood_61 rfl ?_
          refine gXg_0_exchange C kf_X6_43 dX6_flood_62 rfl ?_
          obtain ⟨r10, h9, hM⟩ := gb1_some hM
          refine x_cvi (As := []) (rest := []) C E.2.2.2.2.2 0 (c_X0_fewestDrowned hG h9) (gBv km_X6_229 kin_X0_fewestDrowned ksel_X0_fewestDrowned kini_X0 kc_X0_fewestDrowned) rfl rfl rfl ⟨rfl, by decide +kernel, by decide +kernel, by decide +kernel⟩ ⟨Nat.le_of_ble_eq_true rfl, Nat.le_of_ble_eq_true rfl⟩ (by show 201 < 213; decide) rfl rfl rfl rfl (Nat.le_of_ble_eq_true rfl) dX6_flood_65 rfl ?_
          refine x_goto (tgt := 79) C dX6_flood_68 (by decide) ?_
          exact x_iret C E (gs2 hM) dX6_flood_79
      · replace hM := gif_pos hc hM
        refine x_aln C 0 rfl dX6_flood_47 rfl ?_
        refine gXg_0_exchange C kf_X6_43 dX6_flood_48 rfl ?_
        obtain ⟨r12, h11, hM⟩ := gb1_some hM
        refine x_cvi (As := []) (rest := []) C E.2.2.2.2.2 0 (c_X0_drownedAsTheyAre hG h11) (gBv km_X6_226 kin_X0_drownedAsTheyAre ksel_X0_drownedAsTheyAre kini_X0 kc_X0_drownedAsTheyAre) rfl rfl rfl ⟨rfl, by decide +kernel, by decide +kernel, by decide +kernel⟩ ⟨Nat.le_of_ble_eq_true rfl, Nat.le_of_ble_eq_true rfl⟩ (by show 201 < 213; decide) rfl rfl rfl rfl (Nat.le_of_ble_eq_true rfl) dX6_flood_51 rfl ?_
        exact x_iret C E (gs2 hM) dX6_flood_54
    · replace hM := gif_pos hc hM
      refine x_ic (v := (-1)) C (by decide) dX6_flood_28 rfl ?_
      exact x_iret C E (gs2 hM) dX6_flood_29
set_option maxRecDepth 100000 in
set_option maxHeartbeats 4000000 in
theorem c_X6_carried {l : Launch} {D : va_G} {ad : Nat → Nat} {cy : Nat → ClassId} {b : Nat} (hG : gInj (gGX D ad cy b)) {a0 : Int32} {a1 : Int32} {a2 : Int32} {σ : gMem} {r0 : Int32} (hM : m_X6_carried a0 a1 a2 σ = some r0) : gMi l yX6_carried (Cond.code yX6_carried cX6_carried 8 (some .int) :: gBig) { frames := 4, cells := 0, slots := 0, locals := 83 } (gGX D ad cy b) [.ref (ad 0), .int a0, .int a1, .int a2] σ r0 σ := by
  refine gIntro (own := RX6) hG (by decide +kernel) rfl rfl (Nat.le_of_ble_eq_true rfl) (lv := [(0, .ref (ad 0)), (1, .int a0), (2, .int a1), (3, .int a2)]) rfl (fun κ C E => ?_)
  unfold m_X6_carried at hM
  refine x_aln C 0 rfl dX6_carried_0 rfl ?_
  refine gXg_0_now C kf_X6_10 dX6_carried_1 rfl ?_
  refine x_iln C 1 rfl dX6_carried_4 rfl ?_
  obtain ⟨r2, h1, hM⟩ := gb1_some hM
  refine x_cvi (As := [.int a0]) (rest := []) C E.2.2.2.2.2 1 (c_X1_hasPeople hG h1) (gBv km_X6_191 kin_X1_hasPeople ksel_X1_hasPeople kini_X1 kc_X1_hasPeople) rfl rfl rfl ⟨rfl, by decide +kernel, by decide +kernel, by decide +kernel⟩ ⟨Nat.le_of_ble_eq_true rfl, Nat.le_of_ble_eq_true rfl⟩ (by show 1 < 213; decide) rfl rfl rfl rfl (Nat.le_of_ble_eq_true rfl) dX6_carried_5 rfl ?_
  refine x_if_eq (tgt := 29) C dX6_carried_8 (by decide) rfl (fun hc => ?_) (fun hc => ?_)
  · replace hM := gif_pos hc hM
    refine x_ic (v := (-1)) C (by decide) dX6_carried_29 rfl ?_
    exact x_iret C E ⟨gs1 hM, rfl⟩ dX6_carried_30
  · replace hM := gif_neg hc hM
    refine x_aln C 0 rfl dX6_carried_11 rfl ?_
    refine gXg_0_now C kf_X6_10 dX6_carried_12 rfl ?_
    refine x_iln C 2 rfl dX6_carried_15 rfl ?_
    obtain ⟨r4, h3, hM⟩ := gb1_some hM
    refine x_cvi (As := [.int a1]) (rest := []) C E.2.2.2.2.2 1 (c_X1_hasPlace hG h3) (gBv km_X6_66 kin_X1_hasPlace ksel_X1_hasPlace kini_X1 kc_X1_hasPlace) rfl rfl rfl ⟨rfl, by decide +kernel, by decide +kernel, by decide +kernel⟩ ⟨Nat.le_of_ble_eq_true rfl, Nat.le_of_ble_eq_true rfl⟩ (by show 1 < 213; decide) rfl rfl rfl rfl (Nat.le_of_ble_eq_true rfl) dX6_carried_16 rfl ?_
    refine x_if_eq (tgt := 29) C dX6_carried_19 (by decide) rfl (fun hc => ?_) (fun hc => ?_)
    · replace hM := gif_pos hc hM
      refine x_ic (v := (-1)) C (by decide) dX6_carried_29 rfl ?_
      exact x_iret C E ⟨gs1 hM, rfl⟩ dX6_carried_30
    · replace hM := gif_neg hc hM
      refine x_iln C 3 rfl dX6_carried_22 rfl ?_
      obtain ⟨r6, h5, hM⟩ := gb1_some hM
      refine x_csi (As := [.int a2]) (rest := []) C E.2.2.2.2.2 1 (c_X6_isHour hG h5) (gBs km_X6_101 kst_X6_isHour kini_X6 kc_X6_isHour) rfl rfl rfl ⟨by decide +kernel, by decide +kernel, by decide +kernel⟩ ⟨Nat.le_of_ble_eq_true rfl, Nat.le_of_ble_eq_true rfl⟩ rfl rfl (Nat.le_of_ble_eq_true rfl) dX6_carried_23 rfl ?_
      refine x_if_ne (tgt := 31) C dX6_carried_26 (by decide) rfl (fun hc => ?_) (fun hc => ?_)
      · replace hM := gif_neg hc hM
        refine x_ic (v := 0) C (by decide) dX6_carried_31 rfl ?_
        refine x_ist (lv' := [(4, .int 0), (0, .ref (ad 0)), (1, .int a0), (2, .int a1), (3, .int a2)]) C rfl (by decide) rfl dX6_carried_32 rfl ?_
        refine x_ic (v := 0) C (by decide) dX6_carried_34 rfl ?_
        refine x_ist (lv' := [(5, .int 0), (4, .int 0), (0, .ref (ad 0)), (1, .int a0), (2, .int a1), (3, .int a2)]) C rfl (by decide) rfl dX6_carried_35 rfl ?_
        refine x_ic (v := 0) C (by decide) dX6_carried_37 rfl ?_
        refine x_ist (lv' := [(6, .int 0), (5, .int 0), (4, .int 0), (0, .ref (ad 0)), (1, .int a0), (2, .int a1), (3, .int a2)]) C rfl (by decide) rfl dX6_carried_38 rfl ?_
        have L40 : ∀ (n : Nat) (x4_7 : Int32) (x5_8 : Int32) (x6_9 : Int32) (x4_10 : Int32) (x5_11 : Int32), m_X6_carried_40 a0 a1 a2 σ n x4_7 x5_8 x6_9 = some (x4_10, x5_11) → (wx κ (gGX D ad cy b) (gA (gGX D ad cy b)) 8 σ 93 [(4, .int x4_10), (5, .int x5_11)] []) → wx κ (gGX D ad cy b) (gA (gGX D ad cy b)) 8 σ 40 [(0, .ref (ad 0)), (1, .int a0), (2, .int a1), (3, .int a2), (4, .int x4_7), (5, .int x5_8), (6, .int x6_9)] [] := by
          clear hM
          intro n
          induction n with
          | zero => intro _ _ _ _ _ hM; cases hM
          | succ n ih =>
            intro x4_7 x5_8 x6_9 x4_10 x5_11 hM kx0
            replace hM : b_X6_carried_40 a0 a1 a2 σ (m_X6_carried_40 a0 a1 a2 σ n) x4_7 x5_8 x6_9 = some (x4_10, x5_11) := hM
            unfold b_X6_carried_40 at hM
            refine x_il C 6 rfl dX6_carried_40 rfl ?_
            refine x_aln C 0 rfl dX6_carried_42 rfl ?_
            refine gXg_0_now C kf_X6_10 dX6_carried_43 rfl ?_
            refine gXg_1_people C kf_X6_113 dX6_carried_46 rfl ?_
            refine x_ic_ge (tgt := 93) C dX6_carried_49 (by decide) rfl (fun hc => ?_) (fun hc => ?_)
            · replace hM := gif_pos hc hM
              cases hM
              exact x_sub [4, 5] rfl (kx0)
            · replace hM := gif_neg hc hM
              refine x_iln C 1 rfl dX6_carried_52 rfl ?_
              refine x_il C 6 rfl dX6_carried_53 rfl ?_
              obtain ⟨r13, h12, hM⟩ := gb1_some hM
              refine x_csi (As := [.int a0, .int x6_9]) (rest := []) C E.2.2.2.2.2 2 (c_X6_holds hG h12) (gBs km_X6_194 kst_X6_holds kini_X6 kc_X6_holds) rfl rfl rfl ⟨by decide +kernel, by decide +kernel, by decide +kernel⟩ ⟨Nat.le_of_ble_eq_true rfl, Nat.le_of_ble_eq_true rfl⟩ rfl rfl (Nat.le_of_ble_eq_true rfl) dX6_carried_55 rfl ?_
              refine x_if_ne (tgt := 64) C dX6_carried_58 (by decide) rfl (fun hc => ?_) (fun hc => ?_)
              · replace hM := gif_neg hc hM
                refine x_aln C 0 rfl dX6_carried_64 rfl ?_
                refine gXg_0_now C kf_X6_10 dX6_carried_65 rfl ?_
                refine x_il C 6 rfl dX6_carried_68 rfl ?_
                refine x_iln C 2 rfl dX6_carried_70 rfl ?_
                refine x_iln C 3 rfl dX6_carried_71 rfl ?_
                obtain ⟨r15, h14, hM⟩ := gb1_some hM
                refine x_cvi (As := [.int x6_9, .int a1, .int a2]) (rest := []) C E.2.2.2.2.2 3 (c_X1_standsAt hG h14) (gBv km_X6_172 kin_X1_standsAt ksel_X1_standsAt kini_X1 kc_X1_standsAt) rfl rfl rfl ⟨rfl, by decide +kernel, by decide +kernel, by decide +kernel⟩ ⟨Nat.le_of_ble_eq_true rfl, Nat.le_of_ble_eq_true rfl⟩ (by show 1 < 213; decide) rfl rfl rfl rfl (Nat.le_of_ble_eq_true rfl) dX6_carried_72 rfl ?_
                refine x_if_eq (tgt := 84) C dX6_carried_75 (by decide) rfl (fun hc => ?_) (fun hc => ?_)
                · replace hM := gif_pos hc hM
                  obtain ⟨x5_16, ev, hM⟩ := gnm_ex hM
                  refine x_iinc (j := 5) (w := 1) (lv' := [(5, .int x5_16), (0, .ref (ad 0)), (1, .int a0), (2, .int a1), (3, .int a2), (4, .int x4_7), (6, .int x6_9)]) C rfl ev (by decide) (by decide) rfl dX6_carried_84 rfl ?_
                  obtain ⟨x6_17, ev, hM⟩ := gnm_ex hM
                  refine x_iinc (j := 6) (w := 1) (lv' := [(6, .int x6_17), (5, .int x5_16), (0, .ref (ad 0)), (1, .int a0), (2, .int a1), (3, .int a2), (4, .int x4_7)]) C rfl ev (by decide) (by decide) rfl dX6_carried_87 rfl ?_
                  refine x_goto (tgt := 40) C dX6_carried_90 (by decide) ?_
                  exact x_sub [2, 3, 4, 5, 6, 1, 0] rfl (ih x4_7 x5_16 x6_17 _ _ hM kx0)
                · replace hM := gif_neg hc hM
                  obtain ⟨x4_18, ev, hM⟩ := gnm_ex hM
                  refine x_iinc (j := 4) (w := 1) (lv' := [(4, .int x4_18), (0, .ref (ad 0)), (1, .int a0), (2, .int a1), (3, .int a2), (5, .int x5_8), (6, .int x6_9)]) C rfl ev (by decide) (by decide) rfl dX6_carried_78 rfl ?_
                  refine x_goto (tgt := 87) C dX6_carried_81 (by decide) ?_
                  obtain ⟨x6_19, ev, hM⟩ := gnm_ex hM
                  refine x_iinc (j := 6) (w := 1) (lv' := [(6, .int x6_19), (4, .int x4_18), (0, .ref (ad 0)), (1, .int a0), (2, .int a1), (3, .int a2), (5, .int x5_8)]) C rfl ev (by decide) (by decide) rfl dX6_carried_87 rfl ?_
                  refine x_goto (tgt := 40) C dX6_carried_90 (by decide) ?_
                  exact x_sub [2, 3, 4, 5, 1, 6, 0] rfl (ih x4_18 x5_8 x6_19 _ _ hM kx0)
              · replace hM := gif_pos hc hM
                refine x_goto (tgt := 87) C dX6_carried_61 (by decide) ?_
                obtain ⟨x6_20, ev, hM⟩ := gnm_ex hM
                refine x_iinc (j := 6) (w := 1) (lv' := [(6, .int x6_20), (0, .ref (ad 0)), (1, .int a0), (2, .int a1), (3, .int a2), (4, .int x4_7), (5, .int x5_8)]) C rfl ev (by decide) (by decide) rfl dX6_carried_87 rfl ?_
                refine x_goto (tgt := 40) C dX6_carried_90 (by decide) ?_
                exact x_sub [1, 2, 3, 4, 5, 6, 0] rfl (ih x4_7 x5_8 x6_20 _ _ hM kx0)
        obtain ⟨x4_10, x5_11, hL21, hM⟩ := gb2_some hM
        refine x_sub [3, 4, 5, 6, 2, 1, 0] rfl (L40 gFU 0 0 0 _ _ hL21 ?_)
        clear L40
        refine x_ic (v := 1) C (by decide) dX6_carried_93 rfl ?_
        refine x_ist (lv' := [(6, .int 1), (4, .int x4_10), (5, .int x5_11)]) C rfl (by decide) rfl dX6_carried_94 rfl ?_
        refine x_ic (v := 0) C (by decide) dX6_carried_96 rfl ?_
        refine x_ist (lv' := [(7, .int 0), (6, .int 1), (4, .int x4_10), (5, .int x5_11)]) C rfl (by decide) rfl dX6_carried_97 rfl ?_
        have L99 : ∀ (n : Nat) (x6_22 : Int32) (x7_23 : Int32) (x6_24 : Int32), m_X6_carried_99 x4_10 x5_11 n x6_22 x7_23 = some (x6_24) → (wx κ (gGX D ad cy b) (gA (gGX D ad cy b)) 8 σ 126 [(6, .int x6_24)] []) → wx κ (gGX D ad cy b) (gA (gGX D ad cy b)) 8 σ 99 [(4, .int x4_10), (5, .int x5_11), (6, .int x6_22), (7, .int x7_23)] [] := by
          clear hM
          intro n
          induction n with
          | zero => intro _ _ _ hM; cases hM
          | succ n ih =>
            intro x6_22 x7_23 x6_24 hM kx0
            replace hM : b_X6_carried_99 x4_10 x5_11 (m_X6_carried_99 x4_10 x5_11 n) x6_22 x7_23 = some (x6_24) := hM
            unfold b_X6_carried_99 at hM
            refine x_il C 3 rfl dX6_carried_99 rfl ?_
            refine x_il C 1 rfl dX6_carried_101 rfl ?_
            refine x_ic_ge (tgt := 126) C dX6_carried_103 (by decide) rfl (fun hc => ?_) (fun hc => ?_)
            · replace hM := gif_pos hc hM
              cases hM
              exact x_sub [2] rfl (kx0)
            · replace hM := gif_neg hc hM
              refine x_il C 2 rfl dX6_carried_106 rfl ?_
              refine x_ic (v := 0) C (by decide) dX6_carried_108 rfl ?_
              refine x_il C 0 rfl dX6_carried_109 rfl ?_
              refine x_il C 3 rfl dX6_carried_111 rfl ?_
              refine x_isub C dX6_carried_113 rfl ?_
              refine x_mmax C (gBc km_X6_235) (gBc kst_J9_max_7cf53) (gBc kini_J9) (gBc kc_J9_max_7cf53) (by decide) (Nat.le_of_ble_eq_true rfl) dX6_carried_114 rfl ?_
              refine x_imul C dX6_carried_117 rfl ?_
              obtain ⟨x6_25, ev, hM⟩ := gnm_ex hM
              refine x_ist (lv' := [(6, .int x6_25), (4, .int x4_10), (5, .int x5_11), (7, .int x7_23)]) C ev (by decide) rfl dX6_carried_118 rfl ?_
              obtain ⟨x7_26, ev, hM⟩ := gnm_ex hM
              refine x_iinc (j := 3) (w := 1) (lv' := [(7, .int x7_26), (6, .int x6_25), (4, .int x4_10), (5, .int x5_11)]) C rfl ev (by decide) (by decide) rfl dX6_carried_120 rfl ?_
              refine x_goto (tgt := 99) C dX6_carried_123 (by decide) ?_
              exact x_sub [2, 3, 1, 0] rfl (ih x6_25 x7_26 _ hM kx0)
        obtain ⟨x6_24, hL27, hM⟩ := gb1_some hM
        refine x_sub [2, 3, 1, 0] rfl (L99 gFU 1 0 _ hL27 ?_)
        clear L99
        refine x_il C 0 rfl dX6_carried_126 rfl ?_
        exact x_iret C E ⟨gs1 hM, rfl⟩ dX6_carried_128
      · replace hM := gif_pos hc hM
        refine x_ic (v := (-1)) C (by decide) dX6_carried_29 rfl ?_
        exact x_iret C E ⟨gs1 hM, rfl⟩ dX6_carried_30
set_option maxRecDepth 100000 in
set_option maxHeartbeats 4000000 in
theorem c_X1_standsAtHomeIn {l : Launch} {D : va_G} {ad : Nat → Nat} {cy : Nat → ClassId} {b : Nat} (hG : gInj (gGX D ad cy b)) {a0 : Int32} {a1 : Int32} {a2 : Int32} {σ : gMem} {r0 : Int32} (hM : m_X1_standsAtHomeIn a0 a1 a2 σ = some r0) : gMi l yX1_standsAtHomeIn (Cond.code yX1_standsAtHomeIn cX1_standsAtHomeIn 5 (some .boolean) :: gBig) { frames := 3, cells := 0, slots := 0, locals := 60 } (gGX D ad cy b) [.ref (ad 1), .int a0, .int a1, .int a2] σ r0 σ := by
  refine gIntro (own := RX1) hG (by decide +kernel) rfl rfl (Nat.le_of_ble_eq_true rfl) (lv := [(0, .ref (ad 1)), (1, .int a0), (2, .int a1), (3, .int a2)]) rfl (fun κ C E => ?_)
  unfold m_X1_standsAtHomeIn at hM
  refine x_aln C 0 rfl dX1_standsAtHomeIn_0 rfl ?_
  refine x_aln C 0 rfl dX1_standsAtHomeIn_1 rfl ?_
  refine x_aln C 0 rfl dX1_standsAtHomeIn_2 rfl ?_
  refine gXg_1_homes C kf_X1_39 dX1_standsAtHomeIn_3 rfl ?_
  refine x_iln C 1 rfl dX1_standsAtHomeIn_6 rfl ?_
  obtain ⟨h1, hM⟩ := gck_some hM
  refine gXa_9 C h1 dX1_standsAtHomeIn_7 rfl ?_
  refine x_iln C 3 rfl dX1_standsAtHomeIn_8 rfl ?_
  obtain ⟨r3, h2, hM⟩ := gb1_some hM
  refine x_cvi (As := [.int (σ 9 a0.toNatClampNeg), .int a2]) (rest := [.ref (ad 1)]) C E.2.2.2.2.2 2 (c_X1_depthIn hG h2) (gBv km_X1_98 kin_X1_depthIn ksel_X1_depthIn kini_X1 kc_X1_depthIn) rfl rfl rfl ⟨rfl, by decide +kernel, by decide +kernel, by decide +kernel⟩ ⟨Nat.le_of_ble_eq_true rfl, Nat.le_of_ble_eq_true rfl⟩ (by show 1 < 213; decide) rfl rfl rfl rfl (Nat.le_of_ble_eq_true rfl) dX1_standsAtHomeIn_9 rfl ?_
  refine x_iln C 2 rfl dX1_standsAtHomeIn_12 rfl ?_
  refine x_aln C 0 rfl dX1_standsAtHomeIn_13 rfl ?_
  refine gXg_1_floodTold C kf_X1_54 dX1_standsAtHomeIn_14 rfl ?_
  obtain ⟨r5, h4, hM⟩ := gb1_some hM
  refine x_cvi (As := [.int r3, .int a1, .int (σ 1 6)]) (rest := []) C E.2.2.2.2.2 3 (c_X1_waterOver hG h4) (gBv km_X1_109 kin_X1_waterOver ksel_X1_waterOver kini_X1 kc_X1_waterOver) rfl rfl rfl ⟨rfl, by decide +kernel, by decide +kernel, by decide +kernel⟩ ⟨Nat.le_of_ble_eq_true rfl, Nat.le_of_ble_eq_true rfl⟩ (by show 1 < 213; decide) rfl rfl rfl rfl (Nat.le_of_ble_eq_true rfl) dX1_standsAtHomeIn_17 rfl ?_
  refine x_ist (lv' := [(4, .int r5), (0, .ref (ad 1)), (1, .int a0), (2, .int a1), (3, .int a2)]) C rfl (by decide) rfl dX1_standsAtHomeIn_20 rfl ?_
  refine x_aln C 1 rfl dX1_standsAtHomeIn_22 rfl ?_
  refine x_aln C 1 rfl dX1_standsAtHomeIn_23 rfl ?_
  refine gXg_1_kinds C kf_X1_33 dX1_standsAtHomeIn_24 rfl ?_
  refine x_iln C 2 rfl dX1_standsAtHomeIn_27 rfl ?_
  obtain ⟨h6, hM⟩ := gck_some hM
  refine gXa_7 C h6 dX1_standsAtHomeIn_28 rfl ?_
  refine x_aln C 1 rfl dX1_standsAtHomeIn_29 rfl ?_
  refine gXg_1_told C kf_X1_36 dX1_standsAtHomeIn_30 rfl ?_
  refine x_iln C 2 rfl dX1_standsAtHomeIn_33 rfl ?_
  obtain ⟨h7, hM⟩ := gck_some hM
  refine gXa_8 C h7 dX1_standsAtHomeIn_34 rfl ?_
  refine x_aln C 1 rfl dX1_standsAtHomeIn_35 rfl ?_
  refine gXg_1_yearsGone C kf_X1_63 dX1_standsAtHomeIn_36 rfl ?_
  refine x_iln C 4 rfl dX1_standsAtHomeIn_39 rfl ?_
  refine x_iadd C dX1_standsAtHomeIn_40 rfl ?_
  refine x_il C 0 rfl dX1_standsAtHomeIn_41 rfl ?_
  obtain ⟨r9, h8, hM⟩ := gb1_some hM
  refine x_cvi (As := [.int (σ 7 a0.toNatClampNeg), .int (σ 8 a0.toNatClampNeg), .int ((σ 1 16) + a2), .int r5]) (rest := []) C E.2.2.2.2.2 4 (c_X1_bears hG h8) (gBv km_X1_123 kin_X1_bears ksel_X1_bears kini_X1 kc_X1_bears) rfl rfl rfl ⟨rfl, by decide +kernel, by decide +kernel, by decide +kernel⟩ ⟨Nat.le_of_ble_eq_true rfl, Nat.le_of_ble_eq_true rfl⟩ (by show 1 < 213; decide) rfl rfl rfl rfl (Nat.le_of_ble_eq_true rfl) dX1_standsAtHomeIn_43 rfl ?_
  obtain ⟨h10, hM⟩ := gck_some hM
  exact x_zret C E h10 ⟨gs1 hM, rfl⟩ dX1_standsAtHomeIn_46
set_option maxRecDepth 100000 in
set_option maxHeartbeats 4000000 in
theorem c_X6_wrong {l : Launch} {D : va_G} {ad : Nat → Nat} {cy : Nat → ClassId} {b : Nat} (hG : gInj (gGX D ad cy b)) {a0 : Int32} {a1 : Int32} {σ : gMem} {r0 : Int32} (hM : m_X6_wrong a0 a1 σ = some r0) : gMi l yX6_wrong (Cond.code yX6_wrong cX6_wrong 5 (some .int) :: gBig) { frames := 4, cells := 0, slots := 0, locals := 84 } (gGX D ad cy b) [.ref (ad 0), .int a0, .int a1] σ r0 σ := by
  refine gIntro (own := RX6) hG (by decide +kernel) rfl rfl (Nat.le_of_ble_eq_true rfl) (lv := [(0, .ref (ad 0)), (1, .int a0), (2, .int a1)]) rfl (fun κ C E => ?_)
  unfold m_X6_wrong at hM
  refine x_iln C 1 rfl dX6_wrong_0 rfl ?_
  refine x_ic (v := 1) C (by decide) dX6_wrong_1 rfl ?_
  refine x_bi (v := 30) C (by decide) dX6_wrong_2 rfl ?_
  obtain ⟨r2, h1, hM⟩ := gb1_some hM
  refine x_csi (As := [.int a0, .int 1, .int 30]) (rest := []) C E.2.2.2.2.2 3 (c_X6_within hG h1) (gBs km_X6_54 kst_X6_within kini_X6 kc_X6_within) rfl rfl rfl ⟨by decide +kernel, by decide +kernel, by decide +kernel⟩ ⟨Nat.le_of_ble_eq_true rfl, Nat.le_of_ble_eq_true rfl⟩ rfl rfl (Nat.le_of_ble_eq_true rfl) dX6_wrong_4 rfl ?_
  refine x_if_eq (tgt := 17) C dX6_wrong_7 (by decide) rfl (fun hc => ?_) (fun hc => ?_)
  · replace hM := gif_pos hc hM
    refine x_ic (v := (-1)) C (by decide) dX6_wrong_17 rfl ?_
    exact x_iret C E ⟨gs1 hM, rfl⟩ dX6_wrong_18
  · replace hM := gif_neg hc hM
    refine x_iln C 2 rfl dX6_wrong_10 rfl ?_
    obtain ⟨r4, h3, hM⟩ := gb1_some hM
    refine x_csi (As := [.int a1]) (rest := []) C E.2.2.2.2.2 1 (c_X6_isHour hG h3) (gBs km_X6_101 kst_X6_isHour kini_X6 kc_X6_isHour) rfl rfl rfl ⟨by decide +kernel, by decide +kernel, by decide +kernel⟩ ⟨Nat.le_of_ble_eq_true rfl, Nat.le_of_ble_eq_true rfl⟩ rfl rfl (Nat.le_of_ble_eq_true rfl) dX6_wrong_11 rfl ?_
    refine x_if_ne (tgt := 19) C dX6_wrong_14 (by decide) rfl (fun hc => ?_) (fun hc => ?_)
    · replace hM := gif_neg hc hM
      refine x_ic (v := 0) C (by decide) dX6_wrong_19 rfl ?_
      refine x_istn (lv' := [(3, .int 0), (0, .ref (ad 0)), (1, .int a0), (2, .int a1)]) C rfl rfl (by decide) rfl dX6_wrong_20 rfl ?_
      refine x_ic (v := 0) C (by decide) dX6_wrong_21 rfl ?_
      refine x_ist (lv' := [(4, .int 0), (3, .int 0), (0, .ref (ad 0)), (1, .int a0), (2, .int a1)]) C rfl (by decide) rfl dX6_wrong_22 rfl ?_
      have L24 : ∀ (n : Nat) (x3_5 : Int32) (x4_6 : Int32) (x3_7 : Int32), m_X6_wrong_24 a0 a1 σ n x3_5 x4_6 = some (x3_7) → (wx κ (gGX D ad cy b) (gA (gGX D ad cy b)) 5 σ 77 [(3, .int x3_7)] []) → wx κ (gGX D ad cy b) (gA (gGX D ad cy b)) 5 σ 24 [(0, .ref (ad 0)), (1, .int a0), (2, .int a1), (3, .int x3_5), (4, .int x4_6)] [] := by
        clear hM
        intro n
        induction n with
        | zero => intro _ _ _ hM; cases hM
        | succ n ih =>
          intro x3_5 x4_6 x3_7 hM kx0
          replace hM : b_X6_wrong_24 a0 a1 σ (m_X6_wrong_24 a0 a1 σ n) x3_5 x4_6 = some (x3_7) := hM
          unfold b_X6_wrong_24 at hM
          refine x_il C 4 rfl dX6_wrong_24 rfl ?_
          refine x_aln C 0 rfl dX6_wrong_26 rfl ?_
          refine gXg_0_now C kf_X6_10 dX6_wrong_27 rfl ?_
          refine gXg_1_people C kf_X6_113 dX6_wrong_30 rfl ?_
          refine x_ic_ge (tgt := 77) C dX6_wrong_33 (by decide) rfl (fun hc => ?_) (fun hc => ?_)
          · replace hM := gif_pos hc hM
            cases hM
            exact x_sub [3] rfl (kx0)
          · replace hM := gif_neg hc hM
            refine x_aln C 0 rfl dX6_wrong_36 rfl ?_
            refine gXg_0_now C kf_X6_10 dX6_wrong_37 rfl ?_
            refine x_il C 4 rfl dX6_wrong_40 rfl ?_
            refine x_iln C 2 rfl dX6_wrong_42 rfl ?_
            refine x_ic (v := 0) C (by decide) dX6_wrong_43 rfl ?_
            obtain ⟨r9, h8, hM⟩ := gb1_some hM
            refine x_cvi (As := [.int x4_6, .int a1, .int 0]) (rest := []) C E.2.2.2.2.2 3 (c_X1_standsAtHomeIn hG h8) (gBv km_X6_240 kin_X1_standsAtHomeIn ksel_X1_standsAtHomeIn kini_X1 kc_X1_standsAtHomeIn) rfl rfl rfl ⟨rfl, by decide +kernel, by decide +kernel, by decide +kernel⟩ ⟨Nat.le_of_ble_eq_true rfl, Nat.le_of_ble_eq_true rfl⟩ (by show 1 < 213; decide) rfl rfl rfl rfl (Nat.le_of_ble_eq_true rfl) dX6_wrong_44 rfl ?_
            refine x_if_eq (tgt := 71) C dX6_wrong_47 (by decide) rfl (fun hc => ?_) (fun hc => ?_)
            · replace hM := gif_pos hc hM
              obtain ⟨x4_10, ev, hM⟩ := gnm_ex hM
              refine x_iinc (j := 4) (w := 1) (lv' := [(4, .int x4_10), (0, .ref (ad 0)), (1, .int a0), (2, .int a1), (3, .int x3_5)]) C rfl ev (by decide) (by decide) rfl dX6_wrong_71 rfl ?_
              refine x_goto (tgt := 24) C dX6_wrong_74 (by decide) ?_
              exact x_sub [1, 2, 3, 4, 0] rfl (ih x3_5 x4_10 _ hM kx0)
            · replace hM := gif_neg hc hM
              refine x_aln C 0 rfl dX6_wrong_50 rfl ?_
              refine gXg_0_now C kf_X6_10 dX6_wrong_51 rfl ?_
              refine x_il C 4 rfl dX6_wrong_54 rfl ?_
              refine x_iln C 2 rfl dX6_wrong_56 rfl ?_
              refine x_iln C 1 rfl dX6_wrong_57 rfl ?_
              obtain ⟨r12, h11, hM⟩ := gb1_some hM
              refine x_cvi (As := [.int x4_6, .int a1, .int a0]) (rest := []) C E.2.2.2.2.2 3 (c_X1_standsAtHomeIn hG h11) (gBv km_X6_240 kin_X1_standsAtHomeIn ksel_X1_standsAtHomeIn kini_X1 kc_X1_standsAtHomeIn) rfl rfl rfl ⟨rfl, by decide +kernel, by decide +kernel, by decide +kernel⟩ ⟨Nat.le_of_ble_eq_true rfl, Nat.le_of_ble_eq_true rfl⟩ (by show 1 < 213; decide) rfl rfl rfl rfl (Nat.le_of_ble_eq_true rfl) dX6_wrong_58 rfl ?_
              refine x_if_ne (tgt := 71) C dX6_wrong_61 (by decide) rfl (fun hc => ?_) (fun hc => ?_)
              · replace hM := gif_neg hc hM
                obtain ⟨x4_13, ev, hM⟩ := gnm_ex hM
                refine x_iinc (j := 4) (w := 1) (lv' := [(4, .int x4_13), (0, .ref (ad 0)), (1, .int a0), (2, .int a1), (3, .int x3_5)]) C rfl ev (by decide) (by decide) rfl dX6_wrong_71 rfl ?_
                refine x_goto (tgt := 24) C dX6_wrong_74 (by decide) ?_
                exact x_sub [1, 2, 3, 4, 0] rfl (ih x3_5 x4_13 _ hM kx0)
              · replace hM := gif_pos hc hM
                refine x_iln C 3 rfl dX6_wrong_64 rfl ?_
                refine x_ic (v := 1) C (by decide) dX6_wrong_65 rfl ?_
                refine x_il C 4 rfl dX6_wrong_66 rfl ?_
                refine x_ishl C dX6_wrong_68 rfl ?_
                refine x_ior C dX6_wrong_69 rfl ?_
                obtain ⟨x3_14, ev, hM⟩ := gnm_ex hM
                refine x_istn (lv' := [(3, .int x3_14), (0, .ref (ad 0)), (1, .int a0), (2, .int a1), (4, .int x4_6)]) C rfl ev (by decide) rfl dX6_wrong_70 rfl ?_
                obtain ⟨x4_15, ev, hM⟩ := gnm_ex hM
                refine x_iinc (j := 4) (w := 1) (lv' := [(4, .int x4_15), (3, .int x3_14), (0, .ref (ad 0)), (1, .int a0), (2, .int a1)]) C rfl ev (by decide) (by decide) rfl dX6_wrong_71 rfl ?_
                refine x_goto (tgt := 24) C dX6_wrong_74 (by decide) ?_
                exact x_sub [2, 3, 4, 1, 0] rfl (ih x3_14 x4_15 _ hM kx0)
      obtain ⟨x3_7, hL16, hM⟩ := gb1_some hM
      refine x_sub [2, 3, 4, 1, 0] rfl (L24 gFU 0 0 _ hL16 ?_)
      clear L24
      refine x_iln C 0 rfl dX6_wrong_77 rfl ?_
      exact x_iret C E ⟨gs1 hM, rfl⟩ dX6_wrong_78
    · replace hM := gif_pos hc hM
      refine x_ic (v := (-1)) C (by decide) dX6_wrong_17 rfl ?_
      exact x_iret C E ⟨gs1 hM, rfl⟩ dX6_wrong_18
set_option maxRecDepth 100000 in
set_option maxHeartbeats 4000000 in
theorem c_X6_clear {l : Launch} {D : va_G} {ad : Nat → Nat} {cy : Nat → ClassId} {b : Nat} (hG : gInj (gGX D ad cy b))  {σ : gMem} {r0 : Int32} {σ0 : gMem} (hM : m_X6_clear  σ = some (r0, σ0)) : gMi l yX6_clear (Cond.code yX6_clear cX6_clear 2 (some .int) :: gBig) { frames := 0, cells := 0, slots := 0, locals := 0 } (gGX D ad cy b) [.ref (ad 0)] σ r0 σ0 := by
  refine gIntro (own := RX6) hG (by decide +kernel) rfl rfl (Nat.le_of_ble_eq_true rfl) (lv := [(0, .ref (ad 0))]) rfl (fun κ C E => ?_)
  unfold m_X6_clear at hM
  refine x_aln C 0 rfl dX6_clear_0 rfl ?_
  refine gXg_0_now C kf_X6_10 dX6_clear_1 rfl ?_
  refine gXg_1_people C kf_X6_113 dX6_clear_4 rfl ?_
  obtain ⟨x1_1, ev, hM⟩ := gnm_ex hM
  refine x_istn (lv' := [(1, .int x1_1), (0, .ref (ad 0))]) C rfl ev (by decide) rfl dX6_clear_7 rfl ?_
  refine x_aln C 1 rfl dX6_clear_8 rfl ?_
  refine gXg_0_now C kf_X6_10 dX6_clear_9 rfl ?_
  refine x_ic (v := 0) C (by decide) dX6_clear_12 rfl ?_
  obtain ⟨s2, ev, hM⟩ := gnm_ex hM
  refine gXp_1_people C ev kf_X6_113 dX6_clear_13 rfl ?_
  refine x_aln C 1 rfl dX6_clear_16 rfl ?_
  refine gXg_0_now C kf_X6_10 dX6_clear_17 rfl ?_
  refine x_ic (v := 0) C (by decide) dX6_clear_20 rfl ?_
  obtain ⟨s3, ev, hM⟩ := gnm_ex hM
  refine gXp_1_needs C ev kf_X6_163 dX6_clear_21 rfl ?_
  refine x_iln C 0 rfl dX6_clear_24 rfl ?_
  exact x_iret C E (gs2 hM) dX6_clear_25
set_option maxRecDepth 100000 in
set_option maxHeartbeats 4000000 in
theorem c_X1_become_b {l : Launch} {D : va_G} {ad : Nat → Nat} {cy : Nat → ClassId} {b : Nat} (hG : gInj (gGX D ad cy b))  {σ : gMem} {σ0 : gMem} (hM : m_X1_become_b  σ = some σ0) : gMv l yX1_become (Cond.code yX1_become cX1_become 3 none :: gBig) { frames := 1, cells := 0, slots := 0, locals := 60 } (gGX D ad cy b) [.ref (ad 25), .ref (ad 1)] σ σ0 := by
  refine gIntro (own := RX1) hG (by decide +kernel) rfl rfl (Nat.le_of_ble_eq_true rfl) (lv := [(0, .ref (ad 25)), (1, .ref (ad 1))]) rfl (fun κ C E => ?_)
  unfold m_X1_become_b at hM
  refine x_aln C 0 rfl dX1_become_0 rfl ?_
  refine x_aln C 1 rfl dX1_become_1 rfl ?_
  refine gXg_1_places C kf_X1_51 dX1_become_2 rfl ?_
  obtain ⟨s1, ev, hM⟩ := gnm_ex hM
  refine gXp_25_places C ev kf_X1_51 dX1_become_5 rfl ?_
  refine x_aln C 0 rfl dX1_become_8 rfl ?_
  refine x_aln C 1 rfl dX1_become_9 rfl ?_
  refine gXg_1_floodTold C kf_X1_54 dX1_become_10 rfl ?_
  obtain ⟨s2, ev, hM⟩ := gnm_ex hM
  refine gXp_25_floodTold C ev kf_X1_54 dX1_become_13 rfl ?_
  refine x_aln C 0 rfl dX1_become_16 rfl ?_
  refine x_aln C 1 rfl dX1_become_17 rfl ?_
  refine gXg_1_reach C kf_X1_29 dX1_become_18 rfl ?_
  obtain ⟨s3, ev, hM⟩ := gnm_ex hM
  refine gXp_25_reach C ev kf_X1_29 dX1_become_21 rfl ?_
  refine x_aln C 0 rfl dX1_become_24 rfl ?_
  refine x_aln C 1 rfl dX1_become_25 rfl ?_
  refine gXg_1_people C kf_X1_57 dX1_become_26 rfl ?_
  obtain ⟨s4, ev, hM⟩ := gnm_ex hM
  refine gXp_25_people C ev kf_X1_57 dX1_become_29 rfl ?_
  refine x_aln C 0 rfl dX1_become_32 rfl ?_
  refine x_aln C 1 rfl dX1_become_33 rfl ?_
  refine gXg_1_needs C kf_X1_60 dX1_become_34 rfl ?_
  obtain ⟨s5, ev, hM⟩ := gnm_ex hM
  refine gXp_25_needs C ev kf_X1_60 dX1_become_37 rfl ?_
  refine x_aln C 0 rfl dX1_become_40 rfl ?_
  refine x_aln C 1 rfl dX1_become_41 rfl ?_
  refine gXg_1_yearsGone C kf_X1_63 dX1_become_42 rfl ?_
  obtain ⟨s6, ev, hM⟩ := gnm_ex hM
  refine gXp_25_yearsGone C ev kf_X1_63 dX1_become_45 rfl ?_
  refine x_aln C 1 rfl dX1_become_48 rfl ?_
  refine gXg_1_depths C kf_X1_9 dX1_become_49 rfl ?_
  refine x_ic (v := 0) C (by decide) dX1_become_52 rfl ?_
  refine x_aln C 0 rfl dX1_become_53 rfl ?_
  refine gXg_25_depths C kf_X1_9 dX1_become_54 rfl ?_
  refine x_ic (v := 0) C (by decide) dX1_become_57 rfl ?_
  refine x_bi (v := 12) C (by decide) dX1_become_58 rfl ?_
  obtain ⟨h7, hM⟩ := gck_some hM
  obtain ⟨s8, ev, hM⟩ := gnm_ex hM
  refine x_copy (k0 := 2) (k1 := 26) C ev (gBc km_X1_66) (gBc kna_System_arraycopy) (gBc kst_System_arraycopy) (gBc kini_J10) (by show 2 < 213; decide) (by show 26 < 213; decide) (fun _ => rfl) (fun _ => rfl) rfl h7 (by decide) (Nat.le_of_ble_eq_true rfl) dX1_become_60 rfl ?_
  refine x_aln C 1 rfl dX1_become_63 rfl ?_
  refine gXg_1_splices C kf_X1_15 dX1_become_64 rfl ?_
  refine x_ic (v := 0) C (by decide) dX1_become_67 rfl ?_
  refine x_aln C 0 rfl dX1_become_68 rfl ?_
  refine gXg_25_splices C kf_X1_15 dX1_become_69 rfl ?_
  refine x_ic (v := 0) C (by decide) dX1_become_72 rfl ?_
  refine x_bi (v := 12) C (by decide) dX1_become_73 rfl ?_
  obtain ⟨h9, hM⟩ := gck_some hM
  obtain ⟨s10, ev, hM⟩ := gnm_ex hM
  refine x_copy (k0 := 3) (k1 := 27) C ev (gBc km_X1_66) (gBc kna_System_arraycopy) (gBc kst_System_arraycopy) (gBc kini_J10) (by show 3 < 213; decide) (by show 27 < 213; decide) (fun _ => rfl) (fun _ => rfl) rfl h9 (by decide) (Nat.le_of_ble_eq_true rfl) dX1_become_75 rfl ?_
  refine x_aln C 1 rfl dX1_become_78 rfl ?_
  refine gXg_1_silts C kf_X1_18 dX1_become_79 rfl ?_
  refine x_ic (v := 0) C (by decide) dX1_become_82 rfl ?_
  refine x_aln C 0 rfl dX1_become_83 rfl ?_
  refine gXg_25_silts C kf_X1_18 dX1_become_84 rfl ?_
  refine x_ic (v := 0) C (by decide) dX1_become_87 rfl ?_
  refine x_bi (v := 12) C (by decide) dX1_become_88 rfl ?_
  obtain ⟨h11, hM⟩ := gck_some hM
  obtain ⟨s12, ev, hM⟩ := gnm_ex hM
  refine x_copy (k0 := 4) (k1 := 28) C ev (gBc km_X1_66) (gBc kna_System_arraycopy) (gBc kst_System_arraycopy) (gBc kini_J10) (by show 4 < 213; decide) (by show 28 < 213; decide) (fun _ => rfl) (fun _ => rfl) rfl h11 (by decide) (Nat.le_of_ble_eq_true rfl) dX1_become_90 rfl ?_
  refine x_aln C 1 rfl dX1_become_93 rfl ?_
  refine gXg_1_tideAt C kf_X1_26 dX1_become_94 rfl ?_
  refine x_ic (v := 0) C (by decide) dX1_become_97 rfl ?_
  refine x_aln C 0 rfl dX1_become_98 rfl ?_
  refine gXg_25_tideAt C kf_X1_26 dX1_become_99 rfl ?_
  refine x_ic (v := 0) C (by decide) dX1_become_102 rfl ?_
  refine x_bi (v := 24) C (by decide) dX1_become_103 rfl ?_
  obtain ⟨h13, hM⟩ := gck_some hM
  obtain ⟨s14, ev, hM⟩ := gnm_ex hM
  refine x_copy (k0 := 6) (k1 := 30) C ev (gBc km_X1_66) (gBc kna_System_arraycopy) (gBc kst_System_arraycopy) (gBc kini_J10) (by show 6 < 213; decide) (by show 30 < 213; decide) (fun _ => rfl) (fun _ => rfl) rfl h13 (by decide) (Nat.le_of_ble_eq_true rfl) dX1_become_105 rfl ?_
  refine x_aln C 1 rfl dX1_become_108 rfl ?_
  refine gXg_1_kinds C kf_X1_33 dX1_become_109 rfl ?_
  refine x_ic (v := 0) C (by decide) dX1_become_112 rfl ?_
  refine x_aln C 0 rfl dX1_become_113 rfl ?_
  refine gXg_25_kinds C kf_X1_33 dX1_become_114 rfl ?_
  refine x_ic (v := 0) C (by decide) dX1_become_117 rfl ?_
  refine x_bi (v := 8) C (by decide) dX1_become_118 rfl ?_
  obtain ⟨h15, hM⟩ := gck_some hM
  obtain ⟨s16, ev, hM⟩ := gnm_ex hM
  refine x_copy (k0 := 7) (k1 := 31) C ev (gBc km_X1_66) (gBc kna_System_arraycopy) (gBc kst_System_arraycopy) (gBc kini_J10) (by show 7 < 213; decide) (by show 31 < 213; decide) (fun _ => rfl) (fun _ => rfl) rfl h15 (by decide) (Nat.le_of_ble_eq_true rfl) dX1_become_120 rfl ?_
  refine x_aln C 1 rfl dX1_become_123 rfl ?_
  refine gXg_1_told C kf_X1_36 dX1_become_124 rfl ?_
  refine x_ic (v := 0) C (by decide) dX1_become_127 rfl ?_
  refine x_aln C 0 rfl dX1_become_128 rfl ?_
  refine gXg_25_told C kf_X1_36 dX1_become_129 rfl ?_
  refine x_ic (v := 0) C (by decide) dX1_become_132 rfl ?_
  refine x_bi (v := 8) C (by decide) dX1_become_133 rfl ?_
  obtain ⟨h17, hM⟩ := gck_some hM
  obtain ⟨s18, ev, hM⟩ := gnm_ex hM
  refine x_copy (k0 := 8) (k1 := 32) C ev (gBc km_X1_66) (gBc kna_System_arraycopy) (gBc kst_System_arraycopy) (gBc kini_J10) (by show 8 < 213; decide) (by show 32 < 213; decide) (fun _ => rfl) (fun _ => rfl) rfl h17 (by decide) (Nat.le_of_ble_eq_true rfl) dX1_become_135 rfl ?_
  refine x_aln C 1 rfl dX1_become_138 rfl ?_
  refine gXg_1_homes C kf_X1_39 dX1_become_139 rfl ?_
  refine x_ic (v := 0) C (by decide) dX1_become_142 rfl ?_
  refine x_aln C 0 rfl dX1_become_143 rfl ?_
  refine gXg_25_homes C kf_X1_39 dX1_become_144 rfl ?_
  refine x_ic (v := 0) C (by decide) dX1_become_147 rfl ?_
  refine x_bi (v := 8) C (by decide) dX1_become_148 rfl ?_
  obtain ⟨h19, hM⟩ := gck_some hM
  obtain ⟨s20, ev, hM⟩ := gnm_ex hM
  refine x_copy (k0 := 9) (k1 := 33) C ev (gBc km_X1_66) (gBc kna_System_arraycopy) (gBc kst_System_arraycopy) (gBc kini_J10) (by show 9 < 213; decide) (by show 33 < 213; decide) (fun _ => rfl) (fun _ => rfl) rfl h19 (by decide) (Nat.le_of_ble_eq_true rfl) dX1_become_150 rfl ?_
  refine x_aln C 1 rfl dX1_become_153 rfl ?_
  refine gXg_1_needers C kf_X1_42 dX1_become_154 rfl ?_
  refine x_ic (v := 0) C (by decide) dX1_become_157 rfl ?_
  refine x_aln C 0 rfl dX1_become_158 rfl ?_
  refine gXg_25_needers C kf_X1_42 dX1_become_159 rfl ?_
  refine x_ic (v := 0) C (by decide) dX1_become_162 rfl ?_
  refine x_bi (v := 10) C (by decide) dX1_become_163 rfl ?_
  obtain ⟨h21, hM⟩ := gck_some hM
  obtain ⟨s22, ev, hM⟩ := gnm_ex hM
  refine x_copy (k0 := 10) (k1 := 34) C ev (gBc km_X1_66) (gBc kna_System_arraycopy) (gBc kst_System_arraycopy) (gBc kini_J10) (by show 10 < 213; decide) (by show 34 < 213; decide) (fun _ => rfl) (fun _ => rfl) rfl h21 (by decide) (Nat.le_of_ble_eq_true rfl) dX1_become_165 rfl ?_
  refine x_aln C 1 rfl dX1_become_168 rfl ?_
  refine gXg_1_needPlaces C kf_X1_45 dX1_become_169 rfl ?_
  refine x_ic (v := 0) C (by decide) dX1_become_172 rfl ?_
  refine x_aln C 0 rfl dX1_become_173 rfl ?_
  refine gXg_25_needPlaces C kf_X1_45 dX1_become_174 rfl ?_
  refine x_ic (v := 0) C (by decide) dX1_become_177 rfl ?_
  refine x_bi (v := 10) C (by decide) dX1_become_178 rfl ?_
  obtain ⟨h23, hM⟩ := gck_some hM
  obtain ⟨s24, ev, hM⟩ := gnm_ex hM
  refine x_copy (k0 := 11) (k1 := 35) C ev (gBc km_X1_66) (gBc kna_System_arraycopy) (gBc kst_System_arraycopy) (gBc kini_J10) (by show 11 < 213; decide) (by show 35 < 213; decide) (fun _ => rfl) (fun _ => rfl) rfl h23 (by decide) (Nat.le_of_ble_eq_true rfl) dX1_become_180 rfl ?_
  refine x_aln C 1 rfl dX1_become_183 rfl ?_
  refine gXg_1_needHours C kf_X1_48 dX1_become_184 rfl ?_
  refine x_ic (v := 0) C (by decide) dX1_become_187 rfl ?_
  refine x_aln C 0 rfl dX1_become_188 rfl ?_
  refine gXg_25_needHours C kf_X1_48 dX1_become_189 rfl ?_
  refine x_ic (v := 0) C (by decide) dX1_become_192 rfl ?_
  refine x_bi (v := 10) C (by decide) dX1_become_193 rfl ?_
  obtain ⟨h25, hM⟩ := gck_some hM
  obtain ⟨s26, ev, hM⟩ := gnm_ex hM
  refine x_copy (k0 := 12) (k1 := 36) C ev (gBc km_X1_66) (gBc kna_System_arraycopy) (gBc kst_System_arraycopy) (gBc kini_J10) (by show 12 < 213; decide) (by show 36 < 213; decide) (fun _ => rfl) (fun _ => rfl) rfl h25 (by decide) (Nat.le_of_ble_eq_true rfl) dX1_become_195 rfl ?_
  refine x_ic (v := 0) C (by decide) dX1_become_198 rfl ?_
  refine x_istn (lv' := [(2, .int 0), (0, .ref (ad 25)), (1, .ref (ad 1))]) C rfl rfl (by decide) rfl dX1_become_199 rfl ?_
  have L200 : ∀ (n : Nat) (x2_27 : Int32) (s28 : gMem) (s29 : gMem), m_X1_become_b_200 n x2_27 s28 = some (s29) → (wx κ (gGX D ad cy b) (gA (gGX D ad cy b)) 3 s29 231 [] []) → wx κ (gGX D ad cy b) (gA (gGX D ad cy b)) 3 s28 200 [(0, .ref (ad 25)), (1, .ref (ad 1)), (2, .int x2_27)] [] := by
    clear hM
    intro n
    induction n with
    | zero => intro _ _ _ hM; cases hM
    | succ n ih =>
      intro x2_27 s28 s29 hM kx0
      replace hM : b_X1_become_b_200 (m_X1_become_b_200 n) x2_27 s28 = some (s29) := hM
      unfold b_X1_become_b_200 at hM
      refine x_iln C 2 rfl dX1_become_200 rfl ?_
      refine x_bi (v := 12) C (by decide) dX1_become_201 rfl ?_
      refine x_ic_ge (tgt := 231) C dX1_become_203 (by decide) rfl (fun hc => ?_) (fun hc => ?_)
      · replace hM := gif_pos hc hM
        cases hM
        exact x_sub [] rfl (kx0)
      · replace hM := gif_neg hc hM
        refine x_aln C 1 rfl dX1_become_206 rfl ?_
        refine gXg_1_minutes C kf_X1_23 dX1_become_207 rfl ?_
        refine x_iln C 2 rfl dX1_become_210 rfl ?_
        obtain ⟨h30, hM⟩ := gck_some hM
        refine gXo_5 C h30 dX1_become_211 rfl ?_
        refine x_ic (v := 0) C (by decide) dX1_become_212 rfl ?_
        refine x_aln C 0 rfl dX1_become_213 rfl ?_
        refine gXg_25_minutes C kf_X1_23 dX1_become_214 rfl ?_
        refine x_iln C 2 rfl dX1_become_217 rfl ?_
        obtain ⟨h31, hM⟩ := gck_some hM
        refine gXo_29 C h31 dX1_become_218 rfl ?_
        refine x_ic (v := 0) C (by decide) dX1_become_219 rfl ?_
        refine x_bi (v := 12) C (by decide) dX1_become_220 rfl ?_
        obtain ⟨h32, hM⟩ := gck_some hM
        obtain ⟨s33, ev, hM⟩ := gnm_ex hM
        refine x_copy (k0 := (13 + x2_27.toNatClampNeg)) (k1 := (37 + x2_27.toNatClampNeg)) C ev (gBc km_X1_66) (gBc kna_System_arraycopy) (gBc kst_System_arraycopy) (gBc kini_J10) (gXlt_rown (inb_lt h30) ) (gXlt_rowk (inb_lt h31) ) (fun _ => gXe_rown (inb_lt h30) ) (fun _ => gXe_rowk (inb_lt h31) ) rfl h32 (by decide) (Nat.le_of_ble_eq_true rfl) dX1_become_222 rfl ?_
        obtain ⟨x2_34, ev, hM⟩ := gnm_ex hM
        refine x_iinc (j := 2) (w := 1) (lv' := [(2, .int x2_34), (0, .ref (ad 25)), (1, .ref (ad 1))]) C rfl ev (by decide) (by decide) rfl dX1_become_225 rfl ?_
        refine x_goto (tgt := 200) C dX1_become_228 (by decide) ?_
        exact x_sub [1, 2, 0] rfl (ih x2_34 s33 _ hM kx0)
  obtain ⟨s29, hL35, hM⟩ := gb1_some hM
  refine x_sub [1, 2, 0] rfl (L200 gFU 0 s26 _ hL35 ?_)
  clear L200
  exact x_vret C E (gs1 hM) dX1_become_231
set_option maxRecDepth 100000 in
set_option maxHeartbeats 4000000 in
theorem c_X6_image {l : Launch} {D : va_G} {ad : Nat → Nat} {cy : Nat → ClassId} {b : Nat} (hG : gInj (gGX D ad cy b))  {σ : gMem} {r0 : Int32} {σ0 : gMem} (hM : m_X6_image  σ = some (r0, σ0)) : gMi l yX6_image (Cond.code yX6_image cX6_image 1 (some .int) :: gBig) { frames := 2, cells := 0, slots := 0, locals := 82 } (gGX D ad cy b) [.ref (ad 0)] σ r0 σ0 := by
  refine gIntro (own := RX6) hG (by decide +kernel) rfl rfl (Nat.le_of_ble_eq_true rfl) (lv := [(0, .ref (ad 0))]) rfl (fun κ C E => ?_)
  unfold m_X6_image at hM
  refine x_aln C 0 rfl dX6_image_0 rfl ?_
  refine gXg_0_kept C kf_X6_16 dX6_image_1 rfl ?_
  refine x_aln C 0 rfl dX6_image_4 rfl ?_
  refine gXg_0_now C kf_X6_10 dX6_image_5 rfl ?_
  obtain ⟨s2, h1, hM⟩ := gb1_some hM
  refine x_cvv (As := [.ref (ad 1)]) (rest := []) C E.2.2.2.2.2 1 (c_X1_become_b hG h1) (gBv km_X6_243 kin_X1_become ksel_X1_become kini_X1 kc_X1_become) rfl rfl rfl ⟨rfl, by decide +kernel, by decide +kernel, by decide +kernel⟩ ⟨Nat.le_of_ble_eq_true rfl, Nat.le_of_ble_eq_true rfl⟩ (by show 25 < 213; decide) rfl rfl rfl rfl (Nat.le_of_ble_eq_true rfl) dX6_image_8 rfl ?_
  refine x_aln C 0 rfl dX6_image_11 rfl ?_
  refine x_ic (v := 1) C (by decide) dX6_image_12 rfl ?_
  obtain ⟨s3, ev, hM⟩ := gnm_ex hM
  refine gXp_0_keeps C ev rfl rfl kf_X6_246 dX6_image_13 rfl ?_
  refine x_ic (v := 1) C (by decide) dX6_image_16 rfl ?_
  exact x_iret C E (gs2 hM) dX6_image_17
set_option maxRecDepth 100000 in
set_option maxHeartbeats 4000000 in
theorem c_X1_become_a {l : Launch} {D : va_G} {ad : Nat → Nat} {cy : Nat → ClassId} {b : Nat} (hG : gInj (gGX D ad cy b))  {σ : gMem} {σ0 : gMem} (hM : m_X1_become_a  σ = some σ0) : gMv l yX1_become (Cond.code yX1_become cX1_become 3 none :: gBig) { frames := 1, cells := 0, slots := 0, locals := 60 } (gGX D ad cy b) [.ref (ad 1), .ref (ad 25)] σ σ0 := by
  refine gIntro (own := RX1) hG (by decide +kernel) rfl rfl (Nat.le_of_ble_eq_true rfl) (lv := [(0, .ref (ad 1)), (1, .ref (ad 25))]) rfl (fun κ C E => ?_)
  unfold m_X1_become_a at hM
  refine x_aln C 0 rfl dX1_become_0 rfl ?_
  refine x_aln C 1 rfl dX1_become_1 rfl ?_
  refine gXg_25_places C kf_X1_51 dX1_become_2 rfl ?_
  obtain ⟨s1, ev, hM⟩ := gnm_ex hM
  refine gXp_1_places C ev kf_X1_51 dX1_become_5 rfl ?_
  refine x_aln C 0 rfl dX1_become_8 rfl ?_
  refine x_aln C 1 rfl dX1_become_9 rfl ?_
  refine gXg_25_floodTold C kf_X1_54 dX1_become_10 rfl ?_
  obtain ⟨s2, ev, hM⟩ := gnm_ex hM
  refine gXp_1_floodTold C ev kf_X1_54 dX1_become_13 rfl ?_
  refine x_aln C 0 rfl dX1_become_16 rfl ?_
  refine x_aln C 1 rfl dX1_become_17 rfl ?_
  refine gXg_25_reach C kf_X1_29 dX1_become_18 rfl ?_
  obtain ⟨s3, ev, hM⟩ := gnm_ex hM
  refine gXp_1_reach C ev kf_X1_29 dX1_become_21 rfl ?_
  refine x_aln C 0 rfl dX1_become_24 rfl ?_
  refine x_aln C 1 rfl dX1_become_25 rfl ?_
  refine gXg_25_people C kf_X1_57 dX1_become_26 rfl ?_
  obtain ⟨s4, ev, hM⟩ := gnm_ex hM
  refine gXp_1_people C ev kf_X1_57 dX1_become_29 rfl ?_
  refine x_aln C 0 rfl dX1_become_32 rfl ?_
  refine x_aln C 1 rfl dX1_become_33 rfl ?_
  refine gXg_25_needs C kf_X1_60 dX1_become_34 rfl ?_
  obtain ⟨s5, ev, hM⟩ := gnm_ex hM
  refine gXp_1_needs C ev kf_X1_60 dX1_become_37 rfl ?_
  refine x_aln C 0 rfl dX1_become_40 rfl ?_
  refine x_aln C 1 rfl dX1_become_41 rfl ?_
  refine gXg_25_yearsGone C kf_X1_63 dX1_become_42 rfl ?_
  obtain ⟨s6, ev, hM⟩ := gnm_ex hM
  refine gXp_1_yearsGone C ev kf_X1_63 dX1_become_45 rfl ?_
  refine x_aln C 1 rfl dX1_become_48 rfl ?_
  refine gXg_25_depths C kf_X1_9 dX1_become_49 rfl ?_
  refine x_ic (v := 0) C (by decide) dX1_become_52 rfl ?_
  refine x_aln C 0 rfl dX1_become_53 rfl ?_
  refine gXg_1_depths C kf_X1_9 dX1_become_54 rfl ?_
  refine x_ic (v := 0) C (by decide) dX1_become_57 rfl ?_
  refine x_bi (v := 12) C (by decide) dX1_become_58 rfl ?_
  obtain ⟨h7, hM⟩ := gck_some hM
  obtain ⟨s8, ev, hM⟩ := gnm_ex hM
  refine x_copy (k0 := 26) (k1 := 2) C ev (gBc km_X1_66) (gBc kna_System_arraycopy) (gBc kst_System_arraycopy) (gBc kini_J10) (by show 26 < 213; decide) (by show 2 < 213; decide) (fun _ => rfl) (fun _ => rfl) rfl h7 (by decide) (Nat.le_of_ble_eq_true rfl) dX1_become_60 rfl ?_
  refine x_aln C 1 rfl dX1_become_63 rfl ?_
  refine gXg_25_splices C kf_X1_15 dX1_become_64 rfl ?_
  refine x_ic (v := 0) C (by decide) dX1_become_67 rfl ?_
  refine x_aln C 0 rfl dX1_become_68 rfl ?_
  refine gXg_1_splices C kf_X1_15 dX1_become_69 rfl ?_
  refine x_ic (v := 0) C (by decide) dX1_become_72 rfl ?_
  refine x_bi (v := 12) C (by decide) dX1_become_73 rfl ?_
  obtain ⟨h9, hM⟩ := gck_some hM
  obtain ⟨s10, ev, hM⟩ := gnm_ex hM
  refine x_copy (k0 := 27) (k1 := 3) C ev (gBc km_X1_66) (gBc kna_System_arraycopy) (gBc kst_System_arraycopy) (gBc kini_J10) (by show 27 < 213; decide) (by show 3 < 213; decide) (fun _ => rfl) (fun _ => rfl) rfl h9 (by decide) (Nat.le_of_ble_eq_true rfl) dX1_become_75 rfl ?_
  refine x_aln C 1 rfl dX1_become_78 rfl ?_
  refine gXg_25_silts C kf_X1_18 dX1_become_79 rfl ?_
  refine x_ic (v := 0) C (by decide) dX1_become_82 rfl ?_
  refine x_aln C 0 rfl dX1_become_83 rfl ?_
  refine gXg_1_silts C kf_X1_18 dX1_become_84 rfl ?_
  refine x_ic (v := 0) C (by decide) dX1_become_87 rfl ?_
  refine x_bi (v := 12) C (by decide) dX1_become_88 rfl ?_
  obtain ⟨h11, hM⟩ := gck_some hM
  obtain ⟨s12, ev, hM⟩ := gnm_ex hM
  refine x_copy (k0 := 28) (k1 := 4) C ev (gBc km_X1_66) (gBc kna_System_arraycopy) (gBc kst_System_arraycopy) (gBc kini_J10) (by show 28 < 213; decide) (by show 4 < 213; decide) (fun _ => rfl) (fun _ => rfl) rfl h11 (by decide) (Nat.le_of_ble_eq_true rfl) dX1_become_90 rfl ?_
  refine x_aln C 1 rfl dX1_become_93 rfl ?_
  refine gXg_25_tideAt C kf_X1_26 dX1_become_94 rfl ?_
  refine x_ic (v := 0) C (by decide) dX1_become_97 rfl ?_
  refine x_aln C 0 rfl dX1_become_98 rfl ?_
  refine gXg_1_tideAt C kf_X1_26 dX1_become_99 rfl ?_
  refine x_ic (v := 0) C (by decide) dX1_become_102 rfl ?_
  refine x_bi (v := 24) C (by decide) dX1_become_103 rfl ?_
  obtain ⟨h13, hM⟩ := gck_some hM
  obtain ⟨s14, ev, hM⟩ := gnm_ex hM
  refine x_copy (k0 := 30) (k1 := 6) C ev (gBc km_X1_66) (gBc kna_System_arraycopy) (gBc kst_System_arraycopy) (gBc kini_J10) (by show 30 < 213; decide) (by show 6 < 213; decide) (fun _ => rfl) (fun _ => rfl) rfl h13 (by decide) (Nat.le_of_ble_eq_true rfl) dX1_become_105 rfl ?_
  refine x_aln C 1 rfl dX1_become_108 rfl ?_
  refine gXg_25_kinds C kf_X1_33 dX1_become_109 rfl ?_
  refine x_ic (v := 0) C (by decide) dX1_become_112 rfl ?_
  refine x_aln C 0 rfl dX1_become_113 rfl ?_
  refine gXg_1_kinds C kf_X1_33 dX1_become_114 rfl ?_
  refine x_ic (v := 0) C (by decide) dX1_become_117 rfl ?_
  refine x_bi (v := 8) C (by decide) dX1_become_118 rfl ?_
  obtain ⟨h15, hM⟩ := gck_some hM
  obtain ⟨s16, ev, hM⟩ := gnm_ex hM
  refine x_copy (k0 := 31) (k1 := 7) C ev (gBc km_X1_66) (gBc kna_System_arraycopy) (gBc kst_System_arraycopy) (gBc kini_J10) (by show 31 < 213; decide) (by show 7 < 213; decide) (fun _ => rfl) (fun _ => rfl) rfl h15 (by decide) (Nat.le_of_ble_eq_true rfl) dX1_become_120 rfl ?_
  refine x_aln C 1 rfl dX1_become_123 rfl ?_
  refine gXg_25_told C kf_X1_36 dX1_become_124 rfl ?_
  refine x_ic (v := 0) C (by decide) dX1_become_127 rfl ?_
  refine x_aln C 0 rfl dX1_become_128 rfl ?_
  refine gXg_1_told C kf_X1_36 dX1_become_129 rfl ?_
  refine x_ic (v := 0) C (by decide) dX1_become_132 rfl ?_
  refine x_bi (v := 8) C (by decide) dX1_become_133 rfl ?_
  obtain ⟨h17, hM⟩ := gck_some hM
  obtain ⟨s18, ev, hM⟩ := gnm_ex hM
  refine x_copy (k0 := 32) (k1 := 8) C ev (gBc km_X1_66) (gBc kna_System_arraycopy) (gBc kst_System_arraycopy) (gBc kini_J10) (by show 32 < 213; decide) (by show 8 < 213; decide) (fun _ => rfl) (fun _ => rfl) rfl h17 (by decide) (Nat.le_of_ble_eq_true rfl) dX1_become_135 rfl ?_
  refine x_aln C 1 rfl dX1_become_138 rfl ?_
  refine gXg_25_homes C kf_X1_39 dX1_become_139 rfl ?_
  refine x_ic (v := 0) C (by decide) dX1_become_142 rfl ?_
  refine x_aln C 0 rfl dX1_become_143 rfl ?_
  refine gXg_1_homes C kf_X1_39 dX1_become_144 rfl ?_
  refine x_ic (v := 0) C (by decide) dX1_become_147 rfl ?_
  refine x_bi (v := 8) C (by decide) dX1_become_148 rfl ?_
  obtain ⟨h19, hM⟩ := gck_some hM
  obtain ⟨s20, ev, hM⟩ := gnm_ex hM
  refine x_copy (k0 := 33) (k1 := 9) C ev (gBc km_X1_66) (gBc kna_System_arraycopy) (gBc kst_System_arraycopy) (gBc kini_J10) (by show 33 < 213; decide) (by show 9 < 213; decide) (fun _ => rfl) (fun _ => rfl) rfl h19 (by decide) (Nat.le_of_ble_eq_true rfl) dX1_become_150 rfl ?_
  refine x_aln C 1 rfl dX1_become_153 rfl ?_
  refine gXg_25_needers C kf_X1_42 dX1_become_154 rfl ?_
  refine x_ic (v := 0) C (by decide) dX1_become_157 rfl ?_
  refine x_aln C 0 rfl dX1_become_158 rfl ?_
  refine gXg_1_needers C kf_X1_42 dX1_become_159 rfl ?_
  refine x_ic (v := 0) C (by decide) dX1_become_162 rfl ?_
  refine x_bi (v := 10) C (by decide) dX1_become_163 rfl ?_
  obtain ⟨h21, hM⟩ := gck_some hM
  obtain ⟨s22, ev, hM⟩ := gnm_ex hM
  refine x_copy (k0 := 34) (k1 := 10) C ev (gBc km_X1_66) (gBc kna_System_arraycopy) (gBc kst_System_arraycopy) (gBc kini_J10) (by show 34 < 213; decide) (by show 10 < 213; decide) (fun _ => rfl) (fun _ => rfl) rfl h21 (by decide) (Nat.le_of_ble_eq_true rfl) dX1_become_165 rfl ?_
  refine x_aln C 1 rfl dX1_become_168 rfl ?_
  refine gXg_25_needPlaces C kf_X1_45 dX1_become_169 rfl ?_
  refine x_ic (v := 0) C (by decide) dX1_become_172 rfl ?_
  refine x_aln C 0 rfl dX1_become_173 rfl ?_
  refine gXg_1_needPlaces C kf_X1_45 dX1_become_174 rfl ?_
  refine x_ic (v := 0) C (by decide) dX1_become_177 rfl ?_
  refine x_bi (v := 10) C (by decide) dX1_become_178 rfl ?_
  obtain ⟨h23, hM⟩ := gck_some hM
  obtain ⟨s24, ev, hM⟩ := gnm_ex hM
  refine x_copy (k0 := 35) (k1 := 11) C ev (gBc km_X1_66) (gBc kna_System_arraycopy) (gBc kst_System_arraycopy) (gBc kini_J10) (by show 35 < 213; decide) (by show 11 < 213; decide) (fun _ => rfl) (fun _ => rfl) rfl h23 (by decide) (Nat.le_of_ble_eq_true rfl) dX1_become_180 rfl ?_
  refine x_aln C 1 rfl dX1_become_183 rfl ?_
  refine gXg_25_needHours C kf_X1_48 dX1_become_184 rfl ?_
  refine x_ic (v := 0) C (by decide) dX1_become_187 rfl ?_
  refine x_aln C 0 rfl dX1_become_188 rfl ?_
  refine gXg_1_needHours C kf_X1_48 dX1_become_189 rfl ?_
  refine x_ic (v := 0) C (by decide) dX1_become_192 rfl ?_
  refine x_bi (v := 10) C (by decide) dX1_become_193 rfl ?_
  obtain ⟨h25, hM⟩ := gck_some hM
  obtain ⟨s26, ev, hM⟩ := gnm_ex hM
  refine x_copy (k0 := 36) (k1 := 12) C ev (gBc km_X1_66) (gBc kna_System_arraycopy) (gBc kst_System_arraycopy) (gBc kini_J10) (by show 36 < 213; decide) (by show 12 < 213; decide) (fun _ => rfl) (fun _ => rfl) rfl h25 (by decide) (Nat.le_of_ble_eq_true rfl) dX1_become_195 rfl ?_
  refine x_ic (v := 0) C (by decide) dX1_become_198 rfl ?_
  refine x_istn (lv' := [(2, .int 0), (0, .ref (ad 1)), (1, .ref (ad 25))]) C rfl rfl (by decide) rfl dX1_become_199 rfl ?_
  have L200 : ∀ (n : Nat) (x2_27 : Int32) (s28 : gMem) (s29 : gMem), m_X1_become_a_200 n x2_27 s28 = some (s29) → (wx κ (gGX D ad cy b) (gA (gGX D ad cy b)) 3 s29 231 [] []) → wx κ (gGX D ad cy b) (gA (gGX D ad cy b)) 3 s28 200 [(0, .ref (ad 1)), (1, .ref (ad 25)), (2, .int x2_27)] [] := by
    clear hM
    intro n
    induction n with
    | zero => intro _ _ _ hM; cases hM
    | succ n ih =>
      intro x2_27 s28 s29 hM kx0
      replace hM : b_X1_become_a_200 (m_X1_become_a_200 n) x2_27 s28 = some (s29) := hM
      unfold b_X1_become_a_200 at hM
      refine x_iln C 2 rfl dX1_become_200 rfl ?_
      refine x_bi (v := 12) C (by decide) dX1_become_201 rfl ?_
      refine x_ic_ge (tgt := 231) C dX1_become_203 (by decide) rfl (fun hc => ?_) (fun hc => ?_)
      · replace hM := gif_pos hc hM
        cases hM
        exact x_sub [] rfl (kx0)
      · replace hM := gif_neg hc hM
        refine x_aln C 1 rfl dX1_become_206 rfl ?_
        refine gXg_25_minutes C kf_X1_23 dX1_become_207 rfl ?_
        refine x_iln C 2 rfl dX1_become_210 rfl ?_
        obtain ⟨h30, hM⟩ := gck_some hM
        refine gXo_29 C h30 dX1_become_211 rfl ?_
        refine x_ic (v := 0) C (by decide) dX1_become_212 rfl ?_
        refine x_aln C 0 rfl dX1_become_213 rfl ?_
        refine gXg_1_minutes C kf_X1_23 dX1_become_214 rfl ?_
        refine x_iln C 2 rfl dX1_become_217 rfl ?_
        obtain ⟨h31, hM⟩ := gck_some hM
        refine gXo_5 C h31 dX1_become_218 rfl ?_
        refine x_ic (v := 0) C (by decide) dX1_become_219 rfl ?_
        refine x_bi (v := 12) C (by decide) dX1_become_220 rfl ?_
        obtain ⟨h32, hM⟩ := gck_some hM
        obtain ⟨s33, ev, hM⟩ := gnm_ex hM
        refine x_copy (k0 := (37 + x2_27.toNatClampNeg)) (k1 := (13 + x2_27.toNatClampNeg)) C ev (gBc km_X1_66) (gBc kna_System_arraycopy) (gBc kst_System_arraycopy) (gBc kini_J10) (gXlt_rowk (inb_lt h30) ) (gXlt_rown (inb_lt h31) ) (fun _ => gXe_rowk (inb_lt h30) ) (fun _ => gXe_rown (inb_lt h31) ) rfl h32 (by decide) (Nat.le_of_ble_eq_true rfl) dX1_become_222 rfl ?_
        obtain ⟨x2_34, ev, hM⟩ := gnm_ex hM
        refine x_iinc (j := 2) (w := 1) (lv' := [(2, .int x2_34), (0, .ref (ad 1)), (1, .ref (ad 25))]) C rfl ev (by decide) (by decide) rfl dX1_become_225 rfl ?_
        refine x_goto (tgt := 200) C dX1_become_228 (by decide) ?_
        exact x_sub [1, 2, 0] rfl (ih x2_34 s33 _ hM kx0)
  obtain ⟨s29, hL35, hM⟩ := gb1_some hM
  refine x_sub [1, 2, 0] rfl (L200 gFU 0 s26 _ hL35 ?_)
  clear L200
  exact x_vret C E (gs1 hM) dX1_become_231
set_option maxRecDepth 100000 in
set_option maxHeartbeats 4000000 in
theorem c_X6_restore {l : Launch} {D : va_G} {ad : Nat → Nat} {cy : Nat → ClassId} {b : Nat} (hG : gInj (gGX D ad cy b))  {σ : gMem} {r0 : Int32} {σ0 : gMem} (hM : m_X6_restore  σ = some (r0, σ0)) : gMi l yX6_restore (Cond.code yX6_restore cX6_restore 1 (some .int) :: gBig) { frames := 2, cells := 0, slots := 0, locals := 82 } (gGX D ad cy b) [.ref (ad 0)] σ r0 σ0 := by
  refine gIntro (own := RX6) hG (by decide +kernel) rfl rfl (Nat.le_of_ble_eq_true rfl) (lv := [(0, .ref (ad 0))]) rfl (fun κ C E => ?_)
  unfold m_X6_restore at hM
  refine x_aln C 0 rfl dX6_restore_0 rfl ?_
  refine gXg_0_keeps C kf_X6_246 dX6_restore_1 rfl ?_
  refine x_if_ne (tgt := 10) C dX6_restore_4 (by decide) rfl (fun hc => ?_) (fun hc => ?_)
  · replace hM := gif_neg hc hM
    refine x_aln C 0 rfl dX6_restore_10 rfl ?_
    refine gXg_0_now C kf_X6_10 dX6_restore_11 rfl ?_
    refine x_aln C 0 rfl dX6_restore_14 rfl ?_
    refine gXg_0_kept C kf_X6_16 dX6_restore_15 rfl ?_
    obtain ⟨s2, h1, hM⟩ := gb1_some hM
    refine x_cvv (As := [.ref (ad 25)]) (rest := []) C E.2.2.2.2.2 1 (c_X1_become_a hG h1) (gBv km_X6_243 kin_X1_become ksel_X1_become kini_X1 kc_X1_become) rfl rfl rfl ⟨rfl, by decide +kernel, by decide +kernel, by decide +kernel⟩ ⟨Nat.le_of_ble_eq_true rfl, Nat.le_of_ble_eq_true rfl⟩ (by show 1 < 213; decide) rfl rfl rfl rfl (Nat.le_of_ble_eq_true rfl) dX6_restore_18 rfl ?_
    refine x_ic (v := 1) C (by decide) dX6_restore_21 rfl ?_
    exact x_iret C E (gs2 hM) dX6_restore_22
  · replace hM := gif_pos hc hM
    refine x_bi (v := (-4)) C (by decide) dX6_restore_7 rfl ?_
    exact x_iret C E (gs2 hM) dX6_restore_9
set_option maxRecDepth 100000 in
set_option maxHeartbeats 4000000 in
theorem c_X6_isSheet {l : Launch} {D : va_G} {ad : Nat → Nat} {cy : Nat → ClassId} {b : Nat} (hG : gInj (gGX D ad cy b)) {a0 : Int32} {σ : gMem} {r0 : Int32} (hM : m_X6_isSheet a0 σ = some r0) : gMi l yX6_isSheet (Cond.code yX6_isSheet cX6_isSheet 1 (some .boolean) :: gBig) { frames := 1, cells := 0, slots := 0, locals := 22 } (gGX D ad cy b) [.int a0] σ r0 σ := by
  refine gIntro (own := RX6) hG (by decide +kernel) rfl rfl (Nat.le_of_ble_eq_true rfl) (lv := [(0, .int a0)]) rfl (fun κ C E => ?_)
  unfold m_X6_isSheet at hM
  refine x_iln C 0 rfl dX6_isSheet_0 rfl ?_
  refine x_ic (v := 0) C (by decide) dX6_isSheet_1 rfl ?_
  refine x_ic (v := 3) C (by decide) dX6_isSheet_2 rfl ?_
  obtain ⟨r2, h1, hM⟩ := gb1_some hM
  refine x_csi (As := [.int a0, .int 0, .int 3]) (rest := []) C E.2.2.2.2.2 3 (c_X6_within hG h1) (gBs km_X6_54 kst_X6_within kini_X6 kc_X6_within) rfl rfl rfl ⟨by decide +kernel, by decide +kernel, by decide +kernel⟩ ⟨Nat.le_of_ble_eq_true rfl, Nat.le_of_ble_eq_true rfl⟩ rfl rfl (Nat.le_of_ble_eq_true rfl) dX6_isSheet_3 rfl ?_
  obtain ⟨h3, hM⟩ := gck_some hM
  exact x_zret C E h3 ⟨gs1 hM, rfl⟩ dX6_isSheet_6
set_option maxRecDepth 100000 in
set_option maxHeartbeats 4000000 in
theorem c_X6_isLane {l : Launch} {D : va_G} {ad : Nat → Nat} {cy : Nat → ClassId} {b : Nat} (hG : gInj (gGX D ad cy b)) {a0 : Int32} {σ : gMem} {r0 : Int32} (hM : m_X6_isLane a0 σ = some r0) : gMi l yX6_isLane (Cond.code yX6_isLane cX6_isLane 1 (some .boolean) :: gBig) { frames := 1, cells := 0, slots := 0, locals := 22 } (gGX D ad cy b) [.int a0] σ r0 σ := by
  refine gIntro (own := RX6) hG (by decide +kernel) rfl rfl (Nat.le_of_ble_eq_true rfl) (lv := [(0, .int a0)]) rfl (fun κ C E => ?_)
  unfold m_X6_isLane at hM
  refine x_iln C 0 rfl dX6_isLane_0 rfl ?_
  refine x_ic (v := 0) C (by decide) dX6_isLane_1 rfl ?_
  refine x_ic (v := 2) C (by decide) dX6_isLane_2 rfl ?_
  obtain ⟨r2, h1, hM⟩ := gb1_some hM
  refine x_csi (As := [.int a0, .int 0, .int 2]) (rest := []) C E.2.2.2.2.2 3 (c_X6_within hG h1) (gBs km_X6_54 kst_X6_within kini_X6 kc_X6_within) rfl rfl rfl ⟨by decide +kernel, by decide +kernel, by decide +kernel⟩ ⟨Nat.le_of_ble_eq_true rfl, Nat.le_of_ble_eq_true rfl⟩ rfl rfl (Nat.le_of_ble_eq_true rfl) dX6_isLane_3 rfl ?_
  obtain ⟨h3, hM⟩ := gck_some hM
  exact x_zret C E h3 ⟨gs1 hM, rfl⟩ dX6_isLane_6
set_option maxRecDepth 100000 in
set_option maxHeartbeats 4000000 in
theorem c_X6_refusal {l : Launch} {D : va_G} {ad : Nat → Nat} {cy : Nat → ClassId} {b : Nat} (hG : gInj (gGX D ad cy b)) {a0 : Int32} {a1 : Int32} {σ : gMem} {r0 : Int32} (hM : m_X6_refusal a0 a1 σ = some r0) : gMi l yX6_refusal (Cond.code yX6_refusal cX6_refusal 3 (some .int) :: gBig) { frames := 2, cells := 0, slots := 0, locals := 42 } (gGX D ad cy b) [.ref (ad 0), .int a0, .int a1] σ r0 σ := by
  refine gIntro (own := RX6) hG (by decide +kernel) rfl rfl (Nat.le_of_ble_eq_true rfl) (lv := [(0, .ref (ad 0)), (1, .int a0), (2, .int a1)]) rfl (fun κ C E => ?_)
  unfold m_X6_refusal at hM
  refine x_iln C 1 rfl dX6_refusal_0 rfl ?_
  obtain ⟨r2, h1, hM⟩ := gb1_some hM
  refine x_csi (As := [.int a0]) (rest := []) C E.2.2.2.2.2 1 (c_X6_isSheet hG h1) (gBs km_X6_263 kst_X6_isSheet kini_X6 kc_X6_isSheet) rfl rfl rfl ⟨by decide +kernel, by decide +kernel, by decide +kernel⟩ ⟨Nat.le_of_ble_eq_true rfl, Nat.le_of_ble_eq_true rfl⟩ rfl rfl (Nat.le_of_ble_eq_true rfl) dX6_refusal_1 rfl ?_
  refine x_if_eq (tgt := 14) C dX6_refusal_4 (by decide) rfl (fun hc => ?_) (fun hc => ?_)
  · replace hM := gif_pos hc hM
    refine x_ic (v := (-1)) C (by decide) dX6_refusal_14 rfl ?_
    exact x_iret C E ⟨gs1 hM, rfl⟩ dX6_refusal_15
  · replace hM := gif_neg hc hM
    refine x_iln C 2 rfl dX6_refusal_7 rfl ?_
    obtain ⟨r4, h3, hM⟩ := gb1_some hM
    refine x_csi (As := [.int a1]) (rest := []) C E.2.2.2.2.2 1 (c_X6_isLane hG h3) (gBs km_X6_266 kst_X6_isLane kini_X6 kc_X6_isLane) rfl rfl rfl ⟨by decide +kernel, by decide +kernel, by decide +kernel⟩ ⟨Nat.le_of_ble_eq_true rfl, Nat.le_of_ble_eq_true rfl⟩ rfl rfl (Nat.le_of_ble_eq_true rfl) dX6_refusal_8 rfl ?_
    refine x_if_ne (tgt := 16) C dX6_refusal_11 (by decide) rfl (fun hc => ?_) (fun hc => ?_)
    · replace hM := gif_neg hc hM
      refine x_aln C 0 rfl dX6_refusal_16 rfl ?_
      refine gXg_0_sheets C kf_X6_49 dX6_refusal_17 rfl ?_
      refine x_iln C 1 rfl dX6_refusal_20 rfl ?_
      obtain ⟨h5, hM⟩ := gck_some hM
      refine gXo_204 C h5 dX6_refusal_21 rfl ?_
      refine gXg_she_there C (inb_lt h5)  kf_X6_273 dX6_refusal_22 rfl ?_
      refine x_if_ne (tgt := 31) C dX6_refusal_25 (by decide) rfl (fun hc => ?_) (fun hc => ?_)
      · replace hM := gif_neg hc hM
        refine x_aln C 0 rfl dX6_refusal_31 rfl ?_
        refine gXg_0_sheets C kf_X6_49 dX6_refusal_32 rfl ?_
        refine x_iln C 1 rfl dX6_refusal_35 rfl ?_
        obtain ⟨h6, hM⟩ := gck_some hM
        refine gXo_204 C h6 dX6_refusal_36 rfl ?_
        refine gXg_she_lane C (inb_lt h6)  kf_X6_279 dX6_refusal_37 rfl ?_
        refine x_iln C 2 rfl dX6_refusal_40 rfl ?_
        refine x_ic_ne (tgt := 48) C dX6_refusal_41 (by decide) rfl (fun hc => ?_) (fun hc => ?_)
        · replace hM := gif_neg hc hM
          refine x_bi (v := (-12)) C (by decide) dX6_refusal_48 rfl ?_
          exact x_iret C E ⟨gs1 hM, rfl⟩ dX6_refusal_50
        · replace hM := gif_pos hc hM
          refine x_ic (v := 0) C (by decide) dX6_refusal_44 rfl ?_
          refine x_goto (tgt := 50) C dX6_refusal_45 (by decide) ?_
          exact x_iret C E ⟨gs1 hM, rfl⟩ dX6_refusal_50
      · replace hM := gif_pos hc hM
        refine x_bi (v := (-11)) C (by decide) dX6_refusal_28 rfl ?_
        exact x_iret C E ⟨gs1 hM, rfl⟩ dX6_refusal_30
    · replace hM := gif_pos hc hM
      refine x_ic (v := (-1)) C (by decide) dX6_refusal_14 rfl ?_
      exact x_iret C E ⟨gs1 hM, rfl⟩ dX6_refusal_15
set_option maxRecDepth 100000 in
set_option maxHeartbeats 4000000 in
theorem c_X6_tides {l : Launch} {D : va_G} {ad : Nat → Nat} {cy : Nat → ClassId} {b : Nat} (hG : gInj (gGX D ad cy b)) {a0 : Int32} {a1 : Int32} {σ : gMem} {r0 : Int32} {σ0 : gMem} (hM : m_X6_tides a0 a1 σ = some (r0, σ0)) : gMi l yX6_tides (Cond.code yX6_tides cX6_tides 6 (some .int) :: gBig) { frames := 3, cells := 0, slots := 0, locals := 64 } (gGX D ad cy b) [.ref (ad 0), .int a0, .int a1] σ r0 σ0 := by
  refine gIntro (own := RX6) hG (by decide +kernel) rfl rfl (Nat.le_of_ble_eq_true rfl) (lv := [(0, .ref (ad 0)), (1, .int a0), (2, .int a1)]) rfl (fun κ C E => ?_)
  unfold m_X6_tides at hM
  refine x_aln C 0 rfl dX6_tides_0 rfl ?_
  refine x_iln C 1 rfl dX6_tides_1 rfl ?_
  refine x_iln C 2 rfl dX6_tides_2 rfl ?_
  obtain ⟨r2, h1, hM⟩ := gb1_some hM
  refine x_cvi (As := [.int a0, .int a1]) (rest := []) C E.2.2.2.2.2 2 (c_X6_refusal hG h1) (gBv km_X6_250 kin_X6_refusal ksel_X6_refusal kini_X6 kc_X6_refusal) rfl rfl rfl ⟨rfl, by decide +kernel, by decide +kernel, by decide +kernel⟩ ⟨Nat.le_of_ble_eq_true rfl, Nat.le_of_ble_eq_true rfl⟩ (by show 0 < 213; decide) rfl rfl rfl rfl (Nat.le_of_ble_eq_true rfl) dX6_tides_3 rfl ?_
  refine x_istn (lv' := [(3, .int r2), (0, .ref (ad 0)), (1, .int a0), (2, .int a1)]) C rfl rfl (by decide) rfl dX6_tides_6 rfl ?_
  refine x_iln C 0 rfl dX6_tides_7 rfl ?_
  refine x_if_eq (tgt := 13) C dX6_tides_8 (by decide) rfl (fun hc => ?_) (fun hc => ?_)
  · replace hM := gif_pos hc hM
    refine x_aln C 1 rfl dX6_tides_13 rfl ?_
    refine gXg_0_sheets C kf_X6_49 dX6_tides_14 rfl ?_
    refine x_iln C 2 rfl dX6_tides_17 rfl ?_
    obtain ⟨h3, hM⟩ := gck_some hM
    refine gXo_204 C h3 dX6_tides_18 rfl ?_
    refine x_ast (lv' := [(4, .ref (ad (205 + a0.toNatClampNeg))), (3, .int r2), (0, .ref (ad 0)), (1, .int a0), (2, .int a1)]) C (by decide) rfl dX6_tides_19 rfl ?_
    refine x_al C 0 rfl dX6_tides_21 rfl ?_
    refine gXg_she_length C (inb_lt h3)  kf_X6_253 dX6_tides_23 rfl ?_
    refine x_bi (v := 24) C (by decide) dX6_tides_26 rfl ?_
    refine x_ic_ge (tgt := 34) C dX6_tides_28 (by decide) rfl (fun hc => ?_) (fun hc => ?_)
    · replace hM := gif_pos hc hM
      refine x_ic (v := 0) C (by decide) dX6_tides_34 rfl ?_
      refine x_ist (lv' := [(5, .int 0), (4, .ref (ad (205 + a0.toNatClampNeg))), (3, .int r2), (0, .ref (ad 0)), (1, .int a0), (2, .int a1)]) C rfl (by decide) rfl dX6_tides_35 rfl ?_
      have L37 : ∀ (n : Nat) (x5_4 : Int32) (t5 : Nat), m_X6_tides_37 a0 σ n x5_4 = some (t5) → (t5 = 0 → wx κ (gGX D ad cy b) (gA (gGX D ad cy b)) 6 σ 62 [] []) → (t5 = 1 → wx κ (gGX D ad cy b) (gA (gGX D ad cy b)) 6 σ 71 [(0, .ref (ad 0)), (4, .ref (ad (205 + a0.toNatClampNeg)))] []) → wx κ (gGX D ad cy b) (gA (gGX D ad cy b)) 6 σ 37 [(0, .ref (ad 0)), (4, .ref (ad (205 + a0.toNatClampNeg))), (5, .int x5_4)] [] := by
        clear hM
        intro n
        induction n with
        | zero => intro _ _ hM; cases hM
        | succ n ih =>
          intro x5_4 t5 hM kx0 kx1
          replace hM : b_X6_tides_37 a0 σ (m_X6_tides_37 a0 σ n) x5_4 = some (t5) := hM
          unfold b_X6_tides_37 at hM
          refine x_il C 2 rfl dX6_tides_37 rfl ?_
          refine x_bi (v := 24) C (by decide) dX6_tides_39 rfl ?_
          refine x_ic_ge (tgt := 71) C dX6_tides_41 (by decide) rfl (fun hc => ?_) (fun hc => ?_)
          · replace hM := gif_pos hc hM
            cases hM
            exact x_sub [0, 1] rfl (kx1 rfl)
          · replace hM := gif_neg hc hM
            refine x_al C 1 rfl dX6_tides_44 rfl ?_
            refine gXg_she_items C (inb_lt h3)  kf_X6_254 dX6_tides_46 rfl ?_
            refine x_il C 2 rfl dX6_tides_49 rfl ?_
            obtain ⟨h6, hM⟩ := gck_some hM
            refine gXa_ite C (inb_lt h3) h6 dX6_tides_51 rfl ?_
            refine x_bi (v := (-20)) C (by decide) dX6_tides_52 rfl ?_
            refine x_bi (v := 20) C (by decide) dX6_tides_54 rfl ?_
            obtain ⟨r8, h7, hM⟩ := gb1_some hM
            refine x_csi (As := [.int (σ (209 + a0.toNatClampNeg) x5_4.toNatClampNeg), .int (-20), .int 20]) (rest := []) C E.2.2.2.2.2 3 (c_X6_within hG h7) (gBs km_X6_54 kst_X6_within kini_X6 kc_X6_within) rfl rfl rfl ⟨by decide +kernel, by decide +kernel, by decide +kernel⟩ ⟨Nat.le_of_ble_eq_true rfl, Nat.le_of_ble_eq_true rfl⟩ rfl rfl (Nat.le_of_ble_eq_true rfl) dX6_tides_56 rfl ?_
            refine x_if_ne (tgt := 65) C dX6_tides_59 (by decide) rfl (fun hc => ?_) (fun hc => ?_)
            · replace hM := gif_neg hc hM
              obtain ⟨x5_9, ev, hM⟩ := gnm_ex hM
              refine x_iinc (j := 2) (w := 1) (lv' := [(5, .int x5_9), (0, .ref (ad 0)), (4, .ref (ad (205 + a0.toNatClampNeg)))]) C rfl ev (by decide) (by decide) rfl dX6_tides_65 rfl ?_
              refine x_goto (tgt := 37) C dX6_tides_68 (by decide) ?_
              exact x_sub [1, 2, 0] rfl (ih x5_9 _ hM kx0 kx1)
            · replace hM := gif_pos hc hM
              cases hM
              exact x_sub [] rfl (kx0 rfl)
      obtain ⟨t5, hL10, hM⟩ := gb1_some hM
      refine x_sub [3, 1, 0] rfl (L37 gFU 0 _ hL10 (fun ht => ?_) (fun ht => ?_))
      · clear L37
        replace hM := gif_pos ht hM
        refine x_bi (v := (-2)) C (by decide) dX6_tides_62 rfl ?_
        exact x_iret C E (gs2 hM) dX6_tides_64
      · clear L37
        replace hM := gif_neg (by omega : ¬ t5 = 0) hM
        refine x_al C 1 rfl dX6_tides_71 rfl ?_
        refine gXg_she_items C (inb_lt h3)  kf_X6_254 dX6_tides_73 rfl ?_
        refine x_ic (v := 0) C (by decide) dX6_tides_76 rfl ?_
        refine x_aln C 0 rfl dX6_tides_77 rfl ?_
        refine gXg_0_now C kf_X6_10 dX6_tides_78 rfl ?_
        refine gXg_1_tideAt C kf_X6_104 dX6_tides_81 rfl ?_
        refine x_ic (v := 0) C (by decide) dX6_tides_84 rfl ?_
        refine x_bi (v := 24) C (by decide) dX6_tides_85 rfl ?_
        obtain ⟨h11, hM⟩ := gck_some hM
        obtain ⟨s12, ev, hM⟩ := gnm_ex hM
        refine x_copy (k0 := (209 + a0.toNatClampNeg)) (k1 := 6) C ev (gBc km_X6_257) (gBc kna_System_arraycopy) (gBc kst_System_arraycopy) (gBc kini_J10) (gXlt_ite (inb_lt h3) ) (by show 6 < 213; decide) (fun _ => gXe_ite (inb_lt h3) ) (fun _ => rfl) rfl h11 (by decide) (Nat.le_of_ble_eq_true rfl) dX6_tides_87 rfl ?_
        refine x_ic (v := 1) C (by decide) dX6_tides_90 rfl ?_
        exact x_iret C E (gs2 hM) dX6_tides_91
    · replace hM := gif_neg hc hM
      refine x_bi (v := (-13)) C (by decide) dX6_tides_31 rfl ?_
      exact x_iret C E (gs2 hM) dX6_tides_33
  · replace hM := gif_neg hc hM
    refine x_iln C 0 rfl dX6_tides_11 rfl ?_
    exact x_iret C E (gs2 hM) dX6_tides_12
set_option maxRecDepth 100000 in
set_option maxHeartbeats 4000000 in
theorem c_X2_hold {l : Launch} {D : va_G} {ad : Nat → Nat} {cy : Nat → ClassId} {b : Nat} (hG : gInj (gGX D ad cy b)) {i : Nat} (hi : i < 4) {a0 : Int32} {a1 : Int32} {σ : gMem} {σ0 : gMem} (hM : m_X2_hold i a0 a1 σ = some σ0) : gMv l yX2_hold (Cond.code yX2_hold cX2_hold 4 none :: gBig) { frames := 0, cells := 0, slots := 0, locals := 0 } (gGX D ad cy b) [.ref (ad (205 + i)), .int a0, .int a1] σ σ0 := by
  refine gIntro (own := RX2) hG (by decide +kernel) rfl rfl (Nat.le_of_ble_eq_true rfl) (lv := [(0, .ref (ad (205 + i))), (1, .int a0), (2, .int a1)]) rfl (fun κ C E => ?_)
  unfold m_X2_hold at hM
  refine x_aln C 0 rfl dX2_hold_0 rfl ?_
  refine x_ic (v := 1) C (by decide) dX2_hold_1 rfl ?_
  obtain ⟨s1, ev, hM⟩ := gnm_ex hM
  refine gXp_she_there C hi  ev rfl rfl kf_X2_15 dX2_hold_2 rfl ?_
  refine x_aln C 0 rfl dX2_hold_5 rfl ?_
  refine x_iln C 1 rfl dX2_hold_6 rfl ?_
  obtain ⟨s2, ev, hM⟩ := gnm_ex hM
  refine gXp_she_lane C hi  ev kf_X2_19 dX2_hold_7 rfl ?_
  refine x_aln C 0 rfl dX2_hold_10 rfl ?_
  refine x_iln C 2 rfl dX2_hold_11 rfl ?_
  obtain ⟨s3, ev, hM⟩ := gnm_ex hM
  refine gXp_she_length C hi  ev kf_X2_23 dX2_hold_12 rfl ?_
  refine x_ic (v := 0) C (by decide) dX2_hold_15 rfl ?_
  refine x_istn (lv' := [(3, .int 0), (0, .ref (ad (205 + i))), (1, .int a0), (2, .int a1)]) C rfl rfl (by decide) rfl dX2_hold_16 rfl ?_
  have L17 : ∀ (n : Nat) (x3_4 : Int32) (s5 : gMem) (s6 : gMem), m_X2_hold_17 i n x3_4 s5 = some (s6) → (wx κ (gGX D ad cy b) (gA (gGX D ad cy b)) 4 s6 36 [] []) → wx κ (gGX D ad cy b) (gA (gGX D ad cy b)) 4 s5 17 [(0, .ref (ad (205 + i))), (3, .int x3_4)] [] := by
    clear hM
    intro n
    induction n with
    | zero => intro _ _ _ hM; cases hM
    | succ n ih =>
      intro x3_4 s5 s6 hM kx0
      replace hM : b_X2_hold_17 i (m_X2_hold_17 i n) x3_4 s5 = some (s6) := hM
      unfold b_X2_hold_17 at hM
      refine x_iln C 1 rfl dX2_hold_17 rfl ?_
      refine x_bi (v := 24) C (by decide) dX2_hold_18 rfl ?_
      refine x_ic_ge (tgt := 36) C dX2_hold_20 (by decide) rfl (fun hc => ?_) (fun hc => ?_)
      · replace hM := gif_pos hc hM
        cases hM
        exact x_sub [] rfl (kx0)
      · replace hM := gif_neg hc hM
        refine x_aln C 0 rfl dX2_hold_23 rfl ?_
        refine gXg_she_items C hi  kf_X2_9 dX2_hold_24 rfl ?_
        refine x_iln C 1 rfl dX2_hold_27 rfl ?_
        refine x_ic (v := 0) C (by decide) dX2_hold_28 rfl ?_
        obtain ⟨h7, hM⟩ := gck_some hM
        obtain ⟨s8, ev, hM⟩ := gnm_ex hM
        refine gXs_ite C hi ev h7 dX2_hold_29 rfl ?_
        obtain ⟨x3_9, ev, hM⟩ := gnm_ex hM
        refine x_iinc (j := 1) (w := 1) (lv' := [(3, .int x3_9), (0, .ref (ad (205 + i)))]) C rfl ev (by decide) (by decide) rfl dX2_hold_30 rfl ?_
        refine x_goto (tgt := 17) C dX2_hold_33 (by decide) ?_
        exact x_sub [1, 0] rfl (ih x3_9 s8 _ hM kx0)
  obtain ⟨s6, hL10, hM⟩ := gb1_some hM
  refine x_sub [1, 0] rfl (L17 gFU 0 s3 _ hL10 ?_)
  clear L17
  exact x_vret C E (gs1 hM) dX2_hold_36
set_option maxRecDepth 100000 in
set_option maxHeartbeats 4000000 in
theorem c_X6_sheet {l : Launch} {D : va_G} {ad : Nat → Nat} {cy : Nat → ClassId} {b : Nat} (hG : gInj (gGX D ad cy b)) {a0 : Int32} {a1 : Int32} {a2 : Int32} {σ : gMem} {r0 : Int32} {σ0 : gMem} (hM : m_X6_sheet a0 a1 a2 σ = some (r0, σ0)) : gMi l yX6_sheet (Cond.code yX6_sheet cX6_sheet 4 (some .int) :: gBig) { frames := 2, cells := 0, slots := 0, locals := 42 } (gGX D ad cy b) [.ref (ad 0), .int a0, .int a1, .int a2] σ r0 σ0 := by
  refine gIntro (own := RX6) hG (by decide +kernel) rfl rfl (Nat.le_of_ble_eq_true rfl) (lv := [(0, .ref (ad 0)), (1, .int a0), (2, .int a1), (3, .int a2)]) rfl (fun κ C E => ?_)
  unfold m_X6_sheet at hM
  refine x_iln C 1 rfl dX6_sheet_0 rfl ?_
  obtain ⟨r2, h1, hM⟩ := gb1_some hM
  refine x_csi (As := [.int a0]) (rest := []) C E.2.2.2.2.2 1 (c_X6_isSheet hG h1) (gBs km_X6_263 kst_X6_isSheet kini_X6 kc_X6_isSheet) rfl rfl rfl ⟨by decide +kernel, by decide +kernel, by decide +kernel⟩ ⟨Nat.le_of_ble_eq_true rfl, Nat.le_of_ble_eq_true rfl⟩ rfl rfl (Nat.le_of_ble_eq_true rfl) dX6_sheet_1 rfl ?_
  refine x_if_eq (tgt := 20) C dX6_sheet_4 (by decide) rfl (fun hc => ?_) (fun hc => ?_)
  · replace hM := gif_pos hc hM
    refine x_ic (v := (-1)) C (by decide) dX6_sheet_20 rfl ?_
    exact x_iret C E (gs2 hM) dX6_sheet_21
  · replace hM := gif_neg hc hM
    refine x_iln C 2 rfl dX6_sheet_7 rfl ?_
    obtain ⟨r4, h3, hM⟩ := gb1_some hM
    refine x_csi (As := [.int a1]) (rest := []) C E.2.2.2.2.2 1 (c_X6_isLane hG h3) (gBs km_X6_266 kst_X6_isLane kini_X6 kc_X6_isLane) rfl rfl rfl ⟨by decide +kernel, by decide +kernel, by decide +kernel⟩ ⟨Nat.le_of_ble_eq_true rfl, Nat.le_of_ble_eq_true rfl⟩ rfl rfl (Nat.le_of_ble_eq_true rfl) dX6_sheet_8 rfl ?_
    refine x_if_eq (tgt := 20) C dX6_sheet_11 (by decide) rfl (fun hc => ?_) (fun hc => ?_)
    · replace hM := gif_pos hc hM
      refine x_ic (v := (-1)) C (by decide) dX6_sheet_20 rfl ?_
      exact x_iret C E (gs2 hM) dX6_sheet_21
    · replace hM := gif_neg hc hM
      refine x_iln C 3 rfl dX6_sheet_14 rfl ?_
      refine x_bi (v := 24) C (by decide) dX6_sheet_15 rfl ?_
      refine x_ic_le (tgt := 22) C dX6_sheet_17 (by decide) rfl (fun hc => ?_) (fun hc => ?_)
      · replace hM := gif_pos hc hM
        refine x_iln C 3 rfl dX6_sheet_22 rfl ?_
        refine x_if_ge (tgt := 29) C dX6_sheet_23 (by decide) rfl (fun hc => ?_) (fun hc => ?_)
        · replace hM := gif_pos hc hM
          refine x_aln C 0 rfl dX6_sheet_29 rfl ?_
          refine gXg_0_sheets C kf_X6_49 dX6_sheet_30 rfl ?_
          refine x_iln C 1 rfl dX6_sheet_33 rfl ?_
          obtain ⟨h5, hM⟩ := gck_some hM
          refine gXo_204 C h5 dX6_sheet_34 rfl ?_
          refine x_iln C 2 rfl dX6_sheet_35 rfl ?_
          refine x_iln C 3 rfl dX6_sheet_36 rfl ?_
          obtain ⟨s7, h6, hM⟩ := gb1_some hM
          refine x_cvv (As := [.int a1, .int a2]) (rest := []) C E.2.2.2.2.2 2 (c_X2_hold hG (inb_lt h5) h6) (gBv km_X6_269 kin_X2_hold ksel_X2_hold kini_X2 kc_X2_hold) rfl rfl rfl ⟨rfl, by decide +kernel, by decide +kernel, by decide +kernel⟩ ⟨Nat.le_of_ble_eq_true rfl, Nat.le_of_ble_eq_true rfl⟩ (gXlt_she (inb_lt h5) ) (gXe_she (inb_lt h5) ) rfl rfl rfl (Nat.le_of_ble_eq_true rfl) dX6_sheet_37 rfl ?_
          refine x_iln C 3 rfl dX6_sheet_40 rfl ?_
          exact x_iret C E (gs2 hM) dX6_sheet_41
        · replace hM := gif_neg hc hM
          refine x_bi (v := (-14)) C (by decide) dX6_sheet_26 rfl ?_
          exact x_iret C E (gs2 hM) dX6_sheet_28
      · replace hM := gif_neg hc hM
        refine x_ic (v := (-1)) C (by decide) dX6_sheet_20 rfl ?_
        exact x_iret C E (gs2 hM) dX6_sheet_21
set_option maxRecDepth 100000 in
set_option maxHeartbeats 4000000 in
theorem c_X6_drop {l : Launch} {D : va_G} {ad : Nat → Nat} {cy : Nat → ClassId} {b : Nat} (hG : gInj (gGX D ad cy b)) {a0 : Int32} {σ : gMem} {r0 : Int32} {σ0 : gMem} (hM : m_X6_drop a0 σ = some (r0, σ0)) : gMi l yX6_drop (Cond.code yX6_drop cX6_drop 3 (some .int) :: gBig) { frames := 2, cells := 0, slots := 0, locals := 42 } (gGX D ad cy b) [.ref (ad 0), .int a0] σ r0 σ0 := by
  refine gIntro (own := RX6) hG (by decide +kernel) rfl rfl (Nat.le_of_ble_eq_true rfl) (lv := [(0, .ref (ad 0)), (1, .int a0)]) rfl (fun κ C E => ?_)
  unfold m_X6_drop at hM
  refine x_iln C 1 rfl dX6_drop_0 rfl ?_
  obtain ⟨r2, h1, hM⟩ := gb1_some hM
  refine x_csi (As := [.int a0]) (rest := []) C E.2.2.2.2.2 1 (c_X6_isSheet hG h1) (gBs km_X6_263 kst_X6_isSheet kini_X6 kc_X6_isSheet) rfl rfl rfl ⟨by decide +kernel, by decide +kernel, by decide +kernel⟩ ⟨Nat.le_of_ble_eq_true rfl, Nat.le_of_ble_eq_true rfl⟩ rfl rfl (Nat.le_of_ble_eq_true rfl) dX6_drop_1 rfl ?_
  refine x_if_ne (tgt := 9) C dX6_drop_4 (by decide) rfl (fun hc => ?_) (fun hc => ?_)
  · replace hM := gif_neg hc hM
    refine x_aln C 0 rfl dX6_drop_9 rfl ?_
    refine gXg_0_sheets C kf_X6_49 dX6_drop_10 rfl ?_
    refine x_iln C 1 rfl dX6_drop_13 rfl ?_
    obtain ⟨h3, hM⟩ := gck_some hM
    refine gXo_204 C h3 dX6_drop_14 rfl ?_
    refine x_astn (lv' := [(2, .ref (ad (205 + a0.toNatClampNeg))), (0, .ref (ad 0)), (1, .int a0)]) C rfl (by decide) rfl dX6_drop_15 rfl ?_
    refine x_aln C 0 rfl dX6_drop_16 rfl ?_
    refine gXg_she_there C (inb_lt h3)  kf_X6_273 dX6_drop_17 rfl ?_
    refine x_if_ne (tgt := 26) C dX6_drop_20 (by decide) rfl (fun hc => ?_) (fun hc => ?_)
    · replace hM := gif_neg hc hM
      refine x_aln C 0 rfl dX6_drop_26 rfl ?_
      refine x_ic (v := 0) C (by decide) dX6_drop_27 rfl ?_
      obtain ⟨s4, ev, hM⟩ := gnm_ex hM
      refine gXp_she_there C (inb_lt h3)  ev rfl rfl kf_X6_273 dX6_drop_28 rfl ?_
      refine x_aln C 0 rfl dX6_drop_31 rfl ?_
      refine gXg_she_length C (inb_lt h3)  kf_X6_253 dX6_drop_32 rfl ?_
      exact x_iret C E (gs2 hM) dX6_drop_35
    · replace hM := gif_pos hc hM
      refine x_bi (v := (-11)) C (by decide) dX6_drop_23 rfl ?_
      exact x_iret C E (gs2 hM) dX6_drop_25
  · replace hM := gif_pos hc hM
    refine x_ic (v := (-1)) C (by decide) dX6_drop_7 rfl ?_
    exact x_iret C E (gs2 hM) dX6_drop_8
set_option maxRecDepth 100000 in
set_option maxHeartbeats 4000000 in
theorem c_X2_put {l : Launch} {D : va_G} {ad : Nat → Nat} {cy : Nat → ClassId} {b : Nat} (hG : gInj (gGX D ad cy b)) {i : Nat} (hi : i < 4) {a0 : Int32} {a1 : Int32} {σ : gMem} {σ0 : gMem} (hM : m_X2_put i a0 a1 σ = some σ0) : gMv l yX2_put (Cond.code yX2_put cX2_put 3 none :: gBig) { frames := 0, cells := 0, slots := 0, locals := 0 } (gGX D ad cy b) [.ref (ad (205 + i)), .int a0, .int a1] σ σ0 := by
  refine gIntro (own := RX2) hG (by decide +kernel) rfl rfl (Nat.le_of_ble_eq_true rfl) (lv := [(0, .ref (ad (205 + i))), (1, .int a0), (2, .int a1)]) rfl (fun κ C E => ?_)
  unfold m_X2_put at hM
  refine x_aln C 0 rfl dX2_put_0 rfl ?_
  refine gXg_she_items C hi  kf_X2_9 dX2_put_1 rfl ?_
  refine x_iln C 1 rfl dX2_put_4 rfl ?_
  refine x_aln C 0 rfl dX2_put_5 rfl ?_
  refine gXg_she_lane C hi  kf_X2_19 dX2_put_6 rfl ?_
  refine x_if_ne (tgt := 17) C dX2_put_9 (by decide) rfl (fun hc => ?_) (fun hc => ?_)
  · replace hM := gif_neg hc hM
    refine x_aln C 0 rfl dX2_put_17 rfl ?_
    refine gXg_she_lane C hi  kf_X2_19 dX2_put_18 rfl ?_
    refine x_ic (v := 1) C (by decide) dX2_put_21 rfl ?_
    refine x_ic_ne (tgt := 30) C dX2_put_22 (by decide) rfl (fun hc => ?_) (fun hc => ?_)
    · replace hM := gif_neg hc hM
      refine x_iln C 2 rfl dX2_put_30 rfl ?_
      obtain ⟨h1, hM⟩ := gck_some hM
      obtain ⟨s2, ev, hM⟩ := gnm_ex hM
      refine gXs_ite C hi ev h1 dX2_put_31 rfl ?_
      exact x_vret C E (gs1 hM) dX2_put_32
    · replace hM := gif_pos hc hM
      refine x_iln C 2 rfl dX2_put_25 rfl ?_
      refine x_i2s C dX2_put_26 rfl ?_
      refine x_goto (tgt := 31) C dX2_put_27 (by decide) ?_
      obtain ⟨h3, hM⟩ := gck_some hM
      obtain ⟨s4, ev, hM⟩ := gnm_ex hM
      refine gXs_ite C hi ev h3 dX2_put_31 rfl ?_
      exact x_vret C E (gs1 hM) dX2_put_32
  · replace hM := gif_pos hc hM
    refine x_iln C 2 rfl dX2_put_12 rfl ?_
    refine x_i2b C dX2_put_13 rfl ?_
    refine x_goto (tgt := 31) C dX2_put_14 (by decide) ?_
    obtain ⟨h5, hM⟩ := gck_some hM
    obtain ⟨s6, ev, hM⟩ := gnm_ex hM
    refine gXs_ite C hi ev h5 dX2_put_31 rfl ?_
    exact x_vret C E (gs1 hM) dX2_put_32
set_option maxRecDepth 100000 in
set_option maxHeartbeats 4000000 in
theorem c_X6_item {l : Launch} {D : va_G} {ad : Nat → Nat} {cy : Nat → ClassId} {b : Nat} (hG : gInj (gGX D ad cy b)) {a0 : Int32} {a1 : Int32} {a2 : Int32} {a3 : Int32} {σ : gMem} {r0 : Int32} {σ0 : gMem} (hM : m_X6_item a0 a1 a2 a3 σ = some (r0, σ0)) : gMi l yX6_item (Cond.code yX6_item cX6_item 7 (some .int) :: gBig) { frames := 3, cells := 0, slots := 0, locals := 64 } (gGX D ad cy b) [.ref (ad 0), .int a0, .int a1, .int a2, .int a3] σ r0 σ0 := by
  refine gIntro (own := RX6) hG (by decide +kernel) rfl rfl (Nat.le_of_ble_eq_true rfl) (lv := [(0, .ref (ad 0)), (1, .int a0), (2, .int a1), (3, .int a2), (4, .int a3)]) rfl (fun κ C E => ?_)
  unfold m_X6_item at hM
  refine x_aln C 0 rfl dX6_item_0 rfl ?_
  refine x_iln C 1 rfl dX6_item_1 rfl ?_
  refine x_iln C 2 rfl dX6_item_2 rfl ?_
  obtain ⟨r2, h1, hM⟩ := gb1_some hM
  refine x_cvi (As := [.int a0, .int a1]) (rest := []) C E.2.2.2.2.2 2 (c_X6_refusal hG h1) (gBv km_X6_250 kin_X6_refusal ksel_X6_refusal kini_X6 kc_X6_refusal) rfl rfl rfl ⟨rfl, by decide +kernel, by decide +kernel, by decide +kernel⟩ ⟨Nat.le_of_ble_eq_true rfl, Nat.le_of_ble_eq_true rfl⟩ (by show 0 < 213; decide) rfl rfl rfl rfl (Nat.le_of_ble_eq_true rfl) dX6_item_3 rfl ?_
  refine x_ist (lv' := [(5, .int r2), (0, .ref (ad 0)), (1, .int a0), (2, .int a1), (3, .int a2), (4, .int a3)]) C rfl (by decide) rfl dX6_item_6 rfl ?_
  refine x_il C 0 rfl dX6_item_8 rfl ?_
  refine x_if_eq (tgt := 16) C dX6_item_10 (by decide) rfl (fun hc => ?_) (fun hc => ?_)
  · replace hM := gif_pos hc hM
    refine x_aln C 1 rfl dX6_item_16 rfl ?_
    refine gXg_0_sheets C kf_X6_49 dX6_item_17 rfl ?_
    refine x_iln C 2 rfl dX6_item_20 rfl ?_
    obtain ⟨h3, hM⟩ := gck_some hM
    refine gXo_204 C h3 dX6_item_21 rfl ?_
    refine x_ast (lv' := [(6, .ref (ad (205 + a0.toNatClampNeg))), (5, .int r2), (0, .ref (ad 0)), (1, .int a0), (2, .int a1), (3, .int a2), (4, .int a3)]) C (by decide) rfl dX6_item_22 rfl ?_
    refine x_iln C 5 rfl dX6_item_24 rfl ?_
    refine x_ic (v := 0) C (by decide) dX6_item_25 rfl ?_
    refine x_al C 0 rfl dX6_item_26 rfl ?_
    refine gXg_she_length C (inb_lt h3)  kf_X6_253 dX6_item_28 rfl ?_
    refine x_ic (v := 1) C (by decide) dX6_item_31 rfl ?_
    refine x_isub C dX6_item_32 rfl ?_
    obtain ⟨r5, h4, hM⟩ := gb1_some hM
    refine x_csi (As := [.int a2, .int 0, .int ((σ (205 + a0.toNatClampNeg) 2) - 1)]) (rest := []) C E.2.2.2.2.2 3 (c_X6_within hG h4) (gBs km_X6_54 kst_X6_within kini_X6 kc_X6_within) rfl rfl rfl ⟨by decide +kernel, by decide +kernel, by decide +kernel⟩ ⟨Nat.le_of_ble_eq_true rfl, Nat.le_of_ble_eq_true rfl⟩ rfl rfl (Nat.le_of_ble_eq_true rfl) dX6_item_33 rfl ?_
    refine x_if_ne (tgt := 42) C dX6_item_36 (by decide) rfl (fun hc => ?_) (fun hc => ?_)
    · replace hM := gif_neg hc hM
      refine x_al C 0 rfl dX6_item_42 rfl ?_
      refine x_iln C 5 rfl dX6_item_44 rfl ?_
      refine x_il C 6 rfl dX6_item_45 rfl ?_
      obtain ⟨s7, h6, hM⟩ := gb1_some hM
      refine x_cvv (As := [.int a2, .int a3]) (rest := []) C E.2.2.2.2.2 2 (c_X2_put hG (inb_lt h3) h6) (gBv km_X6_276 kin_X2_put ksel_X2_put kini_X2 kc_X2_put) rfl rfl rfl ⟨rfl, by decide +kernel, by decide +kernel, by decide +kernel⟩ ⟨Nat.le_of_ble_eq_true rfl, Nat.le_of_ble_eq_true rfl⟩ (gXlt_she (inb_lt h3) ) (gXe_she (inb_lt h3) ) rfl rfl rfl (Nat.le_of_ble_eq_true rfl) dX6_item_47 rfl ?_
      refine x_ic (v := 1) C (by decide) dX6_item_50 rfl ?_
      exact x_iret C E (gs2 hM) dX6_item_51
    · replace hM := gif_pos hc hM
      refine x_bi (v := (-13)) C (by decide) dX6_item_39 rfl ?_
      exact x_iret C E (gs2 hM) dX6_item_41
  · replace hM := gif_neg hc hM
    refine x_il C 0 rfl dX6_item_13 rfl ?_
    exact x_iret C E (gs2 hM) dX6_item_15
set_option maxRecDepth 100000 in
set_option maxHeartbeats 4000000 in
theorem c_X2_hasRange {l : Launch} {D : va_G} {ad : Nat → Nat} {cy : Nat → ClassId} {b : Nat} (hG : gInj (gGX D ad cy b)) {i : Nat} (hi : i < 4) {a0 : Int32} {a1 : Int32} {σ : gMem} {r0 : Int32} (hM : m_X2_hasRange i a0 a1 σ = some r0) : gMi l yX2_hasRange (Cond.code yX2_hasRange cX2_hasRange 3 (some .boolean) :: gBig) { frames := 1, cells := 0, slots := 0, locals := 22 } (gGX D ad cy b) [.ref (ad (205 + i)), .int a0, .int a1] σ r0 σ := by
  refine gIntro (own := RX2) hG (by decide +kernel) rfl rfl (Nat.le_of_ble_eq_true rfl) (lv := [(0, .ref (ad (205 + i))), (1, .int a0), (2, .int a1)]) rfl (fun κ C E => ?_)
  unfold m_X2_hasRange at hM
  refine x_iln C 1 rfl dX2_hasRange_0 rfl ?_
  refine x_ic (v := 0) C (by decide) dX2_hasRange_1 rfl ?_
  refine x_aln C 0 rfl dX2_hasRange_2 rfl ?_
  refine gXg_she_length C hi  kf_X2_23 dX2_hasRange_3 rfl ?_
  obtain ⟨r2, h1, hM⟩ := gb1_some hM
  refine x_csni (As := [.int a0, .int 0, .int (σ (205 + i) 2)]) (rest := []) C E.2.2.2.2.2 3 (c_X6_within hG h1) (gBn kc_X6_within) rfl rfl rfl (by decide +kernel) (gBc kini_X6) (gBc kst_X6_within) ⟨by decide +kernel, by decide +kernel, by decide +kernel⟩ ⟨Nat.le_of_ble_eq_true rfl, Nat.le_of_ble_eq_true rfl⟩ rfl rfl (Nat.le_of_ble_eq_true rfl) dX2_hasRange_6 rfl ?_
  refine x_if_eq (tgt := 26) C dX2_hasRange_9 (by decide) rfl (fun hc => ?_) (fun hc => ?_)
  · replace hM := gif_pos hc hM
    refine x_ic (v := 0) C (by decide) dX2_hasRange_26 rfl ?_
    exact x_zret C E (by decide) ⟨gs1 hM, rfl⟩ dX2_hasRange_27
  · replace hM := gif_neg hc hM
    refine x_iln C 2 rfl dX2_hasRange_12 rfl ?_
    refine x_aln C 0 rfl dX2_hasRange_13 rfl ?_
    refine gXg_she_length C hi  kf_X2_23 dX2_hasRange_14 rfl ?_
    refine x_iln C 1 rfl dX2_hasRange_17 rfl ?_
    refine x_isub C dX2_hasRange_18 rfl ?_
    refine x_ic_gt (tgt := 26) C dX2_hasRange_19 (by decide) rfl (fun hc => ?_) (fun hc => ?_)
    · replace hM := gif_pos hc hM
      refine x_ic (v := 0) C (by decide) dX2_hasRange_26 rfl ?_
      exact x_zret C E (by decide) ⟨gs1 hM, rfl⟩ dX2_hasRange_27
    · replace hM := gif_neg hc hM
      refine x_ic (v := 1) C (by decide) dX2_hasRange_22 rfl ?_
      refine x_goto (tgt := 27) C dX2_hasRange_23 (by decide) ?_
      exact x_zret C E (by decide) ⟨gs1 hM, rfl⟩ dX2_hasRange_27
set_option maxRecDepth 100000 in
set_option maxHeartbeats 4000000 in
theorem c_X6_copy {l : Launch} {D : va_G} {ad : Nat → Nat} {cy : Nat → ClassId} {b : Nat} (hG : gInj (gGX D ad cy b)) {a0 : Int32} {a1 : Int32} {a2 : Int32} {a3 : Int32} {a4 : Int32} {σ : gMem} {r0 : Int32} {σ0 : gMem} (hM : m_X6_copy a0 a1 a2 a3 a4 σ = some (r0, σ0)) : gMi l yX6_copy (Cond.code yX6_copy cX6_copy 8 (some .int) :: gBig) { frames := 2, cells := 0, slots := 0, locals := 60 } (gGX D ad cy b) [.ref (ad 0), .int a0, .int a1, .int a2, .int a3, .int a4] σ r0 σ0 := by
  refine gIntro (own := RX6) hG (by decide +kernel) rfl rfl (Nat.le_of_ble_eq_true rfl) (lv := [(0, .ref (ad 0)), (1, .int a0), (2, .int a1), (3, .int a2), (4, .int a3), (5, .int a4)]) rfl (fun κ C E => ?_)
  unfold m_X6_copy at hM
  refine x_iln C 1 rfl dX6_copy_0 rfl ?_
  obtain ⟨r2, h1, hM⟩ := gb1_some hM
  refine x_csi (As := [.int a0]) (rest := []) C E.2.2.2.2.2 1 (c_X6_isSheet hG h1) (gBs km_X6_263 kst_X6_isSheet kini_X6 kc_X6_isSheet) rfl rfl rfl ⟨by decide +kernel, by decide +kernel, by decide +kernel⟩ ⟨Nat.le_of_ble_eq_true rfl, Nat.le_of_ble_eq_true rfl⟩ rfl rfl (Nat.le_of_ble_eq_true rfl) dX6_copy_1 rfl ?_
  refine x_if_eq (tgt := 14) C dX6_copy_4 (by decide) rfl (fun hc => ?_) (fun hc => ?_)
  · replace hM := gif_pos hc hM
    refine x_ic (v := (-1)) C (by decide) dX6_copy_14 rfl ?_
    exact x_iret C E (gs2 hM) dX6_copy_15
  · replace hM := gif_neg hc hM
    refine x_iln C 3 rfl dX6_copy_7 rfl ?_
    obtain ⟨r4, h3, hM⟩ := gb1_some hM
    refine x_csi (As := [.int a2]) (rest := []) C E.2.2.2.2.2 1 (c_X6_isSheet hG h3) (gBs km_X6_263 kst_X6_isSheet kini_X6 kc_X6_isSheet) rfl rfl rfl ⟨by decide +kernel, by decide +kernel, by decide +kernel⟩ ⟨Nat.le_of_ble_eq_true rfl, Nat.le_of_ble_eq_true rfl⟩ rfl rfl (Nat.le_of_ble_eq_true rfl) dX6_copy_8 rfl ?_
    refine x_if_ne (tgt := 16) C dX6_copy_11 (by decide) rfl (fun hc => ?_) (fun hc => ?_)
    · replace hM := gif_neg hc hM
      refine x_aln C 0 rfl dX6_copy_16 rfl ?_
      refine gXg_0_sheets C kf_X6_49 dX6_copy_17 rfl ?_
      refine x_iln C 1 rfl dX6_copy_20 rfl ?_
      obtain ⟨h5, hM⟩ := gck_some hM
      refine gXo_204 C h5 dX6_copy_21 rfl ?_
      refine x_ast (lv' := [(6, .ref (ad (205 + a0.toNatClampNeg))), (0, .ref (ad 0)), (1, .int a0), (2, .int a1), (3, .int a2), (4, .int a3), (5, .int a4)]) C (by decide) rfl dX6_copy_22 rfl ?_
      refine x_aln C 1 rfl dX6_copy_24 rfl ?_
      refine gXg_0_sheets C kf_X6_49 dX6_copy_25 rfl ?_
      refine x_iln C 4 rfl dX6_copy_28 rfl ?_
      obtain ⟨h6, hM⟩ := gck_some hM
      refine gXo_204 C h6 dX6_copy_29 rfl ?_
      refine x_ast (lv' := [(7, .ref (ad (205 + a2.toNatClampNeg))), (6, .ref (ad (205 + a0.toNatClampNeg))), (0, .ref (ad 0)), (1, .int a0), (2, .int a1), (3, .int a2), (4, .int a3), (5, .int a4)]) C (by decide) rfl dX6_copy_30 rfl ?_
      refine x_al C 1 rfl dX6_copy_32 rfl ?_
      refine gXg_she_there C (inb_lt h5)  kf_X6_273 dX6_copy_34 rfl ?_
      refine x_if_eq (tgt := 48) C dX6_copy_37 (by decide) rfl (fun hc => ?_) (fun hc => ?_)
      · replace hM := gif_pos hc hM
        refine x_bi (v := (-11)) C (by decide) dX6_copy_48 rfl ?_
        exact x_iret C E (gs2 hM) dX6_copy_50
      · replace hM := gif_neg hc hM
        refine x_al C 0 rfl dX6_copy_40 rfl ?_
        refine gXg_she_there C (inb_lt h6)  kf_X6_273 dX6_copy_42 rfl ?_
        refine x_if_ne (tgt := 51) C dX6_copy_45 (by decide) rfl (fun hc => ?_) (fun hc => ?_)
        · replace hM := gif_neg hc hM
          refine x_al C 1 rfl dX6_copy_51 rfl ?_
          refine gXg_she_lane C (inb_lt h5)  kf_X6_279 dX6_copy_53 rfl ?_
          refine x_al C 0 rfl dX6_copy_56 rfl ?_
          refine gXg_she_lane C (inb_lt h6)  kf_X6_279 dX6_copy_58 rfl ?_
          refine x_ic_eq (tgt := 67) C dX6_copy_61 (by decide) rfl (fun hc => ?_) (fun hc => ?_)
          · replace hM := gif_pos hc hM
            refine x_il C 7 rfl dX6_copy_67 rfl ?_
            refine x_if_lt (tgt := 95) C dX6_copy_69 (by decide) rfl (fun hc => ?_) (fun hc => ?_)
            · replace hM := gif_pos hc hM
              refine x_bi (v := (-13)) C (by decide) dX6_copy_95 rfl ?_
              exact x_iret C E (gs2 hM) dX6_copy_97
            · replace hM := gif_neg hc hM
              refine x_al C 1 rfl dX6_copy_72 rfl ?_
              refine x_iln C 4 rfl dX6_copy_74 rfl ?_
              refine x_il C 7 rfl dX6_copy_75 rfl ?_
              obtain ⟨r8, h7, hM⟩ := gb1_some hM
              refine x_cvi (As := [.int a1, .int a4]) (rest := []) C E.2.2.2.2.2 2 (c_X2_hasRange hG (inb_lt h5) h7) (gBv km_X6_282 kin_X2_hasRange ksel_X2_hasRange kini_X2 kc_X2_hasRange) rfl rfl rfl ⟨rfl, by decide +kernel, by decide +kernel, by decide +kernel⟩ ⟨Nat.le_of_ble_eq_true rfl, Nat.le_of_ble_eq_true rfl⟩ (gXlt_she (inb_lt h5) ) (gXe_she (inb_lt h5) ) rfl rfl rfl (Nat.le_of_ble_eq_true rfl) dX6_copy_77 rfl ?_
              refine x_if_eq (tgt := 95) C dX6_copy_80 (by decide) rfl (fun hc => ?_) (fun hc => ?_)
              · replace hM := gif_pos hc hM
                refine x_bi (v := (-13)) C (by decide) dX6_copy_95 rfl ?_
                exact x_iret C E (gs2 hM) dX6_copy_97
              · replace hM := gif_neg hc hM
                refine x_al C 0 rfl dX6_copy_83 rfl ?_
                refine x_il C 6 rfl dX6_copy_85 rfl ?_
                refine x_il C 7 rfl dX6_copy_87 rfl ?_
                obtain ⟨r10, h9, hM⟩ := gb1_some hM
                refine x_cvi (As := [.int a3, .int a4]) (rest := []) C E.2.2.2.2.2 2 (c_X2_hasRange hG (inb_lt h6) h9) (gBv km_X6_282 kin_X2_hasRange ksel_X2_hasRange kini_X2 kc_X2_hasRange) rfl rfl rfl ⟨rfl, by decide +kernel, by decide +kernel, by decide +kernel⟩ ⟨Nat.le_of_ble_eq_true rfl, Nat.le_of_ble_eq_true rfl⟩ (gXlt_she (inb_lt h6) ) (gXe_she (inb_lt h6) ) rfl rfl rfl (Nat.le_of_ble_eq_true rfl) dX6_copy_89 rfl ?_
                refine x_if_ne (tgt := 98) C dX6_copy_92 (by decide) rfl (fun hc => ?_) (fun hc => ?_)
                · replace hM := gif_neg hc hM
                  refine x_al C 1 rfl dX6_copy_98 rfl ?_
                  refine gXg_she_items C (inb_lt h5)  kf_X6_254 dX6_copy_100 rfl ?_
                  refine x_iln C 4 rfl dX6_copy_103 rfl ?_
                  refine x_al C 0 rfl dX6_copy_104 rfl ?_
                  refine gXg_she_items C (inb_lt h6)  kf_X6_254 dX6_copy_106 rfl ?_
                  refine x_il C 6 rfl dX6_copy_109 rfl ?_
                  refine x_il C 7 rfl dX6_copy_111 rfl ?_
                  obtain ⟨h11, hM⟩ := gck_some hM
                  obtain ⟨s12, ev, hM⟩ := gnm_ex hM
                  refine x_copy (k0 := (209 + a0.toNatClampNeg)) (k1 := (209 + a2.toNatClampNeg)) C ev (gBc km_X6_257) (gBc kna_System_arraycopy) (gBc kst_System_arraycopy) (gBc kini_J10) (gXlt_ite (inb_lt h5) ) (gXlt_ite (inb_lt h6) ) (fun _ => gXe_ite (inb_lt h5) ) (fun _ => gXe_ite (inb_lt h6) ) rfl h11 (by decide) (Nat.le_of_ble_eq_true rfl) dX6_copy_113 rfl ?_
                  refine x_il C 7 rfl dX6_copy_116 rfl ?_
                  exact x_iret C E (gs2 hM) dX6_copy_118
                · replace hM := gif_pos hc hM
                  refine x_bi (v := (-13)) C (by decide) dX6_copy_95 rfl ?_
                  exact x_iret C E (gs2 hM) dX6_copy_97
          · replace hM := gif_neg hc hM
            refine x_bi (v := (-12)) C (by decide) dX6_copy_64 rfl ?_
            exact x_iret C E (gs2 hM) dX6_copy_66
        · replace hM := gif_pos hc hM
          refine x_bi (v := (-11)) C (by decide) dX6_copy_48 rfl ?_
          exact x_iret C E (gs2 hM) dX6_copy_50
    · replace hM := gif_pos hc hM
      refine x_ic (v := (-1)) C (by decide) dX6_copy_14 rfl ?_
      exact x_iret C E (gs2 hM) dX6_copy_15
