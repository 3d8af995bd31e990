/-! ===== the small constructors (written by wip/whole/gen/mk.py) ===== -/
theorem ap2 {a b c d : va_W} (h1 : a = c) (h2 : b = d) : a ++ b = c ++ d := by rw [h1, h2]
def gX0 : gMem := fun k => if k = 1 ∨ k = 25 then (fun j => if j = 7 then 20 else 0) else gZr
def blkE (o : Nat) (cy : Nat → ClassId) (r : Nat → Nat) (i : Nat) : va_E := gentX (fun k => r (k - o)) cy (o + i) (gX0 (o + i))
theorem gX0_z {k : Nat} (h1 : k ≠ 1) (h2 : k ≠ 25) : gX0 k = gZr := if_neg (fun h => h.elim h1 h2)
def sheE (cy : Nat → ClassId) (r : Nat → Nat) (i : Nat) : va_E := if i = 0 then .inr (2, [.int 0, .int 0, .int 0, .ref (r 1)]) else .inl (cy 0, (24, .inl gZr))
def gM0 : gMem := fun k => if k = 1 then upd gZr 61 20 else if k = 5 then upd (upd (upd (upd gZr 0 (-1)) 1 (-1)) 2 (-1)) 3 (-1) else gZr
set_option maxRecDepth 20000 in
theorem c_X0_init {l : Launch} {D : va_G} {cy : Nat → ClassId} : yM l yX0_init (Cond.code yX0_init cX0_init 1 none :: gBig) { frames := 1, cells := 2, slots := 264, locals := 24 } D cy 0 [.int 0, .null, .null] 3 (blkE 201 cy) := by
  refine yIntro (own := RX0) (by decide +kernel) rfl rfl rfl (Nat.le_of_ble_eq_true rfl) (fun κ h0 sz C G => ?_)
  refine y_aln C 0 rfl dX0_init_0 rfl ?_
  refine y_obj C km_X0_3 (Nat.le_of_ble_eq_true rfl) (Nat.le_of_ble_eq_true rfl) dX0_init_1 rfl ?_
  refine y_aln C 0 rfl dX0_init_4 rfl ?_
  refine y_bi (v := 8) C (by decide) dX0_init_5 rfl ?_
  refine y_newi (N := 8) C rfl (Nat.le_of_ble_eq_true rfl) ⟨Nat.le_of_ble_eq_true rfl, Nat.le_of_ble_eq_true rfl⟩ dX0_init_7 rfl (fun q1 => ?_)
  refine y_putf (j := 1) (N := 3) (Cn := RX0) (T := TX0) C tyX0 inB0 tyX0_ok nmX0 rfl (by decide) rfl rfl rfl rfl (Nat.le_of_ble_eq_true rfl) kf_X0_9 dX0_init_9 rfl ?_
  refine y_aln C 0 rfl dX0_init_12 rfl ?_
  refine y_si (v := 256) C (by decide) dX0_init_13 rfl ?_
  refine y_newi (N := 256) C rfl (Nat.le_of_ble_eq_true rfl) ⟨Nat.le_of_ble_eq_true rfl, Nat.le_of_ble_eq_true rfl⟩ dX0_init_16 rfl (fun q2 => ?_)
  refine y_putf (j := 2) (N := 3) (Cn := RX0) (T := TX0) C tyX0 inB0 tyX0_ok nmX0 rfl (by decide) rfl rfl rfl rfl (Nat.le_of_ble_eq_true rfl) kf_X0_15 dX0_init_18 rfl ?_
  exact y_vret C G (fun k => [h0, q1, q2].getD k 0) rfl rfl dX0_init_21
set_option maxRecDepth 20000 in
theorem c_X2_init {l : Launch} {D : va_G} {cy : Nat → ClassId} : yM l yX2_init (Cond.code yX2_init cX2_init 1 none :: gBig) { frames := 1, cells := 1, slots := 24, locals := 24 } D cy 2 [.int 0, .int 0, .int 0, .null] 2 (sheE cy) := by
  refine yIntro (own := RX2) (by decide +kernel) rfl rfl rfl (Nat.le_of_ble_eq_true rfl) (fun κ h0 sz C G => ?_)
  refine y_aln C 0 rfl dX2_init_0 rfl ?_
  refine y_obj C km_X2_3 (Nat.le_of_ble_eq_true rfl) (Nat.le_of_ble_eq_true rfl) dX2_init_1 rfl ?_
  refine y_aln C 0 rfl dX2_init_4 rfl ?_
  refine y_bi (v := 24) C (by decide) dX2_init_5 rfl ?_
  refine y_newi (N := 24) C rfl (Nat.le_of_ble_eq_true rfl) ⟨Nat.le_of_ble_eq_true rfl, Nat.le_of_ble_eq_true rfl⟩ dX2_init_7 rfl (fun q1 => ?_)
  refine y_putf (j := 3) (N := 4) (Cn := RX2) (T := TX2) C tyX2 inB2 tyX2_ok nmX2 rfl (by decide) rfl rfl rfl rfl (Nat.le_of_ble_eq_true rfl) kf_X2_9 dX2_init_9 rfl ?_
  exact y_vret C G (fun k => [h0, q1].getD k 0) rfl rfl dX2_init_12
set_option maxRecDepth 20000 in
theorem c_X3_init {l : Launch} {D : va_G} {cy : Nat → ClassId} : yM l yX3_init (Cond.code yX3_init cX3_init 1 none :: gBig) { frames := 1, cells := 4, slots := 104, locals := 24 } D cy 3 [.int 0, .null, .int 0, .int 0, .int 0, .int 0, .null, .null, .null] 5 (blkE 49 cy) := by
  refine yIntro (own := RX3) (by decide +kernel) rfl rfl rfl (Nat.le_of_ble_eq_true rfl) (fun κ h0 sz C G => ?_)
  refine y_aln C 0 rfl dX3_init_0 rfl ?_
  refine y_obj C km_X3_3 (Nat.le_of_ble_eq_true rfl) (Nat.le_of_ble_eq_true rfl) dX3_init_1 rfl ?_
  refine y_aln C 0 rfl dX3_init_4 rfl ?_
  refine y_bi (v := 80) C (by decide) dX3_init_5 rfl ?_
  refine y_newi (N := 80) C rfl (Nat.le_of_ble_eq_true rfl) ⟨Nat.le_of_ble_eq_true rfl, Nat.le_of_ble_eq_true rfl⟩ dX3_init_7 rfl (fun q1 => ?_)
  refine y_putf (j := 1) (N := 9) (Cn := RX3) (T := TX3) C tyX3 inB3 tyX3_ok nmX3 rfl (by decide) rfl rfl rfl rfl (Nat.le_of_ble_eq_true rfl) kf_X3_9 dX3_init_9 rfl ?_
  refine y_aln C 0 rfl dX3_init_12 rfl ?_
  refine y_bi (v := 8) C (by decide) dX3_init_13 rfl ?_
  refine y_newi (N := 8) C rfl (Nat.le_of_ble_eq_true rfl) ⟨Nat.le_of_ble_eq_true rfl, Nat.le_of_ble_eq_true rfl⟩ dX3_init_15 rfl (fun q2 => ?_)
  refine y_putf (j := 6) (N := 9) (Cn := RX3) (T := TX3) C tyX3 inB3 tyX3_ok nmX3 rfl (by decide) rfl rfl rfl rfl (Nat.le_of_ble_eq_true rfl) kf_X3_15 dX3_init_17 rfl ?_
  refine y_aln C 0 rfl dX3_init_20 rfl ?_
  refine y_bi (v := 8) C (by decide) dX3_init_21 rfl ?_
  refine y_newi (N := 8) C rfl (Nat.le_of_ble_eq_true rfl) ⟨Nat.le_of_ble_eq_true rfl, Nat.le_of_ble_eq_true rfl⟩ dX3_init_23 rfl (fun q3 => ?_)
  refine y_putf (j := 7) (N := 9) (Cn := RX3) (T := TX3) C tyX3 inB3 tyX3_ok nmX3 rfl (by decide) rfl rfl rfl rfl (Nat.le_of_ble_eq_true rfl) kf_X3_18 dX3_init_25 rfl ?_
  refine y_aln C 0 rfl dX3_init_28 rfl ?_
  refine y_bi (v := 8) C (by decide) dX3_init_29 rfl ?_
  refine y_newi (N := 8) C rfl (Nat.le_of_ble_eq_true rfl) ⟨Nat.le_of_ble_eq_true rfl, Nat.le_of_ble_eq_true rfl⟩ dX3_init_31 rfl (fun q4 => ?_)
  refine y_putf (j := 8) (N := 9) (Cn := RX3) (T := TX3) C tyX3 inB3 tyX3_ok nmX3 rfl (by decide) rfl rfl rfl rfl (Nat.le_of_ble_eq_true rfl) kf_X3_21 dX3_init_33 rfl ?_
  exact y_vret C G (fun k => [h0, q1, q2, q3, q4].getD k 0) rfl rfl dX3_init_36
set_option maxRecDepth 20000 in
theorem c_X1_init {l : Launch} {D : va_G} {cy : Nat → ClassId} : yM l yX1_init (Cond.code yX1_init cX1_init 1 none :: gBig) { frames := 1, cells := 23, slots := 270, locals := 24 } D cy 1 [.int 0, .null, .null, .null, .null, .null, .int 0, .int 0, .int 0, .null, .null, .null, .int 0, .null, .null, .null, .int 0] 24 (blkE 1 cy) := by
  refine yIntro (own := RX1) (by decide +kernel) rfl rfl rfl (Nat.le_of_ble_eq_true rfl) (fun κ h0 sz C G => ?_)
  refine y_aln C 0 rfl dX1_init_0 rfl ?_
  refine y_obj C km_X1_3 (Nat.le_of_ble_eq_true rfl) (Nat.le_of_ble_eq_true rfl) dX1_init_1 rfl ?_
  refine y_aln C 0 rfl dX1_init_4 rfl ?_
  refine y_bi (v := 12) C (by decide) dX1_init_5 rfl ?_
  refine y_newi (N := 12) C rfl (Nat.le_of_ble_eq_true rfl) ⟨Nat.le_of_ble_eq_true rfl, Nat.le_of_ble_eq_true rfl⟩ dX1_init_7 rfl (fun q1 => ?_)
  refine y_putf (j := 1) (N := 17) (Cn := RX1) (T := TX1) C tyX1 inB1 tyX1_ok nmX1 rfl (by decide) rfl rfl rfl rfl (Nat.le_of_ble_eq_true rfl) kf_X1_9 dX1_init_9 rfl ?_
  refine y_aln C 0 rfl dX1_init_12 rfl ?_
  refine y_bi (v := 12) C (by decide) dX1_init_13 rfl ?_
  refine y_newi (N := 12) C rfl (Nat.le_of_ble_eq_true rfl) ⟨Nat.le_of_ble_eq_true rfl, Nat.le_of_ble_eq_true rfl⟩ dX1_init_15 rfl (fun q2 => ?_)
  refine y_putf (j := 2) (N := 17) (Cn := RX1) (T := TX1) C tyX1 inB1 tyX1_ok nmX1 rfl (by decide) rfl rfl rfl rfl (Nat.le_of_ble_eq_true rfl) kf_X1_15 dX1_init_17 rfl ?_
  refine y_aln C 0 rfl dX1_init_20 rfl ?_
  refine y_bi (v := 12) C (by decide) dX1_init_21 rfl ?_
  refine y_newi (N := 12) C rfl (Nat.le_of_ble_eq_true rfl) ⟨Nat.le_of_ble_eq_true rfl, Nat.le_of_ble_eq_true rfl⟩ dX1_init_23 rfl (fun q3 => ?_)
  refine y_putf (j := 3) (N := 17) (Cn := RX1) (T := TX1) C tyX1 inB1 tyX1_ok nmX1 rfl (by decide) rfl rfl rfl rfl (Nat.le_of_ble_eq_true rfl) kf_X1_18 dX1_init_25 rfl ?_
  refine y_aln C 0 rfl dX1_init_28 rfl ?_
  refine y_bi (v := 12) C (by decide) dX1_init_29 rfl ?_
  refine y_bi (v := 12) C (by decide) dX1_init_31 rfl ?_
  refine y_mna (N := 12) (K := 12) C rfl rfl (Nat.le_of_ble_eq_true rfl) (Nat.le_of_ble_eq_true rfl) kcl_X1_21 ⟨Nat.le_of_ble_eq_true rfl, Nat.le_of_ble_eq_true rfl⟩ dX1_init_33 rfl (fun q4 r1 => ?_)
  refine y_putf (j := 4) (N := 17) (Cn := RX1) (T := TX1) C tyX1 inB1 tyX1_ok nmX1 rfl (by decide) rfl rfl rfl rfl (Nat.le_of_ble_eq_true rfl) kf_X1_23 dX1_init_37 rfl ?_
  refine y_aln C 0 rfl dX1_init_40 rfl ?_
  refine y_bi (v := 24) C (by decide) dX1_init_41 rfl ?_
  refine y_newi (N := 24) C rfl (Nat.le_of_ble_eq_true rfl) ⟨Nat.le_of_ble_eq_true rfl, Nat.le_of_ble_eq_true rfl⟩ dX1_init_43 rfl (fun q5 => ?_)
  refine y_putf (j := 5) (N := 17) (Cn := RX1) (T := TX1) C tyX1 inB1 tyX1_ok nmX1 rfl (by decide) rfl rfl rfl rfl (Nat.le_of_ble_eq_true rfl) kf_X1_26 dX1_init_45 rfl ?_
  refine y_aln C 0 rfl dX1_init_48 rfl ?_
  refine y_bi (v := 20) C (by decide) dX1_init_49 rfl ?_
  refine y_puti (j := 7) (N := 17) (Cn := RX1) (T := TX1) C tyX1 inB1 tyX1_ok nmX1 rfl (by decide) rfl rfl rfl (Nat.le_of_ble_eq_true rfl) kf_X1_29 dX1_init_51 rfl ?_
  refine y_aln C 0 rfl dX1_init_54 rfl ?_
  refine y_bi (v := 8) C (by decide) dX1_init_55 rfl ?_
  refine y_newi (N := 8) C rfl (Nat.le_of_ble_eq_true rfl) ⟨Nat.le_of_ble_eq_true rfl, Nat.le_of_ble_eq_true rfl⟩ dX1_init_57 rfl (fun q6 => ?_)
  refine y_putf (j := 9) (N := 17) (Cn := RX1) (T := TX1) C tyX1 inB1 tyX1_ok nmX1 rfl (by decide) rfl rfl rfl rfl (Nat.le_of_ble_eq_true rfl) kf_X1_33 dX1_init_59 rfl ?_
  refine y_aln C 0 rfl dX1_init_62 rfl ?_
  refine y_bi (v := 8) C (by decide) dX1_init_63 rfl ?_
  refine y_newi (N := 8) C rfl (Nat.le_of_ble_eq_true rfl) ⟨Nat.le_of_ble_eq_true rfl, Nat.le_of_ble_eq_true rfl⟩ dX1_init_65 rfl (fun q7 => ?_)
  refine y_putf (j := 10) (N := 17) (Cn := RX1) (T := TX1) C tyX1 inB1 tyX1_ok nmX1 rfl (by decide) rfl rfl rfl rfl (Nat.le_of_ble_eq_true rfl) kf_X1_36 dX1_init_67 rfl ?_
  refine y_aln C 0 rfl dX1_init_70 rfl ?_
  refine y_bi (v := 8) C (by decide) dX1_init_71 rfl ?_
  refine y_newi (N := 8) C rfl (Nat.le_of_ble_eq_true rfl) ⟨Nat.le_of_ble_eq_true rfl, Nat.le_of_ble_eq_true rfl⟩ dX1_init_73 rfl (fun q8 => ?_)
  refine y_putf (j := 11) (N := 17) (Cn := RX1) (T := TX1) C tyX1 inB1 tyX1_ok nmX1 rfl (by decide) rfl rfl rfl rfl (Nat.le_of_ble_eq_true rfl) kf_X1_39 dX1_init_75 rfl ?_
  refine y_aln C 0 rfl dX1_init_78 rfl ?_
  refine y_bi (v := 10) C (by decide) dX1_init_79 rfl ?_
  refine y_newi (N := 10) C rfl (Nat.le_of_ble_eq_true rfl) ⟨Nat.le_of_ble_eq_true rfl, Nat.le_of_ble_eq_true rfl⟩ dX1_init_81 rfl (fun q9 => ?_)
  refine y_putf (j := 13) (N := 17) (Cn := RX1) (T := TX1) C tyX1 inB1 tyX1_ok nmX1 rfl (by decide) rfl rfl rfl rfl (Nat.le_of_ble_eq_true rfl) kf_X1_42 dX1_init_83 rfl ?_
  refine y_aln C 0 rfl dX1_init_86 rfl ?_
  refine y_bi (v := 10) C (by decide) dX1_init_87 rfl ?_
  refine y_newi (N := 10) C rfl (Nat.le_of_ble_eq_true rfl) ⟨Nat.le_of_ble_eq_true rfl, Nat.le_of_ble_eq_true rfl⟩ dX1_init_89 rfl (fun q10 => ?_)
  refine y_putf (j := 14) (N := 17) (Cn := RX1) (T := TX1) C tyX1 inB1 tyX1_ok nmX1 rfl (by decide) rfl rfl rfl rfl (Nat.le_of_ble_eq_true rfl) kf_X1_45 dX1_init_91 rfl ?_
  refine y_aln C 0 rfl dX1_init_94 rfl ?_
  refine y_bi (v := 10) C (by decide) dX1_init_95 rfl ?_
  refine y_newi (N := 10) C rfl (Nat.le_of_ble_eq_true rfl) ⟨Nat.le_of_ble_eq_true rfl, Nat.le_of_ble_eq_true rfl⟩ dX1_init_97 rfl (fun q11 => ?_)
  refine y_putf (j := 15) (N := 17) (Cn := RX1) (T := TX1) C tyX1 inB1 tyX1_ok nmX1 rfl (by decide) rfl rfl rfl rfl (Nat.le_of_ble_eq_true rfl) kf_X1_48 dX1_init_99 rfl ?_
  have eo1 : (fun i => if i < 12 then some (r1 i) else none) = (fun i : Nat => if i < 12 then some ((fun i => if i < 12 then [h0, q1, q2, q3, q4, q5, q6, q7, q8, q9, q10, q11].getD i 0 else r1 (i - 12)) (13 + i - 1)) else none) := funext (fun i => by
    by_cases c : i < 12
    · rw [if_pos c, if_pos c]; show some (r1 i) = some (if 13 + i - 1 < 12 then _ else r1 (13 + i - 1 - 12)); rw [if_neg (by omega), show 13 + i - 1 - 12 = i by omega]
    · rw [if_neg c, if_neg c])
  rw [eo1]
  refine y_vret C G (fun i => if i < 12 then [h0, q1, q2, q3, q4, q5, q6, q7, q8, q9, q10, q11].getD i 0 else r1 (i - 12)) rfl ?_ dX1_init_102
  unfold yL
  refine Eq.trans ?_ (mp_split 12 12 _).symm
  refine ap2 rfl ?_
  refine List.map_congr_left (fun i hi => ?_)
  have hi2 : i < 12 := List.mem_range.mp hi
  show (r1 i, _) = ((if 12 + i < 12 then _ else r1 (12 + i - 12)), gentX _ cy (1 + (12 + i)) (gX0 (1 + (12 + i))))
  rw [if_neg (by omega), Nat.add_sub_cancel_left, show 1 + (12 + i) = 13 + i by omega, gX0_z (by omega) (by omega), gXe_rown hi2]
set_option maxRecDepth 20000 in
theorem c_X4_init {l : Launch} {D : va_G} {cy : Nat → ClassId} : yM l yX4_init (Cond.code yX4_init cX4_init 1 none :: gBig) { frames := 1, cells := 64, slots := 15995, locals := 24 } D cy 4 [.int 0, .null, .null] 65 (blkE 136 cy) := by
  refine yIntro (own := RX4) (by decide +kernel) rfl rfl rfl (Nat.le_of_ble_eq_true rfl) (fun κ h0 sz C G => ?_)
  refine y_aln C 0 rfl dX4_init_0 rfl ?_
  refine y_obj C km_X4_3 (Nat.le_of_ble_eq_true rfl) (Nat.le_of_ble_eq_true rfl) dX4_init_1 rfl ?_
  refine y_aln C 0 rfl dX4_init_4 rfl ?_
  refine y_bi (v := 61) C (by decide) dX4_init_5 rfl ?_
  refine y_newi (N := 61) C rfl (Nat.le_of_ble_eq_true rfl) ⟨Nat.le_of_ble_eq_true rfl, Nat.le_of_ble_eq_true rfl⟩ dX4_init_7 rfl (fun q1 => ?_)
  refine y_putf (j := 1) (N := 3) (Cn := RX4) (T := TX4) C tyX4 inB4 tyX4_ok nmX4 rfl (by decide) rfl rfl rfl rfl (Nat.le_of_ble_eq_true rfl) kf_X4_9 dX4_init_9 rfl ?_
  refine y_aln C 0 rfl dX4_init_12 rfl ?_
  refine y_bi (v := 62) C (by decide) dX4_init_13 rfl ?_
  refine y_si (v := 256) C (by decide) dX4_init_15 rfl ?_
  refine y_mna (N := 62) (K := 256) C rfl rfl (Nat.le_of_ble_eq_true rfl) (Nat.le_of_ble_eq_true rfl) kcl_X4_15 ⟨Nat.le_of_ble_eq_true rfl, Nat.le_of_ble_eq_true rfl⟩ dX4_init_18 rfl (fun q2 r1 => ?_)
  refine y_putf (j := 2) (N := 3) (Cn := RX4) (T := TX4) C tyX4 inB4 tyX4_ok nmX4 rfl (by decide) rfl rfl rfl rfl (Nat.le_of_ble_eq_true rfl) kf_X4_17 dX4_init_22 rfl ?_
  have eo1 : (fun i => if i < 62 then some (r1 i) else none) = (fun i : Nat => if i < 62 then some ((fun i => if i < 3 then [h0, q1, q2].getD i 0 else r1 (i - 3)) (139 + i - 136)) else none) := funext (fun i => by
    by_cases c : i < 62
    · rw [if_pos c, if_pos c]; show some (r1 i) = some (if 139 + i - 136 < 3 then _ else r1 (139 + i - 136 - 3)); rw [if_neg (by omega), show 139 + i - 136 - 3 = i by omega]
    · rw [if_neg c, if_neg c])
  rw [eo1]
  refine y_vret C G (fun i => if i < 3 then [h0, q1, q2].getD i 0 else r1 (i - 3)) rfl ?_ dX4_init_25
  unfold yL
  refine Eq.trans ?_ (mp_split 3 62 _).symm
  refine ap2 rfl ?_
  refine List.map_congr_left (fun i hi => ?_)
  have hi2 : i < 62 := List.mem_range.mp hi
  show (r1 i, _) = ((if 3 + i < 3 then _ else r1 (3 + i - 3)), gentX _ cy (136 + (3 + i)) (gX0 (136 + (3 + i))))
  rw [if_neg (by omega), Nat.add_sub_cancel_left, show 136 + (3 + i) = 139 + i by omega, gX0_z (by omega) (by omega), gXe_few hi2]
set_option maxRecDepth 20000 in
theorem c_X5_init {l : Launch} {D : va_G} {cy : Nat → ClassId} : yM l yX5_init (Cond.code yX5_init cX5_init 1 none :: gBig) { frames := 1, cells := 81, slots := 1557, locals := 24 } D cy 5 [.int 0, .int 0, .int 0, .int 0, .null, .null, .null, .null, .null, .int 0, .null, .null, .null] 82 (blkE 54 cy) := by
  refine yIntro (own := RX5) (by decide +kernel) rfl rfl rfl (Nat.le_of_ble_eq_true rfl) (fun κ h0 sz C G => ?_)
  refine y_aln C 0 rfl dX5_init_0 rfl ?_
  refine y_obj C km_X5_3 (Nat.le_of_ble_eq_true rfl) (Nat.le_of_ble_eq_true rfl) dX5_init_1 rfl ?_
  refine y_aln C 0 rfl dX5_init_4 rfl ?_
  refine y_bi (v := 12) C (by decide) dX5_init_5 rfl ?_
  refine y_newi (N := 12) C rfl (Nat.le_of_ble_eq_true rfl) ⟨Nat.le_of_ble_eq_true rfl, Nat.le_of_ble_eq_true rfl⟩ dX5_init_7 rfl (fun q1 => ?_)
  refine y_putf (j := 4) (N := 13) (Cn := RX5) (T := TX5) C tyX5 inB5 tyX5_ok nmX5 rfl (by decide) rfl rfl rfl rfl (Nat.le_of_ble_eq_true rfl) kf_X5_9 dX5_init_9 rfl ?_
  refine y_aln C 0 rfl dX5_init_12 rfl ?_
  refine y_bi (v := 8) C (by decide) dX5_init_13 rfl ?_
  refine y_newi (N := 8) C rfl (Nat.le_of_ble_eq_true rfl) ⟨Nat.le_of_ble_eq_true rfl, Nat.le_of_ble_eq_true rfl⟩ dX5_init_15 rfl (fun q2 => ?_)
  refine y_putf (j := 5) (N := 13) (Cn := RX5) (T := TX5) C tyX5 inB5 tyX5_ok nmX5 rfl (by decide) rfl rfl rfl rfl (Nat.le_of_ble_eq_true rfl) kf_X5_15 dX5_init_17 rfl ?_
  refine y_aln C 0 rfl dX5_init_20 rfl ?_
  refine y_bi (v := 12) C (by decide) dX5_init_21 rfl ?_
  refine y_bi (v := 24) C (by decide) dX5_init_23 rfl ?_
  refine y_mna (N := 12) (K := 24) C rfl rfl (Nat.le_of_ble_eq_true rfl) (Nat.le_of_ble_eq_true rfl) kcl_X5_18 ⟨Nat.le_of_ble_eq_true rfl, Nat.le_of_ble_eq_true rfl⟩ dX5_init_25 rfl (fun q3 r1 => ?_)
  refine y_putf (j := 6) (N := 13) (Cn := RX5) (T := TX5) C tyX5 inB5 tyX5_ok nmX5 rfl (by decide) rfl rfl rfl rfl (Nat.le_of_ble_eq_true rfl) kf_X5_20 dX5_init_29 rfl ?_
  refine y_aln C 0 rfl dX5_init_32 rfl ?_
  refine y_bi (v := 61) C (by decide) dX5_init_33 rfl ?_
  refine y_bi (v := 12) C (by decide) dX5_init_35 rfl ?_
  refine y_mna (N := 61) (K := 12) C rfl rfl (Nat.le_of_ble_eq_true rfl) (Nat.le_of_ble_eq_true rfl) kcl_X5_18 ⟨Nat.le_of_ble_eq_true rfl, Nat.le_of_ble_eq_true rfl⟩ dX5_init_37 rfl (fun q4 r2 => ?_)
  refine y_putf (j := 7) (N := 13) (Cn := RX5) (T := TX5) C tyX5 inB5 tyX5_ok nmX5 rfl (by decide) rfl rfl rfl rfl (Nat.le_of_ble_eq_true rfl) kf_X5_23 dX5_init_41 rfl ?_
  refine y_aln C 0 rfl dX5_init_44 rfl ?_
  refine y_bi (v := 12) C (by decide) dX5_init_45 rfl ?_
  refine y_newi (N := 12) C rfl (Nat.le_of_ble_eq_true rfl) ⟨Nat.le_of_ble_eq_true rfl, Nat.le_of_ble_eq_true rfl⟩ dX5_init_47 rfl (fun q5 => ?_)
  refine y_putf (j := 8) (N := 13) (Cn := RX5) (T := TX5) C tyX5 inB5 tyX5_ok nmX5 rfl (by decide) rfl rfl rfl rfl (Nat.le_of_ble_eq_true rfl) kf_X5_26 dX5_init_49 rfl ?_
  refine y_aln C 0 rfl dX5_init_52 rfl ?_
  refine y_si (v := 144) C (by decide) dX5_init_53 rfl ?_
  refine y_newi (N := 144) C rfl (Nat.le_of_ble_eq_true rfl) ⟨Nat.le_of_ble_eq_true rfl, Nat.le_of_ble_eq_true rfl⟩ dX5_init_56 rfl (fun q6 => ?_)
  refine y_putf (j := 10) (N := 13) (Cn := RX5) (T := TX5) C tyX5 inB5 tyX5_ok nmX5 rfl (by decide) rfl rfl rfl rfl (Nat.le_of_ble_eq_true rfl) kf_X5_29 dX5_init_58 rfl ?_
  refine y_aln C 0 rfl dX5_init_61 rfl ?_
  refine y_si (v := 144) C (by decide) dX5_init_62 rfl ?_
  refine y_newi (N := 144) C rfl (Nat.le_of_ble_eq_true rfl) ⟨Nat.le_of_ble_eq_true rfl, Nat.le_of_ble_eq_true rfl⟩ dX5_init_65 rfl (fun q7 => ?_)
  refine y_putf (j := 11) (N := 13) (Cn := RX5) (T := TX5) C tyX5 inB5 tyX5_ok nmX5 rfl (by decide) rfl rfl rfl rfl (Nat.le_of_ble_eq_true rfl) kf_X5_32 dX5_init_67 rfl ?_
  refine y_aln C 0 rfl dX5_init_70 rfl ?_
  refine y_si (v := 144) C (by decide) dX5_init_71 rfl ?_
  refine y_newi (N := 144) C rfl (Nat.le_of_ble_eq_true rfl) ⟨Nat.le_of_ble_eq_true rfl, Nat.le_of_ble_eq_true rfl⟩ dX5_init_74 rfl (fun q8 => ?_)
  refine y_putf (j := 12) (N := 13) (Cn := RX5) (T := TX5) C tyX5 inB5 tyX5_ok nmX5 rfl (by decide) rfl rfl rfl rfl (Nat.le_of_ble_eq_true rfl) kf_X5_35 dX5_init_76 rfl ?_
  have eo1 : (fun i => if i < 12 then some (r1 i) else none) = (fun i : Nat => if i < 12 then some ((fun i => if i < 9 then [h0, q1, q2, q3, q4, q5, q6, q7, q8].getD i 0 else if i < 21 then r1 (i - 9) else r2 (i - 21)) (63 + i - 54)) else none) := funext (fun i => by
    by_cases c : i < 12
    · rw [if_pos c, if_pos c]; show some (r1 i) = some (if 63 + i - 54 < 9 then _ else if 63 + i - 54 < 21 then r1 (63 + i - 54 - 9) else _); rw [if_neg (by omega), if_pos (by omega), show 63 + i - 54 - 9 = i by omega]
    · rw [if_neg c, if_neg c])
  have eo2 : (fun i => if i < 61 then some (r2 i) else none) = (fun i : Nat => if i < 61 then some ((fun i => if i < 9 then [h0, q1, q2, q3, q4, q5, q6, q7, q8].getD i 0 else if i < 21 then r1 (i - 9) else r2 (i - 21)) (75 + i - 54)) else none) := funext (fun i => by
    by_cases c : i < 61
    · rw [if_pos c, if_pos c]; show some (r2 i) = some (if 75 + i - 54 < 9 then _ else if 75 + i - 54 < 21 then _ else r2 (75 + i - 54 - 21)); rw [if_neg (by omega), if_neg (by omega), show 75 + i - 54 - 21 = i by omega]
    · rw [if_neg c, if_neg c])
  rw [eo1, eo2]
  refine y_vret C G (fun i => if i < 9 then [h0, q1, q2, q3, q4, q5, q6, q7, q8].getD i 0 else if i < 21 then r1 (i - 9) else r2 (i - 21)) rfl ?_ dX5_init_79
  unfold yL
  refine Eq.trans ?_ (mp_split 9 73 _).symm
  refine ap2 rfl ?_
  refine Eq.trans ?_ (mp_split 12 61 _).symm
  refine ap2 (List.map_congr_left (fun i hi => ?_)) (List.map_congr_left (fun i hi => ?_))
  · have hi2 : i < 12 := List.mem_range.mp hi
    show (r1 i, _) = ((if 9 + i < 9 then _ else if 9 + i < 21 then r1 (9 + i - 9) else _), gentX _ cy (54 + (9 + i)) (gX0 (54 + (9 + i))))
    rw [if_neg (by omega), if_pos (by omega), Nat.add_sub_cancel_left, show 54 + (9 + i) = 63 + i by omega, gX0_z (by omega) (by omega), gXe_foot hi2]
  · have hi2 : i < 61 := List.mem_range.mp hi
    show (r2 i, _) = ((if 9 + (12 + i) < 9 then _ else if 9 + (12 + i) < 21 then _ else r2 (9 + (12 + i) - 21)), gentX _ cy (54 + (9 + (12 + i))) (gX0 (54 + (9 + (12 + i)))))
    rw [if_neg (by omega), if_neg (by omega), show 9 + (12 + i) - 21 = i by omega, show 54 + (9 + (12 + i)) = 75 + i by omega, gX0_z (by omega) (by omega), gXe_at hi2]
set_option maxRecDepth 20000 in
theorem c_X7_init {l : Launch} {D : va_G} {cy : Nat → ClassId} : yM l yX7_init (Cond.code yX7_init cX7_init 2 none :: gBig) { frames := 1, cells := 13, slots := 22909, locals := 24 } D cy 7 [.null, .int 0, .null, .int 0, .int 0, .int 0, .int 0, .null, .null, .null, .null, .null, .null, .null, .int 0, .int 0, .null, .null, .null, .null] 14 ((fun r i => gentM r cy i (gM0 i))) := by
  refine yIntro (own := RX7) (by decide +kernel) rfl rfl rfl (Nat.le_of_ble_eq_true rfl) (fun κ h0 sz C G => ?_)
  refine y_aln C 0 rfl dX7_init_0 rfl ?_
  refine y_obj C km_X7_1 (Nat.le_of_ble_eq_true rfl) (Nat.le_of_ble_eq_true rfl) dX7_init_1 rfl ?_
  refine y_aln C 0 rfl dX7_init_4 rfl ?_
  refine y_si (v := 528) C (by decide) dX7_init_5 rfl ?_
  refine y_newi (N := 528) C rfl (Nat.le_of_ble_eq_true rfl) ⟨Nat.le_of_ble_eq_true rfl, Nat.le_of_ble_eq_true rfl⟩ dX7_init_8 rfl (fun q1 => ?_)
  refine y_putf (j := 0) (N := 20) (Cn := RX7) (T := TX7) C tyX7 inB7 tyX7_ok nmX7 rfl (by decide) rfl rfl rfl rfl (Nat.le_of_ble_eq_true rfl) kf_X7_7 dX7_init_10 rfl ?_
  refine y_aln C 0 rfl dX7_init_13 rfl ?_
  refine y_bi (v := 80) C (by decide) dX7_init_14 rfl ?_
  refine y_newi (N := 80) C rfl (Nat.le_of_ble_eq_true rfl) ⟨Nat.le_of_ble_eq_true rfl, Nat.le_of_ble_eq_true rfl⟩ dX7_init_16 rfl (fun q2 => ?_)
  refine y_putf (j := 2) (N := 20) (Cn := RX7) (T := TX7) C tyX7 inB7 tyX7_ok nmX7 rfl (by decide) rfl rfl rfl rfl (Nat.le_of_ble_eq_true rfl) kf_X7_13 dX7_init_18 rfl ?_
  refine y_aln C 0 rfl dX7_init_21 rfl ?_
  refine y_bi (v := 24) C (by decide) dX7_init_22 rfl ?_
  refine y_newi (N := 24) C rfl (Nat.le_of_ble_eq_true rfl) ⟨Nat.le_of_ble_eq_true rfl, Nat.le_of_ble_eq_true rfl⟩ dX7_init_24 rfl (fun q3 => ?_)
  refine y_putf (j := 7) (N := 20) (Cn := RX7) (T := TX7) C tyX7 inB7 tyX7_ok nmX7 rfl (by decide) rfl rfl rfl rfl (Nat.le_of_ble_eq_true rfl) kf_X7_16 dX7_init_26 rfl ?_
  refine y_aln C 0 rfl dX7_init_29 rfl ?_
  refine y_bi (v := 96) C (by decide) dX7_init_30 rfl ?_
  refine y_newi (N := 96) C rfl (Nat.le_of_ble_eq_true rfl) ⟨Nat.le_of_ble_eq_true rfl, Nat.le_of_ble_eq_true rfl⟩ dX7_init_32 rfl (fun q4 => ?_)
  refine y_putf (j := 8) (N := 20) (Cn := RX7) (T := TX7) C tyX7 inB7 tyX7_ok nmX7 rfl (by decide) rfl rfl rfl rfl (Nat.le_of_ble_eq_true rfl) kf_X7_19 dX7_init_34 rfl ?_
  refine y_aln C 0 rfl dX7_init_37 rfl ?_
  refine y_ic (v := 4) C (by decide) dX7_init_38 rfl ?_
  refine y_newi (N := 4) C rfl (Nat.le_of_ble_eq_true rfl) ⟨Nat.le_of_ble_eq_true rfl, Nat.le_of_ble_eq_true rfl⟩ dX7_init_39 rfl (fun q5 => ?_)
  refine y_putf (j := 9) (N := 20) (Cn := RX7) (T := TX7) C tyX7 inB7 tyX7_ok nmX7 rfl (by decide) rfl rfl rfl rfl (Nat.le_of_ble_eq_true rfl) kf_X7_22 dX7_init_41 rfl ?_
  refine y_aln C 0 rfl dX7_init_44 rfl ?_
  refine y_ic (v := 4) C (by decide) dX7_init_45 rfl ?_
  refine y_newi (N := 4) C rfl (Nat.le_of_ble_eq_true rfl) ⟨Nat.le_of_ble_eq_true rfl, Nat.le_of_ble_eq_true rfl⟩ dX7_init_46 rfl (fun q6 => ?_)
  refine y_putf (j := 10) (N := 20) (Cn := RX7) (T := TX7) C tyX7 inB7 tyX7_ok nmX7 rfl (by decide) rfl rfl rfl rfl (Nat.le_of_ble_eq_true rfl) kf_X7_25 dX7_init_48 rfl ?_
  refine y_aln C 0 rfl dX7_init_51 rfl ?_
  refine y_bi (v := 24) C (by decide) dX7_init_52 rfl ?_
  refine y_newi (N := 24) C rfl (Nat.le_of_ble_eq_true rfl) ⟨Nat.le_of_ble_eq_true rfl, Nat.le_of_ble_eq_true rfl⟩ dX7_init_54 rfl (fun q7 => ?_)
  refine y_putf (j := 11) (N := 20) (Cn := RX7) (T := TX7) C tyX7 inB7 tyX7_ok nmX7 rfl (by decide) rfl rfl rfl rfl (Nat.le_of_ble_eq_true rfl) kf_X7_28 dX7_init_56 rfl ?_
  refine y_aln C 0 rfl dX7_init_59 rfl ?_
  refine y_bi (v := 96) C (by decide) dX7_init_60 rfl ?_
  refine y_newz (N := 96) C rfl (Nat.le_of_ble_eq_true rfl) ⟨Nat.le_of_ble_eq_true rfl, Nat.le_of_ble_eq_true rfl⟩ dX7_init_62 rfl (fun q8 => ?_)
  refine y_putf (j := 12) (N := 20) (Cn := RX7) (T := TX7) C tyX7 inB7 tyX7_ok nmX7 rfl (by decide) rfl rfl rfl rfl (Nat.le_of_ble_eq_true rfl) kf_X7_31 dX7_init_64 rfl ?_
  refine y_aln C 0 rfl dX7_init_67 rfl ?_
  refine y_si (v := 5856) C (by decide) dX7_init_68 rfl ?_
  refine y_newz (N := 5856) C rfl (Nat.le_of_ble_eq_true rfl) ⟨Nat.le_of_ble_eq_true rfl, Nat.le_of_ble_eq_true rfl⟩ dX7_init_71 rfl (fun q9 => ?_)
  refine y_putf (j := 13) (N := 20) (Cn := RX7) (T := TX7) C tyX7 inB7 tyX7_ok nmX7 rfl (by decide) rfl rfl rfl rfl (Nat.le_of_ble_eq_true rfl) kf_X7_35 dX7_init_73 rfl ?_
  refine y_aln C 0 rfl dX7_init_76 rfl ?_
  refine y_si (v := 15872) C (by decide) dX7_init_77 rfl ?_
  refine y_newi (N := 15872) C rfl (Nat.le_of_ble_eq_true rfl) ⟨Nat.le_of_ble_eq_true rfl, Nat.le_of_ble_eq_true rfl⟩ dX7_init_80 rfl (fun q10 => ?_)
  refine y_putf (j := 16) (N := 20) (Cn := RX7) (T := TX7) C tyX7 inB7 tyX7_ok nmX7 rfl (by decide) rfl rfl rfl rfl (Nat.le_of_ble_eq_true rfl) kf_X7_38 dX7_init_82 rfl ?_
  refine y_aln C 0 rfl dX7_init_85 rfl ?_
  refine y_bi (v := 61) C (by decide) dX7_init_86 rfl ?_
  refine y_newi (N := 61) C rfl (Nat.le_of_ble_eq_true rfl) ⟨Nat.le_of_ble_eq_true rfl, Nat.le_of_ble_eq_true rfl⟩ dX7_init_88 rfl (fun q11 => ?_)
  refine y_putf (j := 17) (N := 20) (Cn := RX7) (T := TX7) C tyX7 inB7 tyX7_ok nmX7 rfl (by decide) rfl rfl rfl rfl (Nat.le_of_ble_eq_true rfl) kf_X7_41 dX7_init_90 rfl ?_
  refine y_aln C 0 rfl dX7_init_93 rfl ?_
  refine y_si (v := 256) C (by decide) dX7_init_94 rfl ?_
  refine y_newi (N := 256) C rfl (Nat.le_of_ble_eq_true rfl) ⟨Nat.le_of_ble_eq_true rfl, Nat.le_of_ble_eq_true rfl⟩ dX7_init_97 rfl (fun q12 => ?_)
  refine y_putf (j := 18) (N := 20) (Cn := RX7) (T := TX7) C tyX7 inB7 tyX7_ok nmX7 rfl (by decide) rfl rfl rfl rfl (Nat.le_of_ble_eq_true rfl) kf_X7_44 dX7_init_99 rfl ?_
  refine y_aln C 0 rfl dX7_init_102 rfl ?_
  refine y_bi (v := 8) C (by decide) dX7_init_103 rfl ?_
  refine y_newi (N := 8) C rfl (Nat.le_of_ble_eq_true rfl) ⟨Nat.le_of_ble_eq_true rfl, Nat.le_of_ble_eq_true rfl⟩ dX7_init_105 rfl (fun q13 => ?_)
  refine y_putf (j := 19) (N := 20) (Cn := RX7) (T := TX7) C tyX7 inB7 tyX7_ok nmX7 rfl (by decide) rfl rfl rfl rfl (Nat.le_of_ble_eq_true rfl) kf_X7_47 dX7_init_107 rfl ?_
  refine y_aln C 0 rfl dX7_init_110 rfl ?_
  refine y_get (j := 0) (N := 20) (Cn := RX7) (T := TX7) C inB7 rfl (by decide) rfl kf_X7_7 dX7_init_111 rfl ?_
  refine y_bi (v := 61) C (by decide) dX7_init_114 rfl ?_
  refine y_bi (v := 20) C (by decide) dX7_init_116 rfl ?_
  refine y_iast (X' := ((h0, gentM (fun k => [h0, q1, q2, q3, q4, q5, q6, q7, q8, q9, q10, q11, q12, q13].getD k 0) cy 0 gZr) :: [(q1, gentM (fun k => [h0, q1, q2, q3, q4, q5, q6, q7, q8, q9, q10, q11, q12, q13].getD k 0) cy 1 (upd gZr 61 20)), (q2, gentM (fun k => [h0, q1, q2, q3, q4, q5, q6, q7, q8, q9, q10, q11, q12, q13].getD k 0) cy 2 gZr), (q3, gentM (fun k => [h0, q1, q2, q3, q4, q5, q6, q7, q8, q9, q10, q11, q12, q13].getD k 0) cy 3 gZr), (q4, gentM (fun k => [h0, q1, q2, q3, q4, q5, q6, q7, q8, q9, q10, q11, q12, q13].getD k 0) cy 4 gZr), (q5, gentM (fun k => [h0, q1, q2, q3, q4, q5, q6, q7, q8, q9, q10, q11, q12, q13].getD k 0) cy 5 gZr), (q6, gentM (fun k => [h0, q1, q2, q3, q4, q5, q6, q7, q8, q9, q10, q11, q12, q13].getD k 0) cy 6 gZr), (q7, gentM (fun k => [h0, q1, q2, q3, q4, q5, q6, q7, q8, q9, q10, q11, q12, q13].getD k 0) cy 7 gZr), (q8, gentM (fun k => [h0, q1, q2, q3, q4, q5, q6, q7, q8, q9, q10, q11, q12, q13].getD k 0) cy 8 gZr), (q9, gentM (fun k => [h0, q1, q2, q3, q4, q5, q6, q7, q8, q9, q10, q11, q12, q13].getD k 0) cy 9 gZr), (q10, gentM (fun k => [h0, q1, q2, q3, q4, q5, q6, q7, q8, q9, q10, q11, q12, q13].getD k 0) cy 10 gZr), (q11, gentM (fun k => [h0, q1, q2, q3, q4, q5, q6, q7, q8, q9, q10, q11, q12, q13].getD k 0) cy 11 gZr), (q12, gentM (fun k => [h0, q1, q2, q3, q4, q5, q6, q7, q8, q9, q10, q11, q12, q13].getD k 0) cy 12 gZr), (q13, gentM (fun k => [h0, q1, q2, q3, q4, q5, q6, q7, q8, q9, q10, q11, q12, q13].getD k 0) cy 13 gZr)])) (N := 528) C 1 rfl rfl rfl dX7_init_118 rfl ?_
  refine y_ic (v := 0) C (by decide) dX7_init_119 rfl ?_
  refine y_istn (lv' := [(1, .int 0), (0, .ref h0)]) C rfl (by decide) rfl dX7_init_120 rfl ?_
  refine y_iln C 0 rfl dX7_init_121 rfl ?_
  refine y_ic (v := 4) C (by decide) dX7_init_122 rfl ?_
  refine y_geF C dX7_init_123 (tgt := 139) (by decide) rfl (by decide) ?_
  refine y_aln C 1 rfl dX7_init_126 rfl ?_
  refine y_get (j := 9) (N := 20) (Cn := RX7) (T := TX7) C inB7 rfl (by decide) rfl kf_X7_22 dX7_init_127 rfl ?_
  refine y_iln C 0 rfl dX7_init_130 rfl ?_
  refine y_ic (v := -1) C (by decide) dX7_init_131 rfl ?_
  refine y_iast (X' := ((h0, gentM (fun k => [h0, q1, q2, q3, q4, q5, q6, q7, q8, q9, q10, q11, q12, q13].getD k 0) cy 0 gZr) :: [(q1, gentM (fun k => [h0, q1, q2, q3, q4, q5, q6, q7, q8, q9, q10, q11, q12, q13].getD k 0) cy 1 (upd gZr 61 20)), (q2, gentM (fun k => [h0, q1, q2, q3, q4, q5, q6, q7, q8, q9, q10, q11, q12, q13].getD k 0) cy 2 gZr), (q3, gentM (fun k => [h0, q1, q2, q3, q4, q5, q6, q7, q8, q9, q10, q11, q12, q13].getD k 0) cy 3 gZr), (q4, gentM (fun k => [h0, q1, q2, q3, q4, q5, q6, q7, q8, q9, q10, q11, q12, q13].getD k 0) cy 4 gZr), (q5, gentM (fun k => [h0, q1, q2, q3, q4, q5, q6, q7, q8, q9, q10, q11, q12, q13].getD k 0) cy 5 (upd gZr 0 (-1))), (q6, gentM (fun k => [h0, q1, q2, q3, q4, q5, q6, q7, q8, q9, q10, q11, q12, q13].getD k 0) cy 6 gZr), (q7, gentM (fun k => [h0, q1, q2, q3, q4, q5, q6, q7, q8, q9, q10, q11, q12, q13].getD k 0) cy 7 gZr), (q8, gentM (fun k => [h0, q1, q2, q3, q4, q5, q6, q7, q8, q9, q10, q11, q12, q13].getD k 0) cy 8 gZr), (q9, gentM (fun k => [h0, q1, q2, q3, q4, q5, q6, q7, q8, q9, q10, q11, q12, q13].getD k 0) cy 9 gZr), (q10, gentM (fun k => [h0, q1, q2, q3, q4, q5, q6, q7, q8, q9, q10, q11, q12, q13].getD k 0) cy 10 gZr), (q11, gentM (fun k => [h0, q1, q2, q3, q4, q5, q6, q7, q8, q9, q10, q11, q12, q13].getD k 0) cy 11 gZr), (q12, gentM (fun k => [h0, q1, q2, q3, q4, q5, q6, q7, q8, q9, q10, q11, q12, q13].getD k 0) cy 12 gZr), (q13, gentM (fun k => [h0, q1, q2, q3, q4, q5, q6, q7, q8, q9, q10, q11, q12, q13].getD k 0) cy 13 gZr)])) (N := 4) (f := gZr) C 5 rfl rfl rfl dX7_init_132 rfl ?_
  refine y_iinc (j := 0) (v := 1) (lv' := [(1, .int 1), (0, .ref h0)]) C rfl (w := 1) (by decide) (by decide) (by decide) rfl dX7_init_133 rfl ?_
  refine y_goto (tgt := 121) C dX7_init_136 (by decide) ?_
  refine y_iln C 0 rfl dX7_init_121 rfl ?_
  refine y_ic (v := 4) C (by decide) dX7_init_122 rfl ?_
  refine y_geF C dX7_init_123 (tgt := 139) (by decide) rfl (by decide) ?_
  refine y_aln C 1 rfl dX7_init_126 rfl ?_
  refine y_get (j := 9) (N := 20) (Cn := RX7) (T := TX7) C inB7 rfl (by decide) rfl kf_X7_22 dX7_init_127 rfl ?_
  refine y_iln C 0 rfl dX7_init_130 rfl ?_
  refine y_ic (v := -1) C (by decide) dX7_init_131 rfl ?_
  refine y_iast (X' := ((h0, gentM (fun k => [h0, q1, q2, q3, q4, q5, q6, q7, q8, q9, q10, q11, q12, q13].getD k 0) cy 0 gZr) :: [(q1, gentM (fun k => [h0, q1, q2, q3, q4, q5, q6, q7, q8, q9, q10, q11, q12, q13].getD k 0) cy 1 (upd gZr 61 20)), (q2, gentM (fun k => [h0, q1, q2, q3, q4, q5, q6, q7, q8, q9, q10, q11, q12, q13].getD k 0) cy 2 gZr), (q3, gentM (fun k => [h0, q1, q2, q3, q4, q5, q6, q7, q8, q9, q10, q11, q12, q13].getD k 0) cy 3 gZr), (q4, gentM (fun k => [h0, q1, q2, q3, q4, q5, q6, q7, q8, q9, q10, q11, q12, q13].getD k 0) cy 4 gZr), (q5, gentM (fun k => [h0, q1, q2, q3, q4, q5, q6, q7, q8, q9, q10, q11, q12, q13].getD k 0) cy 5 (upd (upd gZr 0 (-1)) 1 (-1))), (q6, gentM (fun k => [h0, q1, q2, q3, q4, q5, q6, q7, q8, q9, q10, q11, q12, q13].getD k 0) cy 6 gZr), (q7, gentM (fun k => [h0, q1, q2, q3, q4, q5, q6, q7, q8, q9, q10, q11, q12, q13].getD k 0) cy 7 gZr), (q8, gentM (fun k => [h0, q1, q2, q3, q4, q5, q6, q7, q8, q9, q10, q11, q12, q13].getD k 0) cy 8 gZr), (q9, gentM (fun k => [h0, q1, q2, q3, q4, q5, q6, q7, q8, q9, q10, q11, q12, q13].getD k 0) cy 9 gZr), (q10, gentM (fun k => [h0, q1, q2, q3, q4, q5, q6, q7, q8, q9, q10, q11, q12, q13].getD k 0) cy 10 gZr), (q11, gentM (fun k => [h0, q1, q2, q3, q4, q5, q6, q7, q8, q9, q10, q11, q12, q13].getD k 0) cy 11 gZr), (q12, gentM (fun k => [h0, q1, q2, q3, q4, q5, q6, q7, q8, q9, q10, q11, q12, q13].getD k 0) cy 12 gZr), (q13, gentM (fun k => [h0, q1, q2, q3, q4, q5, q6, q7, q8, q9, q10, q11, q12, q13].getD k 0) cy 13 gZr)])) (N := 4) (f := (upd gZr 0 (-1))) C 5 rfl rfl rfl dX7_init_132 rfl ?_
  refine y_iinc (j := 0) (v := 2) (lv' := [(1, .int 2), (0, .ref h0)]) C rfl (w := 1) (by decide) (by decide) (by decide) rfl dX7_init_133 rfl ?_
  refine y_goto (tgt := 121) C dX7_init_136 (by decide) ?_
  refine y_iln C 0 rfl dX7_init_121 rfl ?_
  refine y_ic (v := 4) C (by decide) dX7_init_122 rfl ?_
  refine y_geF C dX7_init_123 (tgt := 139) (by decide) rfl (by decide) ?_
  refine y_aln C 1 rfl dX7_init_126 rfl ?_
  refine y_get (j := 9) (N := 20) (Cn := RX7) (T := TX7) C inB7 rfl (by decide) rfl kf_X7_22 dX7_init_127 rfl ?_
  refine y_iln C 0 rfl dX7_init_130 rfl ?_
  refine y_ic (v := -1) C (by decide) dX7_init_131 rfl ?_
  refine y_iast (X' := ((h0, gentM (fun k => [h0, q1, q2, q3, q4, q5, q6, q7, q8, q9, q10, q11, q12, q13].getD k 0) cy 0 gZr) :: [(q1, gentM (fun k => [h0, q1, q2, q3, q4, q5, q6, q7, q8, q9, q10, q11, q12, q13].getD k 0) cy 1 (upd gZr 61 20)), (q2, gentM (fun k => [h0, q1, q2, q3, q4, q5, q6, q7, q8, q9, q10, q11, q12, q13].getD k 0) cy 2 gZr), (q3, gentM (fun k => [h0, q1, q2, q3, q4, q5, q6, q7, q8, q9, q10, q11, q12, q13].getD k 0) cy 3 gZr), (q4, gentM (fun k => [h0, q1, q2, q3, q4, q5, q6, q7, q8, q9, q10, q11, q12, q13].getD k 0) cy 4 gZr), (q5, gentM (fun k => [h0, q1, q2, q3, q4, q5, q6, q7, q8, q9, q10, q11, q12, q13].getD k 0) cy 5 (upd (upd (upd gZr 0 (-1)) 1 (-1)) 2 (-1))), (q6, gentM (fun k => [h0, q1, q2, q3, q4, q5, q6, q7, q8, q9, q10, q11, q12, q13].getD k 0) cy 6 gZr), (q7, gentM (fun k => [h0, q1, q2, q3, q4, q5, q6, q7, q8, q9, q10, q11, q12, q13].getD k 0) cy 7 gZr), (q8, gentM (fun k => [h0, q1, q2, q3, q4, q5, q6, q7, q8, q9, q10, q11, q12, q13].getD k 0) cy 8 gZr), (q9, gentM (fun k => [h0, q1, q2, q3, q4, q5, q6, q7, q8, q9, q10, q11, q12, q13].getD k 0) cy 9 gZr), (q10, gentM (fun k => [h0, q1, q2, q3, q4, q5, q6, q7, q8, q9, q10, q11, q12, q13].getD k 0) cy 10 gZr), (q11, gentM (fun k => [h0, q1, q2, q3, q4, q5, q6, q7, q8, q9, q10, q11, q12, q13].getD k 0) cy 11 gZr), (q12, gentM (fun k => [h0, q1, q2, q3, q4, q5, q6, q7, q8, q9, q10, q11, q12, q13].getD k 0) cy 12 gZr), (q13, gentM (fun k => [h0, q1, q2, q3, q4, q5, q6, q7, q8, q9, q10, q11, q12, q13].getD k 0) cy 13 gZr)])) (N := 4) (f := (upd (upd gZr 0 (-1)) 1 (-1))) C 5 rfl rfl rfl dX7_init_132 rfl ?_
  refine y_iinc (j := 0) (v := 3) (lv' := [(1, .int 3), (0, .ref h0)]) C rfl (w := 1) (by decide) (by decide) (by decide) rfl dX7_init_133 rfl ?_
  refine y_goto (tgt := 121) C dX7_init_136 (by decide) ?_
  refine y_iln C 0 rfl dX7_init_121 rfl ?_
  refine y_ic (v := 4) C (by decide) dX7_init_122 rfl ?_
  refine y_geF C dX7_init_123 (tgt := 139) (by decide) rfl (by decide) ?_
  refine y_aln C 1 rfl dX7_init_126 rfl ?_
  refine y_get (j := 9) (N := 20) (Cn := RX7) (T := TX7) C inB7 rfl (by decide) rfl kf_X7_22 dX7_init_127 rfl ?_
  refine y_iln C 0 rfl dX7_init_130 rfl ?_
  refine y_ic (v := -1) C (by decide) dX7_init_131 rfl ?_
  refine y_iast (X' := ((h0, gentM (fun k => [h0, q1, q2, q3, q4, q5, q6, q7, q8, q9, q10, q11, q12, q13].getD k 0) cy 0 gZr) :: [(q1, gentM (fun k => [h0, q1, q2, q3, q4, q5, q6, q7, q8, q9, q10, q11, q12, q13].getD k 0) cy 1 (upd gZr 61 20)), (q2, gentM (fun k => [h0, q1, q2, q3, q4, q5, q6, q7, q8, q9, q10, q11, q12, q13].getD k 0) cy 2 gZr), (q3, gentM (fun k => [h0, q1, q2, q3, q4, q5, q6, q7, q8, q9, q10, q11, q12, q13].getD k 0) cy 3 gZr), (q4, gentM (fun k => [h0, q1, q2, q3, q4, q5, q6, q7, q8, q9, q10, q11, q12, q13].getD k 0) cy 4 gZr), (q5, gentM (fun k => [h0, q1, q2, q3, q4, q5, q6, q7, q8, q9, q10, q11, q12, q13].getD k 0) cy 5 (upd (upd (upd (upd gZr 0 (-1)) 1 (-1)) 2 (-1)) 3 (-1))), (q6, gentM (fun k => [h0, q1, q2, q3, q4, q5, q6, q7, q8, q9, q10, q11, q12, q13].getD k 0) cy 6 gZr), (q7, gentM (fun k => [h0, q1, q2, q3, q4, q5, q6, q7, q8, q9, q10, q11, q12, q13].getD k 0) cy 7 gZr), (q8, gentM (fun k => [h0, q1, q2, q3, q4, q5, q6, q7, q8, q9, q10, q11, q12, q13].getD k 0) cy 8 gZr), (q9, gentM (fun k => [h0, q1, q2, q3, q4, q5, q6, q7, q8, q9, q10, q11, q12, q13].getD k 0) cy 9 gZr), (q10, gentM (fun k => [h0, q1, q2, q3, q4, q5, q6, q7, q8, q9, q10, q11, q12, q13].getD k 0) cy 10 gZr), (q11, gentM (fun k => [h0, q1, q2, q3, q4, q5, q6, q7, q8, q9, q10, q11, q12, q13].getD k 0) cy 11 gZr), (q12, gentM (fun k => [h0, q1, q2, q3, q4, q5, q6, q7, q8, q9, q10, q11, q12, q13].getD k 0) cy 12 gZr), (q13, gentM (fun k => [h0, q1, q2, q3, q4, q5, q6, q7, q8, q9, q10, q11, q12, q13].getD k 0) cy 13 gZr)])) (N := 4) (f := (upd (upd (upd gZr 0 (-1)) 1 (-1)) 2 (-1))) C 5 rfl rfl rfl dX7_init_132 rfl ?_
  refine y_iinc (j := 0) (v := 4) (lv' := [(1, .int 4), (0, .ref h0)]) C rfl (w := 1) (by decide) (by decide) (by decide) rfl dX7_init_133 rfl ?_
  refine y_goto (tgt := 121) C dX7_init_136 (by decide) ?_
  refine y_iln C 0 rfl dX7_init_121 rfl ?_
  refine y_ic (v := 4) C (by decide) dX7_init_122 rfl ?_
  refine y_geT C dX7_init_123 (tgt := 139) (by decide) (by decide) ?_
  exact y_vret C G (fun k => [h0, q1, q2, q3, q4, q5, q6, q7, q8, q9, q10, q11, q12, q13].getD k 0) rfl rfl dX7_init_139
