/-! ===== the class's constructor (written by wip/whole/gen/mk7.py) ===== -/
theorem get3 {X R B : va_W} {i : Nat} : (X ++ (R ++ B))[X.length + (R.length + i)]? = B[i]? := by
  rw [gsk rfl, gsk rfl]
set_option maxRecDepth 20000 in
theorem c_X6_init {l : Launch} {D : va_G} {cy : Nat → ClassId} : yM l yX6_init (Cond.code yX6_init cX6_init 2 none :: gBig) { frames := 2, cells := 212, slots := 18638, locals := 60 } D cy 6 [.null, .null, .int 0, .null, .null, .null, .null, .null] 213 (fun r k => gentX r cy k (gX0 k)) := by
  refine yIntro (own := RX6) (by decide +kernel) rfl rfl rfl (Nat.le_of_ble_eq_true rfl) (fun κ h0 sz C G => ?_)
  refine y_aln C 0 rfl dX6_init_0 rfl ?_
  refine y_obj C km_X6_1 (Nat.le_of_ble_eq_true rfl) (Nat.le_of_ble_eq_true rfl) dX6_init_1 rfl ?_
  refine y_aln C 0 rfl dX6_init_4 rfl ?_
  refine y_new (ci := 1) (fs := [.int 0, .null, .null, .null, .null, .null, .int 0, .int 0, .int 0, .null, .null, .null, .int 0, .null, .null, .null, .int 0]) (N := 17) (Cn := RX1) (T := TX1) C tyX1 inB1 tyX1_ok rfl kcl_X6_7 kins_X1 kini_X1 (fun j hj => by rcases (show j = 0 ∨ j = 1 ∨ j = 2 ∨ j = 3 ∨ j = 4 ∨ j = 5 ∨ j = 6 ∨ j = 7 ∨ j = 8 ∨ j = 9 ∨ j = 10 ∨ j = 11 ∨ j = 12 ∨ j = 13 ∨ j = 14 ∨ j = 15 ∨ j = 16 by omega) with rfl | rfl | rfl | rfl | rfl | rfl | rfl | rfl | rfl | rfl | rfl | rfl | rfl | rfl | rfl | rfl | rfl <;> rfl) ⟨Nat.le_of_ble_eq_true rfl, Nat.le_of_ble_eq_true rfl⟩ dX6_init_5 rfl (fun qr1 => ?_)
  refine y_dup C rfl dX6_init_8 rfl ?_
  refine y_call C G.2.2.2 (c_X1_init (l := l) (D := D) (cy := cy)) kc_X1_init rfl (by decide +kernel) kini_X1 kin_X1_init ⟨by decide +kernel, by decide +kernel, by decide +kernel⟩ ⟨Nat.le_of_ble_eq_true rfl, Nat.le_of_ble_eq_true rfl⟩ ⟨Nat.le_of_ble_eq_true rfl, Nat.le_of_ble_eq_true rfl⟩ (Nat.le_of_ble_eq_true rfl) dX6_init_9 rfl (fun r1 er1 => ?_)
  subst er1
  refine y_putf (j := 0) (N := 8) (Cn := RX6) (T := TX6) C tyX6 inB6 tyX6_ok nmX6 rfl (by decide) rfl rfl rfl rfl (Nat.le_of_ble_eq_true rfl) kf_X6_10 dX6_init_12 rfl ?_
  refine y_aln C 0 rfl dX6_init_15 rfl ?_
  refine y_new (ci := 1) (fs := [.int 0, .null, .null, .null, .null, .null, .int 0, .int 0, .int 0, .null, .null, .null, .int 0, .null, .null, .null, .int 0]) (N := 17) (Cn := RX1) (T := TX1) C tyX1 inB1 tyX1_ok rfl kcl_X6_7 kins_X1 kini_X1 (fun j hj => by rcases (show j = 0 ∨ j = 1 ∨ j = 2 ∨ j = 3 ∨ j = 4 ∨ j = 5 ∨ j = 6 ∨ j = 7 ∨ j = 8 ∨ j = 9 ∨ j = 10 ∨ j = 11 ∨ j = 12 ∨ j = 13 ∨ j = 14 ∨ j = 15 ∨ j = 16 by omega) with rfl | rfl | rfl | rfl | rfl | rfl | rfl | rfl | rfl | rfl | rfl | rfl | rfl | rfl | rfl | rfl | rfl <;> rfl) ⟨Nat.le_of_ble_eq_true rfl, Nat.le_of_ble_eq_true rfl⟩ dX6_init_16 rfl (fun qr2 => ?_)
  refine y_dup C rfl dX6_init_19 rfl ?_
  refine y_call C G.2.2.2 (c_X1_init (l := l) (D := D) (cy := cy)) kc_X1_init rfl (by decide +kernel) kini_X1 kin_X1_init ⟨by decide +kernel, by decide +kernel, by decide +kernel⟩ ⟨Nat.le_of_ble_eq_true rfl, Nat.le_of_ble_eq_true rfl⟩ ⟨Nat.le_of_ble_eq_true rfl, Nat.le_of_ble_eq_true rfl⟩ (Nat.le_of_ble_eq_true rfl) dX6_init_20 rfl (fun r2 er2 => ?_)
  subst er2
  refine y_putf (j := 1) (N := 8) (Cn := RX6) (T := TX6) C tyX6 inB6 tyX6_ok nmX6 rfl (by decide) rfl rfl rfl rfl (Nat.le_of_ble_eq_true rfl) kf_X6_16 dX6_init_23 rfl ?_
  refine y_aln C 0 rfl dX6_init_26 rfl ?_
  refine y_new (ci := 3) (fs := [.int 0, .null, .int 0, .int 0, .int 0, .int 0, .null, .null, .null]) (N := 9) (Cn := RX3) (T := TX3) C tyX3 inB3 tyX3_ok rfl kcl_X6_19 kins_X3 kini_X3 (fun j hj => by rcases (show j = 0 ∨ j = 1 ∨ j = 2 ∨ j = 3 ∨ j = 4 ∨ j = 5 ∨ j = 6 ∨ j = 7 ∨ j = 8 by omega) with rfl | rfl | rfl | rfl | rfl | rfl | rfl | rfl | rfl <;> rfl) ⟨Nat.le_of_ble_eq_true rfl, Nat.le_of_ble_eq_true rfl⟩ dX6_init_27 rfl (fun qr3 => ?_)
  refine y_dup C rfl dX6_init_30 rfl ?_
  refine y_call C G.2.2.2 (c_X3_init (l := l) (D := D) (cy := cy)) kc_X3_init rfl (by decide +kernel) kini_X3 kin_X3_init ⟨by decide +kernel, by decide +kernel, by decide +kernel⟩ ⟨Nat.le_of_ble_eq_true rfl, Nat.le_of_ble_eq_true rfl⟩ ⟨Nat.le_of_ble_eq_true rfl, Nat.le_of_ble_eq_true rfl⟩ (Nat.le_of_ble_eq_true rfl) dX6_init_31 rfl (fun r3 er3 => ?_)
  subst er3
  refine y_putf (j := 3) (N := 8) (Cn := RX6) (T := TX6) C tyX6 inB6 tyX6_ok nmX6 rfl (by decide) rfl rfl rfl rfl (Nat.le_of_ble_eq_true rfl) kf_X6_22 dX6_init_34 rfl ?_
  refine y_aln C 0 rfl dX6_init_37 rfl ?_
  refine y_new (ci := 5) (fs := [.int 0, .int 0, .int 0, .int 0, .null, .null, .null, .null, .null, .int 0, .null, .null, .null]) (N := 13) (Cn := RX5) (T := TX5) C tyX5 inB5 tyX5_ok rfl kcl_X6_26 kins_X5 kini_X5 (fun j hj => by rcases (show j = 0 ∨ j = 1 ∨ j = 2 ∨ j = 3 ∨ j = 4 ∨ j = 5 ∨ j = 6 ∨ j = 7 ∨ j = 8 ∨ j = 9 ∨ j = 10 ∨ j = 11 ∨ j = 12 by omega) with rfl | rfl | rfl | rfl | rfl | rfl | rfl | rfl | rfl | rfl | rfl | rfl | rfl <;> rfl) ⟨Nat.le_of_ble_eq_true rfl, Nat.le_of_ble_eq_true rfl⟩ dX6_init_38 rfl (fun qr5 => ?_)
  refine y_dup C rfl dX6_init_41 rfl ?_
  refine y_call C G.2.2.2 (c_X5_init (l := l) (D := D) (cy := cy)) kc_X5_init rfl (by decide +kernel) kini_X5 kin_X5_init ⟨by decide +kernel, by decide +kernel, by decide +kernel⟩ ⟨Nat.le_of_ble_eq_true rfl, Nat.le_of_ble_eq_true rfl⟩ ⟨Nat.le_of_ble_eq_true rfl, Nat.le_of_ble_eq_true rfl⟩ (Nat.le_of_ble_eq_true rfl) dX6_init_42 rfl (fun r5 er5 => ?_)
  subst er5
  refine y_putf (j := 4) (N := 8) (Cn := RX6) (T := TX6) C tyX6 inB6 tyX6_ok nmX6 rfl (by decide) rfl rfl rfl rfl (Nat.le_of_ble_eq_true rfl) kf_X6_29 dX6_init_45 rfl ?_
  refine y_aln C 0 rfl dX6_init_48 rfl ?_
  refine y_new (ci := 4) (fs := [.int 0, .null, .null]) (N := 3) (Cn := RX4) (T := TX4) C tyX4 inB4 tyX4_ok rfl kcl_X6_33 kins_X4 kini_X4 (fun j hj => by rcases (show j = 0 ∨ j = 1 ∨ j = 2 by omega) with rfl | rfl | rfl <;> rfl) ⟨Nat.le_of_ble_eq_true rfl, Nat.le_of_ble_eq_true rfl⟩ dX6_init_49 rfl (fun qr4 => ?_)
  refine y_dup C rfl dX6_init_52 rfl ?_
  refine y_call C G.2.2.2 (c_X4_init (l := l) (D := D) (cy := cy)) kc_X4_init rfl (by decide +kernel) kini_X4 kin_X4_init ⟨by decide +kernel, by decide +kernel, by decide +kernel⟩ ⟨Nat.le_of_ble_eq_true rfl, Nat.le_of_ble_eq_true rfl⟩ ⟨Nat.le_of_ble_eq_true rfl, Nat.le_of_ble_eq_true rfl⟩ (Nat.le_of_ble_eq_true rfl) dX6_init_53 rfl (fun r4 er4 => ?_)
  subst er4
  refine y_putf (j := 5) (N := 8) (Cn := RX6) (T := TX6) C tyX6 inB6 tyX6_ok nmX6 rfl (by decide) rfl rfl rfl rfl (Nat.le_of_ble_eq_true rfl) kf_X6_36 dX6_init_56 rfl ?_
  refine y_aln C 0 rfl dX6_init_59 rfl ?_
  refine y_new (ci := 0) (fs := [.int 0, .null, .null]) (N := 3) (Cn := RX0) (T := TX0) C tyX0 inB0 tyX0_ok rfl kcl_X6_40 kins_X0 kini_X0 (fun j hj => by rcases (show j = 0 ∨ j = 1 ∨ j = 2 by omega) with rfl | rfl | rfl <;> rfl) ⟨Nat.le_of_ble_eq_true rfl, Nat.le_of_ble_eq_true rfl⟩ dX6_init_60 rfl (fun qr6 => ?_)
  refine y_dup C rfl dX6_init_63 rfl ?_
  refine y_call C G.2.2.2 (c_X0_init (l := l) (D := D) (cy := cy)) kc_X0_init rfl (by decide +kernel) kini_X0 kin_X0_init ⟨by decide +kernel, by decide +kernel, by decide +kernel⟩ ⟨Nat.le_of_ble_eq_true rfl, Nat.le_of_ble_eq_true rfl⟩ ⟨Nat.le_of_ble_eq_true rfl, Nat.le_of_ble_eq_true rfl⟩ (Nat.le_of_ble_eq_true rfl) dX6_init_64 rfl (fun r6 er6 => ?_)
  subst er6
  refine y_putf (j := 6) (N := 8) (Cn := RX6) (T := TX6) C tyX6 inB6 tyX6_ok nmX6 rfl (by decide) rfl rfl rfl rfl (Nat.le_of_ble_eq_true rfl) kf_X6_43 dX6_init_67 rfl ?_
  refine y_aln C 0 rfl dX6_init_70 rfl ?_
  refine y_ic (v := 4) C (by decide) dX6_init_71 rfl ?_
  refine y_newq (N := 4) C rfl (Nat.le_of_ble_eq_true rfl) kcl_X6_47 ⟨Nat.le_of_ble_eq_true rfl, Nat.le_of_ble_eq_true rfl⟩ dX6_init_72 rfl (fun a => ?_)
  refine y_putf (j := 7) (N := 8) (Cn := RX6) (T := TX6) C tyX6 inB6 tyX6_ok nmX6 rfl (by decide) rfl rfl rfl rfl (Nat.le_of_ble_eq_true rfl) kf_X6_49 dX6_init_75 rfl ?_
  refine y_ic (v := 0) C (by decide) dX6_init_78 rfl ?_
  refine y_istn (lv' := [(1, .int 0), (0, .ref h0)]) C rfl (by decide) rfl dX6_init_79 rfl ?_
  refine y_iln C 0 rfl dX6_init_80 rfl ?_
  refine y_ic (v := 4) C (by decide) dX6_init_81 rfl ?_
  refine y_geF (tgt := 104) C dX6_init_82 (by decide) rfl (by decide) ?_
  refine y_aln C 1 rfl dX6_init_85 rfl ?_
  refine y_get (j := 7) (N := 8) (Cn := RX6) (T := TX6) C inB6 rfl (by decide) rfl kf_X6_49 dX6_init_86 rfl ?_
  refine y_iln C 0 rfl dX6_init_89 rfl ?_
  refine y_new (ci := 2) (fs := [.int 0, .int 0, .int 0, .null]) (N := 4) (Cn := RX2) (T := TX2) C tyX2 inB2 tyX2_ok rfl kcl_X6_47 kins_X2 kini_X2 (fun j hj => by rcases (show j = 0 ∨ j = 1 ∨ j = 2 ∨ j = 3 by omega) with rfl | rfl | rfl | rfl <;> rfl) ⟨Nat.le_of_ble_eq_true rfl, Nat.le_of_ble_eq_true rfl⟩ dX6_init_90 rfl (fun qs0 => ?_)
  refine y_dup C rfl dX6_init_93 rfl ?_
  refine y_call C G.2.2.2 (c_X2_init (l := l) (D := D) (cy := cy)) kc_X2_init rfl (by decide +kernel) kini_X2 kin_X2_init ⟨by decide +kernel, by decide +kernel, by decide +kernel⟩ ⟨Nat.le_of_ble_eq_true rfl, Nat.le_of_ble_eq_true rfl⟩ ⟨Nat.le_of_ble_eq_true rfl, Nat.le_of_ble_eq_true rfl⟩ (Nat.le_of_ble_eq_true rfl) dX6_init_94 rfl (fun s0 es0 => ?_)
  subst es0
  refine y_astq (f := (fun _ => none)) (N := 4) (X' := [(h0, .inr (6, [.ref (r1 0), .ref (r2 0), .int 0, .ref (r3 0), .ref (r5 0), .ref (r4 0), .ref (r6 0), .ref a])), (a, .inl (cy 2, (4, .inr (.inr (.inr (.inr (va_up (fun _ => none) 0 (some (s0 0)))))))))]) C 1 _ rfl ((get3 (i := 0)).trans (yL_get (by decide))) rfl rfl dX6_init_97 rfl ?_
  refine y_iinc (j := 0) (v := 1) (w := 1) (lv' := [(1, .int 1), (0, .ref h0)]) C rfl (by decide) (by decide) (by decide) rfl dX6_init_98 rfl ?_
  refine y_goto (tgt := 80) C dX6_init_101 (by decide) ?_
  refine y_iln C 0 rfl dX6_init_80 rfl ?_
  refine y_ic (v := 4) C (by decide) dX6_init_81 rfl ?_
  refine y_geF (tgt := 104) C dX6_init_82 (by decide) rfl (by decide) ?_
  refine y_aln C 1 rfl dX6_init_85 rfl ?_
  refine y_get (j := 7) (N := 8) (Cn := RX6) (T := TX6) C inB6 rfl (by decide) rfl kf_X6_49 dX6_init_86 rfl ?_
  refine y_iln C 0 rfl dX6_init_89 rfl ?_
  refine y_new (ci := 2) (fs := [.int 0, .int 0, .int 0, .null]) (N := 4) (Cn := RX2) (T := TX2) C tyX2 inB2 tyX2_ok rfl kcl_X6_47 kins_X2 kini_X2 (fun j hj => by rcases (show j = 0 ∨ j = 1 ∨ j = 2 ∨ j = 3 by omega) with rfl | rfl | rfl | rfl <;> rfl) ⟨Nat.le_of_ble_eq_true rfl, Nat.le_of_ble_eq_true rfl⟩ dX6_init_90 rfl (fun qs1 => ?_)
  refine y_dup C rfl dX6_init_93 rfl ?_
  refine y_call C G.2.2.2 (c_X2_init (l := l) (D := D) (cy := cy)) kc_X2_init rfl (by decide +kernel) kini_X2 kin_X2_init ⟨by decide +kernel, by decide +kernel, by decide +kernel⟩ ⟨Nat.le_of_ble_eq_true rfl, Nat.le_of_ble_eq_true rfl⟩ ⟨Nat.le_of_ble_eq_true rfl, Nat.le_of_ble_eq_true rfl⟩ (Nat.le_of_ble_eq_true rfl) dX6_init_94 rfl (fun s1 es1 => ?_)
  subst es1
  refine y_astq (f := (va_up (fun _ => none) 0 (some (s0 0)))) (N := 4) (X' := [(h0, .inr (6, [.ref (r1 0), .ref (r2 0), .int 0, .ref (r3 0), .ref (r5 0), .ref (r4 0), .ref (r6 0), .ref a])), (a, .inl (cy 2, (4, .inr (.inr (.inr (.inr (va_up (va_up (fun _ => none) 0 (some (s0 0))) 1 (some (s1 0)))))))))]) C 1 _ rfl ((get3 (i := 0)).trans (yL_get (by decide))) rfl rfl dX6_init_97 rfl ?_
  refine y_iinc (j := 0) (v := 2) (w := 1) (lv' := [(1, .int 2), (0, .ref h0)]) C rfl (by decide) (by decide) (by decide) rfl dX6_init_98 rfl ?_
  refine y_goto (tgt := 80) C dX6_init_101 (by decide) ?_
  refine y_iln C 0 rfl dX6_init_80 rfl ?_
  refine y_ic (v := 4) C (by decide) dX6_init_81 rfl ?_
  refine y_geF (tgt := 104) C dX6_init_82 (by decide) rfl (by decide) ?_
  refine y_aln C 1 rfl dX6_init_85 rfl ?_
  refine y_get (j := 7) (N := 8) (Cn := RX6) (T := TX6) C inB6 rfl (by decide) rfl kf_X6_49 dX6_init_86 rfl ?_
  refine y_iln C 0 rfl dX6_init_89 rfl ?_
  refine y_new (ci := 2) (fs := [.int 0, .int 0, .int 0, .null]) (N := 4) (Cn := RX2) (T := TX2) C tyX2 inB2 tyX2_ok rfl kcl_X6_47 kins_X2 kini_X2 (fun j hj => by rcases (show j = 0 ∨ j = 1 ∨ j = 2 ∨ j = 3 by omega) with rfl | rfl | rfl | rfl <;> rfl) ⟨Nat.le_of_ble_eq_true rfl, Nat.le_of_ble_eq_true rfl⟩ dX6_init_90 rfl (fun qs2 => ?_)
  refine y_dup C rfl dX6_init_93 rfl ?_
  refine y_call C G.2.2.2 (c_X2_init (l := l) (D := D) (cy := cy)) kc_X2_init rfl (by decide +kernel) kini_X2 kin_X2_init ⟨by decide +kernel, by decide +kernel, by decide +kernel⟩ ⟨Nat.le_of_ble_eq_true rfl, Nat.le_of_ble_eq_true rfl⟩ ⟨Nat.le_of_ble_eq_true rfl, Nat.le_of_ble_eq_true rfl⟩ (Nat.le_of_ble_eq_true rfl) dX6_init_94 rfl (fun s2 es2 => ?_)
  subst es2
  refine y_astq (f := (va_up (va_up (fun _ => none) 0 (some (s0 0))) 1 (some (s1 0)))) (N := 4) (X' := [(h0, .inr (6, [.ref (r1 0), .ref (r2 0), .int 0, .ref (r3 0), .ref (r5 0), .ref (r4 0), .ref (r6 0), .ref a])), (a, .inl (cy 2, (4, .inr (.inr (.inr (.inr (va_up (va_up (va_up (fun _ => none) 0 (some (s0 0))) 1 (some (s1 0))) 2 (some (s2 0)))))))))]) C 1 _ rfl ((get3 (i := 0)).trans (yL_get (by decide))) rfl rfl dX6_init_97 rfl ?_
  refine y_iinc (j := 0) (v := 3) (w := 1) (lv' := [(1, .int 3), (0, .ref h0)]) C rfl (by decide) (by decide) (by decide) rfl dX6_init_98 rfl ?_
  refine y_goto (tgt := 80) C dX6_init_101 (by decide) ?_
  refine y_iln C 0 rfl dX6_init_80 rfl ?_
  refine y_ic (v := 4) C (by decide) dX6_init_81 rfl ?_
  refine y_geF (tgt := 104) C dX6_init_82 (by decide) rfl (by decide) ?_
  refine y_aln C 1 rfl dX6_init_85 rfl ?_
  refine y_get (j := 7) (N := 8) (Cn := RX6) (T := TX6) C inB6 rfl (by decide) rfl kf_X6_49 dX6_init_86 rfl ?_
  refine y_iln C 0 rfl dX6_init_89 rfl ?_
  refine y_new (ci := 2) (fs := [.int 0, .int 0, .int 0, .null]) (N := 4) (Cn := RX2) (T := TX2) C tyX2 inB2 tyX2_ok rfl kcl_X6_47 kins_X2 kini_X2 (fun j hj => by rcases (show j = 0 ∨ j = 1 ∨ j = 2 ∨ j = 3 by omega) with rfl | rfl | rfl | rfl <;> rfl) ⟨Nat.le_of_ble_eq_true rfl, Nat.le_of_ble_eq_true rfl⟩ dX6_init_90 rfl (fun qs3 => ?_)
  refine y_dup C rfl dX6_init_93 rfl ?_
  refine y_call C G.2.2.2 (c_X2_init (l := l) (D := D) (cy := cy)) kc_X2_init rfl (by decide +kernel) kini_X2 kin_X2_init ⟨by decide +kernel, by decide +kernel, by decide +kernel⟩ ⟨Nat.le_of_ble_eq_true rfl, Nat.le_of_ble_eq_true rfl⟩ ⟨Nat.le_of_ble_eq_true rfl, Nat.le_of_ble_eq_true rfl⟩ (Nat.le_of_ble_eq_true rfl) dX6_init_94 rfl (fun s3 es3 => ?_)
  subst es3
  refine y_astq (f := (va_up (va_up (va_up (fun _ => none) 0 (some (s0 0))) 1 (some (s1 0))) 2 (some (s2 0)))) (N := 4) (X' := [(h0, .inr (6, [.ref (r1 0), .ref (r2 0), .int 0, .ref (r3 0), .ref (r5 0), .ref (r4 0), .ref (r6 0), .ref a])), (a, .inl (cy 2, (4, .inr (.inr (.inr (.inr (va_up (va_up (va_up (va_up (fun _ => none) 0 (some (s0 0))) 1 (some (s1 0))) 2 (some (s2 0))) 3 (some (s3 0)))))))))]) C 1 _ rfl ((get3 (i := 0)).trans (yL_get (by decide))) rfl rfl dX6_init_97 rfl ?_
  refine y_iinc (j := 0) (v := 4) (w := 1) (lv' := [(1, .int 4), (0, .ref h0)]) C rfl (by decide) (by decide) (by decide) rfl dX6_init_98 rfl ?_
  refine y_goto (tgt := 80) C dX6_init_101 (by decide) ?_
  refine y_iln C 0 rfl dX6_init_80 rfl ?_
  refine y_ic (v := 4) C (by decide) dX6_init_81 rfl ?_
  refine y_geT (tgt := 104) C dX6_init_82 (by decide) (by decide) ?_
  obtain ⟨ad, h1, h2⟩ := X6_fin (cy := cy) (h0 := h0) (a := a) (r1 := r1) (r2 := r2) (r3 := r3) (r5 := r5) (r4 := r4) (r6 := r6) (s0 := s0) (s1 := s1) (s2 := s2) (s3 := s3)
  exact y_vret2 C G ad h1 gPos h2 gPos_i dX6_init_104
