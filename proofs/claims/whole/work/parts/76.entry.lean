/-! ===== the law's entry ===== -/
theorem gB_tbl {w : Cond} (h : w ∈ gBig) : w ∈ lw_tbl := (List.mem_filter.mp h).1
theorem gNl_tbl : ∀ q ∈ gNl, Cond.methodLinkNest q.1 q.2.1 q.2.2 "StiltWays" ∈ lw_tbl := by decide +kernel
theorem gao_S : Cond.arrayOver (.object "StiltWays$Sheet") ∈ lw_tbl := by decide +kernel
theorem gao_I : Cond.arrayOver (.array .int) ∈ lw_tbl := by decide +kernel
theorem glay_L : Cond.laysStatic "StiltWays$Walk" "LACKING" "[I" ∈ lw_tbl := by decide +kernel
theorem gini_L : Cond.initialized "StiltWays$Walk" ∈ lw_tbl := by decide +kernel
theorem gM0_z {n : Nat} (h : n ≠ 61) : gM0 1 n = 0 := if_neg h
theorem g0_INV : INV gX0 gM0 := by
  refine ⟨⟨?_, ⟨rfl, Or.inl rfl⟩, ⟨0, by omega, rfl, rfl, fun i hi => absurd hi (by omega)⟩, ?_⟩, 0, 0, 0, 0, ⟨rfl, rfl, rfl, rfl, by omega, by omega, by omega, by omega⟩, fun i hi => absurd hi (by omega), by decide +kernel, ?_, by decide +kernel, fun i hi => absurd hi (by omega), fun i hi => absurd hi (by omega), ?_⟩
  · have h : ∀ k : Nat, k < 264 → gX0 (ca 1 13 k).1 (ca 1 13 k).2 = gM0 1 k := by decide +kernel
    exact h
  · intro s hs
    refine ⟨0, by omega, ?_, ?_, Or.inl ⟨?_, ?_⟩, fun i hi => absurd hi (by omega)⟩ <;> rcases (show s = 0 ∨ s = 1 ∨ s = 2 ∨ s = 3 by omega) with rfl | rfl | rfl | rfl <;> decide +kernel
  · intro h hh
    rw [gM0_z (by omega)]
    decide
  · intro i j hi hj
    rw [gM0_z (show 120 + 12 * i + j ≠ 61 by omega), gM0_z (show 120 + 12 * j + i ≠ 61 by omega)]
    exact ⟨by decide, by decide, rfl, fun _ => rfl, fun _ => rfl⟩
theorem ws_left {D : va_G} {cl : List vw_C} {w1 w2 : va_W} {H : Heap} (h : va_P D cl (w1 ++ w2) H) : va_P D cl w1 H := fun k q hk => h k q (by rw [List.getElem?_append_left (List.getElem?_eq_some_iff.mp hk).1]; exact hk)
theorem ws_right {D : va_G} {cl : List vw_C} {w1 w2 : va_W} {H : Heap} (h : va_P D cl (w1 ++ w2) H) : va_P D cl w2 H := fun k q hk => h (w1.length + k) q (by rw [List.getElem?_append_right (Nat.le_add_right _ _), Nat.add_sub_cancel_left]; exact hk)
section LWS
variable {s : State} {b : Nat}
theorem ws_K (hts : ∀ w ∈ lw_tbl, w.before #[Value.ref b] s = true) : ∃ (D : va_G) (cy : Nat → ClassId), va_K D vwCl (gtys cy) s := by
  obtain ⟨c0, i0, K0⟩ := u_known (C := RX0) (T := TX0) (N := 3) (n := 3) hts (fun w h => gB_tbl (inB0 w h)) (hts _ (gB_tbl kins_X0))
  obtain ⟨c1, i1, K1⟩ := u_known (C := RX1) (T := TX1) (N := 17) (n := 17) hts (fun w h => gB_tbl (inB1 w h)) (hts _ (gB_tbl kins_X1))
  obtain ⟨c2, i2, K2⟩ := u_known (C := RX2) (T := TX2) (N := 4) (n := 4) hts (fun w h => gB_tbl (inB2 w h)) (hts _ (gB_tbl kins_X2))
  obtain ⟨c3, i3, K3⟩ := u_known (C := RX3) (T := TX3) (N := 9) (n := 9) hts (fun w h => gB_tbl (inB3 w h)) (hts _ (gB_tbl kins_X3))
  obtain ⟨c4, i4, K4⟩ := u_known (C := RX4) (T := TX4) (N := 3) (n := 3) hts (fun w h => gB_tbl (inB4 w h)) (hts _ (gB_tbl kins_X4))
  obtain ⟨c5, i5, K5⟩ := u_known (C := RX5) (T := TX5) (N := 13) (n := 13) hts (fun w h => gB_tbl (inB5 w h)) (hts _ (gB_tbl kins_X5))
  obtain ⟨c6, i6, K6⟩ := u_known (C := RX6) (T := TX6) (N := 8) (n := 8) hts (fun w h => gB_tbl (inB6 w h)) (hts _ (gB_tbl kins_X6))
  obtain ⟨c7, i7, K7⟩ := u_known (C := RX7) (T := TX7) (N := 20) (n := 20) hts (fun w h => gB_tbl (inB7 w h)) (hts _ (gB_tbl kins_X7))
  obtain ⟨a0, k0, m0, e0, f0, g0⟩ := Cond.arrayClass_spec (hts _ (gB_tbl karr_arrayClass_106))
  obtain ⟨a1, k1, m1, e1, f1, g1⟩ := Cond.arrayClass_spec (hts _ (gB_tbl karr_arrayClass_810))
  obtain ⟨m2, a2, k2, d2, -, e2, f2, g2⟩ := Cond.arrayOver_spec (hts _ gao_S)
  obtain ⟨m3, a3, k3, d3, -, e3, f3, g3⟩ := arrayOverA_spec (hts _ gao_I)
  refine ⟨(fun k => match k with
    | 0 => c0
    | 1 => c1
    | 2 => c2
    | 3 => c3
    | 4 => c4
    | 5 => c5
    | 6 => c6
    | _ => c7, fun k => match k with
    | 0 => i0
    | 1 => i1
    | 2 => i2
    | 3 => i3
    | 4 => i4
    | 5 => i5
    | 6 => i6
    | _ => i7), fun k => match k with
    | 0 => a0
    | 1 => a1
    | 2 => a2
    | _ => a3, ?_, ?_⟩
  · intro k q hq
    match k, hq with
    | 0, hq => cases hq; exact K0
    | 1, hq => cases hq; exact K1
    | 2, hq => cases hq; exact K2
    | 3, hq => cases hq; exact K3
    | 4, hq => cases hq; exact K4
    | 5, hq => cases hq; exact K5
    | 6, hq => cases hq; exact K6
    | 7, hq => cases hq; exact K7
    | k + 8, hq => simp [vwCl] at hq
  · intro k q hq
    match k, hq with
    | 0, hq => cases hq; exact ⟨fun N z => ⟨fun q hq => (by cases hq), k0, f0, m0, g0⟩, e0⟩
    | 1, hq => cases hq; exact ⟨fun N z => ⟨fun q hq => (by cases hq), k1, f1, m1, g1⟩, e1⟩
    | 2, hq => cases hq; exact ⟨fun N z => ⟨fun q hq => (by cases hq), k2, e2, m2, f2⟩, k2, m2, e2, f2, d2, g2⟩
    | 3, hq => cases hq; exact ⟨fun N z => ⟨fun q hq => (by cases hq), k3, e3, m3, f3⟩, g3⟩
    | k + 4, hq => simp [gtys] at hq
theorem ws_A (hts : ∀ w ∈ lw_tbl, w.before #[Value.ref b] s = true) : gAG s := ⟨va_AO.of (hts _ gao_S), hts _ gao_I⟩
theorem ws_N (hts : ∀ w ∈ lw_tbl, w.before #[Value.ref b] s = true) : gNs s := fun q hq => va_Nw.of rfl (hts _ (gNl_tbl q hq))
theorem ws_L (hts : ∀ w ∈ lw_tbl, w.before #[Value.ref b] s = true) (hgv : (Jvm.Cond.and given_1 narrow_1).before #[Value.ref b] s = true) : ∃ t : Nat, gL t (fun q : Nat => s.heap.size ≤ q) s := by
  have hs := flat_of_before _ hgv
  have hA : ∀ a : Nat, a < s.heap.size → ¬ (fun q : Nat => s.heap.size ≤ q) a := fun a h => Nat.not_le.mpr h
  obtain ⟨t, ht, hT⟩ := va_Tof (tm := .static "StiltWays$Walk" "LACKING" "[I") (ty := .int) (N := 3) (f := fun j => .int (gLk j)) (A := fun q : Nat => s.heap.size ≤ q) (by decide) (hs (.arrayOf (.static "StiltWays$Walk" "LACKING" "[I") .int) (by decide +kernel)) (va_eqt (z := 3) (hs (.eq (.length (.static "StiltWays$Walk" "LACKING" "[I")) (.int 3)) (by decide +kernel))) (fun j hj => by
    rcases (show j = 0 ∨ j = 1 ∨ j = 2 by omega) with rfl | rfl | rfl
    · exact va_eqt (z := 85) (hs (.eq (.elem (.static "StiltWays$Walk" "LACKING" "[I") (.int 0)) (.int 85)) (by decide +kernel))
    · exact va_eqt (z := 51) (hs (.eq (.elem (.static "StiltWays$Walk" "LACKING" "[I") (.int 1)) (.int 51)) (by decide +kernel))
    · exact va_eqt (z := 15) (hs (.eq (.elem (.static "StiltWays$Walk" "LACKING" "[I") (.int 2)) (.int 15)) (by decide +kernel))) hA
  exact ⟨t, va_Zref (hts _ glay_L) (hts _ gini_L) ht hA, hT, ws_N hts⟩
end LWS
theorem gLw_tbl : ∀ w ∈ gLw, w ∈ lw_tbl := fun w hw => by
  rcases List.mem_cons.mp hw with rfl | h
  · exact gB_tbl kini_L
  · exact gB_tbl h
section LWM
variable {p : Program} {l : Launch} {e : Env} {R : Room} {s : State} {m : MethodId} {args : Array Value} {below : List Frame} {meth : Method} {c : Code} {H : Heap} {locs : List Loc} {Q : State → Prop} {D : va_G} {cy : Nat → ClassId} {A : Nat → Prop} {W0 : va_W} {n z pc : Nat} {ls : Array Slot} {st : List Value}
/-- the law calls a constructor of ours: the object's other cells come behind the world -/
theorem ws_call (S : CallFix p m c cL_law 4 s args gLw RL) (hK : va_K D vwCl (gtys cy) s) (hN : gNs s) (hG : gAG s) {y : MethodName} {rm : Room} {bytes : ByteArray} {maxL index ci mC q : Nat} {fs : List Value} {E : (Nat → Nat) → Nat → va_E} (hM : yM l y (Cond.code y bytes maxL none :: gBig) rm D cy ci fs mC E) (hk : Cond.code y bytes maxL none ∈ gBig) (hi : y.name = "<init>") (hml : Cond.methodLink RL index y ∈ gBig) (hini : Cond.initialized y.cls ∈ gBig) (hins : Cond.instanceMethod y ∈ gBig) (hd : y.cls ≠ "java/lang/invoke/MethodHandle" ∧ y.cls ≠ "java/lang/invoke/VarHandle" ∧ (parseMethodDescriptor y.desc).map (fun d => d.parameters.length) = some 0) (hR : rm.frames + 1 ≤ R.frames ∧ 8 + (maxL + 11) + rm.locals ≤ R.locals) (hr : n + rm.cells ≤ R.cells ∧ z + rm.slots ≤ R.slots)
    (hP : va_P D vwCl (W0 ++ [(q, .inr (ci, fs))]) H) (hD : va_D A (W0 ++ [(q, .inr (ci, fs))])) (hS : va_S A s.heap H locs) (hA : ∀ q, s.heap.size ≤ q → A q) (hls : ls.size = 4) (hcat : (st.map fun v => v.category).sum ≤ 8) (hdg : decode cL_law pc = .ok (.invokespecial index, 3))
    (k : ∀ (r : Nat → Nat) (H1 : Heap) (locs1 : List Loc), r 0 = q → va_P D vwCl (W0 ++ yL mC E r) H1 → va_D A (W0 ++ yL mC E r) → va_S A s.heap H1 locs1 → W p l e R s m args below meth c H1 locs1 (n + rm.cells) (z + rm.slots) Q (F0 m (pc + 3) ls st)) : W p l e R s m args below meth c H locs n z Q (F0 m pc ls (.ref q :: st)) := by
  have gq : (W0 ++ [((q, .inr (ci, fs)) : Nat × va_E)])[W0.length]? = some (q, .inr (ci, fs)) := by simp
  have Aq : A q := hD.2 _ _ gq
  have one : ∀ (k : Nat) (x : Nat × va_E), [((q, .inr (ci, fs)) : Nat × va_E)][k]? = some x → x = (q, .inr (ci, fs)) := fun k x hx => by
    have h1 := (List.getElem?_eq_some_iff.mp hx).1
    have h2 : k = 0 := by simp at h1; omega
    subst h2
    cases hx; rfl
  have hF : ∀ x, va_A [(q, .inr (ci, fs))] H.size x → A x := fun x h => by
    rcases h with ⟨k, e', h⟩ | h
    · have := one k _ h
      cases this
      exact Aq
    · exact hA x (Nat.le_trans hS.1 h)
  have hc1 : va_P D vwCl [(q, .inr (ci, fs))] H := fun k x hx => by
    rw [one k x hx]; exact hP _ _ gq
  have lf : ∀ (k : Nat) (x : Nat × va_E), W0[k]? = some x → k < W0.length ∧ (W0 ++ [((q, .inr (ci, fs)) : Nat × va_E)])[k]? = some x := fun k x hx => by
    have h1 := (List.getElem?_eq_some_iff.mp hx).1
    exact ⟨h1, by rw [List.getElem?_append_left h1]; exact hx⟩
  have hlow : ∀ (k : Nat) (x : Nat × va_E), W0[k]? = some x → x.1 < H.size ∧ ¬ va_A [(q, .inr (ci, fs))] H.size x.1 := fun k x hx => by
    obtain ⟨h1, h2⟩ := lf k x hx
    have hlt := (hP k x h2).lt
    refine ⟨hlt, fun h => ?_⟩
    rcases h with ⟨k2, e', h⟩ | h
    · have e := one k2 _ h
      have e1 : x.1 = q := congrArg Prod.fst e
      have := hD.1 k _ x _ h2 gq e1
      omega
    · omega
  refine va_callv (va_runI (As := []) (rest := st) S (hM q H.size) (cwI 0 S.2.2.2.2 (gBn hk) rfl rfl rfl (S.2.2.2.2 _ (gBc hini)) (S.2.2.2.2 _ (gBc hml)) (S.2.2.2.2 _ (gBc hins)) hi hd hR) ⟨yfb, fun U hU hW => ⟨rfl, by rw [hU], by rw [hU]; exact hc1, va_K.moved hW.alike hK, gNs.moved hW hN, hG.moved hW.alike⟩⟩ rfl rfl hls rfl (lv_room hcat) hdg hr) hS (fun x _ h => hF x h) hF (fun r t H1 locs1 ht hvm hw hB hz1 hk1 hS => ?_)
  obtain ⟨hB1, hB2⟩ := hB
  rw [ht] at hB1
  refine k r H1 locs1 hw ?_ ?_ hS
  · exact va_P.app (fun k x hx => (hP k x (lf k x hx).2).kept (hk1 x.1 (hlow k x hx).1 (hlow k x hx).2)) hB1
  · exact va_D.app ⟨fun i j x y hx hy e => hD.1 i j x y (lf i x hx).2 (lf j y hy).2 e, fun k x hx => hD.2 k x (lf k x hx).2⟩ (hB2.weaken (fun k x hx h => hF x.1 h)) (fun i j x y hx hy e => (hlow i x hx).2 (by rw [e]; exact hB2.2 j y hy))
end LWM
