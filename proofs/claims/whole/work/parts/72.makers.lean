theorem yv_outer (c : ClassId) (N h0 : Nat) : ∀ i : Nat, Jvm.Free.Multi.outerC c N h0 i = arrV c N (fun j => va_rf (if j < i then some (h0 + 1 + j) else none))
  | 0 => by
    show ({ cls := c, slots := Array.replicate N .null, vm := .none } : Cell) = _
    rw [arrV_new]
    refine congrArg (arrV c N) (funext fun j => ?_)
    simp [va_rf]
  | i + 1 => by
    show (Jvm.Free.Multi.outerC c N h0 i).setSlot i (.ref (h0 + 1 + i)) = _
    rw [yv_outer c N h0 i, arrV_store]
    refine congrArg (arrV c N) (funext fun j => ?_)
    by_cases e : j = i
    · subst e
      simp [updV, va_rf]
    · by_cases h : j < i
      · simp [updV, e, h, Nat.lt_succ_of_lt h]
      · simp [updV, e, h, show ¬ j < i + 1 by omega]
/-- rows laid behind a heap's end, one after another -/
theorem yv_rows {A : Nat → Prop} {W1 : va_W} {h n : Nat} {f : va_E} (hD : va_D A W1) (hle : ∀ (k9 : Nat) (x : Nat × va_E), W1[k9]? = some x → x.1 ≤ h) (hA : ∀ q, h ≤ q → A q) : va_D A (W1 ++ (List.range n).map (fun i => (h + 1 + i, f))) := by
  have hr : ∀ (k9 : Nat) (x : Nat × va_E), ((List.range n).map (fun i => ((h + 1 + i, f) : Nat × va_E)))[k9]? = some x → x.1 = h + 1 + k9 := fun k9 x hx => by
    rw [List.getElem?_map] at hx
    by_cases h9 : k9 < n
    · rw [List.getElem?_range h9] at hx
      cases hx
      rfl
    · have hn0 : (List.range n)[k9]? = none := List.getElem?_eq_none (by rw [List.length_range]; omega)
      rw [hn0] at hx
      cases hx
  refine va_D.app hD ⟨fun i j x y hi hj e => ?_, fun k9 x hx => ?_⟩ (fun i j x y hi hj e => ?_)
  · have := hr _ _ hi
    have := hr _ _ hj
    omega
  · have := hr _ _ hx
    exact hA _ (by omega)
  · have := hle _ _ hi
    have := hr _ _ hj
    omega
theorem va_mnaI {p : Program} {l : Launch} {e : Env} {R : Room} {s : State} {m : MethodId} {args : Array Value} {below : List Frame} {meth : Method} {c : Code} {H : Heap} {locs : List Loc} {cells slots : Nat} {Q : State → Prop} {pc : Nat} {ls : Array Slot} {rest : List Value} {D : va_G} {cl : List vw_C} {A : Nat → Prop} {H0 : Heap} {ws : va_W} {cc : ByteArray} (hexec : p.tables.exec = Jvm.exec) (hb : c.code = cc) {own : String} {index : Nat} {cA comp : ClassId} (hown : s.vm.findClass own = some m.cls) (hclink : (Cond.classLink own index "[[I").before args s = true) (hover : (Cond.arrayOver (.array .int)).before args s = true) (harr : (Cond.arrayClass .int).before args s = true) (e1 : s.vm.findClass ("[" ++ (FieldType.array .int).toString) = some cA) (e2 : s.vm.findClass (FieldType.array .int).toString = some comp)
    (hP : va_P D cl ws H) (hD : va_D A ws) (hS : va_S A H0 H locs) (hA : ∀ q, H0.size ≤ q → A q) {n k : Int32} {N K : Nat} (hn : ¬ n < 0) (hk : ¬ k < 0) (hN : n.toNatClampNeg = N) (hM : k.toNatClampNeg = K) (hN1 : N ≤ 1000) (hK1 : K ≤ 1000) (hcells : cells + (1 + N) ≤ R.cells) (hslots : slots + (N + N * K) ≤ R.slots) (hdg : decode cc pc = .ok (.multianewarray index 2, 4))
    (kk : ∀ (q : Nat) (r : Nat → Nat) (H1 : Heap), va_P D cl ((ws ++ [(q, .inl (cA, N, .inr (.inr (.inr (.inr (fun i => if i < N then some (r i) else none))))))]) ++ (List.range N).map (fun i => (r i, .inl (comp, K, .inl gZr)))) H1 → va_D A ((ws ++ [(q, .inl (cA, N, .inr (.inr (.inr (.inr (fun i => if i < N then some (r i) else none))))))]) ++ (List.range N).map (fun i => (r i, .inl (comp, K, .inl gZr)))) → va_S A H0 H1 locs →
      W p l e R s m args below meth c H1 locs (cells + 1 + N) (slots + N + N * K) Q (F0 m (pc + 4) ls (.ref q :: rest))) : W p l e R s m args below meth c H locs cells slots Q (F0 m pc ls (.int k :: .int n :: rest)) := by
  subst hN
  subst hM
  intro T hT Xs
  obtain ⟨vm₁, cA', comp', -, fA, fC, -, -, X', step⟩ := Jvm.Stand.multianewarray2F Xs hexec hown hclink hover harr (g := F0 m pc ls (.int k :: .int n :: rest)) rfl (by rw [hb]; exact hdg) rfl hn hk (by omega) (by show k.toNatClampNeg * 4 ≤ _; omega) (by omega) rfl rfl hcells hslots
  have ec : cA' = cA := Option.some.inj (fA.symm.trans e1)
  have ed : comp' = comp := Option.some.inj (fC.symm.trans e2)
  subst ec
  subst ed
  generalize hF : Jvm.Free.Multi.fill (T.setVm vm₁) cA' comp' n.toNatClampNeg k.toNatClampNeg (defaultValue .int) n.toNatClampNeg = F at X' step
  have hTh : (T.setVm vm₁).heap = H := hT
  obtain ⟨f1, f2, -, -⟩ := Jvm.Free.Multi.fill_facts (T.setVm vm₁) cA' comp' n.toNatClampNeg k.toNatClampNeg (defaultValue .int) n.toNatClampNeg
  rw [hF, hTh] at f1 f2
  have hold : ∀ x : Nat, x < H.size → F.heap[x]? = H[x]? := fun x hx => by
    have := Jvm.Free.Multi.fill_old (T.setVm vm₁) cA' comp' n.toNatClampNeg k.toNatClampNeg (defaultValue .int) (a := x) (by rw [hTh]; exact hx) n.toNatClampNeg
    rw [hF, hTh] at this
    exact this
  have hz : Jvm.Free.Multi.innerC comp' k.toNatClampNeg (defaultValue .int) = vp_cell comp' (k.toNatClampNeg, .inl gZr) := arrV_new comp' k.toNatClampNeg (.int 0)
  have hrow : ∀ j : Nat, j < n.toNatClampNeg → F.heap[H.size + 1 + j]? = some (vp_cell comp' (k.toNatClampNeg, .inl gZr)) := fun j hj => by
    have := Jvm.Free.Multi.fill_inner (T.setVm vm₁) cA' comp' n.toNatClampNeg k.toNatClampNeg (defaultValue .int) n.toNatClampNeg j hj
    rw [hF, hTh, hz] at this
    exact this
  have hout : Jvm.Free.Multi.outerC cA' n.toNatClampNeg H.size n.toNatClampNeg = vp_cell cA' (n.toNatClampNeg, .inr (.inr (.inr (.inr (fun i => if i < n.toNatClampNeg then some (H.size + 1 + i) else none))))) := yv_outer cA' n.toNatClampNeg H.size n.toNatClampNeg
  rw [hout] at f2
  have hP0 : va_P D cl ws F.heap := hP.kept (fun k9 x hx => hold x.1 ((hP k9 x hx).lt))
  have hP1 : va_P D cl (ws ++ [(H.size, .inl (cA', n.toNatClampNeg, .inr (.inr (.inr (.inr (fun i => if i < n.toNatClampNeg then some (H.size + 1 + i) else none))))))]) F.heap := hP0.app (fun k9 x hx => by
    have h0 : k9 < 1 := (List.getElem?_eq_some_iff.mp hx).1
    have h1 : k9 = 0 := by omega
    subst h1
    cases hx
    exact f2)
  have hP2 : va_P D cl ((ws ++ [(H.size, .inl (cA', n.toNatClampNeg, .inr (.inr (.inr (.inr (fun i => if i < n.toNatClampNeg then some (H.size + 1 + i) else none))))))]) ++ (List.range n.toNatClampNeg).map (fun i => (H.size + 1 + i, .inl (comp', k.toNatClampNeg, .inl gZr)))) F.heap := hP1.app (fun k9 x hx => by
    obtain ⟨i, hi, rfl⟩ := List.mem_map.mp (List.mem_of_getElem? hx)
    exact hrow i (List.mem_range.mp hi))
  have hle : ∀ (k9 : Nat) (x : Nat × va_E), (ws ++ [((H.size, .inl (cA', n.toNatClampNeg, .inr (.inr (.inr (.inr (fun i => if i < n.toNatClampNeg then some (H.size + 1 + i) else none)))))) : Nat × va_E)])[k9]? = some x → x.1 ≤ H.size := fun k9 x hx => by
    by_cases hl : k9 < ws.length
    · rw [List.getElem?_append_left hl] at hx
      exact Nat.le_of_lt ((hP k9 x hx).lt)
    · rw [List.getElem?_append_right (by omega)] at hx
      have h0 : k9 - ws.length < 1 := (List.getElem?_eq_some_iff.mp hx).1
      rw [show k9 - ws.length = 0 by omega] at hx
      cases hx
      exact Nat.le_refl _
  have hD2 := yv_rows (n := n.toNatClampNeg) (f := .inl (comp', k.toNatClampNeg, .inl gZr)) (hD.push (e := .inl (cA', n.toNatClampNeg, .inr (.inr (.inr (.inr (fun i => if i < n.toNatClampNeg then some (H.size + 1 + i) else none)))))) hP rfl (hA _ hS.1)) hle (fun q hq => hA q (Nat.le_trans hS.1 hq))
  obtain ⟨t, a1, b1⟩ := kk H.size (fun i => H.size + 1 + i) F.heap hP2 hD2 ⟨by rw [f1]; have := hS.1; omega, fun x h1 h2 => (hold x (Nat.lt_of_lt_of_le h1 hS.1)).trans (hS.2.1 x h1 h2), hS.2.2⟩ F rfl X'
  refine ⟨t, step t ?_, b1⟩
  have e9 : T.heap.size = H.size := by rw [hT]
  rw [e9]
  exact a1
section GYN
variable {κ : gK} {rmo : Room} {cc : ByteArray} {own : String} {c0 : Cond} {nL : Nat} {D : va_G} {cy : Nat → ClassId} {A : Nat → Prop} {X R : va_W} {n z n' z' pc pc' : Nat} {lv lv' : List (Nat × Value)} {st : List Value} {l : Launch}
theorem y_new (C : yC κ cc own (c0 :: gBig) nL D cy A rmo) {ci N index : Nat} {Cn : String} {T : u_T} {fs : List Value} (ty0 : Nat → FieldType) (hin : ∀ w ∈ u_ws Cn T N, w ∈ gBig) (hty : ∀ k, k < N → parseFieldDescriptor (T k).2.2.1 = some (ty0 k)) (hc : vwCl[ci]? = some (Cn, T, N)) (hcl : Cond.classLink own index Cn ∈ gBig) (hinst : Cond.instantiable Cn N ∈ gBig) (hini : Cond.initialized Cn ∈ gBig) (hfs : ∀ j, j < N → defaultValue (ty0 j) = vp_V fs j) (hr : n + 1 ≤ rmo.cells ∧ z + N ≤ rmo.slots) (hdg : decode cc pc = .ok (.new index, 3)) (hp : pc + 3 = pc') (k : ∀ q : Nat, wy κ D (X ++ [(q, .inr (ci, fs))]) R A nL (n + 1) (z + N) pc' lv (.ref q :: st)) : wy κ D X R A nL n z pc lv st := by
  subst hp
  intro H locs ls hP hD hS hl
  exact va_new C.1.1 C.1.2.1 C.1.2.2.2.2 (fun w h => gBc (hin w h)) ty0 hty C.1.2.2.2.1 (C.hts (gBc hcl)) (C.hts (gBc hinst)) (C.hts (gBc hini)) C.2.1 hP hD hS C.2.2.2.2.2.1 hc hfs (by rw [C.2.2.2.2.1]; exact hr.1) (by rw [C.2.2.2.2.1]; exact hr.2) hdg (fun q H1 hP hD hS => k q H1 locs ls (va_P.swap hP) (va_D.swap hD) hS hl)
theorem y_newq (C : yC κ cc own (c0 :: gBig) nL D cy A rmo) {N index : Nat} {nn : Int32} (hn : nn = nI N) (hN : N ≤ 1000) (hcl : Cond.classLink own index "StiltWays$Sheet" ∈ gBig) (hr : n + 1 ≤ rmo.cells ∧ z + N ≤ rmo.slots) (hdg : decode cc pc = .ok (.anewarray index, 3)) (hp : pc + 3 = pc') (k : ∀ q : Nat, wy κ D (X ++ [(q, .inl (cy 2, (N, .inr (.inr (.inr (.inr (fun _ => none)))))))]) R A nL (n + 1) (z + N) pc' lv (.ref q :: st)) : wy κ D X R A nL n z pc lv (.int nn :: st) := by
  subst hp
  subst hn
  intro H locs ls hP hD hS hl
  refine va_newq (C := "StiltWays$Sheet") (N' := N) C.1.1 C.1.2.1 C.1.2.2.2.1 (C.hts (gBc hcl)) C.2.2.2.1.1 C.2.1 hP hD hS C.2.2.2.2.2.1 (nI_pos (by omega)) (nI_clamp (by omega)) (by omega) (by rw [C.2.2.2.2.1]; exact hr.1) (by rw [C.2.2.2.2.1]; exact hr.2) hdg (fun q cA H1 hK hP hD hS => ?_)
  obtain ⟨-, -, -, -, -, e1⟩ : va_RA (gks κ) cA (.object "StiltWays$Sheet") := (hK.2 4 _ rfl).2
  obtain ⟨-, -, -, -, -, e2⟩ : va_RA (gks κ) (cy 2) (.object "StiltWays$Sheet") := (C.2.1.2 2 _ rfl).2
  have e3 : cA = cy 2 := Option.some.inj (Eq.trans (Eq.symm e1) e2)
  subst e3
  exact k q H1 locs ls (va_P.swap hP) (va_D.swap hD) hS hl
theorem y_astq (C : yC κ cc own (c0 :: gBig) nL D cy A rmo) {a v N : Nat} {f : Nat → Option Nat} {i : Int32} {vs : List Value} {X' : va_W} (p pv : Nat) (ha : (X ++ R)[p]? = some (a, .inl (cy 2, (N, .inr (.inr (.inr (.inr f))))))) (hv : (X ++ R)[pv]? = some (v, .inr (2, vs))) (hin : inb i N = true) (hX : (X ++ R).set p (a, .inl (cy 2, (N, .inr (.inr (.inr (.inr (va_up f i.toNatClampNeg (some v)))))))) = X' ++ R) (hdg : decode cc pc = .ok (.aastore, 1)) (hp : pc + 1 = pc') (k : wy κ D X' R A nL n z pc' lv st) : wy κ D X R A nL n z pc lv (.ref v :: .int i :: .ref a :: st) := by
  subst hp
  intro H locs ls hP hD hS hlv
  exact va_astq (r := (RX2, TX2, 4)) C.1.1 C.1.2.1 C.2.1 hP hD hS p 2 pv 2 ha rfl hv rfl (inb_vp hin) hdg (fun H1 locs1 hP hD hS => k H1 locs1 ls (by rw [hX] at hP; exact hP) (by rw [hX] at hD; exact hD) hS hlv)
theorem y_call (C : yC κ cc own (c0 :: gBig) nL D cy A rmo) (El : κ.2.1 = l) {Y : va_W} {y : MethodName} {rm : Room} {bytes : ByteArray} {maxL index ci m q : Nat} {fs : List Value} {E : (Nat → Nat) → Nat → va_E} (hM : yM l y (Cond.code y bytes maxL none :: gBig) rm D cy ci fs m E) (hk : Cond.code y bytes maxL none ∈ gBig) (hi : y.name = "<init>") (hN : (own, index, y) ∈ gNl) (hini : Cond.initialized y.cls ∈ gBig) (hins : Cond.instanceMethod y ∈ gBig) (hd : y.cls ≠ "java/lang/invoke/MethodHandle" ∧ y.cls ≠ "java/lang/invoke/VarHandle" ∧ (parseMethodDescriptor y.desc).map (fun d => d.parameters.length) = some 0) (hR : rm.frames + 1 ≤ rmo.frames ∧ 8 + (maxL + 11) + rm.locals ≤ rmo.locals) (hr : n + rm.cells ≤ rmo.cells ∧ z + rm.slots ≤ rmo.slots) (hcat : (st.map fun v => v.category).sum ≤ 8) (hdg : decode cc pc = .ok (.invokespecial index, 3)) (hp : pc + 3 = pc') (k : ∀ r : Nat → Nat, r 0 = q → wy κ D Y (R ++ yL m E r) A nL (n + rm.cells) (z + rm.slots) pc' lv st) : wy κ D (Y ++ [(q, .inr (ci, fs))]) R A nL n z pc lv (.ref q :: st) := by
  subst hp
  subst El
  intro H locs ls hP hD hS hl
  have hP' := va_P.swap hP
  have hD' := va_D.swap hD
  have gq : ((Y ++ R) ++ [((q, .inr (ci, fs)) : Nat × va_E)])[(Y ++ R).length]? = some (q, .inr (ci, fs)) := by simp
  have Aq : A q := hD'.2 _ _ gq
  have one : ∀ (k : Nat) (x : Nat × va_E), [((q, .inr (ci, fs)) : Nat × va_E)][k]? = some x → x = (q, .inr (ci, fs)) := fun k x hx => by
    have h1 := (List.getElem?_eq_some_iff.mp hx).1
    have h2 : k = 0 := by simp at h1; omega
    subst h2
    cases hx; rfl
  have hF : ∀ x, va_A [(q, .inr (ci, fs))] H.size x → A x := fun x h => by
    rcases h with ⟨k, e', h⟩ | h
    · have := one k _ h
      cases this
      exact Aq
    · exact C.2.2.2.2.2.1 x (Nat.le_trans hS.1 h)
  have hc1 : va_P D vwCl [(q, .inr (ci, fs))] H := fun k x hx => by
    rw [one k x hx]; exact hP' _ _ gq
  have lf : ∀ (k : Nat) (x : Nat × va_E), (Y ++ R)[k]? = some x → k < (Y ++ R).length ∧ ((Y ++ R) ++ [((q, .inr (ci, fs)) : Nat × va_E)])[k]? = some x := fun k x hx => by
    have h1 := (List.getElem?_eq_some_iff.mp hx).1
    exact ⟨h1, by rw [List.getElem?_append_left h1]; exact hx⟩
  have hlow : ∀ (k : Nat) (x : Nat × va_E), (Y ++ R)[k]? = some x → x.1 < H.size ∧ ¬ va_A [(q, .inr (ci, fs))] H.size x.1 := fun k x hx => by
    obtain ⟨h1, h2⟩ := lf k x hx
    have hlt := (hP' k x h2).lt
    refine ⟨hlt, fun h => ?_⟩
    rcases h with ⟨k2, e', h⟩ | h
    · have e := one k2 _ h
      have e1 : x.1 = q := congrArg Prod.fst e
      have := hD'.1 k _ x _ h2 gq e1
      omega
    · omega
  refine va_callv (va_runIN (As := []) (rest := st) C.1 (hM q H.size) ⟨va_cnB 0 C.1.2.2.2.2 (gBn hk) rfl rfl rfl (C.2.2.1 _ hN) (C.hts (gBc hini)) hd (by rw [C.2.2.2.2.1]; exact hR), hi, C.hts (gBc hins)⟩ ⟨yfb, fun U hU hW => ⟨rfl, by rw [hU], by rw [hU]; exact hc1, va_K.moved hW.alike C.2.1, gNs.moved hW C.2.2.1, C.2.2.2.1.moved hW.alike⟩⟩ rfl rfl hl.1 rfl (lv_room hcat) hdg ⟨by rw [C.2.2.2.2.1]; exact hr.1, by rw [C.2.2.2.2.1]; exact hr.2⟩) hS (fun x _ h => hF x h) hF (fun r t H1 locs1 ht hvm hw hB hz1 hk1 hS => ?_)
  obtain ⟨hB1, hB2⟩ := hB
  rw [ht] at hB1
  refine k r hw H1 locs1 ls ?_ ?_ hS hl
  · rw [← List.append_assoc]
    exact va_P.app (fun k x hx => (hP' k x (lf k x hx).2).kept (hk1 x.1 (hlow k x hx).1 (hlow k x hx).2)) hB1
  · rw [← List.append_assoc]
    exact va_D.app ⟨fun i j x y hx hy e => hD'.1 i j x y (lf i x hx).2 (lf j y hy).2 e, fun k x hx => hD'.2 k x (lf k x hx).2⟩ (hB2.weaken (fun k x hx h => hF x.1 h)) (fun i j x y hx hy e => (hlow i x hx).2 (by rw [e]; exact hB2.2 j y hy))
theorem y_vret2 (C : yC κ cc own (c0 :: gBig) nL D cy A rmo) {m h0 : Nat} {E : (Nat → Nat) → Nat → va_E} (G : yE κ (yQ D m E h0 A) n z A l) (r : Nat → Nat) (h : r 0 = h0) (g : Nat → Nat) (hg : ∀ k, k < m → (X ++ R)[g k]? = some (r k, E r k)) (hi : ∀ i j, i < m → j < m → g i = g j → i = j) (hdg : decode cc pc = .ok (.return_, 1)) : wy κ D X R A nL n z pc lv [] := by
  obtain ⟨p, l', e, RR, s, m', args, below, meth, c, n0, z0, Q⟩ := κ
  obtain ⟨hr, hlk, hQ, -⟩ := G
  replace hQ : Q = MQ below (yQ D m E h0 A) args s n z A := hQ
  subst hQ
  intro H locs ls hP hD hS hl
  have hg' : ∀ (k : Nat) (q : Nat × va_E), (yL m E r)[k]? = some q → (X ++ R)[g k]? = some q := fun k q hq => by
    have h1 := (List.getElem?_eq_some_iff.mp hq).1
    rw [yL_len] at h1
    rw [yL_get h1] at hq
    cases hq
    exact hg k h1
  have hP2 := va_P.by hP g hg'
  have hD2 := va_D.by hD g hg' (fun i j h1 h2 => by rw [yL_len] at h1 h2; exact hi i j h1 h2)
  exact W.vret C.1.1 C.1.2.1 hr (fun t ht hW => ⟨⟨r, rfl, h, by rw [ht]; exact hP2, hD2⟩, hS.F ht⟩) hS.2.2 hdg hlk
theorem y_mna (C : yC κ cc own (c0 :: gBig) nL D cy A rmo) {index N K : Nat} {nn kn : Int32} (hn : nn = nI N) (hk : kn = nI K) (hN : N ≤ 1000) (hK : K ≤ 1000) (hcl : Cond.classLink own index "[[I" ∈ gBig) (hr : n + (1 + N) ≤ rmo.cells ∧ z + (N + N * K) ≤ rmo.slots) (hdg : decode cc pc = .ok (.multianewarray index 2, 4)) (hp : pc + 4 = pc') (k : ∀ (q : Nat) (r : Nat → Nat), wy κ D (X ++ [(q, .inl (cy 3, (N, .inr (.inr (.inr (.inr (fun i => if i < N then some (r i) else none)))))))]) (R ++ (List.range N).map (fun i => (r i, .inl (cy 0, (K, .inl gZr))))) A nL (n + 1 + N) (z + N + N * K) pc' lv (.ref q :: st)) : wy κ D X R A nL n z pc lv (.int kn :: .int nn :: st) := by
  subst hp
  subst hn
  subst hk
  intro H locs ls hP hD hS hl
  have e1 : va_RA (gks κ) (cy 3) (.array .int) := (C.2.1.2 3 _ rfl).2
  have e2 : va_RA (gks κ) (cy 0) .int := (C.2.1.2 0 _ rfl).2
  refine va_mnaI C.1.1 C.1.2.1 C.1.2.2.2.1 (C.hts (gBc hcl)) C.2.2.2.1.2 (C.hts (gBc karr_arrayClass_106)) e1 e2 hP hD hS C.2.2.2.2.2.1 (nI_pos (by omega)) (nI_pos (by omega)) (nI_clamp (by omega)) (nI_clamp (by omega)) hN hK (by rw [C.2.2.2.2.1]; exact hr.1) (by rw [C.2.2.2.2.1]; exact hr.2) hdg (fun q r H1 hP hD hS => k q r H1 locs ls ?_ ?_ hS hl)
  · have h9 := va_P.swap hP
    rw [List.append_assoc X R] at h9
    exact va_P.swap h9
  · have h9 := va_D.swap hD
    rw [List.append_assoc X R] at h9
    exact va_D.swap h9
end GYN
theorem mp_split {α : Type} (a b : Nat) (f : Nat → α) : (List.range (a + b)).map f = (List.range a).map f ++ (List.range b).map (fun i => f (a + i)) := by
  rw [List.range_add, List.map_append, List.map_map]
  rfl
