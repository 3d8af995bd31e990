section GYN
variable {κ : gK} {rmo : Room} {cc : ByteArray} {own : String} {c0 : Cond} {nL : Nat} {D : va_G} {cy : Nat → ClassId} {A : Nat → Prop} {X R : va_W} {n z n' z' pc pc' : Nat} {lv lv' : List (Nat × Value)} {st : List Value} {l : Launch}
theorem y_new (C : yC κ cc own (c0 :: gBig) nL D cy A rmo) {ci N index : Nat} {Cn : String} {T : u_T} {fs : List Value} (ty0 : Nat → FieldType) (hin : ∀ w ∈ u_ws Cn T N, w ∈ gBig) (hty : ∀ k, k < N → parseFieldDescriptor (T k).2.2.1 = some (ty0 k)) (hc : vwCl[ci]? = some (Cn, T, N)) (hcl : Cond.classLink own index Cn ∈ gBig) (hinst : Cond.instantiable Cn N ∈ gBig) (hini : Cond.initialized Cn ∈ gBig) (hfs : ∀ j, j < N → defaultValue (ty0 j) = vp_V fs j) (hr : n + 1 ≤ rmo.cells ∧ z + N ≤ rmo.slots) (hdg : decode cc pc = .ok (.new index, 3)) (hp : pc + 3 = pc') (k : ∀ q : Nat, wy κ D (X ++ [(q, .inr (ci, fs))]) R A nL (n + 1) (z + N) pc' lv (.ref q :: st)) : wy κ D X R A nL n z pc lv st := by
  subst hp
  intro H locs ls hP hD hS hl
  exact va_new C.1.1 C.1.2.1 C.1.2.2.2.2 (fun w h => gBc (hin w h)) ty0 hty C.1.2.2.2.1 (C.hts (gBc hcl)) (C.hts (gBc hinst)) (C.hts (gBc hini)) C.2.1 hP hD hS C.2.2.2.2.2.1 hc hfs (by rw [C.2.2.2.2.1]; exact hr.1) (by rw [C.2.2.2.2.1]; exact hr.2) hdg (fun q H1 hP hD hS => k q H1 locs ls (va_P.swap hP) (va_D.swap hD) hS hl)
theorem y_newq (C : yC κ cc own (c0 :: gBig) nL D cy A rmo) {N index : Nat} {nn : Int32} (hn : nn = nI N) (hN : N ≤ 1000) (hcl : Cond.classLink own index "StiltWays$Sheet" ∈ gBig) (hr : n + 1 ≤ rmo.cells ∧ z + N ≤ rmo.slots) (hdg : decode cc pc = .ok (.anewarray index, 3)) (hp : pc + 3 = pc') (k : ∀ q : Nat, wy κ D (X ++ [(q, .inl (cy 2, (N, .inr (.inr (.inr (.inr (fun _ => none)))))))]) R A nL (n + 1) (z + N) pc' lv (.ref q :: st)) : wy κ D X R A nL n z pc lv (.int nn :: st) := by
  subst hp
  subst hn
  intro H locs ls hP hD hS hl
  refine va_newq (C := "StiltWays$Sheet") (N' := N) C.1.1 C.1.2.1 C.1.2.2.2.1 (C.hts (gBc hcl)) C.2.2.2.1.1 C.2.1 hP hD hS C.2.2.2.2.2.1 (nI_pos (by omega)) (nI_clamp (by omega)) (by omega) (by rw [C.2.2.2.2.1]; exact hr.1) (by rw [C.2.2.2.2.1]; exact hr.2) hdg (fun q cA H1 hK hP hD hS => ?_)
  obtain ⟨-, -, -, -, -, e1⟩ : va_RA (gks κ) cA (.object "StiltWays$Sheet") := (hK.2 4 _ rfl).2
  obtain ⟨-, -, -, -, -, e2⟩ : va_RA (gks κ) (cy 2) (.object "StiltWays$Sheet") := (C.2.1.2 2 _ rfl).2
  have e3 : cA = cy 2 := Option.some.inj (Eq.trans (Eq.symm e1) e2)
  subst e3
  exact k q H1 locs ls (va_P.swap hP) (va_D.swap hD) hS hl
theorem y_astq (C : yC κ cc own (c0 :: gBig) nL D cy A rmo) {a v N : Nat} {f : Nat → Option Nat} {i : Int32} {vs : List Value} {X' : va_W} (p pv : Nat) (ha : (X ++ R)[p]? = some (a, .inl (cy 2, (N, .inr (.inr (.inr (.inr f))))))) (hv : (X ++ R)[pv]? = some (v, .inr (2, vs))) (hin : inb i N = true) (hX : (X ++ R).set p (a, .inl (cy 2, (N, .inr (.inr (.inr (.inr (va_up f i.toNatClampNeg (some v)))))))) = X' ++ R) (hdg : decode cc pc = .ok (.aastore, 1)) (hp : pc + 1 = pc') (k : wy κ D X' R A nL n z pc' lv st) : wy κ D X R A nL n z pc lv (.ref v :: .int i :: .ref a :: st) := by
  subst hp
  intro H locs ls hP hD hS hlv
  exact va_astq (r := (RX2, TX2, 4)) C.1.1 C.1.2.1 C.2.1 hP hD hS p 2 pv 2 ha rfl hv rfl (inb_vp hin) hdg (fun H1 locs1 hP hD hS => k H1 locs1 ls (by rw [hX] at hP; exact hP) (by rw [hX] at hD; exact hD) hS hlv)
theorem y_call (C : yC κ cc own (c0 :: gBig) nL D cy A rmo) (El : κ.2.1 = l) {Y : va_W} {y : MethodName} {rm : Room} {bytes : ByteArray} {maxL index ci m q : Nat} {fs : List Value} {E : (Nat → Nat) → Nat → va_E} (hM : yM l y (Cond.code y bytes maxL none :: gBig) rm D cy ci fs m E) (hk : Cond.code y bytes maxL none ∈ gBig) (hi : y.name = "<init>") (hN : (own, index, y) ∈ gNl) (hini : Cond.initialized y.cls ∈ gBig) (hins : Cond.instanceMethod y ∈ gBig) (hd : y.cls ≠ "java/lang/invoke/MethodHandle" ∧ y.cls ≠ "java/lang/invoke/VarHandle" ∧ (parseMethodDescriptor y.desc).map (fun d => d.parameters.length) = some 0) (hR : rm.frames + 1 ≤ rmo.frames ∧ 8 + (maxL + 11) + rm.locals ≤ rmo.locals) (hr : n + rm.cells ≤ rmo.cells ∧ z + rm.slots ≤ rmo.slots) (hcat : (st.map fun v => v.category).sum ≤ 8) (hdg : decode cc pc = .ok (.invokespecial index, 3)) (hp : pc + 3 = pc') (k : ∀ r : Nat → Nat, r 0 = q → wy κ D Y (R ++ yL m E r) A nL (n + rm.cells) (z + rm.slots) pc' lv st) : wy κ D (Y ++ [(q, .inr (ci, fs))]) R A nL n z pc lv (.ref q :: st) := by
  subst hp
  subst El
  intro H locs ls hP hD hS hl
  have hP' := va_P.swap hP
  have hD' := va_D.swap hD
  have gq : ((Y ++ R) ++ [((q, .inr (ci, fs)) : Nat × va_E)])[(Y ++ R).length]? = some (q, .inr (ci, fs)) := by simp
  have Aq : A q := hD'.2 _ _ gq
  have one : ∀ (k : Nat) (x : Nat × va_E), [((q, .inr (ci, fs)) : Nat × va_E)][k]? = some x → x = (q, .inr (ci, fs)) := fun k x hx => by
    have h1 := (List.getElem?_eq_some_iff.mp hx).1
    have h2 : k = 0 := by simp at h1; omega
    subst h2
    cases hx; rfl
  have hF : ∀ x, va_A [(q, .inr (ci, fs))] H.size x → A x := fun x h => by
    rcases h with ⟨k, e', h⟩ | h
    · have := one k _ h
      cases this
      exact Aq
    · exact C.2.2.2.2.2.1 x (Nat.le_trans hS.1 h)
  have hc1 : va_P D vwCl [(q, .inr (ci, fs))] H := fun k x hx => by
    rw [one k x hx]; exact hP' _ _ gq
  have lf : ∀ (k : Nat) (x : Nat × va_E), (Y ++ R)[k]? = some x → k < (Y ++ R).length ∧ ((Y ++ R) ++ [((q, .inr (ci, fs)) : Nat × va_E)])[k]? = some x := fun k x hx => by
    have h1 := (List.getElem?_eq_some_iff.mp hx).1
    exact ⟨h1, by rw [List.getElem?_append_left h1]; exact hx⟩
  have hlow : ∀ (k : Nat) (x : Nat × va_E), (Y ++ R)[k]? = some x → x.1 < H.size ∧ ¬ va_A [(q, .inr (ci, fs))] H.size x.1 := fun k x hx => by
    obtain ⟨h1, h2⟩ := lf k x hx
    have hlt := (hP' k x h2).lt
    refine ⟨hlt, fun h => ?_⟩
    rcases h with ⟨k2, e', h⟩ | h
    · have e := one k2 _ h
      have e1 : x.1 = q := congrArg Prod.fst e
      have := hD'.1 k _ x _ h2 gq e1
      omega
    · omega
  refine va_callv (va_runIN (As := []) (rest := st) C.1 (hM q H.size) ⟨va_cnB 0 C.1.2.2.2.2 (gBn hk) rfl rfl rfl (C.2.2.1 _ hN) (C.hts (gBc hini)) hd (by rw [C.2.2.2.2.1]; exact hR), hi, C.hts (gBc hins)⟩ ⟨yfb, fun U hU hW => ⟨rfl, by rw [hU], by rw [hU]; exact hc1, va_K.moved hW.alike C.2.1, gNs.moved hW C.2.2.1, C.2.2.2.1.moved hW.alike⟩⟩ rfl rfl hl.1 rfl (lv_room hcat) hdg ⟨by rw [C.2.2.2.2.1]; exact hr.1, by rw [C.2.2.2.2.1]; exact hr.2⟩) hS (fun x _ h => hF x h) hF (fun r t H1 locs1 ht hvm hw hB hz1 hk1 hS => ?_)
  obtain ⟨hB1, hB2⟩ := hB
  rw [ht] at hB1
  refine k r hw H1 locs1 ls ?_ ?_ hS hl
  · rw [← List.append_assoc]
    exact va_P.app (fun k x hx => (hP' k x (lf k x hx).2).kept (hk1 x.1 (hlow k x hx).1 (hlow k x hx).2)) hB1
  · rw [← List.append_assoc]
    exact va_D.app ⟨fun i j x y hx hy e => hD'.1 i j x y (lf i x hx).2 (lf j y hy).2 e, fun k x hx => hD'.2 k x (lf k x hx).2⟩ (hB2.weaken (fun k x hx h => hF x.1 h)) (fun i j x y hx hy e => (hlow i x hx).2 (by rw [e]; exact hB2.2 j y hy))
theorem y_vret2 (C : yC κ cc own (c0 :: gBig) nL D cy A rmo) {m h0 : Nat} {E : (Nat → Nat) → Nat → va_E} (G : yE κ (yQ D m E h0 A) n z A l) (r : Nat → Nat) (h : r 0 = h0) (g : Nat → Nat) (hg : ∀ k, k < m → (X ++ R)[g k]? = some (r k, E r k)) (hi : ∀ i j, i < m → j < m → g i = g j → i = j) (hdg : decode cc pc = .ok (.return_, 1)) : wy κ D X R A nL n z pc lv [] := by
  obtain ⟨p, l', e, RR, s, m', args, below, meth, c, n0, z0, Q⟩ := κ
  obtain ⟨hr, hlk, hQ, -⟩ := G
  replace hQ : Q = MQ below (yQ D m E h0 A) args s n z A := hQ
  subst hQ
  intro H locs ls hP hD hS hl
  have hg' : ∀ (k : Nat) (q : Nat × va_E), (yL m E r)[k]? = some q → (X ++ R)[g k]? = some q := fun k q hq => by
    have h1 := (List.getElem?_eq_some_iff.mp hq).1
    rw [yL_len] at h1
    rw [yL_get h1] at hq
    cases hq
    exact hg k h1
  have hP2 := va_P.by hP g hg'
  have hD2 := va_D.by hD g hg' (fun i j h1 h2 => by rw [yL_len] at h1 h2; exact hi i j h1 h2)
  exact W.vret C.1.1 C.1.2.1 hr (fun t ht hW => ⟨⟨r, rfl, h, by rw [ht]; exact hP2, hD2⟩, hS.F ht⟩) hS.2.2 hdg hlk
theorem y_mna (C : yC κ cc own (c0 :: gBig) nL D cy A rmo) {index N K : Nat} {nn kn : Int32} (hn : nn = nI N) (hk : kn = nI K) (hN : N ≤ 1000) (hK : K ≤ 1000) (hcl : Cond.classLink own index "[[I" ∈ gBig) (hr : n + (1 + N) ≤ rmo.cells ∧ z + (N + N * K) ≤ rmo.slots) (hdg : decode cc pc = .ok (.multianewarray index 2, 4)) (hp : pc + 4 = pc') (k : ∀ (q : Nat) (r : Nat → Nat), wy κ D (X ++ [(q, .inl (cy 3, (N, .inr (.inr (.inr (.inr (fun i => if i < N then some (r i) else none)))))))]) (R ++ (List.range N).map (fun i => (r i, .inl (cy 0, (K, .inl gZr))))) A nL (n + 1 + N) (z + N + N * K) pc' lv (.ref q :: st)) : wy κ D X R A nL n z pc lv (.int kn :: .int nn :: st) := by
  sorry
end GYN
theorem mp_split {α : Type} (a b : Nat) (f : Nat → α) : (List.range (a + b)).map f = (List.range a).map f ++ (List.range b).map (fun i => f (a + i)) := by
  rw [List.range_add, List.map_append, List.map_map]
  rfl
