/-! ===== constructors: worlds as lists ===== -/
abbrev gZr : Nat → Int32 := fun _ => 0
def yL (n : Nat) (E : (Nat → Nat) → Nat → va_E) (r : Nat → Nat) : va_W := (List.range n).map (fun i => (r i, E r i))
theorem yL_get {n : Nat} {E : (Nat → Nat) → Nat → va_E} {r : Nat → Nat} {i : Nat} (hi : i < n) : (yL n E r)[i]? = some (r i, E r i) := by
  simp [yL, hi]
theorem yL_len (n : Nat) (E : (Nat → Nat) → Nat → va_E) (r : Nat → Nat) : (yL n E r).length = n := by simp [yL]
theorem yL_split (a b : Nat) (E : (Nat → Nat) → Nat → va_E) (r : Nat → Nat) : yL (a + b) E r = (List.range a).map (fun i => (r i, E r i)) ++ (List.range b).map (fun i => (r (a + i), E r (a + i))) := by
  unfold yL
  rw [List.range_add, List.map_append, List.map_map]
  rfl
/-- what the tables say of arrays of references -/
def gAG (U : State) : Prop := va_AO "StiltWays$Sheet" U ∧ (Cond.arrayOver (.array .int)).before #[] U = true
theorem gAG.moved {u U : State} (hvm : u.vm.Alike U.vm) (h : gAG u) : gAG U := by
  refine ⟨h.1.moved hvm, ?_⟩
  obtain ⟨comp, c, k, h1, h2, h3, h4, h5⟩ := arrayOverA_spec h.2
  obtain ⟨k', hk', he⟩ := hvm.2.2 _ _ h3
  have hi : (U.vm.classes.findIdx? fun (x : Class) => match x.kind with | .array component _ => component == comp | _ => false) = some c := by
    refine Eq.trans (va_idx_bare U.vm comp).symm ?_
    first | rw [hvm.bare_eq] | rw [← hvm.bare_eq]
    exact (va_idx_bare u.vm comp).trans h2
  have hkind : k'.kind = .array comp (.array .int) := by rw [he]; exact h4
  have f1 : U.vm.findClass (FieldType.array .int).toString = some comp := by rw [hvm.findClass]; exact h1
  have f2 : U.vm.findClass ("[" ++ (FieldType.array .int).toString) = some c := by rw [hvm.findClass]; exact h5
  unfold Cond.before Cond.holds
  simp only [Cond.value]
  rw [f1, Option.bind_some]
  refine (congrArg (fun o : Option Nat => (o.bind (fun c => (U.vm.classes[c]?).map fun (k : Class) => match k.kind with | .array _ ty => decide (ty = FieldType.array .int) && decide (U.vm.findClass ("[" ++ (FieldType.array .int).toString) = some c) | _ => false) == some true)) hi).trans ?_
  simp [hk', hkind, f2]
theorem gNs.moved {s U : State} (hW : s.WarmedH U.vm) (h : gNs s) : gNs U := fun q hq => va_Nw.warmM hW (h q hq)
def yPre (D : va_G) (cy : Nat → ClassId) (h0 ci : Nat) (fs : List Value) (sz : Nat) (U : State) : Prop := U.heap.size = sz ∧ va_P D vwCl [(h0, .inr (ci, fs))] U.heap ∧ va_K D vwCl (gtys cy) U ∧ gNs U ∧ gAG U
theorem yfb {D : va_G} {cy : Nat → ClassId} {h0 ci : Nat} {fs : List Value} {sz : Nat} {av : List Value} : FrameBlind (va_Pc av (yPre D cy h0 ci fs sz)) := fun a U g mk q => by
  obtain ⟨q0, qs, qP, qK, qN, qA⟩ := q
  exact ⟨q0, qs, qP, va_K.moved (u := U) (U := U.calling g mk a) (Vm.Alike.refl U.vm) qK, fun q hq => va_Nw.same (w := .methodLinkNest q.1 q.2.1 q.2.2 "StiltWays") rfl (u := U) (U := U.calling g mk a) rfl (qN q hq), gAG.moved (u := U) (U := U.calling g mk a) (Vm.Alike.refl U.vm) qA⟩
abbrev yA (h0 ci : Nat) (fs : List Value) (sz : Nat) : Nat → Prop := va_A [(h0, .inr (ci, fs))] sz
abbrev yQ (D : va_G) (n : Nat) (E : (Nat → Nat) → Nat → va_E) (h0 : Nat) (A : Nat → Prop) : Array Value → State → Outcome → State → Prop := va_Qv (fun r : Nat → Nat => r 0 = h0) (fun r t => va_P D vwCl (yL n E r) t.heap ∧ va_D A (yL n E r)) A
/-- a constructor's contract: it makes the other cells of its object -/
def yM (l : Launch) (y : MethodName) (ws : List Cond) (rm : Room) (D : va_G) (cy : Nat → ClassId) (ci : Nat) (fs : List Value) (n : Nat) (E : (Nat → Nat) → Nat → va_E) : Prop := ∀ h0 sz : Nat, Met l y ws rm (va_Pc [.ref h0] (yPre D cy h0 ci fs sz)) (yQ D n E h0 (yA h0 ci fs sz)) rm.cells rm.slots (yA h0 ci fs sz)
def wy (κ : gK) (D : va_G) (X R : va_W) (A : Nat → Prop) (nL n z pc : Nat) (lv : List (Nat × Value)) (st : List Value) : Prop :=
  ∀ (H : Heap) (locs : List Loc) (ls : Array Slot), va_P D vwCl (X ++ R) H → va_D A (X ++ R) → va_S A (gks κ).heap H locs → lv_has ls nL lv → W κ.1 κ.2.1 κ.2.2.1 (gkR κ) (gks κ) (gkm κ) (gka κ) (gkb κ) (gkh κ) (gkc κ) H locs n z (gkQ κ) (F0 (gkm κ) pc ls st)
def yC (κ : gK) (cc : ByteArray) (own : String) (Ts : List Cond) (nL : Nat) (D : va_G) (cy : Nat → ClassId) (A : Nat → Prop) (rmo : Room) : Prop :=
  CallFix κ.1 (gkm κ) (gkc κ) cc nL (gks κ) (gka κ) Ts own ∧ va_K D vwCl (gtys cy) (gks κ) ∧ gNs (gks κ) ∧ gAG (gks κ) ∧ gkR κ = rmo ∧ (∀ q, (gks κ).heap.size ≤ q → A q) ∧ (gkh κ).name = "<init>"
theorem yC.hts {κ : gK} {cc : ByteArray} {own : String} {Ts : List Cond} {nL : Nat} {D : va_G} {cy : Nat → ClassId} {A : Nat → Prop} {rmo : Room} (C : yC κ cc own Ts nL D cy A rmo) {w : Cond} (h : w ∈ Ts) : w.before (gka κ) (gks κ) = true := C.1.2.2.2.2 w h
def yE (κ : gK) (Qc : Array Value → State → Outcome → State → Prop) (mc ms : Nat) (free : Nat → Prop) (l : Launch) : Prop := (gkh κ).sig.returnType = none ∧ (gkh κ).locks = false ∧ gkQ κ = MQ (gkb κ) Qc (gka κ) (gks κ) mc ms free ∧ κ.2.1 = l
theorem va_D1 (h0 : Nat) (e : va_E) {A : Nat → Prop} (h : A h0) : va_D A [(h0, e)] := by
  refine ⟨fun i j p q hp hq _ => ?_, fun k q hq => ?_⟩
  · have h1 := (List.getElem?_eq_some_iff.mp hp).1
    have h2 := (List.getElem?_eq_some_iff.mp hq).1
    simp at h1 h2
    omega
  · have h1 := (List.getElem?_eq_some_iff.mp hq).1
    have h2 : k = 0 := by simp at h1; omega
    subst h2
    cases hq
    exact h
theorem yIntro {l : Launch} {y : MethodName} {ws ws' : List Cond} {rm : Room} {D : va_G} {cy : Nat → ClassId} {ci : Nat} {fs : List Value} {n : Nat} {E : (Nat → Nat) → Nat → va_E} {cc : ByteArray} {own : String} {maxL : Nat} (hy : plainName y.cls = true) (ho : y.cls = own) (hi : y.name = "<init>") (hw : ws = Cond.code y cc maxL none :: ws') (hn : 1 ≤ maxL)
    (body : ∀ (κ : gK) (h0 sz : Nat), yC κ cc own ws maxL D cy (yA h0 ci fs sz) rm → yE κ (yQ D n E h0 (yA h0 ci fs sz)) rm.cells rm.slots (yA h0 ci fs sz) l → wy κ D [(h0, .inr (ci, fs))] [] (yA h0 ci fs sz) maxL 0 0 0 [(0, .ref h0)] []) : yM l y ws rm D cy ci fs n E := by
  intro h0 sz
  refine Met.ofW (cc := cc) (maxL := maxL) (ret := none) hy hw ?_
  intro p e s m args below meth c s₁ B hml hv
  obtain ⟨rfl, hsz, hP, hK, hN, hG⟩ := hv
  have hl := lv_entry ([.ref h0]) (n := maxL) hn
  rw [lg_entry_eq]
  subst ho
  subst hsz
  have hnm : meth.name = "<init>" := (name_of_methodNamed B.named B.method).1.trans hi
  exact body (p, l, e, (headSpec ws rm).room, s, m, ([.ref h0] : List Value).toArray, below, meth, c, 0, 0, MQ below (yQ D n E h0 (yA h0 ci fs s.heap.size)) ([.ref h0] : List Value).toArray s rm.cells rm.slots (yA h0 ci fs s.heap.size)) h0 s.heap.size ⟨⟨B.exec, B.bytes, hml, findClass_of_methodNamed B.named, atoms_spec (ws := ws) B.pre⟩, hK, hN, hG, rfl, fun q h => Or.inr h, hnm⟩ ⟨B.returns, B.notSynchronized, rfl, rfl⟩ s.heap [] _ hP (va_D1 h0 _ (Or.inl ⟨0, _, rfl⟩)) va_S.rf hl
section GYM
variable {κ : gK} {rmo : Room} {cc : ByteArray} {own : String} {c0 : Cond} {nL : Nat} {D : va_G} {cy : Nat → ClassId} {A : Nat → Prop} {X R : va_W} {n z n' z' pc pc' : Nat} {lv lv' : List (Nat × Value)} {st : List Value} {l : Launch}
theorem y_aln (C : yC κ cc own (c0 :: gBig) nL D cy A rmo) {k0 : Fin 4} {x : Nat} (j : Nat) (hj : lv[j]? = some ((k0 : Nat), .ref x)) (hdg : decode cc pc = .ok (.aload_n k0, 1)) (hp : pc + 1 = pc') (k : wy κ D X R A nL n z pc' lv (.ref x :: st)) : wy κ D X R A nL n z pc lv st := by
  subst hp
  exact fun H locs ls hP hD hS hl => lv_aload_n C.1.1 C.1.2.1 hdg rfl (lv_at hl j hj) (k H locs ls hP hD hS hl)
theorem y_iln (C : yC κ cc own (c0 :: gBig) nL D cy A rmo) {k0 : Fin 4} {x : Int32} (j : Nat) (hj : lv[j]? = some ((k0 : Nat), .int x)) (hdg : decode cc pc = .ok (.iload_n k0, 1)) (hp : pc + 1 = pc') (k : wy κ D X R A nL n z pc' lv (.int x :: st)) : wy κ D X R A nL n z pc lv st := by
  subst hp
  exact fun H locs ls hP hD hS hl => lv_iload_n C.1.1 C.1.2.1 hdg rfl (lv_at hl j hj) (k H locs ls hP hD hS hl)
theorem y_ic (C : yC κ cc own (c0 :: gBig) nL D cy A rmo) {m : Int} {v : Int32} (hv : Int32.ofInt m = v) (hdg : decode cc pc = .ok (.iconst m, 1)) (hp : pc + 1 = pc') (k : wy κ D X R A nL n z pc' lv (.int v :: st)) : wy κ D X R A nL n z pc lv st := by
  subst hp
  exact fun H locs ls hP hD hS hl => lv_iconst C.1.1 C.1.2.1 hdg hv (k H locs ls hP hD hS hl)
theorem y_bi (C : yC κ cc own (c0 :: gBig) nL D cy A rmo) {m : Int} {v : Int32} (hv : (Int8.ofInt m).toInt32 = v) (hdg : decode cc pc = .ok (.bipush m, 2)) (hp : pc + 2 = pc') (k : wy κ D X R A nL n z pc' lv (.int v :: st)) : wy κ D X R A nL n z pc lv st := by
  subst hp
  exact fun H locs ls hP hD hS hl => lv_bipush C.1.1 C.1.2.1 hdg hv (k H locs ls hP hD hS hl)
theorem y_si (C : yC κ cc own (c0 :: gBig) nL D cy A rmo) {m : Int} {v : Int32} (hv : (Int16.ofInt m).toInt32 = v) (hdg : decode cc pc = .ok (.sipush m, 3)) (hp : pc + 3 = pc') (k : wy κ D X R A nL n z pc' lv (.int v :: st)) : wy κ D X R A nL n z pc lv st := by
  subst hp
  exact fun H locs ls hP hD hS hl => lv_sipush C.1.1 C.1.2.1 hdg hv (k H locs ls hP hD hS hl)
theorem y_dup (C : yC κ cc own (c0 :: gBig) nL D cy A rmo) {v : Value} (hv : v.category = 1) (hdg : decode cc pc = .ok (.dup, 1)) (hp : pc + 1 = pc') (k : wy κ D X R A nL n z pc' lv (v :: v :: st)) : wy κ D X R A nL n z pc lv (v :: st) := by
  subst hp
  exact fun H locs ls hP hD hS hl => lv_dup C.1.1 C.1.2.1 hdg hv (k H locs ls hP hD hS hl)
theorem y_istn (C : yC κ cc own (c0 :: gBig) nL D cy A rmo) {i : Nat} {k0 : Fin 4} (hi : (k0 : Nat) = i) {x : Int32} (hn : i < nL) (hl' : (i, Value.int x) :: lv.filter (fun q => !(q.1 == i) && !(q.1 + 1 == i && q.2.category == 2)) = lv') (hdg : decode cc pc = .ok (.istore_n k0, 1)) (hp : pc + 1 = pc') (k : wy κ D X R A nL n z pc' lv' st) : wy κ D X R A nL n z pc lv (.int x :: st) := by
  subst hp
  exact fun H locs ls hP hD hS hl => lv_istore_n C.1.1 C.1.2.1 hdg hi hl hn hl' (fun ls hl => k H locs ls hP hD hS hl)
theorem y_iinc (C : yC κ cc own (c0 :: gBig) nL D cy A rmo) {i j : Nat} {m : Int} {x v w : Int32} (hj : lv[j]? = some (i, .int x)) (ev : v = x + w) (hw : Int32.ofInt m = w) (hn : i < nL) (hl' : (i, Value.int v) :: lv.filter (fun q => !(q.1 == i) && !(q.1 + 1 == i && q.2.category == 2)) = lv') (hdg : decode cc pc = .ok (.iinc i m, 3)) (hp : pc + 3 = pc') (k : wy κ D X R A nL n z pc' lv' st) : wy κ D X R A nL n z pc lv st := by
  subst hp
  exact fun H locs ls hP hD hS hl => lv_iinc C.1.1 C.1.2.1 hdg hl hj (by rw [hw]; exact ev.symm) hn hl' (fun ls hl => k H locs ls hP hD hS hl)
theorem y_goto (C : yC κ cc own (c0 :: gBig) nL D cy A rmo) {off : Int} {tgt : Nat} (hdg : decode cc pc = .ok (.goto off, 3)) (ht : (pc : Int) + off = (tgt : Int)) (k : wy κ D X R A nL n z tgt lv st) : wy κ D X R A nL n z pc lv st :=
  fun H locs ls hP hD hS hl => lv_goto C.1.1 C.1.2.1 hdg ht (k H locs ls hP hD hS hl)
theorem y_geT (C : yC κ cc own (c0 :: gBig) nL D cy A rmo) {x y : Int32} {off : Int} {tgt : Nat} (hdg : decode cc pc = .ok (.if_icmp .ge off, 3)) (ht : (pc : Int) + off = (tgt : Int)) (h : y ≤ x) (kt : wy κ D X R A nL n z tgt lv st) : wy κ D X R A nL n z pc lv (.int y :: .int x :: st) :=
  fun H locs ls hP hD hS hl => lv_icmp_ge C.1.1 C.1.2.1 hdg ht (fun _ => kt H locs ls hP hD hS hl) (fun h' => absurd h h')
theorem y_geF (C : yC κ cc own (c0 :: gBig) nL D cy A rmo) {x y : Int32} {off : Int} {tgt : Nat} (hdg : decode cc pc = .ok (.if_icmp .ge off, 3)) (ht : (pc : Int) + off = (tgt : Int)) (hp : pc + 3 = pc') (h : ¬ y ≤ x) (kf : wy κ D X R A nL n z pc' lv st) : wy κ D X R A nL n z pc lv (.int y :: .int x :: st) := by
  subst hp
  exact fun H locs ls hP hD hS hl => lv_icmp_ge C.1.1 C.1.2.1 hdg ht (fun h' => absurd h' h) (fun _ => kf H locs ls hP hD hS hl)
theorem y_obj (C : yC κ cc own (c0 :: gBig) nL D cy A rmo) {index a : Nat} (hlink : Cond.methodLink own index objectInit ∈ gBig) (hfr : 1 ≤ rmo.frames) (hlo : 12 ≤ rmo.locals) (hdg : decode cc pc = .ok (.invokespecial index, 3)) (hp : pc + 3 = pc') (k : wy κ D X R A nL n z pc' lv []) : wy κ D X R A nL n z pc lv [.ref a] := by
  subst hp
  intro H locs ls hP hD hS hl
  refine W.objInit C.1.1 C.1.2.1 C.1.2.2.2.1 (C.hts (gBc hlink)) (C.hts (gBc kin_Obj)) (C.hts (gBc kc_Obj)) rfl (by rw [C.1.2.2.1]; exact hl.1) rfl hdg (by rw [C.2.2.2.2.1]; exact hfr) (by rw [C.2.2.2.2.1]; exact hlo) ?_
  exact W.eq (g2 := F0 (gkm κ) (pc + 3) ls []) rfl (k H locs ls hP hD hS hl)
theorem y_newi (C : yC κ cc own (c0 :: gBig) nL D cy A rmo) {N : Nat} {nn : Int32} (hn : nn = nI N) (hN : N ≤ 100000) (hr : n + 1 ≤ rmo.cells ∧ z + N ≤ rmo.slots) (hdg : decode cc pc = .ok (.newarray .int, 2)) (hp : pc + 2 = pc') (k : ∀ q : Nat, wy κ D (X ++ [(q, .inl (cy 0, (N, .inl gZr)))]) R A nL (n + 1) (z + N) pc' lv (.ref q :: st)) : wy κ D X R A nL n z pc lv (.int nn :: st) := by
  subst hp
  subst hn
  intro H locs ls hP hD hS hl
  refine va_newa (atype := .int) (ty := .int) (a0 := (N, .inl gZr)) (N' := N) C.1.1 C.1.2.1 (C.hts (gBc karr_arrayClass_106)) rfl C.2.1 hP hD hS C.2.2.2.2.2.1 (fun cA => rfl) (nI_pos (by omega)) (nI_clamp (by omega)) (by show N * 4 ≤ _; omega) (by rw [C.2.2.2.2.1]; exact hr.1) (by rw [C.2.2.2.2.1]; exact hr.2) hdg (fun q cA H1 hK hP hD hS => ?_)
  have e1 : va_RA (gks κ) cA .int := (hK.2 4 _ rfl).2
  have e2 : va_RA (gks κ) (cy 0) .int := (C.2.1.2 0 _ rfl).2
  have e3 : cA = cy 0 := Option.some.inj (Eq.trans (Eq.symm e1) e2)
  subst e3
  exact k q H1 locs ls (va_P.swap hP) (va_D.swap hD) hS hl
theorem y_newz (C : yC κ cc own (c0 :: gBig) nL D cy A rmo) {N : Nat} {nn : Int32} (hn : nn = nI N) (hN : N ≤ 100000) (hr : n + 1 ≤ rmo.cells ∧ z + N ≤ rmo.slots) (hdg : decode cc pc = .ok (.newarray .boolean, 2)) (hp : pc + 2 = pc') (k : ∀ q : Nat, wy κ D (X ++ [(q, .inl (cy 1, (N, .inl gZr)))]) R A nL (n + 1) (z + N) pc' lv (.ref q :: st)) : wy κ D X R A nL n z pc lv (.int nn :: st) := by
  subst hp
  subst hn
  intro H locs ls hP hD hS hl
  refine va_newa (atype := .boolean) (ty := .boolean) (a0 := (N, .inl gZr)) (N' := N) C.1.1 C.1.2.1 (C.hts (gBc karr_arrayClass_810)) rfl C.2.1 hP hD hS C.2.2.2.2.2.1 (fun cA => rfl) (nI_pos (by omega)) (nI_clamp (by omega)) (by show N * 1 ≤ _; omega) (by rw [C.2.2.2.2.1]; exact hr.1) (by rw [C.2.2.2.2.1]; exact hr.2) hdg (fun q cA H1 hK hP hD hS => ?_)
  have e1 : va_RA (gks κ) cA .boolean := (hK.2 4 _ rfl).2
  have e2 : va_RA (gks κ) (cy 1) .boolean := (C.2.1.2 1 _ rfl).2
  have e3 : cA = cy 1 := Option.some.inj (Eq.trans (Eq.symm e1) e2)
  subst e3
  exact k q H1 locs ls (va_P.swap hP) (va_D.swap hD) hS hl
theorem y_putf (C : yC κ cc own (c0 :: gBig) nL D cy A rmo) {ci N index j q h0 : Nat} {Cn : String} {T : u_T} {fs : List Value} (ty0 : Nat → FieldType) (hin : ∀ w ∈ u_ws Cn T N, w ∈ gBig) (hty : ∀ k, k < N → parseFieldDescriptor (T k).2.2.1 = some (ty0 k)) (hnm : ∀ a, a < N → ∀ b, b < N → a ≠ b → (T a).2.1 ≠ (T b).2.1) (hc : vwCl[ci]? = some (Cn, T, N)) (hj : j < N) (hfin : (T j).2.2.2 = true) (hdecl : (T j).1 = own) (hn : narrow (ty0 j) (.ref q) = .ref q) (hfit : fits (ty0 j) (.ref q) = true) (hl : j < fs.length) (hlink : Cond.fieldLink own index (T j).1 (T j).2.1 (T j).2.2.1 ∈ gBig) (hdg : decode cc pc = .ok (.putfield index, 3)) (hp : pc + 3 = pc') (k : wy κ D ((h0, .inr (ci, fs.set j (.ref q))) :: X) R A nL n z pc' lv st) : wy κ D ((h0, .inr (ci, fs)) :: X) R A nL n z pc lv (.ref q :: .ref h0 :: st) := by
  subst hp
  intro H locs ls hP hD hS hlv
  exact va_putF C.1.1 C.1.2.1 C.1.2.2.2.2 (fun w h => gBc (hin w h)) ty0 hty hnm C.1.2.2.2.1 C.2.1 hP hD hS 0 rfl hc j hj (C.hts (gBc hlink)) (fun _ h => h) hfin C.2.2.2.2.2.2 hdecl (hty j hj) hn hfit hl hdg (fun H1 locs1 hP hD hS => k H1 locs1 ls hP hD hS hlv)
theorem y_puti (C : yC κ cc own (c0 :: gBig) nL D cy A rmo) {ci N index j h0 : Nat} {x : Int32} {Cn : String} {T : u_T} {fs : List Value} (ty0 : Nat → FieldType) (hin : ∀ w ∈ u_ws Cn T N, w ∈ gBig) (hty : ∀ k, k < N → parseFieldDescriptor (T k).2.2.1 = some (ty0 k)) (hnm : ∀ a, a < N → ∀ b, b < N → a ≠ b → (T a).2.1 ≠ (T b).2.1) (hc : vwCl[ci]? = some (Cn, T, N)) (hj : j < N) (hfin : (T j).2.2.2 = false) (hn : narrow (ty0 j) (.int x) = .int x) (hfit : fits (ty0 j) (.int x) = true) (hl : j < fs.length) (hlink : Cond.fieldLink own index (T j).1 (T j).2.1 (T j).2.2.1 ∈ gBig) (hdg : decode cc pc = .ok (.putfield index, 3)) (hp : pc + 3 = pc') (k : wy κ D ((h0, .inr (ci, fs.set j (.int x))) :: X) R A nL n z pc' lv st) : wy κ D ((h0, .inr (ci, fs)) :: X) R A nL n z pc lv (.int x :: .ref h0 :: st) := by
  subst hp
  intro H locs ls hP hD hS hlv
  exact va_put C.1.1 C.1.2.1 C.1.2.2.2.2 (fun w h => gBc (hin w h)) ty0 hty hnm C.1.2.2.2.1 C.2.1 hP hD hS 0 rfl hc j hj (C.hts (gBc hlink)) (fun _ h => h) hfin (hty j hj) hn hfit hl hdg (fun H1 locs1 hP hD hS => k H1 locs1 ls hP hD hS hlv)
theorem y_get (C : yC κ cc own (c0 :: gBig) nL D cy A rmo) {ci N index j h0 : Nat} {v : Value} {Cn : String} {T : u_T} {fs : List Value} (hin : ∀ w ∈ u_ws Cn T N, w ∈ gBig) (hc : vwCl[ci]? = some (Cn, T, N)) (hj : j < N) (hv : fs[j]? = some v) (hlink : Cond.fieldLink own index (T j).1 (T j).2.1 (T j).2.2.1 ∈ gBig) (hdg : decode cc pc = .ok (.getfield index, 3)) (hp : pc + 3 = pc') (k : wy κ D ((h0, .inr (ci, fs)) :: X) R A nL n z pc' lv (v :: st)) : wy κ D ((h0, .inr (ci, fs)) :: X) R A nL n z pc lv (.ref h0 :: st) := by
  subst hp
  intro H locs ls hP hD hS hlv
  exact va_get C.1.1 C.1.2.1 C.1.2.2.2.2 (fun w h => gBc (hin w h)) C.1.2.2.2.1 C.2.1 hP 0 rfl hc j hj (C.hts (gBc hlink)) (fun _ h => h) hv hdg (k H locs ls hP hD hS hlv)
theorem y_iast (C : yC κ cc own (c0 :: gBig) nL D cy A rmo) {a N : Nat} {f : Nat → Int32} {i x : Int32} {X' : va_W} (p : Nat) (ha : (X ++ R)[p]? = some (a, .inl (cy 0, (N, .inl f)))) (hin : inb i N = true) (hX : (X ++ R).set p (a, .inl (cy 0, (N, .inl (upd f i.toNatClampNeg x)))) = X' ++ R) (hdg : decode cc pc = .ok (.iastore, 1)) (hp : pc + 1 = pc') (k : wy κ D X' R A nL n z pc' lv st) : wy κ D X R A nL n z pc lv (.int x :: .int i :: .ref a :: st) := by
  subst hp
  intro H locs ls hP hD hS hlv
  exact va_iast C.1.1 C.1.2.1 C.2.1 hP hD hS p 0 ha rfl (inb_vp hin) hdg (fun H1 locs1 hP hD hS => k H1 locs1 ls (by rw [hX] at hP; exact hP) (by rw [hX] at hD; exact hD) hS hlv)
theorem y_vret (C : yC κ cc own (c0 :: gBig) nL D cy A rmo) {m h0 : Nat} {E : (Nat → Nat) → Nat → va_E} (G : yE κ (yQ D m E h0 A) n z A l) (r : Nat → Nat) (h : r 0 = h0) (hL : X ++ R = yL m E r) (hdg : decode cc pc = .ok (.return_, 1)) : wy κ D X R A nL n z pc lv [] := by
  obtain ⟨p, l', e, RR, s, m', args, below, meth, c, n0, z0, Q⟩ := κ
  obtain ⟨hr, hlk, hQ, -⟩ := G
  replace hQ : Q = MQ below (yQ D m E h0 A) args s n z A := hQ
  subst hQ
  intro H locs ls hP hD hS hl
  rw [hL] at hP hD
  exact W.vret C.1.1 C.1.2.1 hr (fun t ht hW => ⟨⟨r, rfl, h, by rw [ht]; exact hP, hD⟩, hS.F ht⟩) hS.2.2 hdg hlk
end GYM
