/-! ===== the law: both systems in one world ===== -/
def gLw : List Cond := Cond.initialized RL :: gBig
def mrg (σ μ : gMem) : gMem := fun k => if k < 213 then σ k else μ (k - 213)
abbrev gGL (D : va_G) (ad am : Nat → Nat) (cy : Nat → ClassId) (b : Nat) : gG := (D, fun k => if k < 213 then ad k else am (k - 213), 227, fun k r => if k < 213 then gentX ad cy k r else gentM am cy (k - 213) r, gtys cy, b)
section GLW
variable {D : va_G} {ad am : Nat → Nat} {cy : Nat → ClassId} {b : Nat} {σ μ : gMem} {H : Heap}
theorem gLx {k : Nat} (hk : k < 213) : (gsw (gGL D ad am cy b) (mrg σ μ))[k]? = some (ad k, gentX ad cy k (σ k)) := by
  rw [gsw_get (show k < 227 by omega)]
  show some ((if k < 213 then ad k else am (k - 213)), (if k < 213 then gentX ad cy k (if k < 213 then σ k else μ (k - 213)) else gentM am cy (k - 213) (if k < 213 then σ k else μ (k - 213)))) = _
  simp only [if_pos hk]
theorem gLm {k : Nat} (hk : k < 14) : (gsw (gGL D ad am cy b) (mrg σ μ))[213 + k]? = some (am k, gentM am cy k (μ k)) := by
  have n0 : ¬ 213 + k < 213 := by omega
  rw [gsw_get (show 213 + k < 227 by omega)]
  show some ((if 213 + k < 213 then ad (213 + k) else am (213 + k - 213)), (if 213 + k < 213 then gentX ad cy (213 + k) (if 213 + k < 213 then σ (213 + k) else μ (213 + k - 213)) else gentM am cy (213 + k - 213) (if 213 + k < 213 then σ (213 + k) else μ (213 + k - 213)))) = _
  simp only [if_neg n0, Nat.add_sub_cancel_left]
theorem gL_sX (h : va_P D vwCl (gsw (gGL D ad am cy b) (mrg σ μ)) H) : va_P D vwCl (gsw (gGX D ad cy b) σ) H := by
  intro k q hq
  obtain ⟨hk, rfl⟩ := gsw_at hq
  exact h k _ (gLx hk)
theorem gL_sM (h : va_P D vwCl (gsw (gGL D ad am cy b) (mrg σ μ)) H) : va_P D vwCl (gsw (gGM D am cy b) μ) H := by
  intro k q hq
  obtain ⟨hk, rfl⟩ := gsw_at hq
  exact h (213 + k) _ (gLm hk)
theorem gL_j (h1 : va_P D vwCl (gsw (gGX D ad cy b) σ) H) (h2 : va_P D vwCl (gsw (gGM D am cy b) μ) H) : va_P D vwCl (gsw (gGL D ad am cy b) (mrg σ μ)) H := by
  intro k q hq
  have hk : k < 227 := (gsw_at hq).1
  by_cases c : k < 213
  · rw [gLx c] at hq
    cases hq
    exact h1 k _ (gsw_get (G := gGX D ad cy b) c)
  · obtain ⟨j, rfl⟩ : ∃ j, k = 213 + j := ⟨k - 213, by omega⟩
    have hj : j < 14 := by omega
    rw [gLm hj] at hq
    cases hq
    exact h2 j _ (gsw_get (G := gGM D am cy b) hj)
theorem gA_X {q : Nat} (h : gA (gGX D ad cy b) q) : gA (gGL D ad am cy b) q := by
  obtain ⟨k, hk, e⟩ := h
  replace hk : k < 213 := hk
  refine ⟨k, by show k < 227; omega, ?_⟩
  show q = if k < 213 then ad k else am (k - 213)
  rw [if_pos hk]; exact e
theorem gA_M {q : Nat} (h : gA (gGM D am cy b) q) : gA (gGL D ad am cy b) q := by
  obtain ⟨k, hk, e⟩ := h
  replace hk : k < 14 := hk
  refine ⟨213 + k, by show 213 + k < 227; omega, ?_⟩
  show q = if 213 + k < 213 then ad (213 + k) else am (213 + k - 213)
  rw [if_neg (by omega), Nat.add_sub_cancel_left]; exact e
theorem gL_ne (h : gInj (gGL D ad am cy b)) {i j : Nat} (hi : i < 213) (hj : j < 14) : ad i ≠ am j := fun e => by
  have := h i (213 + j) (by show i < 227; omega) (by show 213 + j < 227; omega) (by
    show (if i < 213 then ad i else am (i - 213)) = if 213 + j < 213 then ad (213 + j) else am (213 + j - 213)
    rw [if_pos hi, if_neg (by omega), Nat.add_sub_cancel_left]; exact e)
  omega
theorem gL_inj (hX : gInj (gGX D ad cy b)) (hM : gInj (gGM D am cy b)) (hd : ∀ i j, i < 213 → j < 14 → ad i ≠ am j) : gInj (gGL D ad am cy b) := by
  intro i j hi hj e
  replace hi : i < 227 := hi
  replace hj : j < 227 := hj
  replace e : (if i < 213 then ad i else am (i - 213)) = if j < 213 then ad j else am (j - 213) := e
  by_cases c1 : i < 213
  · by_cases c2 : j < 213
    · rw [if_pos c1, if_pos c2] at e; exact hX i j c1 c2 e
    · rw [if_pos c1, if_neg c2] at e; exact absurd e (hd i (j - 213) c1 (by omega))
  · by_cases c2 : j < 213
    · rw [if_neg c1, if_pos c2] at e; exact absurd e.symm (hd j (i - 213) c2 (by omega))
    · rw [if_neg c1, if_neg c2] at e
      have := hM (i - 213) (j - 213) (by show i - 213 < 14; omega) (by show j - 213 < 14; omega) e
      omega
end GLW
section GLZ
variable {κ : gK} {rmo : Room} {cc : ByteArray} {own : String} {Ts : List Cond} {nL : Nat} {D : va_G} {ad am : Nat → Nat} {cy : Nat → ClassId} {b : Nat} {A : Nat → Prop} {σ μ σ0 μ0 : gMem} {r0 : Int32} {pc pc' : Nat} {lv lv' : List (Nat × Value)} {st rest : List Value} {l : Launch}
theorem z_cX (C : gC κ cc own Ts nL (gGL D ad am cy b) A rmo) (hGL : gInj (gGL D ad am cy b)) (El : κ.2.1 = l) {y : MethodName} {ws ws2 : List Cond} {rm : Room} {bytes : ByteArray} {maxL index : Nat} {ret : Option FieldType} {As : List Value} (n : Nat) (hM : gMi l y ws rm (gGX D ad cy b) (.ref (ad 0) :: As) σ r0 σ0) (hg : GoodIn Ts (wsV own index RX6 y ws)) (hw : ws = Cond.code y bytes maxL ret :: ws2) (hrc : rm.cells = 0) (hrs : rm.slots = 0) (hd : y.cls = RX6 ∧ y.cls ≠ "java/lang/invoke/MethodHandle" ∧ y.cls ≠ "java/lang/invoke/VarHandle" ∧ (parseMethodDescriptor y.desc).map (fun d => d.parameters.length) = some n) (hR : rm.frames + 1 ≤ rmo.frames ∧ 8 + (maxL + 11) + rm.locals ≤ rmo.locals) (hn : As.length = n) (hst : st = As.reverse ++ .ref (ad 0) :: rest) (hcat : (rest.map fun v => v.category).sum ≤ 8) (hdg : decode cc pc = .ok (.invokevirtual index, 3)) (hp : pc + 3 = pc') (k : wx κ (gGL D ad am cy b) A nL (mrg σ0 μ) pc' lv (.int r0 :: rest)) : wx κ (gGL D ad am cy b) A nL (mrg σ μ) pc lv st := by
  subst hp
  subst hst
  subst El
  intro H locs ls hP hS hl
  have hPX := gL_sX hP
  have hPM := gL_sM hP
  exact va_calli (va_runV (As := As) (rest := rest) C.1 hM (cwV n C.1.2.2.2.2 hg hw hrc hrs hd (by rw [C.2.2.2.2.1]; exact hR)) ⟨gfb, va_recv (q0 := 0) (ci := 6) C.2.1 hPX rfl (gsw_get (G := gGX D ad cy b) (show 0 < 213 by decide)), fun U hU hW => ⟨rfl, by rw [hU]; exact hPX, va_K.moved hW.alike C.2.1, gL_at C.2.2.2.1 hS hU hW (fun q h => C.2.2.2.2.2.2.2 q (gA_X h))⟩⟩ rfl hn hl.1 rfl (lv_room hcat) hdg ⟨by rw [C.2.2.2.2.1]; exact C.2.2.2.2.2.1, by rw [C.2.2.2.2.1]; exact C.2.2.2.2.2.2.1⟩) hS (fun q _ h => C.2.2.2.2.2.2.2 q (gA_X h)) (fun q h => C.2.2.2.2.2.2.2 q (gA_X h)) (fun r u t H1 locs1 ht hvm hw hB hz1 hk1 hS => by
    obtain ⟨rfl, rfl⟩ := hw
    rw [ht] at hB
    refine k H1 locs1 ls (gL_j hB (hPM.kept (fun j q hq => hk1 q.1 (hPM j q hq).lt (fun hA => ?_)))) hS hl
    obtain ⟨hj, rfl⟩ := gsw_at hq
    obtain ⟨i, hi, e⟩ := hA
    exact gL_ne hGL hi hj e.symm)
theorem z_cM (C : gC κ cc own Ts nL (gGL D ad am cy b) A rmo) (hGL : gInj (gGL D ad am cy b)) (El : κ.2.1 = l) {y : MethodName} {ws ws2 : List Cond} {rm : Room} {bytes : ByteArray} {maxL index : Nat} {ret : Option FieldType} {As : List Value} (n : Nat) (hM : gMi l y ws rm (gGM D am cy b) (.ref (am 0) :: As) μ r0 μ0) (hg : GoodIn Ts (wsV own index RX7 y ws)) (hw : ws = Cond.code y bytes maxL ret :: ws2) (hrc : rm.cells = 0) (hrs : rm.slots = 0) (hd : y.cls = RX7 ∧ y.cls ≠ "java/lang/invoke/MethodHandle" ∧ y.cls ≠ "java/lang/invoke/VarHandle" ∧ (parseMethodDescriptor y.desc).map (fun d => d.parameters.length) = some n) (hR : rm.frames + 1 ≤ rmo.frames ∧ 8 + (maxL + 11) + rm.locals ≤ rmo.locals) (hn : As.length = n) (hst : st = As.reverse ++ .ref (am 0) :: rest) (hcat : (rest.map fun v => v.category).sum ≤ 8) (hdg : decode cc pc = .ok (.invokevirtual index, 3)) (hp : pc + 3 = pc') (k : wx κ (gGL D ad am cy b) A nL (mrg σ μ0) pc' lv (.int r0 :: rest)) : wx κ (gGL D ad am cy b) A nL (mrg σ μ) pc lv st := by
  subst hp
  subst hst
  subst El
  intro H locs ls hP hS hl
  have hPX := gL_sX hP
  have hPM := gL_sM hP
  exact va_calli (va_runV (As := As) (rest := rest) C.1 hM (cwV n C.1.2.2.2.2 hg hw hrc hrs hd (by rw [C.2.2.2.2.1]; exact hR)) ⟨gfb, va_recv (q0 := 0) (ci := 7) C.2.1 hPM rfl (gsw_get (G := gGM D am cy b) (show 0 < 14 by decide)), fun U hU hW => ⟨rfl, by rw [hU]; exact hPM, va_K.moved hW.alike C.2.1, gL_at C.2.2.2.1 hS hU hW (fun q h => C.2.2.2.2.2.2.2 q (gA_M h))⟩⟩ rfl hn hl.1 rfl (lv_room hcat) hdg ⟨by rw [C.2.2.2.2.1]; exact C.2.2.2.2.2.1, by rw [C.2.2.2.2.1]; exact C.2.2.2.2.2.2.1⟩) hS (fun q _ h => C.2.2.2.2.2.2.2 q (gA_M h)) (fun q h => C.2.2.2.2.2.2.2 q (gA_M h)) (fun r u t H1 locs1 ht hvm hw hB hz1 hk1 hS => by
    obtain ⟨rfl, rfl⟩ := hw
    rw [ht] at hB
    refine k H1 locs1 ls (gL_j (hPX.kept (fun j q hq => hk1 q.1 (hPX j q hq).lt (fun hA => ?_))) hB) hS hl
    obtain ⟨hj, rfl⟩ := gsw_at hq
    obtain ⟨i, hi, e⟩ := hA
    exact gL_ne hGL hj hi e)
/-! the script -/
theorem z_sld {G : gG} {σ : gMem} (C : gC κ cc own Ts nL G A rmo) {bs L : Nat} {xs : Nat → Int32} (hX : va_X bs L xs (gks κ) (gks κ).heap) (hbl : bs < (gks κ).heap.size) (hbA : ¬ A bs) {i : Int32} {n : Nat} (hi : i = nI n) (hn : n < L) (hL : L < 2 ^ 31) (hdg : decode cc pc = .ok (.iaload, 1)) (hp : pc + 1 = pc') (k : wx κ G A nL σ pc' lv (.int (xs n) :: st)) : wx κ G A nL σ pc lv (.int i :: .ref bs :: st) := by
  subst hp
  subst hi
  intro H locs ls hP hS hl
  refine va_sld C.1.1 C.1.2.1 hX hbl hbA hS (vp_in_nI hn hL) hdg ?_
  rw [nI_clamp (by omega)]
  exact k H locs ls hP hS hl
theorem z_slen {G : gG} {σ : gMem} (C : gC κ cc own Ts nL G A rmo) {bs L : Nat} {xs : Nat → Int32} (hX : va_X bs L xs (gks κ) (gks κ).heap) (hbl : bs < (gks κ).heap.size) (hbA : ¬ A bs) (hdg : decode cc pc = .ok (.arraylength, 1)) (hp : pc + 1 = pc') (k : wx κ G A nL σ pc' lv (.int (nI L) :: st)) : wx κ G A nL σ pc lv (.ref bs :: st) := by
  subst hp
  intro H locs ls hP hS hl
  exact va_slen C.1.1 C.1.2.1 hX hbl hbA hS hdg (k H locs ls hP hS hl)
end GLZ
