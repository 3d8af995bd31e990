/-! ===== pairs: the greedy step ===== -/
theorem cl4 {l i j x y : Nat} (h8 : l < 256) (hi : i < 8) (hj : j < 8) (hx : x < 8) (hy : y < 8) : cl (cl (cl (cl l i) j) x) y = cl (cl (cl (cl l x) y) i) j := by
  have a := fun m (h : m < 256) k (hk : k < 8) => Nat.lt_of_le_of_lt (cl_r m h k hk).1 h
  rw [cl_cl (cl l i) (a _ h8 _ hi) j hj x hx, cl_cl l h8 i hi x hx, cl_cl (cl (cl l x) i) (a _ (a _ h8 _ hx) _ hi) j hj y hy, cl_cl (cl l x) (a _ h8 _ hx) i hi y hy]
theorem PS_H {C : Nat → Nat → Prop} (Cs : ∀ x y, C x y → C y x) {T : Nat → Nat} {b : Nat} (hb : b ≤ 256) (P : PSp C T b) {l i j y : Nat} (hl : l < b) (ei : tb l i = 1) (ej : tb l j = 1) (ey : tb l y = 1) (nij : i ≠ j) (niy : i ≠ y) (njy : j ≠ y) (H : ∀ w, tb l w = 1 → w ≠ i → w ≠ j → w ≠ y → C j w → C y w) : T (cl (cl l i) y) ≤ T (cl (cl l i) j) := by
  have h8 : l < 256 := by omega
  have i8 := el8 h8 ei
  have j8 := el8 h8 ej
  have y8 := el8 h8 ey
  have l1 := cl_lt h8 ei
  have ej' := el_cl h8 ei ej nij
  have ey' := el_cl h8 ei ey niy
  have lj := cl_lt (show cl l i < 256 by omega) ej'
  have ly := cl_lt (show cl l i < 256 by omega) ey'
  have ejy := el_cl (show cl l i < 256 by omega) ej' ey' njy
  have eyj := el_cl (show cl l i < 256 by omega) ey' ej' (fun h => njy h.symm)
  have lm := cl_lt (show cl (cl l i) j < 256 by omega) ejy
  have e1 : so (cl (cl (cl l i) j) y) j = cl (cl l i) y := by
    rw [cl_cl (cl l i) (by omega) j j8 y y8]; exact so_cl _ (by omega) j j8 eyj
  have e2 : so (cl (cl (cl l i) j) y) y = cl (cl l i) j := so_cl _ (by omega) y y8 ejy
  have := PS_C Cs hb P j8 y8 njy (cl (cl (cl l i) j) y) (by omega) (by rw [tb_cl _ (by omega) y y8 j j8, if_neg (fun h => njy h.symm), tb_cl _ (by omega) j j8 j j8, if_pos rfl]) (by rw [tb_cl _ (by omega) y y8 y y8, if_pos rfl]) (by rw [e1]; omega) (by rw [e2]; omega) (fun w ew hc => by
    obtain ⟨w1, n1⟩ := el_of (show cl (cl l i) j < 256 by omega) y8 ew
    obtain ⟨w2, n2⟩ := el_of (show cl l i < 256 by omega) j8 w1
    obtain ⟨w3, n3⟩ := el_of h8 i8 w2
    exact H w w3 (fun h => n3 h.symm) (fun h => n2 h.symm) (fun h => n1 h.symm) hc)
  rw [e1, e2] at this; exact this
theorem PS_B {C : Nat → Nat → Prop} (Cs : ∀ x y, C x y → C y x) {T : Nat → Nat} {b : Nat} (hb : b ≤ 256) (P : PSp C T b) {i j : Nat} (nij : i ≠ j) (hC : C i j) : ∀ l, l < b → tb l i = 1 → tb l j = 1 → (∀ y w, tb l y = 1 → tb l w = 1 → y ≠ i → y ≠ j → w ≠ i → w ≠ j → y ≠ w → (C i y → C j w → C y w) ∧ (C j y → C i w → C y w)) → T l = 1 + T (cl (cl l i) j) := by
  intro l
  induction l using Nat.strongRecOn with
  | _ l ih =>
    intro hl ei ej E
    have h8 : l < 256 := by omega
    have i8 := el8 h8 ei
    have j8 := el8 h8 ej
    have l1 := cl_lt h8 ei
    have l2 := cl_lt h8 ej
    have ej' := el_cl h8 ei ej nij
    have ei' := el_cl h8 ej ei (fun h => nij h.symm)
    have lj := cl_lt (show cl l i < 256 by omega) ej'
    have sw := cl_cl l h8 j j8 i i8
    obtain ⟨lp0, -, u⟩ := P l hl
    have lo := lp0 i j ei ej nij hC
    obtain ⟨lp, ls, -⟩ := P (cl (cl l i) j) (by omega)
    refine Nat.le_antisymm ?_ (by omega)
    have HI : ∀ y, tb l y = 1 → y ≠ i → y ≠ j → C i y → T (cl (cl l i) y) ≤ T (cl (cl l i) j) := fun y ey n1 n2 hc => PS_H Cs hb P hl ei ej ey nij (fun h => n1 h.symm) (fun h => n2 h.symm) (fun w ew m1 m2 m3 hw => (E y w ey ew n1 n2 m1 m2 (fun h => m3 h.symm)).1 hc hw)
    have HJ : ∀ y, tb l y = 1 → y ≠ i → y ≠ j → C j y → T (cl (cl l j) y) ≤ T (cl (cl l i) j) := fun y ey n1 n2 hc => by
      rw [← sw]
      exact PS_H Cs hb P hl ej ei ey (fun h => nij h.symm) (fun h => n2 h.symm) (fun h => n1 h.symm) (fun w ew m1 m2 m3 hw => (E y w ey ew n1 n2 m2 m1 (fun h => m3 h.symm)).2 hc hw)
    rcases u with u | ⟨x, y, ex, ey, hn, hc, u⟩ | ⟨x, ex, u⟩
    · omega
    · have x8 := el8 h8 ex
      have y8 := el8 h8 ey
      by_cases xi : x = i
      · subst xi
        by_cases yj : y = j
        · subst yj; omega
        · have := HI y ey (fun h => hn h.symm) yj hc; omega
      by_cases xj : x = j
      · subst xj
        by_cases yi : y = i
        · subst yi; rw [sw] at u; omega
        · have := HJ y ey yi (fun h => hn h.symm) hc; omega
      by_cases yi : y = i
      · subst yi
        have := HI x ex xi xj (Cs _ _ hc)
        rw [cl_cl l h8 x x8 y y8] at u; omega
      by_cases yj : y = j
      · subst yj
        have := HJ x ex xi xj (Cs _ _ hc)
        rw [cl_cl l h8 x x8 y y8] at u; omega
      · have ey' := el_cl h8 ex ey hn
        have lx := cl_lt h8 ex
        have lxy := cl_lt (show cl l x < 256 by omega) ey'
        have I := ih (cl (cl l x) y) (by omega) (by omega) (el_cl (by omega) ey' (el_cl h8 ex ei xi) yi) (el_cl (by omega) ey' (el_cl h8 ex ej xj) yj) (fun y' w' ey' ew' n1 n2 n3 n4 n5 => E y' w' (el_of h8 x8 (el_of (by omega) y8 ey').1).1 (el_of h8 x8 (el_of (by omega) y8 ew').1).1 n1 n2 n3 n4 n5)
        have L := lp x y (el_cl (by omega) ej' (el_cl h8 ei ex (fun h => xi h.symm)) (fun h => xj h.symm)) (el_cl (by omega) ej' (el_cl h8 ei ey (fun h => yi h.symm)) (fun h => yj h.symm)) hn hc
        rw [cl4 h8 i8 j8 x8 y8] at L
        omega
    · have x8 := el8 h8 ex
      by_cases xi : x = i
      · subst xi
        have := PS_D hb P (cl l x) (by omega) j ej'; omega
      by_cases xj : x = j
      · subst xj
        have := PS_D hb P (cl l x) (by omega) i ei'
        rw [sw] at this; omega
      · have lx := cl_lt h8 ex
        have I := ih (cl l x) lx (by omega) (el_cl h8 ex ei xi) (el_cl h8 ex ej xj) (fun y' w' ey' ew' n1 n2 n3 n4 n5 => E y' w' (el_of h8 x8 ey').1 (el_of h8 x8 ew').1 n1 n2 n3 n4 n5)
        have L := ls x (el_cl (by omega) ej' (el_cl h8 ei ex (fun h => xi h.symm)) (fun h => xj h.symm))
        rw [cl_cl (cl l i) (by omega) j j8 x x8, cl_cl l h8 i i8 x x8] at L
        omega
theorem PS_0 {C : Nat → Nat → Prop} {T : Nat → Nat} {b : Nat} (P : PSp C T b) (h : 0 < b) : T 0 = 0 := by
  have z : ∀ x, tb 0 x = 0 := fun x => by unfold tb; rw [Nat.zero_div]
  rcases (P 0 h).2.2 with u | ⟨x, y, ex, -⟩ | ⟨x, ex, -⟩
  · exact u
  · rw [z] at ex; omega
  · rw [z] at ex; omega
/-- by numbers d: the two least -/
def cD (d : Nat → Int) (a : Int) (x y : Nat) : Prop := d x - d y ≤ a ∧ d y - d x ≤ a
theorem PS_G {d : Nat → Int} {a : Int} {T : Nat → Nat} {b : Nat} (hb : b ≤ 256) (P : PSp (cD d a) T b) {l i : Nat} (hl : l < b) (ei : tb l i = 1) (hi : ∀ z, tb l z = 1 → d i ≤ d z) : (cl l i = 0 → T l = 0) ∧ ∀ j, tb (cl l i) j = 1 → (∀ z, tb (cl l i) z = 1 → d j ≤ d z) → (d j - d i ≤ a → T l = 1 + T (cl (cl l i) j)) ∧ (¬ d j - d i ≤ a → T l = T (cl l i)) := by
  have h8 : l < 256 := by omega
  have i8 := el8 h8 ei
  have Cs : ∀ x y, cD d a x y → cD d a y x := fun x y h => ⟨h.2, h.1⟩
  have z0 : ∀ x, tb 0 x = 0 := fun x => by unfold tb; rw [Nat.zero_div]
  refine ⟨fun h => ?_, fun j ej hj => ⟨fun h => ?_, fun h => ?_⟩⟩
  · rw [PS_A Cs hb P l hl i ei (fun z ez nz => absurd (el_cl h8 ei ez (fun e => nz e.symm)) (by rw [h, z0]; decide)), h]
    exact PS_0 P (by omega)
  · obtain ⟨ej', nij⟩ := el_of h8 i8 ej
    have dij := hi j ej'
    refine PS_B Cs hb P nij ⟨by omega, h⟩ l hl ei ej' (fun y w ey ew n1 n2 n3 n4 n5 => ?_)
    have y1 := hj y (el_cl h8 ei ey (fun e => n1 e.symm))
    have w1 := hj w (el_cl h8 ei ew (fun e => n3 e.symm))
    exact ⟨fun ⟨p1, p2⟩ ⟨p3, p4⟩ => ⟨by omega, by omega⟩, fun ⟨p1, p2⟩ ⟨p3, p4⟩ => ⟨by omega, by omega⟩⟩
  · refine PS_A Cs hb P l hl i ei (fun z ez nz hc => h ?_)
    have := hj z (el_cl h8 ei ez (fun e => nz e.symm))
    have := hc.2
    omega
