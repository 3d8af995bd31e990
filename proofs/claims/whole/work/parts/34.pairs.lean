/-! ===== pairs: most marriages; the shortest with the next one loses none ===== -/
theorem tb_cl : ∀ m, m < 256 → ∀ i, i < 8 → ∀ j, j < 8 → tb (cl m i) j = if i = j then 0 else tb m j := by decide +kernel
theorem cl_cl : ∀ m, m < 256 → ∀ i, i < 8 → ∀ j, j < 8 → cl (cl m i) j = cl (cl m j) i := by decide +kernel
theorem tb_so : ∀ m, m < 256 → ∀ i, i < 8 → ∀ j, j < 8 → tb (so m i) j = if i = j then 1 else tb m j := by decide +kernel
theorem cl_so : ∀ m, m < 256 → ∀ i, i < 8 → ∀ j, j < 8 → cl (so m i) j = if i = j then cl m i else so (cl m j) i := by decide +kernel
theorem cl_no : ∀ m, m < 256 → ∀ i, i < 8 → tb m i = 0 → cl m i = m := by decide +kernel
theorem so_cl : ∀ m, m < 256 → ∀ i, i < 8 → tb m i = 1 → so (cl m i) i = m := by decide +kernel
theorem tb_8 {m : Nat} (h : m < 256) {k : Nat} (hk : 8 ≤ k) : tb m k = 0 := by
  unfold tb
  have : 2 ^ 8 ≤ 2 ^ k := Nat.pow_le_pow_right (by decide) hk
  rw [Nat.div_eq_of_lt (by omega)]
/-- C: who may marry; T: the most, by the set that is left -/
def PSp (C : Nat → Nat → Prop) (T : Nat → Nat) (b : Nat) : Prop := ∀ l, l < b → (∀ x y, tb l x = 1 → tb l y = 1 → x ≠ y → C x y → T (cl (cl l x) y) + 1 ≤ T l) ∧ (∀ x, tb l x = 1 → T (cl l x) ≤ T l) ∧ (T l = 0 ∨ (∃ x y, tb l x = 1 ∧ tb l y = 1 ∧ x ≠ y ∧ C x y ∧ T (cl (cl l x) y) + 1 = T l) ∨ ∃ x, tb l x = 1 ∧ T (cl l x) = T l)
theorem el8 {m k : Nat} (h : m < 256) (e : tb m k = 1) : k < 8 := by
  by_cases c : k < 8
  · exact c
  · rw [tb_8 h (by omega)] at e; omega
theorem el_cl {m i j : Nat} (h : m < 256) (e : tb m i = 1) (ej : tb m j = 1) (hn : i ≠ j) : tb (cl m i) j = 1 := by
  rw [tb_cl m h i (el8 h e) j (el8 h ej), if_neg hn]; exact ej
theorem el_of {m i j : Nat} (h : m < 256) (hi : i < 8) (e : tb (cl m i) j = 1) : tb m j = 1 ∧ i ≠ j := by
  have h2 : cl m i < 256 := by have := (cl_r m h i hi).1; omega
  have hj := el8 h2 e
  rw [tb_cl m h i hi j hj] at e
  by_cases c : i = j
  · rw [if_pos c] at e; omega
  · rw [if_neg c] at e; exact ⟨e, c⟩
theorem cl_lt {m i : Nat} (h : m < 256) (e : tb m i = 1) : cl m i < m := ((cl_r m h i (el8 h e)).2 e).1
/-- one less takes one marriage at the most -/
theorem PS_D {C : Nat → Nat → Prop} {T : Nat → Nat} {b : Nat} (hb : b ≤ 256) (P : PSp C T b) : ∀ l, l < b → ∀ j, tb l j = 1 → T l ≤ 1 + T (cl l j) := by
  intro l
  induction l using Nat.strongRecOn with
  | _ l ih =>
    intro hl j ej
    have h8 : l < 256 := by omega
    have lj := cl_lt h8 ej
    obtain ⟨-, -, u⟩ := P l hl
    obtain ⟨lp, ls, -⟩ := P (cl l j) (by omega)
    rcases u with u | ⟨x, y, ex, ey, hn, hc, u⟩ | ⟨x, ex, u⟩
    · omega
    · have lx := cl_lt h8 ex
      have ey' := el_cl h8 ex ey hn
      have lxy := cl_lt (by omega) ey'
      by_cases c1 : x = j
      · subst c1
        have := ls y ey'; omega
      by_cases c2 : y = j
      · subst c2
        have := ls x (el_cl h8 ey ex (fun h => hn h.symm))
        rw [cl_cl l h8 y (el8 h8 ey) x (el8 h8 ex)] at this; omega
      · have ej' := el_cl (by omega) ey' (el_cl h8 ex ej c1) c2
        have h1 := ih _ (show cl (cl l x) y < l by omega) (by omega) j ej'
        have h2 := lp x y (el_cl h8 ej ex (fun h => c1 h.symm)) (el_cl h8 ej ey (fun h => c2 h.symm)) hn hc
        rw [cl_cl l h8 j (el8 h8 ej) x (el8 h8 ex), cl_cl (cl l x) (by omega) j (el8 h8 ej) y (el8 h8 ey)] at h2
        omega
    · by_cases c1 : x = j
      · subst c1; omega
      · have lx := cl_lt h8 ex
        have h1 := ih _ lx (by omega) j (el_cl h8 ex ej c1)
        have h2 := ls x (el_cl h8 ej ex (fun h => c1 h.symm))
        rw [cl_cl l h8 j (el8 h8 ej) x (el8 h8 ex)] at h2
        omega
/-- one whom nobody may marry counts for nothing -/
theorem PS_A {C : Nat → Nat → Prop} (Cs : ∀ x y, C x y → C y x) {T : Nat → Nat} {b : Nat} (hb : b ≤ 256) (P : PSp C T b) : ∀ l, l < b → ∀ j, tb l j = 1 → (∀ z, tb l z = 1 → z ≠ j → ¬ C j z) → T l = T (cl l j) := by
  intro l
  induction l using Nat.strongRecOn with
  | _ l ih =>
    intro hl j ej iso
    have h8 : l < 256 := by omega
    have lj := cl_lt h8 ej
    obtain ⟨-, ls0, u⟩ := P l hl
    obtain ⟨lp, ls, -⟩ := P (cl l j) (by omega)
    refine Nat.le_antisymm ?_ (ls0 j ej)
    rcases u with u | ⟨x, y, ex, ey, hn, hc, u⟩ | ⟨x, ex, u⟩
    · omega
    · have lx := cl_lt h8 ex
      have ey' := el_cl h8 ex ey hn
      have lxy := cl_lt (by omega) ey'
      by_cases c1 : x = j
      · subst c1; exact absurd hc (iso y ey (fun h => hn h.symm))
      by_cases c2 : y = j
      · subst c2; exact absurd (Cs _ _ hc) (iso x ex hn)
      · have ej' := el_cl (by omega) ey' (el_cl h8 ex ej c1) c2
        have h1 := ih _ (show cl (cl l x) y < l by omega) (by omega) j ej' (fun z ez hz => iso z (el_of h8 (el8 h8 ex) (el_of (by omega) (el8 h8 ey) ez).1).1 hz)
        have h2 := lp x y (el_cl h8 ej ex (fun h => c1 h.symm)) (el_cl h8 ej ey (fun h => c2 h.symm)) hn hc
        rw [cl_cl l h8 j (el8 h8 ej) x (el8 h8 ex), cl_cl (cl l x) (by omega) j (el8 h8 ej) y (el8 h8 ey)] at h2
        omega
    · by_cases c1 : x = j
      · subst c1; omega
      · have lx := cl_lt h8 ex
        have h1 := ih _ lx (by omega) j (el_cl h8 ex ej c1) (fun z ez hz => iso z (el_of h8 (el8 h8 ex) ez).1 hz)
        have h2 := ls x (el_cl h8 ej ex (fun h => c1 h.symm))
        rw [cl_cl l h8 j (el8 h8 ej) x (el8 h8 ex)] at h2
        omega
/-- one may stand in for another who can marry no more people -/
theorem PS_C {C : Nat → Nat → Prop} (Cs : ∀ x y, C x y → C y x) {T : Nat → Nat} {b : Nat} (hb : b ≤ 256) (P : PSp C T b) {j y : Nat} (hj : j < 8) (hy : y < 8) (hn : j ≠ y) : ∀ m, m < 256 → tb m j = 0 → tb m y = 0 → so m j < b → so m y < b → (∀ z, tb m z = 1 → C j z → C y z) → T (so m j) ≤ T (so m y) := by
  intro m
  induction m using Nat.strongRecOn with
  | _ m ih =>
    intro h8 zj zy bj bY hC
    obtain ⟨-, -, u⟩ := P (so m j) bj
    obtain ⟨lp, ls, -⟩ := P (so m y) bY
    have ejj : tb (so m j) j = 1 := by rw [tb_so m h8 j hj j hj, if_pos rfl]
    have eyy : tb (so m y) y = 1 := by rw [tb_so m h8 y hy y hy, if_pos rfl]
    have cjj : cl (so m j) j = m := by rw [cl_so m h8 j hj j hj, if_pos rfl]; exact cl_no m h8 j hj zj
    have cyy : cl (so m y) y = m := by rw [cl_so m h8 y hy y hy, if_pos rfl]; exact cl_no m h8 y hy zy
    have inm : ∀ z, tb (so m j) z = 1 → z ≠ j → tb m z = 1 := fun z ez hz => by
      have := el8 (show so m j < 256 by omega) ez
      rw [tb_so m h8 j hj z this, if_neg (fun h => hz h.symm)] at ez; exact ez
    have iny : ∀ z, tb m z = 1 → tb (so m y) z = 1 := fun z ez => by
      rw [tb_so m h8 y hy z (el8 h8 ez)]; split
      · rfl
      · exact ez
    -- one of m taken away
    have R1 : ∀ x, tb m x = 1 → cl (so m j) x = so (cl m x) j ∧ cl (so m y) x = so (cl m x) y ∧ tb (cl m x) j = 0 ∧ tb (cl m x) y = 0 ∧ cl m x < m := fun x ex => by
      have x8 := el8 h8 ex
      have n1 : j ≠ x := fun h => by subst h; omega
      have n2 : y ≠ x := fun h => by subst h; omega
      refine ⟨by rw [cl_so m h8 j hj x x8, if_neg n1], by rw [cl_so m h8 y hy x x8, if_neg n2], ?_, ?_, cl_lt h8 ex⟩
      · rw [tb_cl m h8 x x8 j hj]; split
        · rfl
        · exact zj
      · rw [tb_cl m h8 x x8 y hy]; split
        · rfl
        · exact zy
    have PJ : ∀ z, tb m z = 1 → C j z → T (cl m z) + 1 ≤ T (so m y) := fun z ez hc => by
      have n2 : y ≠ z := fun h => by subst h; omega
      have := lp y z eyy (iny z ez) n2 (hC z ez hc)
      rw [cyy] at this; exact this
    rcases u with u | ⟨x, z, ex, ez, hxz, hc, u⟩ | ⟨x, ex, u⟩
    · omega
    · by_cases c1 : x = j
      · subst c1
        have := PJ z (inm z ez (fun h => hxz h.symm)) hc
        rw [cjj] at u; omega
      by_cases c2 : z = j
      · subst c2
        have := PJ x (inm x ex c1) (Cs _ _ hc)
        rw [cl_cl _ (by omega) x (el8 (by omega) ex) z hj, cjj] at u; omega
      · have ex' := inm x ex c1
        have ez' := inm z ez c2
        obtain ⟨r1, r2, r3, r4, r5⟩ := R1 x ex'
        have ez2 := el_cl h8 ex' ez' hxz
        have x8 := el8 h8 ex'
        have z8 := el8 h8 ez'
        have nj : j ≠ z := fun h => c2 h.symm
        have ny : y ≠ z := fun h => by subst h; omega
        have e1 : cl (so (cl m x) j) z = so (cl (cl m x) z) j := by rw [cl_so _ (by omega) j hj z z8, if_neg nj]
        have e2 : cl (so (cl m x) y) z = so (cl (cl m x) z) y := by rw [cl_so _ (by omega) y hy z z8, if_neg ny]
        have lz := cl_lt (show cl m x < 256 by omega) ez2
        have L := lp x z (iny x ex') (iny z ez') hxz hc
        rw [r2, e2] at L
        rw [r1, e1] at u
        have bx := cl_lt (show so m j < 256 by omega) ex
        rw [r1] at bx
        have q1 := (cl_r (so (cl m x) j) (by omega) z z8).1
        rw [e1] at q1
        have by' := cl_lt (show so m y < 256 by omega) (iny x ex')
        rw [r2] at by'
        have q2 := (cl_r (so (cl m x) y) (by omega) z z8).1
        rw [e2] at q2
        have I := ih (cl (cl m x) z) (by omega) (by omega) (by rw [tb_cl _ (by omega) z z8 j hj, if_neg c2]; exact r3) (by rw [tb_cl _ (by omega) z z8 y hy, if_neg (fun h => ny h.symm)]; exact r4) (by omega) (by omega) (fun w ew hw => hC w (el_of h8 x8 (el_of (by omega) z8 ew).1).1 hw)
        omega
    · by_cases c1 : x = j
      · subst c1
        rw [cjj] at u
        have := ls y eyy
        rw [cyy] at this; omega
      · have ex' := inm x ex c1
        obtain ⟨r1, r2, r3, r4, r5⟩ := R1 x ex'
        have bx := cl_lt (show so m j < 256 by omega) ex
        rw [r1] at bx u
        have by' := cl_lt (show so m y < 256 by omega) (iny x ex')
        have L := ls x (iny x ex')
        rw [r2] at by' L
        have I := ih (cl m x) r5 (by omega) r3 r4 (by omega) (by omega) (fun w ew hw => hC w (el_of h8 (el8 h8 ex') ew).1 hw)
        omega
