/-! a world of n numbered cells: cell k lies at ad k and holds what en makes of the row of ints of that number -/
abbrev gMem : Type := Nat → Nat → Int32
def grow (σ : gMem) (k : Nat) (r : Nat → Int32) : gMem := fun a => if a = k then r else σ a
def gst (σ : gMem) (k i : Nat) (x : Int32) : gMem := grow σ k (upd (σ k) i x)
abbrev gEn : Type := Nat → (Nat → Int32) → va_E
abbrev gG : Type := va_G × (Nat → Nat) × Nat × gEn × List (ClassId × FieldType) × Nat
def gsw (G : gG) (σ : gMem) : va_W := (List.range G.2.2.1).map (fun k => (G.2.1 k, G.2.2.2.1 k (σ k)))
theorem gsw_get {G : gG} {σ : gMem} {k : Nat} (hk : k < G.2.2.1) : (gsw G σ)[k]? = some (G.2.1 k, G.2.2.2.1 k (σ k)) := by
  simp [gsw, hk]
theorem gsw_at {G : gG} {σ : gMem} {k : Nat} {q : Nat × va_E} (h : (gsw G σ)[k]? = some q) : k < G.2.2.1 ∧ q = (G.2.1 k, G.2.2.2.1 k (σ k)) := by
  by_cases hk : k < G.2.2.1
  · rw [gsw_get hk] at h
    exact ⟨hk, (Option.some.inj h).symm⟩
  · rw [List.getElem?_eq_none (by simp [gsw]; omega)] at h
    cases h
theorem gsw_set {G : gG} {σ : gMem} {k : Nat} {r : Nat → Int32} {e : va_E} (hk : k < G.2.2.1) (he : e = G.2.2.2.1 k r) : (gsw G σ).set k (G.2.1 k, e) = gsw G (grow σ k r) := by
  subst he
  apply List.ext_getElem?
  intro j
  rw [List.getElem?_set]
  by_cases hj : j < G.2.2.1
  · rw [gsw_get hj]
    by_cases e : k = j
    · subst e
      simp [gsw, grow, hj]
    · rw [if_neg e, gsw_get hj]
      simp [grow, show ¬ j = k from fun q => e q.symm]
  · rw [List.getElem?_eq_none (l := gsw G (grow σ k r)) (by simp [gsw]; omega), if_neg (by omega), List.getElem?_eq_none (by simp [gsw]; omega)]
def gA (G : gG) : Nat → Prop := fun q => ∃ k : Nat, k < G.2.2.1 ∧ q = G.2.1 k
def gInj (G : gG) : Prop := ∀ i j : Nat, i < G.2.2.1 → j < G.2.2.1 → G.2.1 i = G.2.1 j → i = j
theorem gsw_D {G : gG} (h : gInj G) {A : Nat → Prop} (hA : ∀ q, gA G q → A q) (σ : gMem) : va_D A (gsw G σ) := by
  refine ⟨fun i j p q hp hq e => ?_, fun k q hq => ?_⟩
  · obtain ⟨h1, rfl⟩ := gsw_at hp
    obtain ⟨h2, rfl⟩ := gsw_at hq
    exact h i j h1 h2 e
  · obtain ⟨h1, rfl⟩ := gsw_at hq
    exact hA _ ⟨k, h1, rfl⟩
/-- the table LACKING: 0x55, 0x33, 0x0F -/
def gLk (j : Nat) : Int32 := if j = 0 then 85 else if j = 1 then 51 else 15
/-- the links between nest mates' methods -/
def gNl : List (String × Nat × MethodName) := [("StiltWays$Walk", 130, yX6_within), ("StiltWays$Walk", 107, yX6_holds), ("StiltWays$Tape", 74, yX6_within), ("StiltWays$Sheet", 26, yX6_within), ("StiltWays$Lagoon", 72, yX6_within), ("StiltWays$Lagoon", 130, yX6_holds), ("StiltWays$Exchange", 50, yX6_holds), ("StiltWays", 9, yX1_init), ("StiltWays", 53, yX2_init), ("StiltWays", 42, yX0_init), ("StiltWays", 35, yX4_init), ("StiltWays", 28, yX5_init), ("StiltWays", 21, yX3_init)]
def gNs (U : State) : Prop := ∀ q ∈ gNl, va_Nw (.methodLinkNest q.1 q.2.1 q.2.2 "StiltWays") U
def gL (b : Nat) (A : Nat → Prop) (U : State) : Prop := va_Z "StiltWays$Walk" "LACKING" "[I" (.ref b) A U U.heap ∧ va_T .int b 3 (fun j => .int (gLk j)) A U U.heap ∧ gNs U
theorem gL_at {b : Nat} {A B : Nat → Prop} {s U : State} {H : Heap} {locs : List Loc} (h : gL b A s) (hS : va_S A s.heap H locs) (hU : U.heap = H) (hW : s.WarmedH U.vm) (hB : ∀ q, B q → A q) : gL b B U := by
  subst hU
  exact ⟨((h.1.kept hS.2.1).moved hW.alike).narrow hB, ((h.2.1.kept hS.2.1).moved hW.alike).narrow hB, fun q hq => va_Nw.warmM hW (h.2.2 q hq)⟩
theorem gL_fb {b : Nat} {A : Nat → Prop} {a : Array Value} {U : State} {g : JFrame} {mk : MethodId} (h : gL b A U) : gL b A (U.calling g mk a) :=
  ⟨va_Z.moved (u := U) (U := U.calling g mk a) (Vm.Alike.refl U.vm) h.1, va_T.moved (u := U) (U := U.calling g mk a) (Vm.Alike.refl U.vm) h.2.1, fun q hq => va_Nw.same (w := .methodLinkNest q.1 q.2.1 q.2.2 "StiltWays") rfl (u := U) (U := U.calling g mk a) rfl (h.2.2 q hq)⟩
/-! what a method's frame stands on, in one name -/
abbrev gK : Type := Program × Launch × Env × Room × State × MethodId × Array Value × List Frame × Method × Code × Nat × Nat × (State → Prop)
abbrev gks (κ : gK) : State := κ.2.2.2.2.1
abbrev gkR (κ : gK) : Room := κ.2.2.2.1
abbrev gkm (κ : gK) : MethodId := κ.2.2.2.2.2.1
abbrev gka (κ : gK) : Array Value := κ.2.2.2.2.2.2.1
abbrev gkb (κ : gK) : List Frame := κ.2.2.2.2.2.2.2.1
abbrev gkh (κ : gK) : Method := κ.2.2.2.2.2.2.2.2.1
abbrev gkc (κ : gK) : Code := κ.2.2.2.2.2.2.2.2.2.1
abbrev gkn (κ : gK) : Nat := κ.2.2.2.2.2.2.2.2.2.2.1
abbrev gkz (κ : gK) : Nat := κ.2.2.2.2.2.2.2.2.2.2.2.1
abbrev gkQ (κ : gK) : State → Prop := κ.2.2.2.2.2.2.2.2.2.2.2.2
abbrev gW (κ : gK) (H : Heap) (locs : List Loc) (g : JFrame) : Prop := W κ.1 κ.2.1 κ.2.2.1 (gkR κ) (gks κ) (gkm κ) (gka κ) (gkb κ) (gkh κ) (gkc κ) H locs (gkn κ) (gkz κ) (gkQ κ) g
/-- the frame at pc, with these locals and this stack, over any heap that holds the world σ -/
def wx (κ : gK) (G : gG) (A : Nat → Prop) (nL : Nat) (σ : gMem) (pc : Nat) (lv : List (Nat × Value)) (st : List Value) : Prop :=
  ∀ (H : Heap) (locs : List Loc) (ls : Array Slot), va_P G.1 vwCl (gsw G σ) H → va_S A (gks κ).heap H locs → lv_has ls nL lv → gW κ H locs (F0 (gkm κ) pc ls st)
def gC (κ : gK) (cc : ByteArray) (own : String) (Ts : List Cond) (nL : Nat) (G : gG) (A : Nat → Prop) (rmo : Room) : Prop :=
  CallFix κ.1 (gkm κ) (gkc κ) cc nL (gks κ) (gka κ) Ts own ∧ va_K G.1 vwCl G.2.2.2.2.1 (gks κ) ∧ (∀ σ : gMem, va_D A (gsw G σ)) ∧ gL G.2.2.2.2.2 A (gks κ) ∧ gkR κ = rmo ∧ gkn κ ≤ rmo.cells ∧ gkz κ ≤ rmo.slots ∧ ∀ q, gA G q → A q
theorem gC.hts {κ : gK} {cc : ByteArray} {own : String} {Ts : List Cond} {nL : Nat} {G : gG} {A : Nat → Prop} {rmo : Room} (C : gC κ cc own Ts nL G A rmo) {w : Cond} (h : w ∈ Ts) : w.before (gka κ) (gks κ) = true := C.1.2.2.2.2 w h
/-! the values of programs: none is a step that the machine would refuse -/
def gck {β : Type} (b : Bool) (o : Option β) : Option β := match b with
  | true => o
  | false => none
theorem gck_some {β : Type} {b : Bool} {o : Option β} {y : β} (h : gck b o = some y) : b = true ∧ o = some y := by
  cases b
  · cases h
  · exact ⟨rfl, h⟩
theorem gck_t {β : Type} {b : Bool} {o : Option β} (h : b = true) : gck b o = o := by subst h; rfl
def gnm {α β : Type} (x : α) (K : α → Option β) : Option β := K x
theorem gnm_ex {α β : Type} {x : α} {K : α → Option β} {y : β} (h : gnm x K = some y) : ∃ v : α, v = x ∧ K v = some y := ⟨x, rfl, h⟩
theorem gif_pos {c : Prop} [Decidable c] {β : Type} {a b : Option β} {y : β} (h : c) (hM : (if c then a else b) = some y) : a = some y := by
  rw [if_pos h] at hM; exact hM
theorem gif_neg {c : Prop} [Decidable c] {β : Type} {a b : Option β} {y : β} (h : ¬ c) (hM : (if c then a else b) = some y) : b = some y := by
  rw [if_neg h] at hM; exact hM
def inb (i : Int32) (n : Nat) : Bool := !(decide (i < 0) || decide (n ≤ i.toNatClampNeg))
theorem inb_vp {i : Int32} {n : Nat} (h : inb i n = true) : vp_in i n := by
  intro q
  rcases q with q | q
  · simp [inb, q] at h
  · simp [inb, q] at h
theorem inb_lt {i : Int32} {n : Nat} (h : inb i n = true) : i.toNatClampNeg < n := Nat.not_le.mp fun q => inb_vp h (Or.inr q)
def izb (x : Int32) : Bool := decide (x = 0) || decide (x = 1)
theorem izb_n {x : Int32} (h : izb x = true) : narrow .boolean (.int x) = .int x := by
  simp [izb] at h
  rcases h with rfl | rfl <;> rfl
def grem (x y : Int32) : Int32 := x - x / y * y
def gmax (x y : Int32) : Int32 := if x < y then y else x
def gmin (x y : Int32) : Int32 := if y < x then y else x
def gus (x y : Int32) : Int32 := (x.toUInt32 >>> (y.toUInt32 &&& Int32.toUInt32 31)).toInt32
theorem gs2 {α β : Type} {a c : α} {b d : β} (h : some (a, b) = some (c, d)) : a = c ∧ b = d := by cases h; exact ⟨rfl, rfl⟩
theorem gs1 {α : Type} {a c : α} (h : some a = some c) : a = c := Option.some.inj h

def gb1 {α1 β : Type} (o : Option (α1)) (K : α1 → Option β) : Option β := match o with
  | some a1 => K a1
  | none => none
theorem gb1_some {α1 β : Type} {o : Option (α1)} {K : α1 → Option β} {y : β} (h : gb1 o K = some y) : ∃ (a1 : α1), o = some a1 ∧ K a1 = some y := by
  cases o with
  | none => cases h
  | some q => exact ⟨_, rfl, h⟩
def gb2 {α1 α2 β : Type} (o : Option (α1 × α2)) (K : α1 → α2 → Option β) : Option β := match o with
  | some (a1, a2) => K a1 a2
  | none => none
theorem gb2_some {α1 α2 β : Type} {o : Option (α1 × α2)} {K : α1 → α2 → Option β} {y : β} (h : gb2 o K = some y) : ∃ (a1 : α1) (a2 : α2), o = some (a1, a2) ∧ K a1 a2 = some y := by
  cases o with
  | none => cases h
  | some q => obtain ⟨a1, a2⟩ := q; exact ⟨a1, a2, rfl, h⟩
def gb3 {α1 α2 α3 β : Type} (o : Option (α1 × α2 × α3)) (K : α1 → α2 → α3 → Option β) : Option β := match o with
  | some (a1, a2, a3) => K a1 a2 a3
  | none => none
theorem gb3_some {α1 α2 α3 β : Type} {o : Option (α1 × α2 × α3)} {K : α1 → α2 → α3 → Option β} {y : β} (h : gb3 o K = some y) : ∃ (a1 : α1) (a2 : α2) (a3 : α3), o = some (a1, a2, a3) ∧ K a1 a2 a3 = some y := by
  cases o with
  | none => cases h
  | some q => obtain ⟨a1, a2, a3⟩ := q; exact ⟨a1, a2, a3, rfl, h⟩
def gb4 {α1 α2 α3 α4 β : Type} (o : Option (α1 × α2 × α3 × α4)) (K : α1 → α2 → α3 → α4 → Option β) : Option β := match o with
  | some (a1, a2, a3, a4) => K a1 a2 a3 a4
  | none => none
theorem gb4_some {α1 α2 α3 α4 β : Type} {o : Option (α1 × α2 × α3 × α4)} {K : α1 → α2 → α3 → α4 → Option β} {y : β} (h : gb4 o K = some y) : ∃ (a1 : α1) (a2 : α2) (a3 : α3) (a4 : α4), o = some (a1, a2, a3, a4) ∧ K a1 a2 a3 a4 = some y := by
  cases o with
  | none => cases h
  | some q => obtain ⟨a1, a2, a3, a4⟩ := q; exact ⟨a1, a2, a3, a4, rfl, h⟩
def gb5 {α1 α2 α3 α4 α5 β : Type} (o : Option (α1 × α2 × α3 × α4 × α5)) (K : α1 → α2 → α3 → α4 → α5 → Option β) : Option β := match o with
  | some (a1, a2, a3, a4, a5) => K a1 a2 a3 a4 a5
  | none => none
theorem gb5_some {α1 α2 α3 α4 α5 β : Type} {o : Option (α1 × α2 × α3 × α4 × α5)} {K : α1 → α2 → α3 → α4 → α5 → Option β} {y : β} (h : gb5 o K = some y) : ∃ (a1 : α1) (a2 : α2) (a3 : α3) (a4 : α4) (a5 : α5), o = some (a1, a2, a3, a4, a5) ∧ K a1 a2 a3 a4 a5 = some y := by
  cases o with
  | none => cases h
  | some q => obtain ⟨a1, a2, a3, a4, a5⟩ := q; exact ⟨a1, a2, a3, a4, a5, rfl, h⟩
def gb6 {α1 α2 α3 α4 α5 α6 β : Type} (o : Option (α1 × α2 × α3 × α4 × α5 × α6)) (K : α1 → α2 → α3 → α4 → α5 → α6 → Option β) : Option β := match o with
  | some (a1, a2, a3, a4, a5, a6) => K a1 a2 a3 a4 a5 a6
  | none => none
theorem gb6_some {α1 α2 α3 α4 α5 α6 β : Type} {o : Option (α1 × α2 × α3 × α4 × α5 × α6)} {K : α1 → α2 → α3 → α4 → α5 → α6 → Option β} {y : β} (h : gb6 o K = some y) : ∃ (a1 : α1) (a2 : α2) (a3 : α3) (a4 : α4) (a5 : α5) (a6 : α6), o = some (a1, a2, a3, a4, a5, a6) ∧ K a1 a2 a3 a4 a5 a6 = some y := by
  cases o with
  | none => cases h
  | some q => obtain ⟨a1, a2, a3, a4, a5, a6⟩ := q; exact ⟨a1, a2, a3, a4, a5, a6, rfl, h⟩
def gb7 {α1 α2 α3 α4 α5 α6 α7 β : Type} (o : Option (α1 × α2 × α3 × α4 × α5 × α6 × α7)) (K : α1 → α2 → α3 → α4 → α5 → α6 → α7 → Option β) : Option β := match o with
  | some (a1, a2, a3, a4, a5, a6, a7) => K a1 a2 a3 a4 a5 a6 a7
  | none => none
theorem gb7_some {α1 α2 α3 α4 α5 α6 α7 β : Type} {o : Option (α1 × α2 × α3 × α4 × α5 × α6 × α7)} {K : α1 → α2 → α3 → α4 → α5 → α6 → α7 → Option β} {y : β} (h : gb7 o K = some y) : ∃ (a1 : α1) (a2 : α2) (a3 : α3) (a4 : α4) (a5 : α5) (a6 : α6) (a7 : α7), o = some (a1, a2, a3, a4, a5, a6, a7) ∧ K a1 a2 a3 a4 a5 a6 a7 = some y := by
  cases o with
  | none => cases h
  | some q => obtain ⟨a1, a2, a3, a4, a5, a6, a7⟩ := q; exact ⟨a1, a2, a3, a4, a5, a6, a7, rfl, h⟩
def gb8 {α1 α2 α3 α4 α5 α6 α7 α8 β : Type} (o : Option (α1 × α2 × α3 × α4 × α5 × α6 × α7 × α8)) (K : α1 → α2 → α3 → α4 → α5 → α6 → α7 → α8 → Option β) : Option β := match o with
  | some (a1, a2, a3, a4, a5, a6, a7, a8) => K a1 a2 a3 a4 a5 a6 a7 a8
  | none => none
theorem gb8_some {α1 α2 α3 α4 α5 α6 α7 α8 β : Type} {o : Option (α1 × α2 × α3 × α4 × α5 × α6 × α7 × α8)} {K : α1 → α2 → α3 → α4 → α5 → α6 → α7 → α8 → Option β} {y : β} (h : gb8 o K = some y) : ∃ (a1 : α1) (a2 : α2) (a3 : α3) (a4 : α4) (a5 : α5) (a6 : α6) (a7 : α7) (a8 : α8), o = some (a1, a2, a3, a4, a5, a6, a7, a8) ∧ K a1 a2 a3 a4 a5 a6 a7 a8 = some y := by
  cases o with
  | none => cases h
  | some q => obtain ⟨a1, a2, a3, a4, a5, a6, a7, a8⟩ := q; exact ⟨a1, a2, a3, a4, a5, a6, a7, a8, rfl, h⟩
def gb9 {α1 α2 α3 α4 α5 α6 α7 α8 α9 β : Type} (o : Option (α1 × α2 × α3 × α4 × α5 × α6 × α7 × α8 × α9)) (K : α1 → α2 → α3 → α4 → α5 → α6 → α7 → α8 → α9 → Option β) : Option β := match o with
  | some (a1, a2, a3, a4, a5, a6, a7, a8, a9) => K a1 a2 a3 a4 a5 a6 a7 a8 a9
  | none => none
theorem gb9_some {α1 α2 α3 α4 α5 α6 α7 α8 α9 β : Type} {o : Option (α1 × α2 × α3 × α4 × α5 × α6 × α7 × α8 × α9)} {K : α1 → α2 → α3 → α4 → α5 → α6 → α7 → α8 → α9 → Option β} {y : β} (h : gb9 o K = some y) : ∃ (a1 : α1) (a2 : α2) (a3 : α3) (a4 : α4) (a5 : α5) (a6 : α6) (a7 : α7) (a8 : α8) (a9 : α9), o = some (a1, a2, a3, a4, a5, a6, a7, a8, a9) ∧ K a1 a2 a3 a4 a5 a6 a7 a8 a9 = some y := by
  cases o with
  | none => cases h
  | some q => obtain ⟨a1, a2, a3, a4, a5, a6, a7, a8, a9⟩ := q; exact ⟨a1, a2, a3, a4, a5, a6, a7, a8, a9, rfl, h⟩
def gb10 {α1 α2 α3 α4 α5 α6 α7 α8 α9 α10 β : Type} (o : Option (α1 × α2 × α3 × α4 × α5 × α6 × α7 × α8 × α9 × α10)) (K : α1 → α2 → α3 → α4 → α5 → α6 → α7 → α8 → α9 → α10 → Option β) : Option β := match o with
  | some (a1, a2, a3, a4, a5, a6, a7, a8, a9, a10) => K a1 a2 a3 a4 a5 a6 a7 a8 a9 a10
  | none => none
theorem gb10_some {α1 α2 α3 α4 α5 α6 α7 α8 α9 α10 β : Type} {o : Option (α1 × α2 × α3 × α4 × α5 × α6 × α7 × α8 × α9 × α10)} {K : α1 → α2 → α3 → α4 → α5 → α6 → α7 → α8 → α9 → α10 → Option β} {y : β} (h : gb10 o K = some y) : ∃ (a1 : α1) (a2 : α2) (a3 : α3) (a4 : α4) (a5 : α5) (a6 : α6) (a7 : α7) (a8 : α8) (a9 : α9) (a10 : α10), o = some (a1, a2, a3, a4, a5, a6, a7, a8, a9, a10) ∧ K a1 a2 a3 a4 a5 a6 a7 a8 a9 a10 = some y := by
  cases o with
  | none => cases h
  | some q => obtain ⟨a1, a2, a3, a4, a5, a6, a7, a8, a9, a10⟩ := q; exact ⟨a1, a2, a3, a4, a5, a6, a7, a8, a9, a10, rfl, h⟩
section GX
variable {κ : gK} {rmo : Room} {cc : ByteArray} {own : String} {Ts : List Cond} {nL : Nat} {G : gG} {A : Nat → Prop} {σ : gMem} {pc pc' : Nat} {lv lv' : List (Nat × Value)} {st : List Value}
theorem x_ic (C : gC κ cc own Ts nL G A rmo) {n : Int} {v : Int32} (hv : Int32.ofInt n = v) (hdg : decode cc pc = .ok (.iconst n, 1)) (hp : pc + 1 = pc') (k : wx κ G A nL σ pc' lv (.int v :: st)) : wx κ G A nL σ pc lv (st) := by
  subst hp
  exact fun H locs ls hP hS hl => lv_iconst C.1.1 C.1.2.1 hdg hv (k H locs ls hP hS hl)
theorem x_bi (C : gC κ cc own Ts nL G A rmo) {n : Int} {v : Int32} (hv : (Int8.ofInt n).toInt32 = v) (hdg : decode cc pc = .ok (.bipush n, 2)) (hp : pc + 2 = pc') (k : wx κ G A nL σ pc' lv (.int v :: st)) : wx κ G A nL σ pc lv (st) := by
  subst hp
  exact fun H locs ls hP hS hl => lv_bipush C.1.1 C.1.2.1 hdg hv (k H locs ls hP hS hl)
theorem x_si (C : gC κ cc own Ts nL G A rmo) {n : Int} {v : Int32} (hv : (Int16.ofInt n).toInt32 = v) (hdg : decode cc pc = .ok (.sipush n, 3)) (hp : pc + 3 = pc') (k : wx κ G A nL σ pc' lv (.int v :: st)) : wx κ G A nL σ pc lv (st) := by
  subst hp
  exact fun H locs ls hP hS hl => lv_sipush C.1.1 C.1.2.1 hdg hv (k H locs ls hP hS hl)
theorem x_lc (C : gC κ cc own Ts nL G A rmo) {n : Fin 2} {v : Int64} (hv : Int64.ofNat (n : Nat) = v) (hdg : decode cc pc = .ok (.lconst n, 1)) (hp : pc + 1 = pc') (k : wx κ G A nL σ pc' lv (.long v :: st)) : wx κ G A nL σ pc lv (st) := by
  subst hp
  exact fun H locs ls hP hS hl => lv_lconst C.1.1 C.1.2.1 hdg hv (k H locs ls hP hS hl)
theorem x_ldc (C : gC κ cc own Ts nL G A rmo) {index : Nat} {v : Int32} (hc : Jvm.Cond.constant own index v ∈ Ts) (hdg : decode cc pc = .ok (.ldc index, 2)) (hp : pc + 2 = pc') (k : wx κ G A nL σ pc' lv (.int v :: st)) : wx κ G A nL σ pc lv (st) := by
  subst hp
  exact fun H locs ls hP hS hl => lv_ldc C.1.1 C.1.2.1 C.1.2.2.2.1 (C.hts hc) hdg (k H locs ls hP hS hl)
theorem x_ldcw (C : gC κ cc own Ts nL G A rmo) {index : Nat} {v : Int32} (hc : Jvm.Cond.constant own index v ∈ Ts) (hdg : decode cc pc = .ok (.ldc_w index, 3)) (hp : pc + 3 = pc') (k : wx κ G A nL σ pc' lv (.int v :: st)) : wx κ G A nL σ pc lv (st) := by
  subst hp
  exact fun H locs ls hP hS hl => lv_ldcw C.1.1 C.1.2.1 C.1.2.2.2.1 (C.hts hc) hdg (k H locs ls hP hS hl)
theorem x_ldc2 (C : gC κ cc own Ts nL G A rmo) {index : Nat} {v : Int64} (hc : Jvm.Cond.constantLong own index v ∈ Ts) (hdg : decode cc pc = .ok (.ldc2_w index, 3)) (hp : pc + 3 = pc') (k : wx κ G A nL σ pc' lv (.long v :: st)) : wx κ G A nL σ pc lv (st) := by
  subst hp
  exact fun H locs ls hP hS hl => lv_ldc2 C.1.1 C.1.2.1 C.1.2.2.2.1 (C.hts hc) hdg (k H locs ls hP hS hl)
theorem x_iln (C : gC κ cc own Ts nL G A rmo) {k0 : Fin 4} {x : Int32} (j : Nat) (hj : lv[j]? = some ((k0 : Nat), .int x)) (hdg : decode cc pc = .ok (.iload_n k0, 1)) (hp : pc + 1 = pc') (k : wx κ G A nL σ pc' lv (.int x :: st)) : wx κ G A nL σ pc lv (st) := by
  subst hp
  exact fun H locs ls hP hS hl => lv_iload_n C.1.1 C.1.2.1 hdg rfl (lv_at hl j hj) (k H locs ls hP hS hl)
theorem x_il (C : gC κ cc own Ts nL G A rmo) {i : Nat} {x : Int32} (j : Nat) (hj : lv[j]? = some (i, .int x)) (hdg : decode cc pc = .ok (.iload i, 2)) (hp : pc + 2 = pc') (k : wx κ G A nL σ pc' lv (.int x :: st)) : wx κ G A nL σ pc lv (st) := by
  subst hp
  exact fun H locs ls hP hS hl => lv_iload C.1.1 C.1.2.1 hdg (lv_at hl j hj) (k H locs ls hP hS hl)
theorem x_lln (C : gC κ cc own Ts nL G A rmo) {k0 : Fin 4} {x : Int64} (j : Nat) (hj : lv[j]? = some ((k0 : Nat), .long x)) (hdg : decode cc pc = .ok (.lload_n k0, 1)) (hp : pc + 1 = pc') (k : wx κ G A nL σ pc' lv (.long x :: st)) : wx κ G A nL σ pc lv (st) := by
  subst hp
  exact fun H locs ls hP hS hl => lv_lload_n C.1.1 C.1.2.1 hdg rfl (lv_at hl j hj) (k H locs ls hP hS hl)
theorem x_ll (C : gC κ cc own Ts nL G A rmo) {i : Nat} {x : Int64} (j : Nat) (hj : lv[j]? = some (i, .long x)) (hdg : decode cc pc = .ok (.lload i, 2)) (hp : pc + 2 = pc') (k : wx κ G A nL σ pc' lv (.long x :: st)) : wx κ G A nL σ pc lv (st) := by
  subst hp
  exact fun H locs ls hP hS hl => lv_lload C.1.1 C.1.2.1 hdg (lv_at hl j hj) (k H locs ls hP hS hl)
theorem x_aln (C : gC κ cc own Ts nL G A rmo) {k0 : Fin 4} {x : Nat} (j : Nat) (hj : lv[j]? = some ((k0 : Nat), .ref x)) (hdg : decode cc pc = .ok (.aload_n k0, 1)) (hp : pc + 1 = pc') (k : wx κ G A nL σ pc' lv (.ref x :: st)) : wx κ G A nL σ pc lv (st) := by
  subst hp
  exact fun H locs ls hP hS hl => lv_aload_n C.1.1 C.1.2.1 hdg rfl (lv_at hl j hj) (k H locs ls hP hS hl)
theorem x_al (C : gC κ cc own Ts nL G A rmo) {i : Nat} {x : Nat} (j : Nat) (hj : lv[j]? = some (i, .ref x)) (hdg : decode cc pc = .ok (.aload i, 2)) (hp : pc + 2 = pc') (k : wx κ G A nL σ pc' lv (.ref x :: st)) : wx κ G A nL σ pc lv (st) := by
  subst hp
  exact fun H locs ls hP hS hl => lv_aload C.1.1 C.1.2.1 hdg (lv_at hl j hj) (k H locs ls hP hS hl)
theorem x_istn (C : gC κ cc own Ts nL G A rmo) {i : Nat} {k0 : Fin 4} (hi : (k0 : Nat) = i) {x v : Int32} (ev : v = x) (hn : i < nL) (hl' : (i, Value.int v) :: lv.filter (fun q => !(q.1 == i) && !(q.1 + 1 == i && q.2.category == 2)) = lv') (hdg : decode cc pc = .ok (.istore_n k0, 1)) (hp : pc + 1 = pc') (k : wx κ G A nL σ pc' lv' st) : wx κ G A nL σ pc lv (.int x :: st) := by
  subst hp
  subst ev
  exact fun H locs ls hP hS hl => lv_istore_n C.1.1 C.1.2.1 hdg hi hl hn hl' (fun ls hl => k H locs ls hP hS hl)
theorem x_astn (C : gC κ cc own Ts nL G A rmo) {i : Nat} {k0 : Fin 4} (hi : (k0 : Nat) = i) {x : Nat} (hn : i < nL) (hl' : (i, Value.ref x) :: lv.filter (fun q => !(q.1 == i) && !(q.1 + 1 == i && q.2.category == 2)) = lv') (hdg : decode cc pc = .ok (.astore_n k0, 1)) (hp : pc + 1 = pc') (k : wx κ G A nL σ pc' lv' st) : wx κ G A nL σ pc lv (.ref x :: st) := by
  subst hp
  exact fun H locs ls hP hS hl => lv_astore_n C.1.1 C.1.2.1 hdg hi hl hn hl' (fun ls hl => k H locs ls hP hS hl)
theorem x_ist (C : gC κ cc own Ts nL G A rmo) {i : Nat}  {x v : Int32} (ev : v = x) (hn : i < nL) (hl' : (i, Value.int v) :: lv.filter (fun q => !(q.1 == i) && !(q.1 + 1 == i && q.2.category == 2)) = lv') (hdg : decode cc pc = .ok (.istore i, 2)) (hp : pc + 2 = pc') (k : wx κ G A nL σ pc' lv' st) : wx κ G A nL σ pc lv (.int x :: st) := by
  subst hp
  subst ev
  exact fun H locs ls hP hS hl => lv_istore C.1.1 C.1.2.1 hdg hl hn hl' (fun ls hl => k H locs ls hP hS hl)
theorem x_ast (C : gC κ cc own Ts nL G A rmo) {i : Nat}  {x : Nat} (hn : i < nL) (hl' : (i, Value.ref x) :: lv.filter (fun q => !(q.1 == i) && !(q.1 + 1 == i && q.2.category == 2)) = lv') (hdg : decode cc pc = .ok (.astore i, 2)) (hp : pc + 2 = pc') (k : wx κ G A nL σ pc' lv' st) : wx κ G A nL σ pc lv (.ref x :: st) := by
  subst hp
  exact fun H locs ls hP hS hl => lv_astore C.1.1 C.1.2.1 hdg hl hn hl' (fun ls hl => k H locs ls hP hS hl)
theorem x_iinc (C : gC κ cc own Ts nL G A rmo) {i j : Nat} {n : Int} {x v w : Int32} (hj : lv[j]? = some (i, .int x)) (ev : v = x + w) (hw : Int32.ofInt n = w) (hn : i < nL) (hl' : (i, Value.int v) :: lv.filter (fun q => !(q.1 == i) && !(q.1 + 1 == i && q.2.category == 2)) = lv') (hdg : decode cc pc = .ok (.iinc i n, 3)) (hp : pc + 3 = pc') (k : wx κ G A nL σ pc' lv' st) : wx κ G A nL σ pc lv st := by
  subst hp
  exact fun H locs ls hP hS hl => lv_iinc C.1.1 C.1.2.1 hdg hl hj (by rw [hw]; exact ev.symm) hn hl' (fun ls hl => k H locs ls hP hS hl)
theorem x_iadd (C : gC κ cc own Ts nL G A rmo) {x y : Int32} (hdg : decode cc pc = .ok (.iadd, 1)) (hp : pc + 1 = pc') (k : wx κ G A nL σ pc' lv (.int (x + y) :: st)) : wx κ G A nL σ pc lv (.int y :: .int x :: st) := by
  subst hp
  exact fun H locs ls hP hS hl => lv_iadd C.1.1 C.1.2.1 hdg (k H locs ls hP hS hl)
theorem x_isub (C : gC κ cc own Ts nL G A rmo) {x y : Int32} (hdg : decode cc pc = .ok (.isub, 1)) (hp : pc + 1 = pc') (k : wx κ G A nL σ pc' lv (.int (x - y) :: st)) : wx κ G A nL σ pc lv (.int y :: .int x :: st) := by
  subst hp
  exact fun H locs ls hP hS hl => lv_isub C.1.1 C.1.2.1 hdg (k H locs ls hP hS hl)
theorem x_imul (C : gC κ cc own Ts nL G A rmo) {x y : Int32} (hdg : decode cc pc = .ok (.imul, 1)) (hp : pc + 1 = pc') (k : wx κ G A nL σ pc' lv (.int (x * y) :: st)) : wx κ G A nL σ pc lv (.int y :: .int x :: st) := by
  subst hp
  exact fun H locs ls hP hS hl => lv_imul C.1.1 C.1.2.1 hdg (k H locs ls hP hS hl)
theorem x_iand (C : gC κ cc own Ts nL G A rmo) {x y : Int32} (hdg : decode cc pc = .ok (.iand, 1)) (hp : pc + 1 = pc') (k : wx κ G A nL σ pc' lv (.int (x &&& y) :: st)) : wx κ G A nL σ pc lv (.int y :: .int x :: st) := by
  subst hp
  exact fun H locs ls hP hS hl => lv_iand C.1.1 C.1.2.1 hdg (k H locs ls hP hS hl)
theorem x_ior (C : gC κ cc own Ts nL G A rmo) {x y : Int32} (hdg : decode cc pc = .ok (.ior, 1)) (hp : pc + 1 = pc') (k : wx κ G A nL σ pc' lv (.int (x ||| y) :: st)) : wx κ G A nL σ pc lv (.int y :: .int x :: st) := by
  subst hp
  exact fun H locs ls hP hS hl => lv_ior C.1.1 C.1.2.1 hdg (k H locs ls hP hS hl)
theorem x_ixor (C : gC κ cc own Ts nL G A rmo) {x y : Int32} (hdg : decode cc pc = .ok (.ixor, 1)) (hp : pc + 1 = pc') (k : wx κ G A nL σ pc' lv (.int (x ^^^ y) :: st)) : wx κ G A nL σ pc lv (.int y :: .int x :: st) := by
  subst hp
  exact fun H locs ls hP hS hl => lv_ixor C.1.1 C.1.2.1 hdg (k H locs ls hP hS hl)
theorem x_ishl (C : gC κ cc own Ts nL G A rmo) {x y : Int32} (hdg : decode cc pc = .ok (.ishl, 1)) (hp : pc + 1 = pc') (k : wx κ G A nL σ pc' lv (.int (x <<< (y &&& 31)) :: st)) : wx κ G A nL σ pc lv (.int y :: .int x :: st) := by
  subst hp
  exact fun H locs ls hP hS hl => lv_ishl C.1.1 C.1.2.1 hdg (k H locs ls hP hS hl)
theorem x_ishr (C : gC κ cc own Ts nL G A rmo) {x y : Int32} (hdg : decode cc pc = .ok (.ishr, 1)) (hp : pc + 1 = pc') (k : wx κ G A nL σ pc' lv (.int (x >>> (y &&& 31)) :: st)) : wx κ G A nL σ pc lv (.int y :: .int x :: st) := by
  subst hp
  exact fun H locs ls hP hS hl => lv_ishr C.1.1 C.1.2.1 hdg (k H locs ls hP hS hl)
theorem x_idiv (C : gC κ cc own Ts nL G A rmo) {x y : Int32} (hne : ¬ y = 0) (hdg : decode cc pc = .ok (.idiv, 1)) (hp : pc + 1 = pc') (k : wx κ G A nL σ pc' lv (.int (x / y) :: st)) : wx κ G A nL σ pc lv (.int y :: .int x :: st) := by
  subst hp
  exact fun H locs ls hP hS hl => lv_idiv C.1.1 C.1.2.1 hdg hne (k H locs ls hP hS hl)
theorem x_irem (C : gC κ cc own Ts nL G A rmo) {x y : Int32} (hne : ¬ y = 0) (hdg : decode cc pc = .ok (.irem, 1)) (hp : pc + 1 = pc') (k : wx κ G A nL σ pc' lv (.int (grem x y) :: st)) : wx κ G A nL σ pc lv (.int y :: .int x :: st) := by
  subst hp
  exact fun H locs ls hP hS hl => lv_irem C.1.1 C.1.2.1 hdg hne (k H locs ls hP hS hl)
theorem x_ineg (C : gC κ cc own Ts nL G A rmo) {x : Int32} (hdg : decode cc pc = .ok (.ineg, 1)) (hp : pc + 1 = pc') (k : wx κ G A nL σ pc' lv (.int (-x) :: st)) : wx κ G A nL σ pc lv (.int x :: st) := by
  subst hp
  exact fun H locs ls hP hS hl => lv_ineg C.1.1 C.1.2.1 hdg (k H locs ls hP hS hl)
theorem x_iushr (C : gC κ cc own Ts nL G A rmo) {x y : Int32} (hdg : decode cc pc = .ok (.iushr, 1)) (hp : pc + 1 = pc') (k : wx κ G A nL σ pc' lv (.int (gus x y) :: st)) : wx κ G A nL σ pc lv (.int y :: .int x :: st) := by
  subst hp
  exact fun H locs ls hP hS hl => lv_iushr C.1.1 C.1.2.1 hdg rfl (k H locs ls hP hS hl)
theorem x_ladd (C : gC κ cc own Ts nL G A rmo) {x y : Int64} (hdg : decode cc pc = .ok (.ladd, 1)) (hp : pc + 1 = pc') (k : wx κ G A nL σ pc' lv (.long (x + y) :: st)) : wx κ G A nL σ pc lv (.long y :: .long x :: st) := by
  subst hp
  exact fun H locs ls hP hS hl => lv_ladd C.1.1 C.1.2.1 hdg (k H locs ls hP hS hl)
theorem x_land (C : gC κ cc own Ts nL G A rmo) {x y : Int64} (hdg : decode cc pc = .ok (.land, 1)) (hp : pc + 1 = pc') (k : wx κ G A nL σ pc' lv (.long (x &&& y) :: st)) : wx κ G A nL σ pc lv (.long y :: .long x :: st) := by
  subst hp
  exact fun H locs ls hP hS hl => lv_land C.1.1 C.1.2.1 hdg (k H locs ls hP hS hl)
theorem x_lor (C : gC κ cc own Ts nL G A rmo) {x y : Int64} (hdg : decode cc pc = .ok (.lor, 1)) (hp : pc + 1 = pc') (k : wx κ G A nL σ pc' lv (.long (x ||| y) :: st)) : wx κ G A nL σ pc lv (.long y :: .long x :: st) := by
  subst hp
  exact fun H locs ls hP hS hl => lv_lor C.1.1 C.1.2.1 hdg (k H locs ls hP hS hl)
theorem x_lshl (C : gC κ cc own Ts nL G A rmo) {x : Int64} {y : Int32} (hdg : decode cc pc = .ok (.lshl, 1)) (hp : pc + 1 = pc') (k : wx κ G A nL σ pc' lv (.long (x <<< (y.toInt64 &&& 63)) :: st)) : wx κ G A nL σ pc lv (.int y :: .long x :: st) := by
  subst hp
  exact fun H locs ls hP hS hl => lv_lshl C.1.1 C.1.2.1 hdg rfl (k H locs ls hP hS hl)
theorem x_lshr (C : gC κ cc own Ts nL G A rmo) {x : Int64} {y : Int32} (hdg : decode cc pc = .ok (.lshr, 1)) (hp : pc + 1 = pc') (k : wx κ G A nL σ pc' lv (.long (x >>> (y.toInt64 &&& 63)) :: st)) : wx κ G A nL σ pc lv (.int y :: .long x :: st) := by
  subst hp
  exact fun H locs ls hP hS hl => lv_lshr C.1.1 C.1.2.1 hdg rfl (k H locs ls hP hS hl)
theorem x_lcmp (C : gC κ cc own Ts nL G A rmo) {x y : Int64} (hdg : decode cc pc = .ok (.lcmp, 1)) (hp : pc + 1 = pc') (k : wx κ G A nL σ pc' lv (.int (lg_cmp x y) :: st)) : wx κ G A nL σ pc lv (.long y :: .long x :: st) := by
  subst hp
  exact fun H locs ls hP hS hl => W.lcmp C.1.1 C.1.2.1 hdg (k H locs ls hP hS hl)
theorem x_i2l (C : gC κ cc own Ts nL G A rmo) {x : Int32} (hdg : decode cc pc = .ok (.i2l, 1)) (hp : pc + 1 = pc') (k : wx κ G A nL σ pc' lv (.long x.toInt64 :: st)) : wx κ G A nL σ pc lv (.int x :: st) := by
  subst hp
  exact fun H locs ls hP hS hl => lv_i2l C.1.1 C.1.2.1 hdg rfl (k H locs ls hP hS hl)
theorem x_l2i (C : gC κ cc own Ts nL G A rmo) {x : Int64} (hdg : decode cc pc = .ok (.l2i, 1)) (hp : pc + 1 = pc') (k : wx κ G A nL σ pc' lv (.int x.toInt32 :: st)) : wx κ G A nL σ pc lv (.long x :: st) := by
  subst hp
  exact fun H locs ls hP hS hl => lv_l2i C.1.1 C.1.2.1 hdg rfl (k H locs ls hP hS hl)
theorem x_i2b (C : gC κ cc own Ts nL G A rmo) {x : Int32} (hdg : decode cc pc = .ok (.i2b, 1)) (hp : pc + 1 = pc') (k : wx κ G A nL σ pc' lv (.int x.toInt8.toInt32 :: st)) : wx κ G A nL σ pc lv (.int x :: st) := by
  subst hp
  exact fun H locs ls hP hS hl => lv_i2b C.1.1 C.1.2.1 hdg rfl (k H locs ls hP hS hl)
theorem x_i2s (C : gC κ cc own Ts nL G A rmo) {x : Int32} (hdg : decode cc pc = .ok (.i2s, 1)) (hp : pc + 1 = pc') (k : wx κ G A nL σ pc' lv (.int x.toInt16.toInt32 :: st)) : wx κ G A nL σ pc lv (.int x :: st) := by
  subst hp
  exact fun H locs ls hP hS hl => lv_i2s C.1.1 C.1.2.1 hdg rfl (k H locs ls hP hS hl)
theorem x_dup (C : gC κ cc own Ts nL G A rmo) {v : Value} (hv : v.category = 1) (hdg : decode cc pc = .ok (.dup, 1)) (hp : pc + 1 = pc') (k : wx κ G A nL σ pc' lv (v :: v :: st)) : wx κ G A nL σ pc lv (v :: st) := by
  subst hp
  exact fun H locs ls hP hS hl => lv_dup C.1.1 C.1.2.1 hdg hv (k H locs ls hP hS hl)
theorem x_pop (C : gC κ cc own Ts nL G A rmo) {v : Value} (hv : v.category = 1) (hdg : decode cc pc = .ok (.pop, 1)) (hp : pc + 1 = pc') (k : wx κ G A nL σ pc' lv (st)) : wx κ G A nL σ pc lv (v :: st) := by
  subst hp
  exact fun H locs ls hP hS hl => lv_pop C.1.1 C.1.2.1 hdg hv (k H locs ls hP hS hl)
theorem x_dupx1 (C : gC κ cc own Ts nL G A rmo) {v u : Value} (hv : v.category = 1) (hu : u.category = 1) (hdg : decode cc pc = .ok (.dup_x1, 1)) (hp : pc + 1 = pc') (k : wx κ G A nL σ pc' lv (v :: u :: v :: st)) : wx κ G A nL σ pc lv (v :: u :: st) := by
  subst hp
  exact fun H locs ls hP hS hl => lv_dup_x1 C.1.1 C.1.2.1 hdg hv hu (k H locs ls hP hS hl)
theorem x_dup2 (C : gC κ cc own Ts nL G A rmo) {v u : Value} (hv : v.category = 1) (hu : u.category = 1) (hdg : decode cc pc = .ok (.dup2, 1)) (hp : pc + 1 = pc') (k : wx κ G A nL σ pc' lv (v :: u :: v :: u :: st)) : wx κ G A nL σ pc lv (v :: u :: st) := by
  subst hp
  exact fun H locs ls hP hS hl => lv_dup2_11 C.1.1 C.1.2.1 hdg hv hu (k H locs ls hP hS hl)
theorem x_if_eq (C : gC κ cc own Ts nL G A rmo) {x : Int32} {off : Int} {tgt : Nat} (hdg : decode cc pc = .ok (.ifCond .eq off, 3)) (ht : (pc : Int) + off = (tgt : Int)) (hp : pc + 3 = pc') (kt : x = 0 → wx κ G A nL σ tgt lv st) (kf : ¬ x = 0 → wx κ G A nL σ pc' lv st) : wx κ G A nL σ pc lv (.int x :: st) := by
  subst hp
  exact fun H locs ls hP hS hl => lv_if_eq C.1.1 C.1.2.1 hdg ht (fun h => kt h H locs ls hP hS hl) (fun h => kf h H locs ls hP hS hl)
theorem x_if_ne (C : gC κ cc own Ts nL G A rmo) {x : Int32} {off : Int} {tgt : Nat} (hdg : decode cc pc = .ok (.ifCond .ne off, 3)) (ht : (pc : Int) + off = (tgt : Int)) (hp : pc + 3 = pc') (kt : ¬ x = 0 → wx κ G A nL σ tgt lv st) (kf : x = 0 → wx κ G A nL σ pc' lv st) : wx κ G A nL σ pc lv (.int x :: st) := by
  subst hp
  exact fun H locs ls hP hS hl => lv_if_ne C.1.1 C.1.2.1 hdg ht (fun h => kt h H locs ls hP hS hl) (fun h => kf h H locs ls hP hS hl)
theorem x_if_lt (C : gC κ cc own Ts nL G A rmo) {x : Int32} {off : Int} {tgt : Nat} (hdg : decode cc pc = .ok (.ifCond .lt off, 3)) (ht : (pc : Int) + off = (tgt : Int)) (hp : pc + 3 = pc') (kt : x < 0 → wx κ G A nL σ tgt lv st) (kf : ¬ x < 0 → wx κ G A nL σ pc' lv st) : wx κ G A nL σ pc lv (.int x :: st) := by
  subst hp
  exact fun H locs ls hP hS hl => lv_if_lt C.1.1 C.1.2.1 hdg ht (fun h => kt h H locs ls hP hS hl) (fun h => kf h H locs ls hP hS hl)
theorem x_if_ge (C : gC κ cc own Ts nL G A rmo) {x : Int32} {off : Int} {tgt : Nat} (hdg : decode cc pc = .ok (.ifCond .ge off, 3)) (ht : (pc : Int) + off = (tgt : Int)) (hp : pc + 3 = pc') (kt : 0 ≤ x → wx κ G A nL σ tgt lv st) (kf : ¬ 0 ≤ x → wx κ G A nL σ pc' lv st) : wx κ G A nL σ pc lv (.int x :: st) := by
  subst hp
  exact fun H locs ls hP hS hl => lv_if_ge C.1.1 C.1.2.1 hdg ht (fun h => kt h H locs ls hP hS hl) (fun h => kf h H locs ls hP hS hl)
theorem x_if_gt (C : gC κ cc own Ts nL G A rmo) {x : Int32} {off : Int} {tgt : Nat} (hdg : decode cc pc = .ok (.ifCond .gt off, 3)) (ht : (pc : Int) + off = (tgt : Int)) (hp : pc + 3 = pc') (kt : 0 < x → wx κ G A nL σ tgt lv st) (kf : ¬ 0 < x → wx κ G A nL σ pc' lv st) : wx κ G A nL σ pc lv (.int x :: st) := by
  subst hp
  exact fun H locs ls hP hS hl => lv_if_gt C.1.1 C.1.2.1 hdg ht (fun h => kt h H locs ls hP hS hl) (fun h => kf h H locs ls hP hS hl)
theorem x_if_le (C : gC κ cc own Ts nL G A rmo) {x : Int32} {off : Int} {tgt : Nat} (hdg : decode cc pc = .ok (.ifCond .le off, 3)) (ht : (pc : Int) + off = (tgt : Int)) (hp : pc + 3 = pc') (kt : x ≤ 0 → wx κ G A nL σ tgt lv st) (kf : ¬ x ≤ 0 → wx κ G A nL σ pc' lv st) : wx κ G A nL σ pc lv (.int x :: st) := by
  subst hp
  exact fun H locs ls hP hS hl => lv_if_le C.1.1 C.1.2.1 hdg ht (fun h => kt h H locs ls hP hS hl) (fun h => kf h H locs ls hP hS hl)
theorem x_ic_eq (C : gC κ cc own Ts nL G A rmo) {x y : Int32} {off : Int} {tgt : Nat} (hdg : decode cc pc = .ok (.if_icmp .eq off, 3)) (ht : (pc : Int) + off = (tgt : Int)) (hp : pc + 3 = pc') (kt : x = y → wx κ G A nL σ tgt lv st) (kf : ¬ x = y → wx κ G A nL σ pc' lv st) : wx κ G A nL σ pc lv (.int y :: .int x :: st) := by
  subst hp
  exact fun H locs ls hP hS hl => lv_icmp_eq C.1.1 C.1.2.1 hdg ht (fun h => kt h H locs ls hP hS hl) (fun h => kf h H locs ls hP hS hl)
theorem x_ic_ne (C : gC κ cc own Ts nL G A rmo) {x y : Int32} {off : Int} {tgt : Nat} (hdg : decode cc pc = .ok (.if_icmp .ne off, 3)) (ht : (pc : Int) + off = (tgt : Int)) (hp : pc + 3 = pc') (kt : ¬ x = y → wx κ G A nL σ tgt lv st) (kf : x = y → wx κ G A nL σ pc' lv st) : wx κ G A nL σ pc lv (.int y :: .int x :: st) := by
  subst hp
  exact fun H locs ls hP hS hl => lv_icmp_ne C.1.1 C.1.2.1 hdg ht (fun h => kt h H locs ls hP hS hl) (fun h => kf h H locs ls hP hS hl)
theorem x_ic_lt (C : gC κ cc own Ts nL G A rmo) {x y : Int32} {off : Int} {tgt : Nat} (hdg : decode cc pc = .ok (.if_icmp .lt off, 3)) (ht : (pc : Int) + off = (tgt : Int)) (hp : pc + 3 = pc') (kt : x < y → wx κ G A nL σ tgt lv st) (kf : ¬ x < y → wx κ G A nL σ pc' lv st) : wx κ G A nL σ pc lv (.int y :: .int x :: st) := by
  subst hp
  exact fun H locs ls hP hS hl => lv_icmp_lt C.1.1 C.1.2.1 hdg ht (fun h => kt h H locs ls hP hS hl) (fun h => kf h H locs ls hP hS hl)
theorem x_ic_ge (C : gC κ cc own Ts nL G A rmo) {x y : Int32} {off : Int} {tgt : Nat} (hdg : decode cc pc = .ok (.if_icmp .ge off, 3)) (ht : (pc : Int) + off = (tgt : Int)) (hp : pc + 3 = pc') (kt : y ≤ x → wx κ G A nL σ tgt lv st) (kf : ¬ y ≤ x → wx κ G A nL σ pc' lv st) : wx κ G A nL σ pc lv (.int y :: .int x :: st) := by
  subst hp
  exact fun H locs ls hP hS hl => lv_icmp_ge C.1.1 C.1.2.1 hdg ht (fun h => kt h H locs ls hP hS hl) (fun h => kf h H locs ls hP hS hl)
theorem x_ic_gt (C : gC κ cc own Ts nL G A rmo) {x y : Int32} {off : Int} {tgt : Nat} (hdg : decode cc pc = .ok (.if_icmp .gt off, 3)) (ht : (pc : Int) + off = (tgt : Int)) (hp : pc + 3 = pc') (kt : y < x → wx κ G A nL σ tgt lv st) (kf : ¬ y < x → wx κ G A nL σ pc' lv st) : wx κ G A nL σ pc lv (.int y :: .int x :: st) := by
  subst hp
  exact fun H locs ls hP hS hl => lv_icmp_gt C.1.1 C.1.2.1 hdg ht (fun h => kt h H locs ls hP hS hl) (fun h => kf h H locs ls hP hS hl)
theorem x_ic_le (C : gC κ cc own Ts nL G A rmo) {x y : Int32} {off : Int} {tgt : Nat} (hdg : decode cc pc = .ok (.if_icmp .le off, 3)) (ht : (pc : Int) + off = (tgt : Int)) (hp : pc + 3 = pc') (kt : x ≤ y → wx κ G A nL σ tgt lv st) (kf : ¬ x ≤ y → wx κ G A nL σ pc' lv st) : wx κ G A nL σ pc lv (.int y :: .int x :: st) := by
  subst hp
  exact fun H locs ls hP hS hl => lv_icmp_le C.1.1 C.1.2.1 hdg ht (fun h => kt h H locs ls hP hS hl) (fun h => kf h H locs ls hP hS hl)
theorem x_goto (C : gC κ cc own Ts nL G A rmo) {off : Int} {tgt : Nat} (hdg : decode cc pc = .ok (.goto off, 3)) (ht : (pc : Int) + off = (tgt : Int)) (k : wx κ G A nL σ tgt lv st) : wx κ G A nL σ pc lv st :=
  fun H locs ls hP hS hl => lv_goto C.1.1 C.1.2.1 hdg ht (k H locs ls hP hS hl)
theorem x_swout (C : gC κ cc own Ts nL G A rmo) {dflt lo hi : Int} {offs : Array Int} {len : Nat} {x : Int32} {tgt : Nat} (hdg : decode cc pc = .ok (.tableswitch dflt lo hi offs, len)) (h : x.toInt < lo ∨ hi < x.toInt) (ht : (pc : Int) + dflt = (tgt : Int)) (k : wx κ G A nL σ tgt lv st) : wx κ G A nL σ pc lv (.int x :: st) :=
  fun H locs ls hP hS hl => lv_tableOut C.1.1 C.1.2.1 hdg h ht (k H locs ls hP hS hl)
theorem x_swin (C : gC κ cc own Ts nL G A rmo) {dflt lo hi : Int} {offs : Array Int} {len : Nat} {x : Int32} {off : Int} {tgt : Nat} (hdg : decode cc pc = .ok (.tableswitch dflt lo hi offs, len)) (h1 : ¬ x.toInt < lo) (h2 : ¬ hi < x.toInt) (ho : offs[(x.toInt - lo).toNat]? = some off) (ht : (pc : Int) + off = (tgt : Int)) (k : wx κ G A nL σ tgt lv st) : wx κ G A nL σ pc lv (.int x :: st) :=
  fun H locs ls hP hS hl => lv_tableIn C.1.1 C.1.2.1 hdg h1 h2 ho ht (k H locs ls hP hS hl)
theorem x_sub (ks : List Nat) (hl' : lv_pick lv ks = lv') (k : wx κ G A nL σ pc lv' st) : wx κ G A nL σ pc lv st :=
  fun H locs ls hP hS hl => k H locs ls hP hS (lv_sub hl ks hl')
/-! memory -/
theorem x_get (C : gC κ cc own Ts nL G A rmo) {k0 ci j index N : Nat} {Cn : String} {T : u_T} {fs : List Value} {v : Value} (hk : k0 < G.2.2.1) (he : G.2.2.2.1 k0 (σ k0) = .inr (ci, fs)) (hc : vwCl[ci]? = some (Cn, T, N)) (hin : ∀ w ∈ u_ws Cn T N, w ∈ Ts) (hj : j < N) (hv : fs[j]? = some v) (hlink : Cond.fieldLink own index (T j).1 (T j).2.1 (T j).2.2.1 ∈ Ts) (hdg : decode cc pc = .ok (.getfield index, 3)) (hp : pc + 3 = pc') (k : wx κ G A nL σ pc' lv (v :: st)) : wx κ G A nL σ pc lv (.ref (G.2.1 k0) :: st) := by
  subst hp
  exact fun H locs ls hP hS hl => va_get C.1.1 C.1.2.1 C.1.2.2.2.2 hin C.1.2.2.2.1 C.2.1 hP k0 (by rw [gsw_get hk, he]) hc j hj (C.hts hlink) (fun _ h => h) hv hdg (k H locs ls hP hS hl)
theorem x_put (C : gC κ cc own Ts nL G A rmo) {σ1 : gMem} {k0 ci j index N : Nat} {Cn : String} {T : u_T} {fs : List Value} {x : Int32} {ty : FieldType} (e1 : σ1 = gst σ k0 j x) (hk : k0 < G.2.2.1) (he : G.2.2.2.1 k0 (σ k0) = .inr (ci, fs)) (he' : G.2.2.2.1 k0 (upd (σ k0) j x) = .inr (ci, fs.set j (.int x))) (hc : vwCl[ci]? = some (Cn, T, N)) (hin : ∀ w ∈ u_ws Cn T N, w ∈ Ts) (ty0 : Nat → FieldType) (hty : ∀ k, k < N → parseFieldDescriptor (T k).2.2.1 = some (ty0 k)) (hnm : ∀ a, a < N → ∀ b, b < N → a ≠ b → (T a).2.1 ≠ (T b).2.1) (hj : j < N) (hfin : (T j).2.2.2 = false) (hd : parseFieldDescriptor (T j).2.2.1 = some ty) (hn : narrow ty (.int x) = .int x) (hfit : fits ty (.int x) = true) (hjl : j < fs.length) (hlink : Cond.fieldLink own index (T j).1 (T j).2.1 (T j).2.2.1 ∈ Ts) (hdg : decode cc pc = .ok (.putfield index, 3)) (hp : pc + 3 = pc') (k : wx κ G A nL σ1 pc' lv st) : wx κ G A nL σ pc lv (.int x :: .ref (G.2.1 k0) :: st) := by
  subst hp
  subst e1
  exact fun H locs ls hP hS hl => va_put C.1.1 C.1.2.1 C.1.2.2.2.2 hin ty0 hty hnm C.1.2.2.2.1 C.2.1 hP (C.2.2.1 σ) hS k0 (by rw [gsw_get hk, he]) hc j hj (C.hts hlink) (fun _ h => h) hfin hd hn hfit hjl hdg (fun H locs hP _ hS => k H locs ls (by rw [gsw_set hk he'.symm] at hP; exact hP) hS hl)
theorem x_iald (C : gC κ cc own Ts nL G A rmo) {k0 n : Nat} {cy : ClassId} {i : Int32} (hk : k0 < G.2.2.1) (he : G.2.2.2.1 k0 (σ k0) = .inl (cy, (n, .inl (σ k0)))) (ht : G.2.2.2.2.1[0]? = some (cy, .int)) (hin : inb i n = true) (hdg : decode cc pc = .ok (.iaload, 1)) (hp : pc + 1 = pc') (k : wx κ G A nL σ pc' lv (.int (σ k0 i.toNatClampNeg) :: st)) : wx κ G A nL σ pc lv (.int i :: .ref (G.2.1 k0) :: st) := by
  subst hp
  exact fun H locs ls hP hS hl => va_iald C.1.1 C.1.2.1 C.2.1 hP k0 0 (by rw [gsw_get hk, he]) ht (inb_vp hin) hdg (k H locs ls hP hS hl)
theorem x_iast (C : gC κ cc own Ts nL G A rmo) {σ1 : gMem} {k0 n : Nat} {cy : ClassId} {i x : Int32} (e1 : σ1 = gst σ k0 i.toNatClampNeg x) (hk : k0 < G.2.2.1) (he : ∀ r, G.2.2.2.1 k0 r = .inl (cy, (n, .inl r))) (ht : G.2.2.2.2.1[0]? = some (cy, .int)) (hin : inb i n = true) (hdg : decode cc pc = .ok (.iastore, 1)) (hp : pc + 1 = pc') (k : wx κ G A nL σ1 pc' lv st) : wx κ G A nL σ pc lv (.int x :: .int i :: .ref (G.2.1 k0) :: st) := by
  subst hp
  subst e1
  exact fun H locs ls hP hS hl => va_iast C.1.1 C.1.2.1 C.2.1 hP (C.2.2.1 σ) hS k0 0 (by rw [gsw_get hk, he]) ht (inb_vp hin) hdg (fun H locs hP _ hS => k H locs ls (by rw [gsw_set hk (he _).symm] at hP; exact hP) hS hl)
theorem x_zald (C : gC κ cc own Ts nL G A rmo) {k0 n : Nat} {cy : ClassId} {i : Int32} (hk : k0 < G.2.2.1) (he : G.2.2.2.1 k0 (σ k0) = .inl (cy, (n, .inl (σ k0)))) (ht : G.2.2.2.2.1[1]? = some (cy, .boolean)) (hin : inb i n = true) (hdg : decode cc pc = .ok (.baload, 1)) (hp : pc + 1 = pc') (k : wx κ G A nL σ pc' lv (.int (σ k0 i.toNatClampNeg) :: st)) : wx κ G A nL σ pc lv (.int i :: .ref (G.2.1 k0) :: st) := by
  subst hp
  exact fun H locs ls hP hS hl => va_zald C.1.1 C.1.2.1 C.2.1 hP k0 1 (by rw [gsw_get hk, he]) ht (inb_vp hin) hdg (k H locs ls hP hS hl)
theorem x_zast (C : gC κ cc own Ts nL G A rmo) {σ1 : gMem} {k0 n : Nat} {cy : ClassId} {i x : Int32} (e1 : σ1 = gst σ k0 i.toNatClampNeg x) (hx : vp_nar .boolean x = x) (hk : k0 < G.2.2.1) (he : ∀ r, G.2.2.2.1 k0 r = .inl (cy, (n, .inl r))) (ht : G.2.2.2.2.1[1]? = some (cy, .boolean)) (hin : inb i n = true) (hdg : decode cc pc = .ok (.bastore, 1)) (hp : pc + 1 = pc') (k : wx κ G A nL σ1 pc' lv st) : wx κ G A nL σ pc lv (.int x :: .int i :: .ref (G.2.1 k0) :: st) := by
  subst hp
  subst e1
  exact fun H locs ls hP hS hl => va_zast C.1.1 C.1.2.1 C.2.1 hP (C.2.2.1 σ) hS k0 1 (by rw [gsw_get hk, he]) ht (inb_vp hin) hdg (fun H locs hP _ hS => k H locs ls (by rw [hx, gsw_set hk (he _).symm] at hP; exact hP) hS hl)
/-- an array of references of any kind, read -/
theorem x_aald (C : gC κ cc own Ts nL G A rmo) {k0 t0 n k1 : Nat} {cy : ClassId} {ty : FieldType} {f : Nat → Option Nat} {i : Int32} (hk : k0 < G.2.2.1) (he : G.2.2.2.1 k0 (σ k0) = .inl (cy, (n, .inr (.inr (.inr (.inr f)))))) (ht : G.2.2.2.2.1[t0]? = some (cy, ty)) (hty : ty.isReference = true) (hin : inb i n = true) (hf : f i.toNatClampNeg = some (G.2.1 k1)) (hdg : decode cc pc = .ok (.aaload, 1)) (hp : pc + 1 = pc') (k : wx κ G A nL σ pc' lv (.ref (G.2.1 k1) :: st)) : wx κ G A nL σ pc lv (.int i :: .ref (G.2.1 k0) :: st) := by
  subst hp
  intro H locs ls hP hS hl
  have hlt : i.toNatClampNeg < n := inb_lt hin
  have ha : (gsw G σ)[k0]? = some (G.2.1 k0, .inl (cy, (n, .inr (.inr (.inr (.inr f)))))) := by rw [gsw_get hk, he]
  exact W.aald (v := .ref (G.2.1 k1)) (ty := ty) C.1.1 C.1.2.1 (hP k0 _ ha) ((C.2.1.2 t0 _ ht).1 n (fun j => va_rf (f j))) hty (fun q => by cases q) (by show ¬ (i < 0 ∨ (arrV _ _ _).slots.size ≤ _); rw [arrV_size]; exact inb_vp hin) (by show (arrV _ _ _).slots[_]? = _; rw [arrV_read _ _ hlt, hf]; rfl) rfl rfl hdg (k H locs ls hP hS hl)
theorem x_lack (C : gC κ cc own Ts nL G A rmo) {index : Nat} (hlink : Cond.fieldLink own index "StiltWays$Walk" "LACKING" "[I" ∈ Ts) (hdg : decode cc pc = .ok (.getstatic index, 3)) (hp : pc + 3 = pc') (k : wx κ G A nL σ pc' lv (.ref G.2.2.2.2.2 :: st)) : wx κ G A nL σ pc lv st := by
  subst hp
  exact fun H locs ls hP hS hl => va_gets C.1.1 C.1.2.1 C.2.2.2.1.1 hS C.1.2.2.2.1 (C.hts hlink) (fun _ h => h) hdg (k H locs ls hP hS hl)
theorem x_lald (C : gC κ cc own Ts nL G A rmo) {i : Int32} (hin : inb i 3 = true) (hdg : decode cc pc = .ok (.iaload, 1)) (hp : pc + 1 = pc') (k : wx κ G A nL σ pc' lv (.int (gLk i.toNatClampNeg) :: st)) : wx κ G A nL σ pc lv (.int i :: .ref G.2.2.2.2.2 :: st) := by
  subst hp
  exact fun H locs ls hP hS hl => va_ti C.1.1 C.1.2.1 C.2.2.2.1.2.1 hS (inb_vp hin) rfl hdg (k H locs ls hP hS hl)
end GX
/-! calls, ends, the entry -/
def gPre (G : gG) (σ : gMem) (U : State) : Prop := va_P G.1 vwCl (gsw G σ) U.heap ∧ va_K G.1 vwCl G.2.2.2.2.1 U ∧ gL G.2.2.2.2.2 (gA G) U
theorem gfb {G : gG} {σ : gMem} {av : List Value} : FrameBlind (va_Pc av (gPre G σ)) := fun a U g mk q => by
  obtain ⟨q0, qP, qK, qL⟩ := q
  exact ⟨q0, qP, va_K.moved (u := U) (U := U.calling g mk a) (Vm.Alike.refl U.vm) qK, gL_fb qL⟩
abbrev gQi (G : gG) (r0 : Int32) (σ0 : gMem) : Array Value → State → Outcome → State → Prop := va_Qi (fun (r : Int32) (u : gMem) => r = r0 ∧ u = σ0) (fun u t => va_P G.1 vwCl (gsw G u) t.heap) (gA G)
abbrev gQv (G : gG) (σ0 : gMem) : Array Value → State → Outcome → State → Prop := va_Qv (fun (u : gMem) => u = σ0) (fun u t => va_P G.1 vwCl (gsw G u) t.heap) (gA G)
/-- the method ends with r0 and the world σ0 -/
def gMi (l : Launch) (y : MethodName) (ws : List Cond) (rm : Room) (G : gG) (av : List Value) (σ : gMem) (r0 : Int32) (σ0 : gMem) : Prop := Met l y ws rm (va_Pc av (gPre G σ)) (gQi G r0 σ0) 0 0 (gA G)
def gMv (l : Launch) (y : MethodName) (ws : List Cond) (rm : Room) (G : gG) (av : List Value) (σ : gMem) (σ0 : gMem) : Prop := Met l y ws rm (va_Pc av (gPre G σ)) (gQv G σ0) 0 0 (gA G)
def gE (κ : gK) (G : gG) (ret : Option FieldType) (Qc : Array Value → State → Outcome → State → Prop) (l : Launch) : Prop := (gkh κ).sig.returnType = ret ∧ (gkh κ).locks = false ∧ gkn κ = 0 ∧ gkz κ = 0 ∧ gkQ κ = MQ (gkb κ) Qc (gka κ) (gks κ) 0 0 (gA G) ∧ κ.2.1 = l
theorem gIntro {l : Launch} {y : MethodName} {ws ws' : List Cond} {rm : Room} {G : gG} {av : List Value} {σ : gMem} {Qc : Array Value → State → Outcome → State → Prop} {cc : ByteArray} {own : String} {maxL : Nat} {ret : Option FieldType} {lv : List (Nat × Value)} (hG : gInj G) (hy : plainName y.cls = true) (ho : y.cls = own) (hw : ws = Cond.code y cc maxL ret :: ws') (hn : (lg_sl av).length ≤ maxL) (hlv : lv_args 0 av = lv)
    (body : ∀ κ : gK, gC κ cc own ws maxL G (gA G) rm → gE κ G ret Qc l → wx κ G (gA G) maxL σ 0 lv []) : Met l y ws rm (va_Pc av (gPre G σ)) Qc 0 0 (gA G) := by
  refine Met.ofW (cc := cc) (maxL := maxL) (ret := ret) hy hw ?_
  intro p e s m args below meth c s₁ B hml hv
  obtain ⟨rfl, hP, hK, hL⟩ := hv
  have hl := lv_entry av (n := maxL) hn
  rw [lg_entry_eq]
  subst hlv
  subst ho
  exact body (p, l, e, (headSpec ws rm).room, s, m, av.toArray, below, meth, c, 0, 0, MQ below Qc av.toArray s 0 0 (gA G)) ⟨⟨B.exec, B.bytes, hml, findClass_of_methodNamed B.named, atoms_spec (ws := ws) B.pre⟩, hK, gsw_D hG (fun _ h => h), hL, rfl, Nat.zero_le _, Nat.zero_le _, fun _ h => h⟩ ⟨B.returns, B.notSynchronized, rfl, rfl, rfl, rfl⟩ s.heap [] _ hP va_S.rf hl
section GY
variable {κ : gK} {rmo : Room} {cc : ByteArray} {own : String} {Ts : List Cond} {nL : Nat} {G : gG} {A : Nat → Prop} {σ σ0 : gMem} {r0 : Int32} {pc pc' : Nat} {lv lv' : List (Nat × Value)} {st rest : List Value} {l : Launch}
theorem x_iret (C : gC κ cc own Ts nL G (gA G) rmo) (E : gE κ G (some .int) (gQi G r0 σ0) l) {v : Int32} (h : v = r0 ∧ σ = σ0) (hdg : decode cc pc = .ok (.ireturn, 1)) : wx κ G (gA G) nL σ pc lv [.int v] := by
  obtain ⟨p, l, e, R, s, m, args, below, meth, c, n, z, Q⟩ := κ
  obtain ⟨hr, hlk, hn, hz, hQ, -⟩ := E
  replace hn : n = 0 := hn
  replace hz : z = 0 := hz
  subst hn
  subst hz
  replace hQ : Q = MQ below (gQi G r0 σ0) args s 0 0 (gA G) := hQ
  subst hQ
  intro H locs ls hP hS hl
  exact W.iret (v := v) C.1.1 C.1.2.1 hr (fun t ht hW => ⟨⟨v, σ, rfl, h, by show va_P G.1 vwCl (gsw G σ) t.heap; rw [ht]; exact hP⟩, hS.F ht⟩) hS.2.2 hdg hlk
theorem x_zret (C : gC κ cc own Ts nL G (gA G) rmo) (E : gE κ G (some .boolean) (gQi G r0 σ0) l) {v : Int32} (hv : izb v = true) (h : v = r0 ∧ σ = σ0) (hdg : decode cc pc = .ok (.ireturn, 1)) : wx κ G (gA G) nL σ pc lv [.int v] := by
  obtain ⟨p, l, e, R, s, m, args, below, meth, c, n, z, Q⟩ := κ
  obtain ⟨hr, hlk, hn, hz, hQ, -⟩ := E
  replace hn : n = 0 := hn
  replace hz : z = 0 := hz
  subst hn
  subst hz
  replace hQ : Q = MQ below (gQi G r0 σ0) args s 0 0 (gA G) := hQ
  subst hQ
  intro H locs ls hP hS hl
  exact W.zret (v := v) C.1.1 C.1.2.1 hr (izb_n hv) (fun t ht hW => ⟨⟨v, σ, rfl, h, by show va_P G.1 vwCl (gsw G σ) t.heap; rw [ht]; exact hP⟩, hS.F ht⟩) hS.2.2 hdg hlk
theorem x_vret (C : gC κ cc own Ts nL G (gA G) rmo) (E : gE κ G none (gQv G σ0) l) (h : σ = σ0) (hdg : decode cc pc = .ok (.return_, 1)) : wx κ G (gA G) nL σ pc lv [] := by
  obtain ⟨p, l, e, R, s, m, args, below, meth, c, n, z, Q⟩ := κ
  obtain ⟨hr, hlk, hn, hz, hQ, -⟩ := E
  replace hn : n = 0 := hn
  replace hz : z = 0 := hz
  subst hn
  subst hz
  replace hQ : Q = MQ below (gQv G σ0) args s 0 0 (gA G) := hQ
  subst hQ
  intro H locs ls hP hS hl
  exact W.vret C.1.1 C.1.2.1 hr (fun t ht hW => ⟨⟨σ, rfl, h, by show va_P G.1 vwCl (gsw G σ) t.heap; rw [ht]; exact hP⟩, hS.F ht⟩) hS.2.2 hdg hlk
theorem gpreV (C : gC κ cc own Ts nL G A rmo) {k0 ci N : Nat} {Cn : String} {T : u_T} {fs : List Value} {As : List Value} {H : Heap} {locs : List Loc} (hk : k0 < G.2.2.1) (he : G.2.2.2.1 k0 (σ k0) = .inr (ci, fs)) (hc : vwCl[ci]? = some (Cn, T, N)) (hP : va_P G.1 vwCl (gsw G σ) H) (hS : va_S A (gks κ).heap H locs) : PreV (gks κ) H Cn (G.2.1 k0) (va_Pc (.ref (G.2.1 k0) :: As) (gPre G σ)) As :=
  ⟨gfb, va_recv C.2.1 hP hc (by rw [gsw_get hk, he]), fun U hU hW => ⟨rfl, by rw [hU]; exact hP, va_K.moved hW.alike C.2.1, gL_at C.2.2.2.1 hS hU hW C.2.2.2.2.2.2.2⟩⟩
theorem gpreS (C : gC κ cc own Ts nL G A rmo) {As : List Value} {H : Heap} {locs : List Loc} (hP : va_P G.1 vwCl (gsw G σ) H) (hS : va_S A (gks κ).heap H locs) : PreS (gks κ) H (va_Pc As (gPre G σ)) As :=
  ⟨gfb, fun U hU hW => ⟨rfl, by rw [hU]; exact hP, va_K.moved hW.alike C.2.1, gL_at C.2.2.2.1 hS hU hW C.2.2.2.2.2.2.2⟩⟩
theorem x_cvi (C : gC κ cc own Ts nL G A rmo) (El : κ.2.1 = l) {y : MethodName} {ws ws2 : List Cond} {rm : Room} {bytes : ByteArray} {maxL index : Nat} {ret : Option FieldType} {As : List Value} {k0 ci N : Nat} {Cn : String} {T : u_T} {fs : List Value} (n : Nat) (hM : gMi l y ws rm G (.ref (G.2.1 k0) :: As) σ r0 σ0) (hg : GoodIn Ts (wsV own index Cn y ws)) (hw : ws = Cond.code y bytes maxL ret :: ws2) (hrc : rm.cells = 0) (hrs : rm.slots = 0) (hd : y.cls = Cn ∧ y.cls ≠ "java/lang/invoke/MethodHandle" ∧ y.cls ≠ "java/lang/invoke/VarHandle" ∧ (parseMethodDescriptor y.desc).map (fun d => d.parameters.length) = some n) (hR : rm.frames + 1 ≤ rmo.frames ∧ 8 + (maxL + 11) + rm.locals ≤ rmo.locals) (hk : k0 < G.2.2.1) (he : G.2.2.2.1 k0 (σ k0) = .inr (ci, fs)) (hc : vwCl[ci]? = some (Cn, T, N)) (hn : As.length = n) (hst : st = As.reverse ++ .ref (G.2.1 k0) :: rest) (hcat : (rest.map fun v => v.category).sum ≤ 8) (hdg : decode cc pc = .ok (.invokevirtual index, 3)) (hp : pc + 3 = pc') (k : wx κ G A nL σ0 pc' lv (.int r0 :: rest)) : wx κ G A nL σ pc lv st := by
  subst hp
  subst hst
  subst El
  intro H locs ls hP hS hl
  exact va_calli (va_runV (As := As) (rest := rest) C.1 hM (cwV n C.1.2.2.2.2 hg hw hrc hrs hd (by rw [C.2.2.2.2.1]; exact hR)) (gpreV C hk he hc hP hS) rfl hn hl.1 rfl (lv_room hcat) hdg ⟨by rw [C.2.2.2.2.1]; exact C.2.2.2.2.2.1, by rw [C.2.2.2.2.1]; exact C.2.2.2.2.2.2.1⟩) hS (fun q _ h => C.2.2.2.2.2.2.2 q h) C.2.2.2.2.2.2.2 (fun r u t H1 locs1 ht hvm hw hB hz1 hk1 hS => by obtain ⟨rfl, rfl⟩ := hw; rw [ht] at hB; exact k H1 locs1 ls hB hS hl)
theorem x_csi (C : gC κ cc own Ts nL G A rmo) (El : κ.2.1 = l) {y : MethodName} {ws ws2 : List Cond} {rm : Room} {bytes : ByteArray} {maxL index : Nat} {ret : Option FieldType} {As : List Value} (n : Nat) (hM : gMi l y ws rm G As σ r0 σ0) (hg : GoodIn Ts (va_wsS own index y ws)) (hw : ws = Cond.code y bytes maxL ret :: ws2) (hrc : rm.cells = 0) (hrs : rm.slots = 0) (hd : y.cls ≠ "java/lang/invoke/MethodHandle" ∧ y.cls ≠ "java/lang/invoke/VarHandle" ∧ (parseMethodDescriptor y.desc).map (fun d => d.parameters.length) = some n) (hR : rm.frames + 1 ≤ rmo.frames ∧ 8 + (maxL + 11) + rm.locals ≤ rmo.locals) (hn : As.length = n) (hst : st = As.reverse ++ rest) (hcat : (rest.map fun v => v.category).sum ≤ 8) (hdg : decode cc pc = .ok (.invokestatic index, 3)) (hp : pc + 3 = pc') (k : wx κ G A nL σ0 pc' lv (.int r0 :: rest)) : wx κ G A nL σ pc lv st := by
  subst hp
  subst hst
  subst El
  intro H locs ls hP hS hl
  exact va_calli (va_runS (As := As) (rest := rest) C.1 hM (va_cwS n C.1.2.2.2.2 hg hw hrc hrs hd (by rw [C.2.2.2.2.1]; exact hR)) (gpreS C hP hS) rfl hn hl.1 rfl (lv_room hcat) hdg ⟨by rw [C.2.2.2.2.1]; exact C.2.2.2.2.2.1, by rw [C.2.2.2.2.1]; exact C.2.2.2.2.2.2.1⟩) hS (fun q _ h => C.2.2.2.2.2.2.2 q h) C.2.2.2.2.2.2.2 (fun r u t H1 locs1 ht hvm hw hB hz1 hk1 hS => by obtain ⟨rfl, rfl⟩ := hw; rw [ht] at hB; exact k H1 locs1 ls hB hS hl)
theorem x_csni (C : gC κ cc own Ts nL G A rmo) (El : κ.2.1 = l) {y : MethodName} {ws ws2 : List Cond} {rm : Room} {bytes : ByteArray} {maxL index : Nat} {ret : Option FieldType} {As : List Value} (n : Nat) (hM : gMi l y ws rm G As σ r0 σ0) (hg : GoodIn Ts ws) (hw : ws = Cond.code y bytes maxL ret :: ws2) (hrc : rm.cells = 0) (hrs : rm.slots = 0) (hN : (own, index, y) ∈ gNl) (hini : Cond.initialized y.cls ∈ Ts) (hsta : Cond.static y ∈ Ts) (hd : y.cls ≠ "java/lang/invoke/MethodHandle" ∧ y.cls ≠ "java/lang/invoke/VarHandle" ∧ (parseMethodDescriptor y.desc).map (fun d => d.parameters.length) = some n) (hR : rm.frames + 1 ≤ rmo.frames ∧ 8 + (maxL + 11) + rm.locals ≤ rmo.locals) (hn : As.length = n) (hst : st = As.reverse ++ rest) (hcat : (rest.map fun v => v.category).sum ≤ 8) (hdg : decode cc pc = .ok (.invokestatic index, 3)) (hp : pc + 3 = pc') (k : wx κ G A nL σ0 pc' lv (.int r0 :: rest)) : wx κ G A nL σ pc lv st := by
  subst hp
  subst hst
  subst El
  intro H locs ls hP hS hl
  exact va_calli (va_runSN (As := As) (rest := rest) C.1 hM ⟨va_cnB n C.1.2.2.2.2 hg hw hrc hrs (C.2.2.2.1.2.2 _ hN) (C.hts hini) hd (by rw [C.2.2.2.2.1]; exact hR), C.hts hsta, trivial⟩ (gpreS C hP hS) rfl hn hl.1 rfl (lv_room hcat) hdg ⟨by rw [C.2.2.2.2.1]; exact C.2.2.2.2.2.1, by rw [C.2.2.2.2.1]; exact C.2.2.2.2.2.2.1⟩) hS (fun q _ h => C.2.2.2.2.2.2.2 q h) C.2.2.2.2.2.2.2 (fun r u t H1 locs1 ht hvm hw hB hz1 hk1 hS => by obtain ⟨rfl, rfl⟩ := hw; rw [ht] at hB; exact k H1 locs1 ls hB hS hl)
theorem x_cvv (C : gC κ cc own Ts nL G A rmo) (El : κ.2.1 = l) {y : MethodName} {ws ws2 : List Cond} {rm : Room} {bytes : ByteArray} {maxL index : Nat} {ret : Option FieldType} {As : List Value} {k0 ci N : Nat} {Cn : String} {T : u_T} {fs : List Value} (n : Nat) (hM : gMv l y ws rm G (.ref (G.2.1 k0) :: As) σ σ0) (hg : GoodIn Ts (wsV own index Cn y ws)) (hw : ws = Cond.code y bytes maxL ret :: ws2) (hrc : rm.cells = 0) (hrs : rm.slots = 0) (hd : y.cls = Cn ∧ y.cls ≠ "java/lang/invoke/MethodHandle" ∧ y.cls ≠ "java/lang/invoke/VarHandle" ∧ (parseMethodDescriptor y.desc).map (fun d => d.parameters.length) = some n) (hR : rm.frames + 1 ≤ rmo.frames ∧ 8 + (maxL + 11) + rm.locals ≤ rmo.locals) (hk : k0 < G.2.2.1) (he : G.2.2.2.1 k0 (σ k0) = .inr (ci, fs)) (hc : vwCl[ci]? = some (Cn, T, N)) (hn : As.length = n) (hst : st = As.reverse ++ .ref (G.2.1 k0) :: rest) (hcat : (rest.map fun v => v.category).sum ≤ 8) (hdg : decode cc pc = .ok (.invokevirtual index, 3)) (hp : pc + 3 = pc') (k : wx κ G A nL σ0 pc' lv rest) : wx κ G A nL σ pc lv st := by
  subst hp
  subst hst
  subst El
  intro H locs ls hP hS hl
  exact va_callv (va_runV (As := As) (rest := rest) C.1 hM (cwV n C.1.2.2.2.2 hg hw hrc hrs hd (by rw [C.2.2.2.2.1]; exact hR)) (gpreV C hk he hc hP hS) rfl hn hl.1 rfl (lv_room hcat) hdg ⟨by rw [C.2.2.2.2.1]; exact C.2.2.2.2.2.1, by rw [C.2.2.2.2.1]; exact C.2.2.2.2.2.2.1⟩) hS (fun q _ h => C.2.2.2.2.2.2.2 q h) C.2.2.2.2.2.2.2 (fun u t H1 locs1 ht hvm hw hB hz1 hk1 hS => by subst hw; rw [ht] at hB; exact k H1 locs1 ls hB hS hl)
theorem x_csv (C : gC κ cc own Ts nL G A rmo) (El : κ.2.1 = l) {y : MethodName} {ws ws2 : List Cond} {rm : Room} {bytes : ByteArray} {maxL index : Nat} {ret : Option FieldType} {As : List Value} (n : Nat) (hM : gMv l y ws rm G As σ σ0) (hg : GoodIn Ts (va_wsS own index y ws)) (hw : ws = Cond.code y bytes maxL ret :: ws2) (hrc : rm.cells = 0) (hrs : rm.slots = 0) (hd : y.cls ≠ "java/lang/invoke/MethodHandle" ∧ y.cls ≠ "java/lang/invoke/VarHandle" ∧ (parseMethodDescriptor y.desc).map (fun d => d.parameters.length) = some n) (hR : rm.frames + 1 ≤ rmo.frames ∧ 8 + (maxL + 11) + rm.locals ≤ rmo.locals) (hn : As.length = n) (hst : st = As.reverse ++ rest) (hcat : (rest.map fun v => v.category).sum ≤ 8) (hdg : decode cc pc = .ok (.invokestatic index, 3)) (hp : pc + 3 = pc') (k : wx κ G A nL σ0 pc' lv rest) : wx κ G A nL σ pc lv st := by
  subst hp
  subst hst
  subst El
  intro H locs ls hP hS hl
  exact va_callv (va_runS (As := As) (rest := rest) C.1 hM (va_cwS n C.1.2.2.2.2 hg hw hrc hrs hd (by rw [C.2.2.2.2.1]; exact hR)) (gpreS C hP hS) rfl hn hl.1 rfl (lv_room hcat) hdg ⟨by rw [C.2.2.2.2.1]; exact C.2.2.2.2.2.1, by rw [C.2.2.2.2.1]; exact C.2.2.2.2.2.2.1⟩) hS (fun q _ h => C.2.2.2.2.2.2.2 q h) C.2.2.2.2.2.2.2 (fun u t H1 locs1 ht hvm hw hB hz1 hk1 hS => by subst hw; rw [ht] at hB; exact k H1 locs1 ls hB hS hl)
theorem x_csnv (C : gC κ cc own Ts nL G A rmo) (El : κ.2.1 = l) {y : MethodName} {ws ws2 : List Cond} {rm : Room} {bytes : ByteArray} {maxL index : Nat} {ret : Option FieldType} {As : List Value} (n : Nat) (hM : gMv l y ws rm G As σ σ0) (hg : GoodIn Ts ws) (hw : ws = Cond.code y bytes maxL ret :: ws2) (hrc : rm.cells = 0) (hrs : rm.slots = 0) (hN : (own, index, y) ∈ gNl) (hini : Cond.initialized y.cls ∈ Ts) (hsta : Cond.static y ∈ Ts) (hd : y.cls ≠ "java/lang/invoke/MethodHandle" ∧ y.cls ≠ "java/lang/invoke/VarHandle" ∧ (parseMethodDescriptor y.desc).map (fun d => d.parameters.length) = some n) (hR : rm.frames + 1 ≤ rmo.frames ∧ 8 + (maxL + 11) + rm.locals ≤ rmo.locals) (hn : As.length = n) (hst : st = As.reverse ++ rest) (hcat : (rest.map fun v => v.category).sum ≤ 8) (hdg : decode cc pc = .ok (.invokestatic index, 3)) (hp : pc + 3 = pc') (k : wx κ G A nL σ0 pc' lv rest) : wx κ G A nL σ pc lv st := by
  subst hp
  subst hst
  subst El
  intro H locs ls hP hS hl
  exact va_callv (va_runSN (As := As) (rest := rest) C.1 hM ⟨va_cnB n C.1.2.2.2.2 hg hw hrc hrs (C.2.2.2.1.2.2 _ hN) (C.hts hini) hd (by rw [C.2.2.2.2.1]; exact hR), C.hts hsta, trivial⟩ (gpreS C hP hS) rfl hn hl.1 rfl (lv_room hcat) hdg ⟨by rw [C.2.2.2.2.1]; exact C.2.2.2.2.2.1, by rw [C.2.2.2.2.1]; exact C.2.2.2.2.2.2.1⟩) hS (fun q _ h => C.2.2.2.2.2.2.2 q h) C.2.2.2.2.2.2.2 (fun u t H1 locs1 ht hvm hw hB hz1 hk1 hS => by subst hw; rw [ht] at hB; exact k H1 locs1 ls hB hS hl)
theorem x_mmax (C : gC κ cc own Ts nL G A rmo) {index : Nat} {x y : Int32} (hlink : Cond.methodLink own index Lib.Math.max.name ∈ Ts) (hstat : Cond.static Lib.Math.max.name ∈ Ts) (hini : Cond.initialized "java/lang/Math" ∈ Ts) (hcode : Cond.code Lib.Math.max.name Lib.Math.max.code 2 (some .int) ∈ Ts) (hf : 1 ≤ rmo.frames) (hlo : (rest.map fun v => v.category).sum + 13 ≤ rmo.locals) (hdg : decode cc pc = .ok (.invokestatic index, 3)) (hp : pc + 3 = pc') (k : wx κ G A nL σ pc' lv (.int (gmax x y) :: rest)) : wx κ G A nL σ pc lv (.int y :: .int x :: rest) := by
  subst hp
  intro H locs ls hP hS hl
  exact va_mmax C.1.1 C.1.2.1 (C.1.2.2.1.trans hl.1.symm) C.1.2.2.2.1 (C.hts hlink) (C.hts hstat) (C.hts hini) (C.hts hcode) (by rw [C.2.2.2.2.1]; exact hf) (by rw [C.2.2.2.2.1]; exact hlo) (by rw [C.2.2.2.2.1]; exact C.2.2.2.2.2.1) (by rw [C.2.2.2.2.1]; exact C.2.2.2.2.2.2.1) hdg (k H locs ls hP hS hl)
theorem x_mmin (C : gC κ cc own Ts nL G A rmo) {index : Nat} {x y : Int32} (hlink : Cond.methodLink own index Lib.Math.min.name ∈ Ts) (hstat : Cond.static Lib.Math.min.name ∈ Ts) (hini : Cond.initialized "java/lang/Math" ∈ Ts) (hcode : Cond.code Lib.Math.min.name Lib.Math.min.code 2 (some .int) ∈ Ts) (hf : 1 ≤ rmo.frames) (hlo : (rest.map fun v => v.category).sum + 13 ≤ rmo.locals) (hdg : decode cc pc = .ok (.invokestatic index, 3)) (hp : pc + 3 = pc') (k : wx κ G A nL σ pc' lv (.int (gmin x y) :: rest)) : wx κ G A nL σ pc lv (.int y :: .int x :: rest) := by
  subst hp
  intro H locs ls hP hS hl
  exact va_mmin C.1.1 C.1.2.1 (C.1.2.2.1.trans hl.1.symm) C.1.2.2.2.1 (C.hts hlink) (C.hts hstat) (C.hts hini) (C.hts hcode) (by rw [C.2.2.2.2.1]; exact hf) (by rw [C.2.2.2.2.1]; exact hlo) (by rw [C.2.2.2.2.1]; exact C.2.2.2.2.2.1) (by rw [C.2.2.2.2.1]; exact C.2.2.2.2.2.2.1) hdg (k H locs ls hP hS hl)
def gcpy (σ : gMem) (k0 k1 : Nat) (sp dp n : Int32) : gMem := grow σ k1 (va_cpy (σ k0) (σ k1) sp.toNatClampNeg dp.toNatClampNeg n.toNatClampNeg)
def gcok (n0 n1 : Nat) (sp dp n : Int32) : Bool := !(decide (sp < 0)) && !(decide (dp < 0)) && !(decide (n < 0)) && decide (sp.toNatClampNeg + n.toNatClampNeg ≤ n0) && decide (dp.toNatClampNeg + n.toNatClampNeg ≤ n1)
theorem x_copy (C : gC κ cc own Ts nL G A rmo) {σ1 : gMem} {index k0 k1 n0 n1 : Nat} {cy : ClassId} {sp dp n : Int32} (e1 : σ1 = gcpy σ k0 k1 sp dp n) (hlink : Cond.methodLink own index arraycopyName ∈ Ts) (hnat : Cond.native arraycopyName ∈ Ts) (hstat : Cond.static arraycopyName ∈ Ts) (hini : Cond.initialized "java/lang/System" ∈ Ts) (hk0 : k0 < G.2.2.1) (hk1 : k1 < G.2.2.1) (he0 : ∀ r, G.2.2.2.1 k0 r = .inl (cy, (n0, .inl r))) (he1 : ∀ r, G.2.2.2.1 k1 r = .inl (cy, (n1, .inl r))) (ht : G.2.2.2.2.1[0]? = some (cy, .int)) (hok : gcok n0 n1 sp dp n = true) (hf : 1 ≤ rmo.frames) (hlo : (rest.map fun v => v.category).sum + (nativeFrameWords "java/lang/System" "arraycopy" 5 + 11) ≤ rmo.locals) (hdg : decode cc pc = .ok (.invokestatic index, 3)) (hp : pc + 3 = pc') (k : wx κ G A nL σ1 pc' lv rest) : wx κ G A nL σ pc lv (.int n :: .int dp :: .ref (G.2.1 k1) :: .int sp :: .ref (G.2.1 k0) :: rest) := by
  subst hp
  subst e1
  simp only [gcok, Bool.and_eq_true, Bool.not_eq_true', decide_eq_false_iff_not, decide_eq_true_eq] at hok
  obtain ⟨⟨⟨⟨h1, h2⟩, h3⟩, h4⟩, h5⟩ := hok
  intro H locs ls hP hS hl
  exact va_copyi C.1.1 C.1.2.1 (C.1.2.2.1.trans hl.1.symm) C.1.2.2.2.1 (C.hts hlink) (C.hts hnat) (C.hts hstat) (C.hts hini) C.2.1 hP (C.2.2.1 σ) hS k0 k1 0 0 (by rw [gsw_get hk0, he0]) (by rw [gsw_get hk1, he1]) ht ht rfl h1 h2 h3 h4 h5 (fun _ _ => rfl) (by rw [C.2.2.2.2.1]; exact hf) (by rw [C.2.2.2.2.1]; exact hlo) hdg (fun H locs hP _ hS => k H locs ls (by rw [gsw_set hk1 (he1 _).symm] at hP; exact hP) hS hl)
end GY
