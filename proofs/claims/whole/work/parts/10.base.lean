/-! ===== the pure part: numbers ===== -/
theorem gb1_s {α β : Type} (a : α) (K : α → Option β) : gb1 (some a) K = K a := rfl
theorem gb2_s {α1 α2 β : Type} (a : α1) (b : α2) (K : α1 → α2 → Option β) : gb2 (some (a, b)) K = K a b := rfl
theorem gb3_s {α1 α2 α3 β : Type} (a : α1) (b : α2) (c : α3) (K : α1 → α2 → α3 → Option β) : gb3 (some (a, b, c)) K = K a b c := rfl
theorem gnm_s {α β : Type} (a : α) (K : α → Option β) : gnm a K = K a := rfl
theorem gck_s {β : Type} (o : Option β) : gck true o = o := rfl
theorem gst_a (σ : gMem) (k i : Nat) (x : Int32) (a : Nat) : gst σ k i x a = if a = k then upd (σ k) i x else σ a := rfl
theorem upd_a (f : Nat → Int32) (k : Nat) (x : Int32) (j : Nat) : upd f k x j = if j = k then x else f j := rfl
theorem gst_eq (σ : gMem) (k i : Nat) (x : Int32) : gst σ k i x k = upd (σ k) i x := if_pos rfl
theorem gst_ne {σ : gMem} {k a : Nat} (i : Nat) (x : Int32) (h : a ≠ k) : gst σ k i x a = σ a := if_neg h
theorem i32_le {x y : Int32} : x ≤ y ↔ x.toInt ≤ y.toInt := Int32.le_iff_toInt_le
theorem i32_lt {x y : Int32} : x < y ↔ x.toInt < y.toInt := Int32.lt_iff_toInt_lt
theorem i32_eq {x y : Int32} : x = y ↔ x.toInt = y.toInt := Int32.toInt_inj.symm
theorem i32_r (x : Int32) : -2147483648 ≤ x.toInt ∧ x.toInt < 2147483648 := ⟨Int32.le_toInt x, Int32.toInt_lt x⟩
theorem i32_add {x y : Int32} (h1 : -2147483648 ≤ x.toInt + y.toInt) (h2 : x.toInt + y.toInt < 2147483648) : (x + y).toInt = x.toInt + y.toInt := by
  rw [Int32.toInt_add]; exact Int.bmod_eq_of_le (by omega) (by omega)
theorem i32_sub {x y : Int32} (h1 : -2147483648 ≤ x.toInt - y.toInt) (h2 : x.toInt - y.toInt < 2147483648) : (x - y).toInt = x.toInt - y.toInt := by
  rw [Int32.toInt_sub]; exact Int.bmod_eq_of_le (by omega) (by omega)
theorem i32_mul {x y : Int32} (h1 : -2147483648 ≤ x.toInt * y.toInt) (h2 : x.toInt * y.toInt < 2147483648) : (x * y).toInt = x.toInt * y.toInt := by
  rw [Int32.toInt_mul]; exact Int.bmod_eq_of_le (by omega) (by omega)
theorem nI_mul (a b : Nat) : nI a * nI b = nI (a * b) := by
  simp [nI, Int32.ofNat_mul]
theorem nI_sub {a b : Nat} (h : b ≤ a) : nI a - nI b = nI (a - b) := by
  have : nI a = nI (a - b) + nI b := by rw [nI_add]; congr 1; omega
  rw [this]; exact Int32.add_sub_cancel _ _
theorem inb_nI {j n : Nat} (h : j < 2 ^ 31) : inb (nI j) n = decide (j < n) := by
  have h0 : ¬ nI j < 0 := nI_pos h
  by_cases q : j < n
  · simp [inb, h0, nI_clamp h, q]
  · simp [inb, h0, nI_clamp h, q]; omega
theorem inb_t {j n : Nat} (h : j < n) (hn : n < 2 ^ 31) : inb (nI j) n = true := by
  rw [inb_nI (by omega)]; exact decide_eq_true h
/-- in a range: 1, else 0 -/
def wi (a b c : Int32) : Int32 := if a < b then 0 else if c < a then 0 else 1
theorem izb_wi (a b c : Int32) : izb (wi a b c) = true := by
  unfold wi; split
  · rfl
  · split <;> rfl
theorem wi_0 {a b c : Int32} : wi a b c = 0 ↔ ¬ (b.toInt ≤ a.toInt ∧ a.toInt ≤ c.toInt) := by
  unfold wi
  simp only [i32_lt]
  split
  · simp; omega
  · split
    · simp; omega
    · simp only [show ((1 : Int32) = 0) = False from by decide, false_iff, Classical.not_not]; omega
theorem wi_1 {a b c : Int32} : ¬ wi a b c = 0 ↔ (b.toInt ≤ a.toInt ∧ a.toInt ≤ c.toInt) := by
  rw [wi_0, Classical.not_not]
theorem q_within (a b c : Int32) (σ : gMem) : m_X6_within a b c σ = some (wi a b c) := by
  unfold m_X6_within wi
  split
  · rfl
  · split <;> rfl
theorem q_in (a b c : Int32) (σ : gMem) : m_X7_in a.toInt64 b.toInt64 c.toInt64 σ = some (wi a b c) := by
  unfold m_X7_in wi
  simp only [lg_cmp_lt, lg_cmp_gt, Int32.toInt64_lt]
  split
  · rfl
  · split <;> rfl
theorem nat_of {x : Int32} {n : Nat} (h0 : 0 ≤ x.toInt) (h1 : x.toInt ≤ n) (hn : n < 2 ^ 31) : ∃ j : Nat, j ≤ n ∧ x = nI j := by
  refine ⟨x.toInt.toNat, by omega, ?_⟩
  rw [i32_eq, nI_toInt (by omega)]; omega
/-- what stands in place of a loop that counts up -/
theorem for_up {R : Type} (G : Nat → Nat → Option R) (N : Nat) (r : R) (hs : ∀ n i, i < N → G (n + 1) i = G n (i + 1)) (hf : ∀ n, G (n + 1) N = some r) : ∀ d i n, i + d = N → d < n → G n i = some r := by
  intro d
  induction d with
  | zero =>
    intro i n hi hn
    obtain ⟨m, rfl⟩ : ∃ m, n = m + 1 := ⟨n - 1, by omega⟩
    rw [show i = N by omega]; exact hf m
  | succ d ih =>
    intro i n hi hn
    obtain ⟨m, rfl⟩ : ∃ m, n = m + 1 := ⟨n - 1, by omega⟩
    rw [hs m i (by omega)]
    exact ih (i + 1) m (by omega) (by omega)
theorem for_to {R : Type} (G : Nat → Nat → Option R) (N : Nat) (r : R) (hs : ∀ n i, i < N → G (n + 1) i = G n (i + 1)) (hf : ∀ n, G (n + 1) N = some r) (hN : N < 100000) : G gFU 0 = some r :=
  for_up G N r hs hf N 0 gFU (by omega) hN
/-- the same from the end: each turn's answer from the next one's -/
theorem for_back {R : Type} (G : Nat → Nat → Option R) (N : Nat) (rr : Nat → R) (hs : ∀ n i, i < N → G n (i + 1) = some (rr (i + 1)) → G (n + 1) i = some (rr i)) (hf : ∀ n, G (n + 1) N = some (rr N)) : ∀ d i n, i + d = N → d < n → G n i = some (rr i) := by
  intro d
  induction d with
  | zero =>
    intro i n hi hn
    obtain ⟨m, rfl⟩ : ∃ m, n = m + 1 := ⟨n - 1, by omega⟩
    rw [show i = N by omega]; exact hf m
  | succ d ih =>
    intro i n hi hn
    obtain ⟨m, rfl⟩ : ∃ m, n = m + 1 := ⟨n - 1, by omega⟩
    exact hs m i (by omega) (ih (i + 1) m (by omega) (by omega))
theorem for_back0 {R : Type} (G : Nat → Nat → Option R) (N : Nat) (rr : Nat → R) (hs : ∀ n i, i < N → G n (i + 1) = some (rr (i + 1)) → G (n + 1) i = some (rr i)) (hf : ∀ n, G (n + 1) N = some (rr N)) (hN : N < 100000) : G gFU 0 = some (rr 0) :=
  for_back G N rr hs hf N 0 gFU (by omega) hN
/-! ===== the lagoon's 264 numbers, in the class (object o, rows from r on) and in the reference ===== -/
def ca (o r k : Nat) : Nat × Nat :=
  if k < 12 then (o + 1, k) else if k < 24 then (o + 2, k - 12) else if k < 36 then (o + 3, k - 24) else if k < 60 then (o + 5, k - 36) else if k = 60 then (o, 6) else if k = 61 then (o, 7) else if k = 62 then (o, 0) else if k = 63 then (o, 8) else if k = 64 then (o, 12) else if k = 65 then (o, 16) else if k < 74 then (o + 6, k - 66) else if k < 82 then (o + 7, k - 74) else if k < 90 then (o + 8, k - 82) else if k < 100 then (o + 9, k - 90) else if k < 110 then (o + 10, k - 100) else if k < 120 then (o + 11, k - 110) else (r + (k - 120) / 12, (k - 120) % 12)
def Rg (o r : Nat) (σ : gMem) (z : Nat → Int32) : Prop := ∀ k : Nat, k < 264 → σ (ca o r k).1 (ca o r k).2 = z k
def caI (o r c s : Nat) : Nat :=
  if c = o then (if s = 6 then 60 else if s = 7 then 61 else if s = 0 then 62 else if s = 8 then 63 else if s = 12 then 64 else 65) else if c = o + 1 then s else if c = o + 2 then 12 + s else if c = o + 3 then 24 + s else if c = o + 5 then 36 + s else if c = o + 6 then 66 + s else if c = o + 7 then 74 + s else if c = o + 8 then 82 + s else if c = o + 9 then 90 + s else if c = o + 10 then 100 + s else if c = o + 11 then 110 + s else 120 + 12 * (c - r) + s
theorem caI_n : ∀ k : Nat, k < 264 → caI 1 13 (ca 1 13 k).1 (ca 1 13 k).2 = k := by decide +kernel
theorem caI_k : ∀ k : Nat, k < 264 → caI 25 37 (ca 25 37 k).1 (ca 25 37 k).2 = k := by decide +kernel
theorem ca_n : ∀ k : Nat, k < 264 → 1 ≤ (ca 1 13 k).1 ∧ (ca 1 13 k).1 < 25 := by decide +kernel
theorem ca_k : ∀ k : Nat, k < 264 → 25 ≤ (ca 25 37 k).1 ∧ (ca 25 37 k).1 < 49 := by decide +kernel
theorem Rg_set {σ : gMem} {z : Nat → Int32} (h : Rg 1 13 σ z) {k : Nat} (hk : k < 264) {c s : Nat} (hc : ca 1 13 k = (c, s)) (x : Int32) : Rg 1 13 (gst σ c s x) (upd z k x) := by
  intro j hj
  have h1 : c = (ca 1 13 k).1 := by rw [hc]
  have h2 : s = (ca 1 13 k).2 := by rw [hc]
  subst h1; subst h2
  rw [gst_a, upd_a]
  by_cases e : j = k
  · subst e; rw [if_pos rfl, if_pos rfl, upd_a, if_pos rfl]
  · rw [if_neg e]
    by_cases e1 : (ca 1 13 j).1 = (ca 1 13 k).1
    · rw [if_pos e1, upd_a]
      by_cases e2 : (ca 1 13 j).2 = (ca 1 13 k).2
      · exact absurd (by rw [← caI_n j hj, ← caI_n k hk, e1, e2]) e
      · rw [if_neg e2, ← e1]; exact h j hj
    · rw [if_neg e1]; exact h j hj
theorem Rg_fr {σ σ' : gMem} {z : Nat → Int32} (h : Rg 1 13 σ z) (hf : ∀ c : Nat, 1 ≤ c → c < 25 → σ' c = σ c) : Rg 1 13 σ' z := by
  intro k hk
  rw [hf _ (ca_n k hk).1 (ca_n k hk).2]; exact h k hk
theorem Rg_frk {σ σ' : gMem} {z : Nat → Int32} (h : Rg 25 37 σ z) (hf : ∀ c : Nat, 25 ≤ c → c < 49 → σ' c = σ c) : Rg 25 37 σ' z := by
  intro k hk
  rw [hf _ (ca_k k hk).1 (ca_k k hk).2]; exact h k hk
theorem ca_dep {o r i : Nat} (h : i < 12) : ca o r i = (o + 1, i) := by simp [ca, h]
theorem ca_spl {o r i : Nat} (h : i < 12) : ca o r (12 + i) = (o + 2, i) := by simp [ca, show ¬ 12 + i < 12 by omega, show 12 + i < 24 by omega]
theorem ca_sil {o r i : Nat} (h : i < 12) : ca o r (24 + i) = (o + 3, i) := by simp [ca, show ¬ 24 + i < 12 by omega, show ¬ 24 + i < 24 by omega, show 24 + i < 36 by omega]
theorem ca_tid {o r i : Nat} (h : i < 24) : ca o r (36 + i) = (o + 5, i) := by simp [ca, show ¬ 36 + i < 12 by omega, show ¬ 36 + i < 24 by omega, show ¬ 36 + i < 36 by omega, show 36 + i < 60 by omega]
theorem ca_kin {o r i : Nat} (h : i < 8) : ca o r (66 + i) = (o + 6, i) := by simp [ca, show ¬ 66 + i < 12 by omega, show ¬ 66 + i < 24 by omega, show ¬ 66 + i < 36 by omega, show ¬ 66 + i < 60 by omega, show ¬ 66 + i = 60 by omega, show ¬ 66 + i = 61 by omega, show ¬ 66 + i = 62 by omega, show ¬ 66 + i = 63 by omega, show ¬ 66 + i = 64 by omega, show ¬ 66 + i = 65 by omega, show 66 + i < 74 by omega]
theorem ca_tol {o r i : Nat} (h : i < 8) : ca o r (74 + i) = (o + 7, i) := by simp [ca, show ¬ 74 + i < 12 by omega, show ¬ 74 + i < 24 by omega, show ¬ 74 + i < 36 by omega, show ¬ 74 + i < 60 by omega, show ¬ 74 + i = 60 by omega, show ¬ 74 + i = 61 by omega, show ¬ 74 + i = 62 by omega, show ¬ 74 + i = 63 by omega, show ¬ 74 + i = 64 by omega, show ¬ 74 + i = 65 by omega, show ¬ 74 + i < 74 by omega, show 74 + i < 82 by omega]
theorem ca_hom {o r i : Nat} (h : i < 8) : ca o r (82 + i) = (o + 8, i) := by simp [ca, show ¬ 82 + i < 12 by omega, show ¬ 82 + i < 24 by omega, show ¬ 82 + i < 36 by omega, show ¬ 82 + i < 60 by omega, show ¬ 82 + i = 60 by omega, show ¬ 82 + i = 61 by omega, show ¬ 82 + i = 62 by omega, show ¬ 82 + i = 63 by omega, show ¬ 82 + i = 64 by omega, show ¬ 82 + i = 65 by omega, show ¬ 82 + i < 74 by omega, show ¬ 82 + i < 82 by omega, show 82 + i < 90 by omega]
theorem ca_who {o r i : Nat} (h : i < 10) : ca o r (90 + i) = (o + 9, i) := by simp [ca, show ¬ 90 + i < 12 by omega, show ¬ 90 + i < 24 by omega, show ¬ 90 + i < 36 by omega, show ¬ 90 + i < 60 by omega, show ¬ 90 + i = 60 by omega, show ¬ 90 + i = 61 by omega, show ¬ 90 + i = 62 by omega, show ¬ 90 + i = 63 by omega, show ¬ 90 + i = 64 by omega, show ¬ 90 + i = 65 by omega, show ¬ 90 + i < 74 by omega, show ¬ 90 + i < 82 by omega, show ¬ 90 + i < 90 by omega, show 90 + i < 100 by omega]
theorem ca_whe {o r i : Nat} (h : i < 10) : ca o r (100 + i) = (o + 10, i) := by simp [ca, show ¬ 100 + i < 12 by omega, show ¬ 100 + i < 24 by omega, show ¬ 100 + i < 36 by omega, show ¬ 100 + i < 60 by omega, show ¬ 100 + i = 60 by omega, show ¬ 100 + i = 61 by omega, show ¬ 100 + i = 62 by omega, show ¬ 100 + i = 63 by omega, show ¬ 100 + i = 64 by omega, show ¬ 100 + i = 65 by omega, show ¬ 100 + i < 74 by omega, show ¬ 100 + i < 82 by omega, show ¬ 100 + i < 90 by omega, show ¬ 100 + i < 100 by omega, show 100 + i < 110 by omega]
theorem ca_whn {o r i : Nat} (h : i < 10) : ca o r (110 + i) = (o + 11, i) := by simp [ca, show ¬ 110 + i < 12 by omega, show ¬ 110 + i < 24 by omega, show ¬ 110 + i < 36 by omega, show ¬ 110 + i < 60 by omega, show ¬ 110 + i = 60 by omega, show ¬ 110 + i = 61 by omega, show ¬ 110 + i = 62 by omega, show ¬ 110 + i = 63 by omega, show ¬ 110 + i = 64 by omega, show ¬ 110 + i = 65 by omega, show ¬ 110 + i < 74 by omega, show ¬ 110 + i < 82 by omega, show ¬ 110 + i < 90 by omega, show ¬ 110 + i < 100 by omega, show ¬ 110 + i < 110 by omega, show 110 + i < 120 by omega]
theorem ca_min {o r i j : Nat} (hi : i < 12) (hj : j < 12) : ca o r (120 + 12 * i + j) = (r + i, j) := by
  have e1 : (120 + 12 * i + j - 120) / 12 = i := by omega
  have e2 : (120 + 12 * i + j - 120) % 12 = j := by omega
  unfold ca
  rw [if_neg (by omega), if_neg (by omega), if_neg (by omega), if_neg (by omega), if_neg (by omega), if_neg (by omega), if_neg (by omega), if_neg (by omega), if_neg (by omega), if_neg (by omega), if_neg (by omega), if_neg (by omega), if_neg (by omega), if_neg (by omega), if_neg (by omega), if_neg (by omega), e1, e2]
/-- numbers of posts among the first k places, but one -/
def npo (z : Nat → Int32) (b : Nat) : Nat → Nat
  | 0 => 0
  | k + 1 => npo z b k + if k ≠ b ∧ 0 < (z (12 + k)).toInt then 1 else 0
/-- a lagoon as the document has it: p places, q people, n needs, y years -/
def WF (p q n y : Nat) (z : Nat → Int32) : Prop :=
  (z 62 = nI p ∧ z 63 = nI q ∧ z 64 = nI n ∧ z 65 = nI y ∧ p ≤ 12 ∧ q ≤ 8 ∧ n ≤ 10 ∧ y ≤ 999) ∧
  (∀ i, i < p → -20 ≤ (z i).toInt ∧ (z i).toInt ≤ 60 ∧ 0 ≤ (z (12 + i)).toInt ∧ (z (12 + i)).toInt ≤ 20 ∧ -5 ≤ (z (24 + i)).toInt ∧ (z (24 + i)).toInt ≤ 5) ∧
  npo z 99 p ≤ 3 ∧
  (∀ h, h < 24 → -20 ≤ (z (36 + h)).toInt ∧ (z (36 + h)).toInt ≤ 20) ∧
  (0 ≤ (z 60).toInt ∧ (z 60).toInt ≤ 40 ∧ 0 ≤ (z 61).toInt ∧ (z 61).toInt ≤ 60) ∧
  (∀ i, i < q → (∃ k, k ≤ 3 ∧ z (66 + i) = nI k) ∧ 0 ≤ (z (74 + i)).toInt ∧ (z (74 + i)).toInt ≤ 60 ∧ ∃ h, h < p ∧ z (82 + i) = nI h) ∧
  (∀ i, i < n → (∃ w, w < q ∧ z (90 + i) = nI w) ∧ (∃ a, a < p ∧ z (100 + i) = nI a) ∧ ∃ h, h < 24 ∧ z (110 + i) = nI h) ∧
  (∀ i j, i < 12 → j < 12 → 0 ≤ (z (120 + 12 * i + j)).toInt ∧ (z (120 + 12 * i + j)).toInt ≤ 60 ∧ z (120 + 12 * i + j) = z (120 + 12 * j + i) ∧ (i = j → z (120 + 12 * i + j) = 0) ∧ (p ≤ i → z (120 + 12 * i + j) = 0))
def Wf (z : Nat → Int32) : Prop := ∃ p q n y, WF p q n y z
theorem npo_congr {z z' : Nat → Int32} {b : Nat} (h : ∀ k, k < 24 → z k = z' k) : ∀ p, p ≤ 12 → npo z b p = npo z' b p := by
  intro p
  induction p with
  | zero => intro _; rfl
  | succ p ih => intro hp; simp only [npo, ih (by omega), h (12 + p) (by omega)]
theorem WF_congr {z z' : Nat → Int32} {p q n y : Nat} (h : ∀ k, k < 264 → z' k = z k) (w : WF p q n y z) : WF p q n y z' := by
  obtain ⟨⟨a1, a2, a3, a4, hp, hq, hn, hy⟩, b, c, d, e, f, g, m⟩ := w
  refine ⟨⟨by rw [h 62 (by omega)]; exact a1, by rw [h 63 (by omega)]; exact a2, by rw [h 64 (by omega)]; exact a3, by rw [h 65 (by omega)]; exact a4, hp, hq, hn, hy⟩, fun i hi => ?_, ?_, fun i hi => ?_, ?_, fun i hi => ?_, fun i hi => ?_, fun i j hi hj => ?_⟩
  · rw [h i (by omega), h (12 + i) (by omega), h (24 + i) (by omega)]; exact b i hi
  · rw [npo_congr (fun k hk => h k (by omega)) p hp]; exact c
  · rw [h (36 + i) (by omega)]; exact d i hi
  · rw [h 60 (by omega), h 61 (by omega)]; exact e
  · rw [h (66 + i) (by omega), h (74 + i) (by omega), h (82 + i) (by omega)]; exact f i hi
  · rw [h (90 + i) (by omega), h (100 + i) (by omega), h (110 + i) (by omega)]; exact g i hi
  · rw [h (120 + 12 * i + j) (by omega), h (120 + 12 * j + i) (by omega)]; exact m i j hi hj
/-- class σ and reference μ hold the same -/
def SIMi (σ μ : gMem) : Prop := σ 0 2 = μ 0 1 ∧ (σ 0 2 = 0 ∨ (σ 0 2 = 1 ∧ Rg 25 37 σ (fun k => μ 1 (264 + k)) ∧ Wf (fun k => μ 1 (264 + k))))
def SIMt (σ μ : gMem) : Prop := ∃ t : Nat, t ≤ 80 ∧ σ 49 0 = nI t ∧ μ 0 3 = nI t ∧ ∀ i, i < t → σ 50 i = μ 2 i ∧ ∃ c : Nat, 32 ≤ c ∧ c ≤ 126 ∧ μ 2 i = nI c
def SIMs (σ μ : gMem) : Prop := ∀ s, s < 4 → ∃ n : Nat, n ≤ 24 ∧ σ (205 + s) 2 = nI n ∧ μ 6 s = nI n ∧ ((σ (205 + s) 0 = 0 ∧ μ 5 s = -1) ∨ (σ (205 + s) 0 = 1 ∧ ∃ l : Nat, l ≤ 2 ∧ σ (205 + s) 1 = nI l ∧ μ 5 s = nI l)) ∧ ∀ i, i < n → σ (209 + s) i = μ 4 (24 * s + i)
def SIM (σ μ : gMem) : Prop := Rg 1 13 σ (μ 1) ∧ SIMi σ μ ∧ SIMt σ μ ∧ SIMs σ μ
def INV (σ μ : gMem) : Prop := SIM σ μ ∧ Wf (μ 1)
theorem SIMi_fr {σ μ σ' μ' : gMem} (h : SIMi σ μ) (h1 : σ' 0 2 = σ 0 2) (h2 : μ' 0 1 = μ 0 1) (h3 : ∀ c : Nat, 25 ≤ c → c < 49 → σ' c = σ c) (h4 : ∀ k, k < 264 → μ' 1 (264 + k) = μ 1 (264 + k)) : SIMi σ' μ' := by
  obtain ⟨a, b⟩ := h
  refine ⟨by rw [h1, h2]; exact a, ?_⟩
  rw [h1]
  rcases b with b | ⟨b, c, d⟩
  · exact Or.inl b
  · refine Or.inr ⟨b, fun k hk => ?_, ?_⟩
    · show _ = μ' 1 (264 + k)
      rw [h3 _ (ca_k k hk).1 (ca_k k hk).2, h4 k hk]; exact c k hk
    · obtain ⟨p, q, n, y, e⟩ := d
      refine ⟨p, q, n, y, ?_⟩
      have e0 : ∀ k, k < 264 → (fun k => μ' 1 (264 + k)) k = (fun k => μ 1 (264 + k)) k := h4
      exact WF_congr e0 e
theorem SIMt_fr {σ μ σ' μ' : gMem} (h : SIMt σ μ) (h1 : σ' 49 0 = σ 49 0) (h2 : μ' 0 3 = μ 0 3) (h3 : σ' 50 = σ 50) (h4 : μ' 2 = μ 2) : SIMt σ' μ' := by
  obtain ⟨t, a, b, c, d⟩ := h
  exact ⟨t, a, by rw [h1]; exact b, by rw [h2]; exact c, by rw [h3, h4]; exact d⟩
theorem SIMs_fr {σ μ σ' μ' : gMem} (h : SIMs σ μ) (h1 : ∀ c : Nat, 205 ≤ c → c < 213 → σ' c = σ c) (h2 : μ' 6 = μ 6) (h3 : μ' 5 = μ 5) (h4 : μ' 4 = μ 4) : SIMs σ' μ' := by
  intro s hs
  have := h s hs
  rw [h2, h3, h4, h1 (205 + s) (by omega) (by omega), h1 (209 + s) (by omega) (by omega)]; exact this
/-- the same number written into both lagoons -/
theorem SIM_set {σ μ : gMem} (h : SIM σ μ) {k : Nat} (hk : k < 264) {c s : Nat} (hc : ca 1 13 k = (c, s)) (x : Int32) : SIM (gst σ c s x) (gst μ 1 k x) := by
  have h1 : 1 ≤ c ∧ c < 25 := by have := ca_n k hk; rw [hc] at this; exact this
  obtain ⟨hR, hi, ht, hs⟩ := h
  refine ⟨?_, SIMi_fr hi (by rw [gst_ne s x (show (0 : Nat) ≠ c by omega)]) (by rw [gst_ne k x (show (0 : Nat) ≠ 1 by omega)]) (fun a h2 h3 => gst_ne s x (by omega)) (fun j hj => ?_), SIMt_fr ht (by rw [gst_ne s x (show (49 : Nat) ≠ c by omega)]) (by rw [gst_ne k x (show (0 : Nat) ≠ 1 by omega)]) (gst_ne s x (by omega)) (gst_ne k x (by decide)), SIMs_fr hs (fun a h2 h3 => gst_ne s x (by omega)) (gst_ne k x (by decide)) (gst_ne k x (by decide)) (gst_ne k x (by decide))⟩
  · rw [gst_eq]; exact Rg_set hR hk hc x
  · rw [gst_eq]; exact pk_un (by omega)
theorem Rg_dep {σ : gMem} {z : Nat → Int32} (h : Rg 1 13 σ z) {i : Nat} (hi : i < 12) : σ 2 i = z i := by
  have := h i (by omega)
  rw [ca_dep hi] at this; exact this
theorem Rg_spl {σ : gMem} {z : Nat → Int32} (h : Rg 1 13 σ z) {i : Nat} (hi : i < 12) : σ 3 i = z (12 + i) := by
  have := h (12 + i) (by omega)
  rw [ca_spl hi] at this; exact this
theorem Rg_sil {σ : gMem} {z : Nat → Int32} (h : Rg 1 13 σ z) {i : Nat} (hi : i < 12) : σ 4 i = z (24 + i) := by
  have := h (24 + i) (by omega)
  rw [ca_sil hi] at this; exact this
theorem Rg_tid {σ : gMem} {z : Nat → Int32} (h : Rg 1 13 σ z) {i : Nat} (hi : i < 24) : σ 6 i = z (36 + i) := by
  have := h (36 + i) (by omega)
  rw [ca_tid hi] at this; exact this
theorem Rg_kin {σ : gMem} {z : Nat → Int32} (h : Rg 1 13 σ z) {i : Nat} (hi : i < 8) : σ 7 i = z (66 + i) := by
  have := h (66 + i) (by omega)
  rw [ca_kin hi] at this; exact this
theorem Rg_tol {σ : gMem} {z : Nat → Int32} (h : Rg 1 13 σ z) {i : Nat} (hi : i < 8) : σ 8 i = z (74 + i) := by
  have := h (74 + i) (by omega)
  rw [ca_tol hi] at this; exact this
theorem Rg_hom {σ : gMem} {z : Nat → Int32} (h : Rg 1 13 σ z) {i : Nat} (hi : i < 8) : σ 9 i = z (82 + i) := by
  have := h (82 + i) (by omega)
  rw [ca_hom hi] at this; exact this
theorem Rg_who {σ : gMem} {z : Nat → Int32} (h : Rg 1 13 σ z) {i : Nat} (hi : i < 10) : σ 10 i = z (90 + i) := by
  have := h (90 + i) (by omega)
  rw [ca_who hi] at this; exact this
theorem Rg_whe {σ : gMem} {z : Nat → Int32} (h : Rg 1 13 σ z) {i : Nat} (hi : i < 10) : σ 11 i = z (100 + i) := by
  have := h (100 + i) (by omega)
  rw [ca_whe hi] at this; exact this
theorem Rg_whn {σ : gMem} {z : Nat → Int32} (h : Rg 1 13 σ z) {i : Nat} (hi : i < 10) : σ 12 i = z (110 + i) := by
  have := h (110 + i) (by omega)
  rw [ca_whn hi] at this; exact this
theorem Rg_min {σ : gMem} {z : Nat → Int32} (h : Rg 1 13 σ z) {i j : Nat} (hi : i < 12) (hj : j < 12) : σ (13 + i) j = z (120 + 12 * i + j) := by
  have := h (120 + 12 * i + j) (by omega)
  rw [ca_min hi hj] at this; exact this
theorem Rg_flo {σ : gMem} {z : Nat → Int32} (h : Rg 1 13 σ z) : σ 1 6 = z 60 := h 60 (by decide)
theorem Rg_rea {σ : gMem} {z : Nat → Int32} (h : Rg 1 13 σ z) : σ 1 7 = z 61 := h 61 (by decide)
theorem Rg_pla {σ : gMem} {z : Nat → Int32} (h : Rg 1 13 σ z) : σ 1 0 = z 62 := h 62 (by decide)
theorem Rg_peo {σ : gMem} {z : Nat → Int32} (h : Rg 1 13 σ z) : σ 1 8 = z 63 := h 63 (by decide)
theorem Rg_nee {σ : gMem} {z : Nat → Int32} (h : Rg 1 13 σ z) : σ 1 12 = z 64 := h 64 (by decide)
theorem Rg_yea {σ : gMem} {z : Nat → Int32} (h : Rg 1 13 σ z) : σ 1 16 = z 65 := h 65 (by decide)
