/-! ===== the law: its loop (written by wip/whole/gen/law.py) ===== -/
theorem and63 (x : Int32) : ∃ j : Nat, j < 64 ∧ x &&& 63 = nI j := by
  refine ⟨(x.toBitVec &&& 63#32).toNat, ?_, ?_⟩
  · have : (x.toBitVec &&& 63#32).toNat ≤ 63 := by
      rw [BitVec.toNat_and]; exact Nat.and_le_right
    omega
  · apply Int32.toBitVec_inj.mp
    show x.toBitVec &&& 63#32 = BitVec.ofNat 32 (x.toBitVec &&& 63#32).toNat
    rw [BitVec.ofNat_toNat, BitVec.setWidth_eq]

theorem law_loop {κ : gK} {l : Launch} {D : va_G} {ad am : Nat → Nat} {cy : Nat → ClassId} {b bs L : Nat} {xs : Nat → Int32} {A : Nat → Prop} (C : gC κ cL_law RL gLw 4 (gGL D ad am cy b) A room_1) (El : κ.2.1 = l) (hX : va_X bs L xs (gks κ) (gks κ).heap) (hbl : bs < (gks κ).heap.size) (hbA : ¬ A bs) (hGX : gInj (gGX D ad cy b)) (hGM : gInj (gGM D am cy b)) (hGL : gInj (gGL D ad am cy b)) (hL : L ≤ 384) (hEnd : ∀ H locs ls, va_S A (gks κ).heap H locs → gW κ H locs (F0 (gkm κ) 1275 ls [])) : ∀ d n σ μ, L ≤ n + d → n ≤ 384 → INV σ μ → wx κ (gGL D ad am cy b) A 4 (mrg σ μ) 18 [(3, .int (nI n)), (2, .ref (am 0)), (1, .ref (ad 0)), (0, .ref bs)] [] := by
  intro d
  induction d using Nat.strongRecOn with
  | _ d ih =>
    intro n σ μ hd hn4 hI
    refine x_iln C 0 rfl dL_law_18 rfl ?_
    refine x_aln C 3 rfl dL_law_19 rfl ?_
    refine z_slen C hX hbl hbA dL_law_20 rfl ?_
    refine x_bi (v := 6) C (by decide) dL_law_21 rfl ?_
    refine x_isub C dL_law_23 rfl ?_
    have eL : (nI L - 6 : Int32).toInt = (L : Int) - 6 := by
      rw [i32_sub (by rw [nI_toInt (by omega)]; show _ ≤ _ - (6 : Int); omega) (by rw [nI_toInt (by omega)]; show _ - (6 : Int) < _; omega), nI_toInt (by omega)]; rfl
    refine x_ic_gt (tgt := 1275) C dL_law_24 (by decide) rfl (fun hc => ?_) (fun hc => ?_)
    · exact fun H locs ls _ hS _ => hEnd H locs ls hS
    · have hn : n + 6 ≤ L := by
        rw [i32_lt, eL, nI_toInt (by omega)] at hc; omega
      have K : ∀ σ' μ', INV σ' μ' → wx κ (gGL D ad am cy b) A 4 (mrg σ' μ') 1269 [(3, .int (nI n)), (2, .ref (am 0)), (1, .ref (ad 0)), (0, .ref bs)] [] := fun σ' μ' I' => by
        refine x_iinc (v := nI (n + 6)) (lv' := [(3, .int (nI (n + 6))), (2, .ref (am 0)), (1, .ref (ad 0)), (0, .ref bs)]) C (j := 0) rfl (nI_add n 6).symm (by decide) (by decide) rfl dL_law_1269 rfl ?_
        refine x_goto (tgt := 18) C dL_law_1272 (by decide) ?_
        exact ih (d - 6) (by omega) (n + 6) σ' μ' (by omega) (by omega) I'
      refine x_aln C 3 rfl dL_law_27 rfl ?_
      refine x_iln C 0 rfl dL_law_28 rfl ?_
      refine z_sld C hX hbl hbA (n := n) rfl (by omega) (by omega) dL_law_29 rfl ?_
      refine x_bi (v := 63) C (by decide) dL_law_30 rfl ?_
      refine x_iand C dL_law_32 rfl ?_
      obtain ⟨j, hj, ej⟩ := and63 (xs n)
      rw [ej]
      have tj : (nI j).toInt = (j : Int) := nI_toInt (by omega)
      rcases (show j = 0 ∨ j = 1 ∨ j = 2 ∨ j = 3 ∨ j = 4 ∨ j = 5 ∨ j = 6 ∨ j = 7 ∨ j = 8 ∨ j = 9 ∨ j = 10 ∨ j = 11 ∨ j = 12 ∨ j = 13 ∨ j = 14 ∨ j = 15 ∨ j = 16 ∨ j = 17 ∨ j = 18 ∨ j = 19 ∨ j = 20 ∨ j = 21 ∨ j = 22 ∨ j = 23 ∨ j = 24 ∨ j = 25 ∨ j = 26 ∨ j = 27 ∨ j = 28 ∨ j = 29 ∨ j = 30 ∨ j = 31 ∨ j = 32 ∨ 32 < j by omega) with rfl | rfl | rfl | rfl | rfl | rfl | rfl | rfl | rfl | rfl | rfl | rfl | rfl | rfl | rfl | rfl | rfl | rfl | rfl | rfl | rfl | rfl | rfl | rfl | rfl | rfl | rfl | rfl | rfl | rfl | rfl | rfl | rfl | hj2
      · refine x_swin (off := 147) (tgt := 180) C dL_law_33 (by rw [tj]; decide) (by rw [tj]; decide) (by rw [tj]; rfl) (by decide) ?_
        exact law_place C El hX hbl hbA hGX hGM hGL hL hn hI K
      · refine x_swin (off := 170) (tgt := 203) C dL_law_33 (by rw [tj]; decide) (by rw [tj]; decide) (by rw [tj]; rfl) (by decide) ?_
        exact law_make C El hX hbl hbA hGX hGM hGL hL hn hI K
      · refine x_swin (off := 213) (tgt := 246) C dL_law_33 (by rw [tj]; decide) (by rw [tj]; decide) (by rw [tj]; rfl) (by decide) ?_
        exact law_path C El hX hbl hbA hGX hGM hGL hL hn hI K
      · refine x_swin (off := 256) (tgt := 289) C dL_law_33 (by rw [tj]; decide) (by rw [tj]; decide) (by rw [tj]; rfl) (by decide) ?_
        exact law_tide C El hX hbl hbA hGX hGM hGL hL hn hI K
      · refine x_swin (off := 289) (tgt := 322) C dL_law_33 (by rw [tj]; decide) (by rw [tj]; decide) (by rw [tj]; rfl) (by decide) ?_
        exact law_set C El hX hbl hbA hGX hGM hGL hL hn hI K
      · refine x_swin (off := 322) (tgt := 355) C dL_law_33 (by rw [tj]; decide) (by rw [tj]; decide) (by rw [tj]; rfl) (by decide) ?_
        exact law_person C El hX hbl hbA hGX hGM hGL hL hn hI K
      · refine x_swin (off := 365) (tgt := 398) C dL_law_33 (by rw [tj]; decide) (by rw [tj]; decide) (by rw [tj]; rfl) (by decide) ?_
        exact law_of C El hX hbl hbA hGX hGM hGL hL hn hI K
      · refine x_swin (off := 398) (tgt := 431) C dL_law_33 (by rw [tj]; decide) (by rw [tj]; decide) (by rw [tj]; rfl) (by decide) ?_
        exact law_type C El hX hbl hbA hGX hGM hGL hL hn hI K
      · refine x_swin (off := 461) (tgt := 494) C dL_law_33 (by rw [tj]; decide) (by rw [tj]; decide) (by rw [tj]; rfl) (by decide) ?_
        exact law_lagoon C El hX hbl hbA hGX hGM hGL hL hn hI K
      · refine x_swin (off := 474) (tgt := 507) C dL_law_33 (by rw [tj]; decide) (by rw [tj]; decide) (by rw [tj]; rfl) (by decide) ?_
        exact law_paths C El hX hbl hbA hGX hGM hGL hL hn hI K
      · refine x_swin (off := 487) (tgt := 520) C dL_law_33 (by rw [tj]; decide) (by rw [tj]; decide) (by rw [tj]; rfl) (by decide) ?_
        exact law_count C El hX hbl hbA hGX hGM hGL hL hn hI K
      · refine x_swin (off := 510) (tgt := 543) C dL_law_33 (by rw [tj]; decide) (by rw [tj]; decide) (by rw [tj]; rfl) (by decide) ?_
        exact law_water C El hX hbl hbA hGX hGM hGL hL hn hI K
      · refine x_swin (off := 543) (tgt := 576) C dL_law_33 (by rw [tj]; decide) (by rw [tj]; decide) (by rw [tj]; rfl) (by decide) ?_
        exact law_stands C El hX hbl hbA hGX hGM hGL hL hn hI K
      · refine x_swin (off := 586) (tgt := 619) C dL_law_33 (by rw [tj]; decide) (by rw [tj]; decide) (by rw [tj]; rfl) (by decide) ?_
        exact law_hours C El hX hbl hbA hGX hGM hGL hL hn hI K
      · refine x_swin (off := 619) (tgt := 652) C dL_law_33 (by rw [tj]; decide) (by rw [tj]; decide) (by rw [tj]; rfl) (by decide) ?_
        exact law_years C El hX hbl hbA hGX hGM hGL hL hn hI K
      · refine x_swin (off := 642) (tgt := 675) C dL_law_33 (by rw [tj]; decide) (by rw [tj]; decide) (by rw [tj]; rfl) (by decide) ?_
        exact law_way C El hX hbl hbA hGX hGM hGL hL hn hI K
      · refine x_swin (off := 695) (tgt := 728) C dL_law_33 (by rw [tj]; decide) (by rw [tj]; decide) (by rw [tj]; rfl) (by decide) ?_
        exact law_race C El hX hbl hbA hGX hGM hGL hL hn hI K
      · refine x_swin (off := 748) (tgt := 781) C dL_law_33 (by rw [tj]; decide) (by rw [tj]; decide) (by rw [tj]; rfl) (by decide) ?_
        exact law_need C El hX hbl hbA hGX hGM hGL hL hn hI K
      · refine x_swin (off := 791) (tgt := 824) C dL_law_33 (by rw [tj]; decide) (by rw [tj]; decide) (by rw [tj]; rfl) (by decide) ?_
        exact law_met C El hX hbl hbA hGX hGM hGL hL hn hI K
      · refine x_swin (off := 804) (tgt := 837) C dL_law_33 (by rw [tj]; decide) (by rw [tj]; decide) (by rw [tj]; rfl) (by decide) ?_
        exact law_lengths C El hX hbl hbA hGX hGM hGL hL hn hI K
      · refine x_swin (off := 827) (tgt := 860) C dL_law_33 (by rw [tj]; decide) (by rw [tj]; decide) (by rw [tj]; rfl) (by decide) ?_
        exact law_meeting C El hX hbl hbA hGX hGM hGL hL hn hI K
      · refine x_swin (off := 850) (tgt := 883) C dL_law_33 (by rw [tj]; decide) (by rw [tj]; decide) (by rw [tj]; rfl) (by decide) ?_
        exact law_pairs C El hX hbl hbA hGX hGM hGL hL hn hI K
      · refine x_swin (off := 873) (tgt := 906) C dL_law_33 (by rw [tj]; decide) (by rw [tj]; decide) (by rw [tj]; rfl) (by decide) ?_
        exact law_flood C El hX hbl hbA hGX hGM hGL hL hn hI K
      · refine x_swin (off := 906) (tgt := 939) C dL_law_33 (by rw [tj]; decide) (by rw [tj]; decide) (by rw [tj]; rfl) (by decide) ?_
        exact law_carried C El hX hbl hbA hGX hGM hGL hL hn hI K
      · refine x_swin (off := 949) (tgt := 982) C dL_law_33 (by rw [tj]; decide) (by rw [tj]; decide) (by rw [tj]; rfl) (by decide) ?_
        exact law_wrong C El hX hbl hbA hGX hGM hGL hL hn hI K
      · refine x_swin (off := 982) (tgt := 1015) C dL_law_33 (by rw [tj]; decide) (by rw [tj]; decide) (by rw [tj]; rfl) (by decide) ?_
        exact law_clear C El hX hbl hbA hGX hGM hGL hL hn hI K
      · refine x_swin (off := 995) (tgt := 1028) C dL_law_33 (by rw [tj]; decide) (by rw [tj]; decide) (by rw [tj]; rfl) (by decide) ?_
        exact law_image C El hX hbl hbA hGX hGM hGL hL hn hI K
      · refine x_swin (off := 1008) (tgt := 1041) C dL_law_33 (by rw [tj]; decide) (by rw [tj]; decide) (by rw [tj]; rfl) (by decide) ?_
        exact law_restore C El hX hbl hbA hGX hGM hGL hL hn hI K
      · refine x_swin (off := 1021) (tgt := 1054) C dL_law_33 (by rw [tj]; decide) (by rw [tj]; decide) (by rw [tj]; rfl) (by decide) ?_
        exact law_tides C El hX hbl hbA hGX hGM hGL hL hn hI K
      · refine x_swin (off := 1054) (tgt := 1087) C dL_law_33 (by rw [tj]; decide) (by rw [tj]; decide) (by rw [tj]; rfl) (by decide) ?_
        exact law_sheet C El hX hbl hbA hGX hGM hGL hL hn hI K
      · refine x_swin (off := 1097) (tgt := 1130) C dL_law_33 (by rw [tj]; decide) (by rw [tj]; decide) (by rw [tj]; rfl) (by decide) ?_
        exact law_drop C El hX hbl hbA hGX hGM hGL hL hn hI K
      · refine x_swin (off := 1120) (tgt := 1153) C dL_law_33 (by rw [tj]; decide) (by rw [tj]; decide) (by rw [tj]; rfl) (by decide) ?_
        exact law_item C El hX hbl hbA hGX hGM hGL hL hn hI K
      · refine x_swin (off := 1173) (tgt := 1206) C dL_law_33 (by rw [tj]; decide) (by rw [tj]; decide) (by rw [tj]; rfl) (by decide) ?_
        exact law_copy C El hX hbl hbA hGX hGM hGL hL hn hI K
      · refine x_swout (tgt := 1269) C dL_law_33 (Or.inr (by rw [tj]; omega)) (by decide) ?_
        exact K σ μ hI
