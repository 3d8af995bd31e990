section
-- ===== PART A: goes FIRST, ahead of the names: the tables' words, and 'selects' of the private methods out of them =====
/-- a private method of a class that the tables say can be made, by its rows of tables_1 -/
def lw_okq (q : MethodName × Nat) : Prop := (q.1.cls ≠ "java/lang/invoke/MethodHandle" ∧ q.1.cls ≠ "java/lang/invoke/VarHandle") ∧ Cond.instantiable q.1.cls q.2 ∈ tables_1 ∧ Cond.privateMethod q.1 ∈ tables_1 ∧ Cond.instanceMethod q.1 ∈ tables_1
theorem lw_p0 : lw_okq (⟨"StiltWays", "makeSplices", "(II)I"⟩, 8) := ⟨⟨by decide +kernel, by decide +kernel⟩, List.mem_of_getElem? (i := 13) (by decide +kernel), List.mem_of_getElem? (i := 300) (by decide +kernel), List.mem_of_getElem? (i := 301) (by decide +kernel)⟩
theorem lw_p1 : lw_okq (⟨"StiltWays$Tape", "begin", "()V"⟩, 9) := ⟨⟨by decide +kernel, by decide +kernel⟩, List.mem_of_getElem? (i := 108) (by decide +kernel), List.mem_of_getElem? (i := 375) (by decide +kernel), List.mem_of_getElem? (i := 376) (by decide +kernel)⟩
theorem lw_p2 : lw_okq (⟨"StiltWays$Tape", "readPlace", "()V"⟩, 9) := ⟨⟨by decide +kernel, by decide +kernel⟩, List.mem_of_getElem? (i := 108) (by decide +kernel), List.mem_of_getElem? (i := 379) (by decide +kernel), List.mem_of_getElem? (i := 380) (by decide +kernel)⟩
theorem lw_p3 : lw_okq (⟨"StiltWays$Tape", "readDepth", "()I"⟩, 9) := ⟨⟨by decide +kernel, by decide +kernel⟩, List.mem_of_getElem? (i := 108) (by decide +kernel), List.mem_of_getElem? (i := 383) (by decide +kernel), List.mem_of_getElem? (i := 384) (by decide +kernel)⟩
theorem lw_p4 : lw_okq (⟨"StiltWays$Tape", "peek", "()I"⟩, 9) := ⟨⟨by decide +kernel, by decide +kernel⟩, List.mem_of_getElem? (i := 108) (by decide +kernel), List.mem_of_getElem? (i := 387) (by decide +kernel), List.mem_of_getElem? (i := 388) (by decide +kernel)⟩
theorem lw_p5 : lw_okq (⟨"StiltWays$Tape", "readNumber", "(II)I"⟩, 9) := ⟨⟨by decide +kernel, by decide +kernel⟩, List.mem_of_getElem? (i := 108) (by decide +kernel), List.mem_of_getElem? (i := 391) (by decide +kernel), List.mem_of_getElem? (i := 392) (by decide +kernel)⟩
theorem lw_p6 : lw_okq (⟨"StiltWays$Tape", "faultAt", "(I)V"⟩, 9) := ⟨⟨by decide +kernel, by decide +kernel⟩, List.mem_of_getElem? (i := 108) (by decide +kernel), List.mem_of_getElem? (i := 396) (by decide +kernel), List.mem_of_getElem? (i := 397) (by decide +kernel)⟩
theorem lw_p7 : lw_okq (⟨"StiltWays$Tape", "goesOn", "(C)Z"⟩, 9) := ⟨⟨by decide +kernel, by decide +kernel⟩, List.mem_of_getElem? (i := 108) (by decide +kernel), List.mem_of_getElem? (i := 403) (by decide +kernel), List.mem_of_getElem? (i := 404) (by decide +kernel)⟩
theorem lw_p8 : lw_okq (⟨"StiltWays$Tape", "outcome", "()I"⟩, 9) := ⟨⟨by decide +kernel, by decide +kernel⟩, List.mem_of_getElem? (i := 108) (by decide +kernel), List.mem_of_getElem? (i := 407) (by decide +kernel), List.mem_of_getElem? (i := 408) (by decide +kernel)⟩
theorem lw_p9 : lw_okq (⟨"StiltWays$Tape", "readPath", "(I)V"⟩, 9) := ⟨⟨by decide +kernel, by decide +kernel⟩, List.mem_of_getElem? (i := 108) (by decide +kernel), List.mem_of_getElem? (i := 424) (by decide +kernel), List.mem_of_getElem? (i := 425) (by decide +kernel)⟩
theorem lw_p10 : lw_okq (⟨"StiltWays$Tape", "readLetter", "(II)I"⟩, 9) := ⟨⟨by decide +kernel, by decide +kernel⟩, List.mem_of_getElem? (i := 108) (by decide +kernel), List.mem_of_getElem? (i := 428) (by decide +kernel), List.mem_of_getElem? (i := 429) (by decide +kernel)⟩
theorem lw_p11 : lw_okq (⟨"StiltWays$Walk", "listPosts", "(LStiltWays$Lagoon;)V"⟩, 13) := ⟨⟨by decide +kernel, by decide +kernel⟩, List.mem_of_getElem? (i := 147) (by decide +kernel), List.mem_of_getElem? (i := 502) (by decide +kernel), List.mem_of_getElem? (i := 503) (by decide +kernel)⟩
theorem lw_p12 : lw_okq (⟨"StiltWays$Walk", "listEdges", "(LStiltWays$Lagoon;)V"⟩, 13) := ⟨⟨by decide +kernel, by decide +kernel⟩, List.mem_of_getElem? (i := 147) (by decide +kernel), List.mem_of_getElem? (i := 506) (by decide +kernel), List.mem_of_getElem? (i := 507) (by decide +kernel)⟩
theorem lw_p13 : lw_okq (⟨"StiltWays$Walk", "footingIn", "(LStiltWays$Lagoon;II)I"⟩, 13) := ⟨⟨by decide +kernel, by decide +kernel⟩, List.mem_of_getElem? (i := 147) (by decide +kernel), List.mem_of_getElem? (i := 511) (by decide +kernel), List.mem_of_getElem? (i := 512) (by decide +kernel)⟩
theorem lw_p14 : lw_okq (⟨"StiltWays$Walk", "step", "(I)Z"⟩, 13) := ⟨⟨by decide +kernel, by decide +kernel⟩, List.mem_of_getElem? (i := 147) (by decide +kernel), List.mem_of_getElem? (i := 520) (by decide +kernel), List.mem_of_getElem? (i := 521) (by decide +kernel)⟩
theorem lw_p15 : lw_okq (⟨"StiltWays$Walk", "hourOf", "(I)I"⟩, 13) := ⟨⟨by decide +kernel, by decide +kernel⟩, List.mem_of_getElem? (i := 147) (by decide +kernel), List.mem_of_getElem? (i := 524) (by decide +kernel), List.mem_of_getElem? (i := 525) (by decide +kernel)⟩
def lw_privs_1 : List (MethodName × Nat) := [(⟨"StiltWays", "makeSplices", "(II)I"⟩, 8), (⟨"StiltWays$Tape", "begin", "()V"⟩, 9), (⟨"StiltWays$Tape", "readPlace", "()V"⟩, 9), (⟨"StiltWays$Tape", "readDepth", "()I"⟩, 9), (⟨"StiltWays$Tape", "peek", "()I"⟩, 9), (⟨"StiltWays$Tape", "readNumber", "(II)I"⟩, 9), (⟨"StiltWays$Tape", "faultAt", "(I)V"⟩, 9), (⟨"StiltWays$Tape", "goesOn", "(C)Z"⟩, 9), (⟨"StiltWays$Tape", "outcome", "()I"⟩, 9), (⟨"StiltWays$Tape", "readPath", "(I)V"⟩, 9), (⟨"StiltWays$Tape", "readLetter", "(II)I"⟩, 9), (⟨"StiltWays$Walk", "listPosts", "(LStiltWays$Lagoon;)V"⟩, 13), (⟨"StiltWays$Walk", "listEdges", "(LStiltWays$Lagoon;)V"⟩, 13), (⟨"StiltWays$Walk", "footingIn", "(LStiltWays$Lagoon;II)I"⟩, 13), (⟨"StiltWays$Walk", "step", "(I)Z"⟩, 13), (⟨"StiltWays$Walk", "hourOf", "(I)I"⟩, 13)]
theorem lw_r1 : ∀ q ∈ lw_privs_1, lw_okq q := List.forall_mem_cons.mpr ⟨lw_p0, List.forall_mem_cons.mpr ⟨lw_p1, List.forall_mem_cons.mpr ⟨lw_p2, List.forall_mem_cons.mpr ⟨lw_p3, List.forall_mem_cons.mpr ⟨lw_p4, List.forall_mem_cons.mpr ⟨lw_p5, List.forall_mem_cons.mpr ⟨lw_p6, List.forall_mem_cons.mpr ⟨lw_p7, List.forall_mem_cons.mpr ⟨lw_p8, List.forall_mem_cons.mpr ⟨lw_p9, List.forall_mem_cons.mpr ⟨lw_p10, List.forall_mem_cons.mpr ⟨lw_p11, List.forall_mem_cons.mpr ⟨lw_p12, List.forall_mem_cons.mpr ⟨lw_p13, List.forall_mem_cons.mpr ⟨lw_p14, List.forall_mem_cons.mpr ⟨lw_p15, fun _ h => absurd h List.not_mem_nil⟩⟩⟩⟩⟩⟩⟩⟩⟩⟩⟩⟩⟩⟩⟩⟩
theorem lw_p16 : lw_okq (⟨"StiltWays$Walk", "arrive", "(II)V"⟩, 13) := ⟨⟨by decide +kernel, by decide +kernel⟩, List.mem_of_getElem? (i := 147) (by decide +kernel), List.mem_of_getElem? (i := 528) (by decide +kernel), List.mem_of_getElem? (i := 529) (by decide +kernel)⟩
theorem lw_p17 : lw_okq (⟨"StiltWays$Walk", "walkAlong", "(IIII)V"⟩, 13) := ⟨⟨by decide +kernel, by decide +kernel⟩, List.mem_of_getElem? (i := 147) (by decide +kernel), List.mem_of_getElem? (i := 532) (by decide +kernel), List.mem_of_getElem? (i := 533) (by decide +kernel)⟩
theorem lw_p18 : lw_okq (⟨"StiltWays$Walk", "withSplice", "(II)I"⟩, 13) := ⟨⟨by decide +kernel, by decide +kernel⟩, List.mem_of_getElem? (i := 147) (by decide +kernel), List.mem_of_getElem? (i := 536) (by decide +kernel), List.mem_of_getElem? (i := 537) (by decide +kernel)⟩
theorem lw_p19 : lw_okq (⟨"StiltWays$Walk", "fewestTaken", "(I)I"⟩, 13) := ⟨⟨by decide +kernel, by decide +kernel⟩, List.mem_of_getElem? (i := 147) (by decide +kernel), List.mem_of_getElem? (i := 547) (by decide +kernel), List.mem_of_getElem? (i := 548) (by decide +kernel)⟩
theorem lw_p20 : lw_okq (⟨"StiltWays$Village", "suitedBy", "(LStiltWays$Lagoon;I)I"⟩, 3) := ⟨⟨by decide +kernel, by decide +kernel⟩, List.mem_of_getElem? (i := 194) (by decide +kernel), List.mem_of_getElem? (i := 594) (by decide +kernel), List.mem_of_getElem? (i := 595) (by decide +kernel)⟩
theorem lw_p21 : lw_okq (⟨"StiltWays$Village", "weighWith", "(I)V"⟩, 3) := ⟨⟨by decide +kernel, by decide +kernel⟩, List.mem_of_getElem? (i := 194) (by decide +kernel), List.mem_of_getElem? (i := 599) (by decide +kernel), List.mem_of_getElem? (i := 600) (by decide +kernel)⟩
theorem lw_p22 : lw_okq (⟨"StiltWays$Exchange", "firstBest", "(I)I"⟩, 3) := ⟨⟨by decide +kernel, by decide +kernel⟩, List.mem_of_getElem? (i := 211) (by decide +kernel), List.mem_of_getElem? (i := 644) (by decide +kernel), List.mem_of_getElem? (i := 645) (by decide +kernel)⟩
theorem lw_p23 : lw_okq (⟨"StiltWays$Exchange", "drownedBehind", "(II)I"⟩, 3) := ⟨⟨by decide +kernel, by decide +kernel⟩, List.mem_of_getElem? (i := 211) (by decide +kernel), List.mem_of_getElem? (i := 649) (by decide +kernel), List.mem_of_getElem? (i := 650) (by decide +kernel)⟩
theorem lw_p24 : lw_okq (⟨"StiltWays", "refusal", "(II)I"⟩, 8) := ⟨⟨by decide +kernel, by decide +kernel⟩, List.mem_of_getElem? (i := 13) (by decide +kernel), List.mem_of_getElem? (i := 704) (by decide +kernel), List.mem_of_getElem? (i := 705) (by decide +kernel)⟩
theorem lw_p25 : lw_okq (⟨"StiltWaysModel", "put", "(II)V"⟩, 20) := ⟨⟨by decide +kernel, by decide +kernel⟩, List.mem_of_getElem? (i := 744) (by decide +kernel), List.mem_of_getElem? (i := 821) (by decide +kernel), List.mem_of_getElem? (i := 822) (by decide +kernel)⟩
theorem lw_p26 : lw_okq (⟨"StiltWaysModel", "isPlace", "(I)Z"⟩, 20) := ⟨⟨by decide +kernel, by decide +kernel⟩, List.mem_of_getElem? (i := 744) (by decide +kernel), List.mem_of_getElem? (i := 832) (by decide +kernel), List.mem_of_getElem? (i := 833) (by decide +kernel)⟩
theorem lw_p27 : lw_okq (⟨"StiltWaysModel", "posts", "(I)I"⟩, 20) := ⟨⟨by decide +kernel, by decide +kernel⟩, List.mem_of_getElem? (i := 744) (by decide +kernel), List.mem_of_getElem? (i := 837) (by decide +kernel), List.mem_of_getElem? (i := 838) (by decide +kernel)⟩
theorem lw_p28 : lw_okq (⟨"StiltWaysModel", "pathOf", "(II)I"⟩, 20) := ⟨⟨by decide +kernel, by decide +kernel⟩, List.mem_of_getElem? (i := 744) (by decide +kernel), List.mem_of_getElem? (i := 846) (by decide +kernel), List.mem_of_getElem? (i := 847) (by decide +kernel)⟩
theorem lw_p29 : lw_okq (⟨"StiltWaysModel", "join", "(III)V"⟩, 20) := ⟨⟨by decide +kernel, by decide +kernel⟩, List.mem_of_getElem? (i := 744) (by decide +kernel), List.mem_of_getElem? (i := 850) (by decide +kernel), List.mem_of_getElem? (i := 851) (by decide +kernel)⟩
theorem lw_p30 : lw_okq (⟨"StiltWaysModel", "isPerson", "(I)Z"⟩, 20) := ⟨⟨by decide +kernel, by decide +kernel⟩, List.mem_of_getElem? (i := 744) (by decide +kernel), List.mem_of_getElem? (i := 876) (by decide +kernel), List.mem_of_getElem? (i := 877) (by decide +kernel)⟩
theorem lw_p31 : lw_okq (⟨"StiltWaysModel", "begin", "()V"⟩, 20) := ⟨⟨by decide +kernel, by decide +kernel⟩, List.mem_of_getElem? (i := 744) (by decide +kernel), List.mem_of_getElem? (i := 895) (by decide +kernel), List.mem_of_getElem? (i := 896) (by decide +kernel)⟩
def lw_privs_2 : List (MethodName × Nat) := [(⟨"StiltWays$Walk", "arrive", "(II)V"⟩, 13), (⟨"StiltWays$Walk", "walkAlong", "(IIII)V"⟩, 13), (⟨"StiltWays$Walk", "withSplice", "(II)I"⟩, 13), (⟨"StiltWays$Walk", "fewestTaken", "(I)I"⟩, 13), (⟨"StiltWays$Village", "suitedBy", "(LStiltWays$Lagoon;I)I"⟩, 3), (⟨"StiltWays$Village", "weighWith", "(I)V"⟩, 3), (⟨"StiltWays$Exchange", "firstBest", "(I)I"⟩, 3), (⟨"StiltWays$Exchange", "drownedBehind", "(II)I"⟩, 3), (⟨"StiltWays", "refusal", "(II)I"⟩, 8), (⟨"StiltWaysModel", "put", "(II)V"⟩, 20), (⟨"StiltWaysModel", "isPlace", "(I)Z"⟩, 20), (⟨"StiltWaysModel", "posts", "(I)I"⟩, 20), (⟨"StiltWaysModel", "pathOf", "(II)I"⟩, 20), (⟨"StiltWaysModel", "join", "(III)V"⟩, 20), (⟨"StiltWaysModel", "isPerson", "(I)Z"⟩, 20), (⟨"StiltWaysModel", "begin", "()V"⟩, 20)]
theorem lw_r2 : ∀ q ∈ lw_privs_2, lw_okq q := List.forall_mem_cons.mpr ⟨lw_p16, List.forall_mem_cons.mpr ⟨lw_p17, List.forall_mem_cons.mpr ⟨lw_p18, List.forall_mem_cons.mpr ⟨lw_p19, List.forall_mem_cons.mpr ⟨lw_p20, List.forall_mem_cons.mpr ⟨lw_p21, List.forall_mem_cons.mpr ⟨lw_p22, List.forall_mem_cons.mpr ⟨lw_p23, List.forall_mem_cons.mpr ⟨lw_p24, List.forall_mem_cons.mpr ⟨lw_p25, List.forall_mem_cons.mpr ⟨lw_p26, List.forall_mem_cons.mpr ⟨lw_p27, List.forall_mem_cons.mpr ⟨lw_p28, List.forall_mem_cons.mpr ⟨lw_p29, List.forall_mem_cons.mpr ⟨lw_p30, List.forall_mem_cons.mpr ⟨lw_p31, fun _ h => absurd h List.not_mem_nil⟩⟩⟩⟩⟩⟩⟩⟩⟩⟩⟩⟩⟩⟩⟩⟩
theorem lw_p32 : lw_okq (⟨"StiltWaysModel", "takes", "(I)Z"⟩, 20) := ⟨⟨by decide +kernel, by decide +kernel⟩, List.mem_of_getElem? (i := 744) (by decide +kernel), List.mem_of_getElem? (i := 899) (by decide +kernel), List.mem_of_getElem? (i := 900) (by decide +kernel)⟩
theorem lw_p33 : lw_okq (⟨"StiltWaysModel", "next", "()I"⟩, 20) := ⟨⟨by decide +kernel, by decide +kernel⟩, List.mem_of_getElem? (i := 744) (by decide +kernel), List.mem_of_getElem? (i := 903) (by decide +kernel), List.mem_of_getElem? (i := 904) (by decide +kernel)⟩
theorem lw_p34 : lw_okq (⟨"StiltWaysModel", "number", "(IIZ)V"⟩, 20) := ⟨⟨by decide +kernel, by decide +kernel⟩, List.mem_of_getElem? (i := 744) (by decide +kernel), List.mem_of_getElem? (i := 907) (by decide +kernel), List.mem_of_getElem? (i := 908) (by decide +kernel)⟩
theorem lw_p35 : lw_okq (⟨"StiltWaysModel", "cannot", "(I)V"⟩, 20) := ⟨⟨by decide +kernel, by decide +kernel⟩, List.mem_of_getElem? (i := 744) (by decide +kernel), List.mem_of_getElem? (i := 913) (by decide +kernel), List.mem_of_getElem? (i := 914) (by decide +kernel)⟩
theorem lw_p36 : lw_okq (⟨"StiltWaysModel", "fails", "()I"⟩, 20) := ⟨⟨by decide +kernel, by decide +kernel⟩, List.mem_of_getElem? (i := 744) (by decide +kernel), List.mem_of_getElem? (i := 917) (by decide +kernel), List.mem_of_getElem? (i := 918) (by decide +kernel)⟩
theorem lw_p37 : lw_okq (⟨"StiltWaysModel", "letter", "(I)I"⟩, 20) := ⟨⟨by decide +kernel, by decide +kernel⟩, List.mem_of_getElem? (i := 744) (by decide +kernel), List.mem_of_getElem? (i := 925) (by decide +kernel), List.mem_of_getElem? (i := 926) (by decide +kernel)⟩
theorem lw_p38 : lw_okq (⟨"StiltWaysModel", "waterBy", "(III)I"⟩, 20) := ⟨⟨by decide +kernel, by decide +kernel⟩, List.mem_of_getElem? (i := 744) (by decide +kernel), List.mem_of_getElem? (i := 938) (by decide +kernel), List.mem_of_getElem? (i := 939) (by decide +kernel)⟩
theorem lw_p39 : lw_okq (⟨"StiltWaysModel", "does", "(III)Z"⟩, 20) := ⟨⟨by decide +kernel, by decide +kernel⟩, List.mem_of_getElem? (i := 744) (by decide +kernel), List.mem_of_getElem? (i := 946) (by decide +kernel), List.mem_of_getElem? (i := 947) (by decide +kernel)⟩
theorem lw_p40 : lw_okq (⟨"StiltWaysModel", "would", "(IIII)Z"⟩, 20) := ⟨⟨by decide +kernel, by decide +kernel⟩, List.mem_of_getElem? (i := 744) (by decide +kernel), List.mem_of_getElem? (i := 950) (by decide +kernel), List.mem_of_getElem? (i := 951) (by decide +kernel)⟩
theorem lw_p41 : lw_okq (⟨"StiltWaysModel", "standsBy", "(IIII)Z"⟩, 20) := ⟨⟨by decide +kernel, by decide +kernel⟩, List.mem_of_getElem? (i := 744) (by decide +kernel), List.mem_of_getElem? (i := 954) (by decide +kernel), List.mem_of_getElem? (i := 955) (by decide +kernel)⟩
theorem lw_p42 : lw_okq (⟨"StiltWaysModel", "reaches", "(II)Z"⟩, 20) := ⟨⟨by decide +kernel, by decide +kernel⟩, List.mem_of_getElem? (i := 744) (by decide +kernel), List.mem_of_getElem? (i := 958) (by decide +kernel), List.mem_of_getElem? (i := 959) (by decide +kernel)⟩
theorem lw_p43 : lw_okq (⟨"StiltWaysModel", "go", "(III)V"⟩, 20) := ⟨⟨by decide +kernel, by decide +kernel⟩, List.mem_of_getElem? (i := 744) (by decide +kernel), List.mem_of_getElem? (i := 979) (by decide +kernel), List.mem_of_getElem? (i := 980) (by decide +kernel)⟩
theorem lw_p44 : lw_okq (⟨"StiltWaysModel", "lengthWith", "(II)I"⟩, 20) := ⟨⟨by decide +kernel, by decide +kernel⟩, List.mem_of_getElem? (i := 744) (by decide +kernel), List.mem_of_getElem? (i := 986) (by decide +kernel), List.mem_of_getElem? (i := 987) (by decide +kernel)⟩
theorem lw_p45 : lw_okq (⟨"StiltWaysModel", "postOf", "(I)I"⟩, 20) := ⟨⟨by decide +kernel, by decide +kernel⟩, List.mem_of_getElem? (i := 744) (by decide +kernel), List.mem_of_getElem? (i := 990) (by decide +kernel), List.mem_of_getElem? (i := 991) (by decide +kernel)⟩
theorem lw_p46 : lw_okq (⟨"StiltWaysModel", "arrives", "(IIII)V"⟩, 20) := ⟨⟨by decide +kernel, by decide +kernel⟩, List.mem_of_getElem? (i := 744) (by decide +kernel), List.mem_of_getElem? (i := 994) (by decide +kernel), List.mem_of_getElem? (i := 995) (by decide +kernel)⟩
theorem lw_p47 : lw_okq (⟨"StiltWaysModel", "look", "(II)V"⟩, 20) := ⟨⟨by decide +kernel, by decide +kernel⟩, List.mem_of_getElem? (i := 744) (by decide +kernel), List.mem_of_getElem? (i := 998) (by decide +kernel), List.mem_of_getElem? (i := 999) (by decide +kernel)⟩
def lw_privs_3 : List (MethodName × Nat) := [(⟨"StiltWaysModel", "takes", "(I)Z"⟩, 20), (⟨"StiltWaysModel", "next", "()I"⟩, 20), (⟨"StiltWaysModel", "number", "(IIZ)V"⟩, 20), (⟨"StiltWaysModel", "cannot", "(I)V"⟩, 20), (⟨"StiltWaysModel", "fails", "()I"⟩, 20), (⟨"StiltWaysModel", "letter", "(I)I"⟩, 20), (⟨"StiltWaysModel", "waterBy", "(III)I"⟩, 20), (⟨"StiltWaysModel", "does", "(III)Z"⟩, 20), (⟨"StiltWaysModel", "would", "(IIII)Z"⟩, 20), (⟨"StiltWaysModel", "standsBy", "(IIII)Z"⟩, 20), (⟨"StiltWaysModel", "reaches", "(II)Z"⟩, 20), (⟨"StiltWaysModel", "go", "(III)V"⟩, 20), (⟨"StiltWaysModel", "lengthWith", "(II)I"⟩, 20), (⟨"StiltWaysModel", "postOf", "(I)I"⟩, 20), (⟨"StiltWaysModel", "arrives", "(IIII)V"⟩, 20), (⟨"StiltWaysModel", "look", "(II)V"⟩, 20)]
theorem lw_r3 : ∀ q ∈ lw_privs_3, lw_okq q := List.forall_mem_cons.mpr ⟨lw_p32, List.forall_mem_cons.mpr ⟨lw_p33, List.forall_mem_cons.mpr ⟨lw_p34, List.forall_mem_cons.mpr ⟨lw_p35, List.forall_mem_cons.mpr ⟨lw_p36, List.forall_mem_cons.mpr ⟨lw_p37, List.forall_mem_cons.mpr ⟨lw_p38, List.forall_mem_cons.mpr ⟨lw_p39, List.forall_mem_cons.mpr ⟨lw_p40, List.forall_mem_cons.mpr ⟨lw_p41, List.forall_mem_cons.mpr ⟨lw_p42, List.forall_mem_cons.mpr ⟨lw_p43, List.forall_mem_cons.mpr ⟨lw_p44, List.forall_mem_cons.mpr ⟨lw_p45, List.forall_mem_cons.mpr ⟨lw_p46, List.forall_mem_cons.mpr ⟨lw_p47, fun _ h => absurd h List.not_mem_nil⟩⟩⟩⟩⟩⟩⟩⟩⟩⟩⟩⟩⟩⟩⟩⟩
theorem lw_p48 : lw_okq (⟨"StiltWaysModel", "leaves", "(IIIII)V"⟩, 20) := ⟨⟨by decide +kernel, by decide +kernel⟩, List.mem_of_getElem? (i := 744) (by decide +kernel), List.mem_of_getElem? (i := 1005) (by decide +kernel), List.mem_of_getElem? (i := 1006) (by decide +kernel)⟩
theorem lw_p49 : lw_okq (⟨"StiltWaysModel", "lasts", "(IIIII)Z"⟩, 20) := ⟨⟨by decide +kernel, by decide +kernel⟩, List.mem_of_getElem? (i := 744) (by decide +kernel), List.mem_of_getElem? (i := 1009) (by decide +kernel), List.mem_of_getElem? (i := 1010) (by decide +kernel)⟩
theorem lw_p50 : lw_okq (⟨"StiltWaysModel", "isSet", "(I)Z"⟩, 20) := ⟨⟨by decide +kernel, by decide +kernel⟩, List.mem_of_getElem? (i := 744) (by decide +kernel), List.mem_of_getElem? (i := 1017) (by decide +kernel), List.mem_of_getElem? (i := 1018) (by decide +kernel)⟩
theorem lw_p51 : lw_okq (⟨"StiltWaysModel", "fewest", "()V"⟩, 20) := ⟨⟨by decide +kernel, by decide +kernel⟩, List.mem_of_getElem? (i := 744) (by decide +kernel), List.mem_of_getElem? (i := 1033) (by decide +kernel), List.mem_of_getElem? (i := 1034) (by decide +kernel)⟩
theorem lw_p52 : lw_okq (⟨"StiltWaysModel", "doesFor", "(I)I"⟩, 20) := ⟨⟨by decide +kernel, by decide +kernel⟩, List.mem_of_getElem? (i := 744) (by decide +kernel), List.mem_of_getElem? (i := 1037) (by decide +kernel), List.mem_of_getElem? (i := 1038) (by decide +kernel)⟩
theorem lw_p53 : lw_okq (⟨"StiltWaysModel", "needy", "()I"⟩, 20) := ⟨⟨by decide +kernel, by decide +kernel⟩, List.mem_of_getElem? (i := 744) (by decide +kernel), List.mem_of_getElem? (i := 1041) (by decide +kernel), List.mem_of_getElem? (i := 1042) (by decide +kernel)⟩
theorem lw_p54 : lw_okq (⟨"StiltWaysModel", "dry", "(III)I"⟩, 20) := ⟨⟨by decide +kernel, by decide +kernel⟩, List.mem_of_getElem? (i := 744) (by decide +kernel), List.mem_of_getElem? (i := 1060) (by decide +kernel), List.mem_of_getElem? (i := 1061) (by decide +kernel)⟩
theorem lw_p55 : lw_okq (⟨"StiltWaysModel", "isDry", "(III)Z"⟩, 20) := ⟨⟨by decide +kernel, by decide +kernel⟩, List.mem_of_getElem? (i := 744) (by decide +kernel), List.mem_of_getElem? (i := 1064) (by decide +kernel), List.mem_of_getElem? (i := 1065) (by decide +kernel)⟩
theorem lw_p56 : lw_okq (⟨"StiltWaysModel", "share", "(I)V"⟩, 20) := ⟨⟨by decide +kernel, by decide +kernel⟩, List.mem_of_getElem? (i := 744) (by decide +kernel), List.mem_of_getElem? (i := 1068) (by decide +kernel), List.mem_of_getElem? (i := 1069) (by decide +kernel)⟩
def lw_privs_4 : List (MethodName × Nat) := [(⟨"StiltWaysModel", "leaves", "(IIIII)V"⟩, 20), (⟨"StiltWaysModel", "lasts", "(IIIII)Z"⟩, 20), (⟨"StiltWaysModel", "isSet", "(I)Z"⟩, 20), (⟨"StiltWaysModel", "fewest", "()V"⟩, 20), (⟨"StiltWaysModel", "doesFor", "(I)I"⟩, 20), (⟨"StiltWaysModel", "needy", "()I"⟩, 20), (⟨"StiltWaysModel", "dry", "(III)I"⟩, 20), (⟨"StiltWaysModel", "isDry", "(III)Z"⟩, 20), (⟨"StiltWaysModel", "share", "(I)V"⟩, 20)]
theorem lw_r4 : ∀ q ∈ lw_privs_4, lw_okq q := List.forall_mem_cons.mpr ⟨lw_p48, List.forall_mem_cons.mpr ⟨lw_p49, List.forall_mem_cons.mpr ⟨lw_p50, List.forall_mem_cons.mpr ⟨lw_p51, List.forall_mem_cons.mpr ⟨lw_p52, List.forall_mem_cons.mpr ⟨lw_p53, List.forall_mem_cons.mpr ⟨lw_p54, List.forall_mem_cons.mpr ⟨lw_p55, List.forall_mem_cons.mpr ⟨lw_p56, fun _ h => absurd h List.not_mem_nil⟩⟩⟩⟩⟩⟩⟩⟩⟩
def lw_privs : List (MethodName × Nat) := lw_privs_1 ++ (lw_privs_2 ++ (lw_privs_3 ++ (lw_privs_4)))
def lw_tbl : List Cond := k2_sels lw_privs ++ tables_1
theorem lw_privs_ok : ∀ q ∈ lw_privs, lw_okq q := by
  show ∀ q ∈ lw_privs_1 ++ (lw_privs_2 ++ (lw_privs_3 ++ (lw_privs_4))), lw_okq q
  exact List.forall_mem_append.mpr ⟨lw_r1, List.forall_mem_append.mpr ⟨lw_r2, List.forall_mem_append.mpr ⟨lw_r3, lw_r4⟩⟩⟩

def RX0 : String := "StiltWays$Exchange"
def TX0 : u_T := fun k => match k with
  | 0 => ("StiltWays$Exchange", "people", "I", false)
  | 1 => ("StiltWays$Exchange", "drowning", "[I", true)
  | _ => ("StiltWays$Exchange", "fewest", "[I", true)
def tyX0 : Nat → FieldType := fun k => match k with
  | 0 => .int
  | 1 => .array .int
  | _ => .array .int
abbrev wsX00 : List Cond := u_ws RX0 TX0 3
theorem nmX0 : ∀ a, a < 3 → ∀ b, b < 3 → a ≠ b → (TX0 a).2.1 ≠ (TX0 b).2.1 := by decide +kernel
theorem tyX0_ok : ∀ k, k < 3 → parseFieldDescriptor (TX0 k).2.2.1 = some (tyX0 k) := by decide +kernel
abbrev cX0_init : ByteArray := prog_2_method_1_code
def yX0_init : MethodName := ⟨RX0, "<init>", "()V"⟩
abbrev cX0_weigh : ByteArray := prog_2_method_2_code
def yX0_weigh : MethodName := ⟨RX0, "weigh", "(LStiltWays$Lagoon;I)V"⟩
abbrev cX0_drownedBehind : ByteArray := prog_2_method_3_code
def yX0_drownedBehind : MethodName := ⟨RX0, "drownedBehind", "(II)I"⟩
abbrev cX0_firstBest : ByteArray := prog_2_method_4_code
def yX0_firstBest : MethodName := ⟨RX0, "firstBest", "(I)I"⟩
abbrev cX0_drownedAsTheyAre : ByteArray := prog_2_method_5_code
def yX0_drownedAsTheyAre : MethodName := ⟨RX0, "drownedAsTheyAre", "()I"⟩
abbrev cX0_fewestDrowned : ByteArray := prog_2_method_6_code
def yX0_fewestDrowned : MethodName := ⟨RX0, "fewestDrowned", "()I"⟩
abbrev cX0_lengthGivenTo : ByteArray := prog_2_method_7_code
def yX0_lengthGivenTo : MethodName := ⟨RX0, "lengthGivenTo", "(I)I"⟩
def RX1 : String := "StiltWays$Lagoon"
def TX1 : u_T := fun k => match k with
  | 0 => ("StiltWays$Lagoon", "places", "I", false)
  | 1 => ("StiltWays$Lagoon", "depths", "[I", true)
  | 2 => ("StiltWays$Lagoon", "splices", "[I", true)
  | 3 => ("StiltWays$Lagoon", "silts", "[I", true)
  | 4 => ("StiltWays$Lagoon", "minutes", "[[I", true)
  | 5 => ("StiltWays$Lagoon", "tideAt", "[I", true)
  | 6 => ("StiltWays$Lagoon", "floodTold", "I", false)
  | 7 => ("StiltWays$Lagoon", "reach", "I", false)
  | 8 => ("StiltWays$Lagoon", "people", "I", false)
  | 9 => ("StiltWays$Lagoon", "kinds", "[I", true)
  | 10 => ("StiltWays$Lagoon", "told", "[I", true)
  | 11 => ("StiltWays$Lagoon", "homes", "[I", true)
  | 12 => ("StiltWays$Lagoon", "needs", "I", false)
  | 13 => ("StiltWays$Lagoon", "needers", "[I", true)
  | 14 => ("StiltWays$Lagoon", "needPlaces", "[I", true)
  | 15 => ("StiltWays$Lagoon", "needHours", "[I", true)
  | _ => ("StiltWays$Lagoon", "yearsGone", "I", false)
def tyX1 : Nat → FieldType := fun k => match k with
  | 0 => .int
  | 1 => .array .int
  | 2 => .array .int
  | 3 => .array .int
  | 4 => .array (.array .int)
  | 5 => .array .int
  | 6 => .int
  | 7 => .int
  | 8 => .int
  | 9 => .array .int
  | 10 => .array .int
  | 11 => .array .int
  | 12 => .int
  | 13 => .array .int
  | 14 => .array .int
  | 15 => .array .int
  | _ => .int
abbrev wsX10 : List Cond := u_ws RX1 TX1 17
theorem nmX1 : ∀ a, a < 17 → ∀ b, b < 17 → a ≠ b → (TX1 a).2.1 ≠ (TX1 b).2.1 := by decide +kernel
theorem tyX1_ok : ∀ k, k < 17 → parseFieldDescriptor (TX1 k).2.2.1 = some (tyX1 k) := by decide +kernel
abbrev cX1_init : ByteArray := prog_3_method_1_code
def yX1_init : MethodName := ⟨RX1, "<init>", "()V"⟩
abbrev cX1_become : ByteArray := prog_3_method_2_code
def yX1_become : MethodName := ⟨RX1, "become", "(LStiltWays$Lagoon;)V"⟩
abbrev cX1_hasPlace : ByteArray := prog_3_method_3_code
def yX1_hasPlace : MethodName := ⟨RX1, "hasPlace", "(I)Z"⟩
abbrev cX1_hasPerson : ByteArray := prog_3_method_4_code
def yX1_hasPerson : MethodName := ⟨RX1, "hasPerson", "(I)Z"⟩
abbrev cX1_hasPeople : ByteArray := prog_3_method_5_code
def yX1_hasPeople : MethodName := ⟨RX1, "hasPeople", "(I)Z"⟩
abbrev cX1_addPlace : ByteArray := prog_3_method_6_code
def yX1_addPlace : MethodName := ⟨RX1, "addPlace", "(II)I"⟩
abbrev cX1_addPerson : ByteArray := prog_3_method_7_code
def yX1_addPerson : MethodName := ⟨RX1, "addPerson", "(III)I"⟩
abbrev cX1_addNeed : ByteArray := prog_3_method_8_code
def yX1_addNeed : MethodName := ⟨RX1, "addNeed", "(III)I"⟩
abbrev cX1_join : ByteArray := prog_3_method_9_code
def yX1_join : MethodName := ⟨RX1, "join", "(III)V"⟩
abbrev cX1_countPaths : ByteArray := prog_3_method_10_code
def yX1_countPaths : MethodName := ⟨RX1, "countPaths", "()I"⟩
abbrev cX1_postsBeside : ByteArray := prog_3_method_11_code
def yX1_postsBeside : MethodName := ⟨RX1, "postsBeside", "(I)I"⟩
abbrev cX1_settle : ByteArray := prog_3_method_12_code
def yX1_settle : MethodName := ⟨RX1, "settle", "(LStiltWays$Tape;)V"⟩
abbrev cX1_joinAll : ByteArray := prog_3_method_13_code
def yX1_joinAll : MethodName := ⟨RX1, "joinAll", "(LStiltWays$Tape;)V"⟩
abbrev cX1_age : ByteArray := prog_3_method_14_code
def yX1_age : MethodName := ⟨RX1, "age", "(I)V"⟩
abbrev cX1_depthIn : ByteArray := prog_3_method_15_code
def yX1_depthIn : MethodName := ⟨RX1, "depthIn", "(II)I"⟩
abbrev cX1_waterAt : ByteArray := prog_3_method_16_code
def yX1_waterAt : MethodName := ⟨RX1, "waterAt", "(II)I"⟩
abbrev cX1_waterOver : ByteArray := prog_3_method_17_code
def yX1_waterOver : MethodName := ⟨RX1, "waterOver", "(III)I"⟩
abbrev cX1_lengthOf : ByteArray := prog_3_method_18_code
def yX1_lengthOf : MethodName := ⟨RX1, "lengthOf", "(I)I"⟩
abbrev cX1_lengthByKind : ByteArray := prog_3_method_19_code
def yX1_lengthByKind : MethodName := ⟨RX1, "lengthByKind", "(III)I"⟩
abbrev cX1_fits : ByteArray := prog_3_method_20_code
def yX1_fits : MethodName := ⟨RX1, "fits", "(II)Z"⟩
abbrev cX1_bears : ByteArray := prog_3_method_21_code
def yX1_bears : MethodName := ⟨RX1, "bears", "(IIII)Z"⟩
abbrev cX1_standsAt : ByteArray := prog_3_method_22_code
def yX1_standsAt : MethodName := ⟨RX1, "standsAt", "(III)Z"⟩
abbrev cX1_standsAtHomeIn : ByteArray := prog_3_method_23_code
def yX1_standsAtHomeIn : MethodName := ⟨RX1, "standsAtHomeIn", "(III)Z"⟩
abbrev cX1_isMet : ByteArray := prog_3_method_24_code
def yX1_isMet : MethodName := ⟨RX1, "isMet", "(II)Z"⟩
abbrev cX1_drownsWith : ByteArray := prog_3_method_25_code
def yX1_drownsWith : MethodName := ⟨RX1, "drownsWith", "(III)Z"⟩
abbrev cX1_countStanding : ByteArray := prog_3_method_26_code
def yX1_countStanding : MethodName := ⟨RX1, "countStanding", "(II)I"⟩
abbrev cX1_shortestOf : ByteArray := prog_3_method_27_code
def yX1_shortestOf : MethodName := ⟨RX1, "shortestOf", "(I)I"⟩
def RX2 : String := "StiltWays$Sheet"
def TX2 : u_T := fun k => match k with
  | 0 => ("StiltWays$Sheet", "there", "Z", false)
  | 1 => ("StiltWays$Sheet", "lane", "I", false)
  | 2 => ("StiltWays$Sheet", "length", "I", false)
  | _ => ("StiltWays$Sheet", "items", "[I", true)
def tyX2 : Nat → FieldType := fun k => match k with
  | 0 => .boolean
  | 1 => .int
  | 2 => .int
  | _ => .array .int
abbrev wsX20 : List Cond := u_ws RX2 TX2 4
theorem nmX2 : ∀ a, a < 4 → ∀ b, b < 4 → a ≠ b → (TX2 a).2.1 ≠ (TX2 b).2.1 := by decide +kernel
theorem tyX2_ok : ∀ k, k < 4 → parseFieldDescriptor (TX2 k).2.2.1 = some (tyX2 k) := by decide +kernel
abbrev cX2_init : ByteArray := prog_4_method_1_code
def yX2_init : MethodName := ⟨RX2, "<init>", "()V"⟩
abbrev cX2_hold : ByteArray := prog_4_method_2_code
def yX2_hold : MethodName := ⟨RX2, "hold", "(II)V"⟩
abbrev cX2_put : ByteArray := prog_4_method_3_code
def yX2_put : MethodName := ⟨RX2, "put", "(II)V"⟩
abbrev cX2_hasRange : ByteArray := prog_4_method_4_code
def yX2_hasRange : MethodName := ⟨RX2, "hasRange", "(II)Z"⟩
def RX3 : String := "StiltWays$Tape"
def TX3 : u_T := fun k => match k with
  | 0 => ("StiltWays$Tape", "length", "I", false)
  | 1 => ("StiltWays$Tape", "signs", "[I", true)
  | 2 => ("StiltWays$Tape", "next", "I", false)
  | 3 => ("StiltWays$Tape", "fault", "I", false)
  | 4 => ("StiltWays$Tape", "postsTold", "I", false)
  | 5 => ("StiltWays$Tape", "rows", "I", false)
  | 6 => ("StiltWays$Tape", "firsts", "[I", true)
  | 7 => ("StiltWays$Tape", "seconds", "[I", true)
  | _ => ("StiltWays$Tape", "lasts", "[I", true)
def tyX3 : Nat → FieldType := fun k => match k with
  | 0 => .int
  | 1 => .array .int
  | 2 => .int
  | 3 => .int
  | 4 => .int
  | 5 => .int
  | 6 => .array .int
  | 7 => .array .int
  | _ => .array .int
abbrev wsX30 : List Cond := u_ws RX3 TX3 9
theorem nmX3 : ∀ a, a < 9 → ∀ b, b < 9 → a ≠ b → (TX3 a).2.1 ≠ (TX3 b).2.1 := by decide +kernel
theorem tyX3_ok : ∀ k, k < 9 → parseFieldDescriptor (TX3 k).2.2.1 = some (tyX3 k) := by decide +kernel
abbrev cX3_init : ByteArray := prog_5_method_1_code
def yX3_init : MethodName := ⟨RX3, "<init>", "()V"⟩
abbrev cX3_append : ByteArray := prog_5_method_2_code
def yX3_append : MethodName := ⟨RX3, "append", "(I)V"⟩
abbrev cX3_readPlaces : ByteArray := prog_5_method_3_code
def yX3_readPlaces : MethodName := ⟨RX3, "readPlaces", "()I"⟩
abbrev cX3_readPaths : ByteArray := prog_5_method_4_code
def yX3_readPaths : MethodName := ⟨RX3, "readPaths", "(I)I"⟩
abbrev cX3_begin : ByteArray := prog_5_method_5_code
def yX3_begin : MethodName := ⟨RX3, "begin", "()V"⟩
abbrev cX3_outcome : ByteArray := prog_5_method_6_code
def yX3_outcome : MethodName := ⟨RX3, "outcome", "()I"⟩
abbrev cX3_readPlace : ByteArray := prog_5_method_7_code
def yX3_readPlace : MethodName := ⟨RX3, "readPlace", "()V"⟩
abbrev cX3_readDepth : ByteArray := prog_5_method_8_code
def yX3_readDepth : MethodName := ⟨RX3, "readDepth", "()I"⟩
abbrev cX3_readPath : ByteArray := prog_5_method_9_code
def yX3_readPath : MethodName := ⟨RX3, "readPath", "(I)V"⟩
abbrev cX3_goesOn : ByteArray := prog_5_method_10_code
def yX3_goesOn : MethodName := ⟨RX3, "goesOn", "(C)Z"⟩
abbrev cX3_peek : ByteArray := prog_5_method_11_code
def yX3_peek : MethodName := ⟨RX3, "peek", "()I"⟩
abbrev cX3_readLetter : ByteArray := prog_5_method_12_code
def yX3_readLetter : MethodName := ⟨RX3, "readLetter", "(II)I"⟩
abbrev cX3_readNumber : ByteArray := prog_5_method_13_code
def yX3_readNumber : MethodName := ⟨RX3, "readNumber", "(II)I"⟩
abbrev cX3_faultAt : ByteArray := prog_5_method_14_code
def yX3_faultAt : MethodName := ⟨RX3, "faultAt", "(I)V"⟩
def RX4 : String := "StiltWays$Village"
def TX4 : u_T := fun k => match k with
  | 0 => ("StiltWays$Village", "needy", "I", false)
  | 1 => ("StiltWays$Village", "suits", "[I", true)
  | _ => ("StiltWays$Village", "fewest", "[[I", true)
def tyX4 : Nat → FieldType := fun k => match k with
  | 0 => .int
  | 1 => .array .int
  | _ => .array (.array .int)
abbrev wsX40 : List Cond := u_ws RX4 TX4 3
theorem nmX4 : ∀ a, a < 3 → ∀ b, b < 3 → a ≠ b → (TX4 a).2.1 ≠ (TX4 b).2.1 := by decide +kernel
theorem tyX4_ok : ∀ k, k < 3 → parseFieldDescriptor (TX4 k).2.2.1 = some (tyX4 k) := by decide +kernel
abbrev cX4_init : ByteArray := prog_6_method_1_code
def yX4_init : MethodName := ⟨RX4, "<init>", "()V"⟩
abbrev cX4_weigh : ByteArray := prog_6_method_2_code
def yX4_weigh : MethodName := ⟨RX4, "weigh", "(LStiltWays$Lagoon;)V"⟩
abbrev cX4_suitedBy : ByteArray := prog_6_method_3_code
def yX4_suitedBy : MethodName := ⟨RX4, "suitedBy", "(LStiltWays$Lagoon;I)I"⟩
abbrev cX4_weighWith : ByteArray := prog_6_method_4_code
def yX4_weighWith : MethodName := ⟨RX4, "weighWith", "(I)V"⟩
abbrev cX4_fewestLengths : ByteArray := prog_6_method_5_code
def yX4_fewestLengths : MethodName := ⟨RX4, "fewestLengths", "()I"⟩
abbrev cX4_chosen : ByteArray := prog_6_method_6_code
def yX4_chosen : MethodName := ⟨RX4, "chosen", "(I)I"⟩
def RX5 : String := "StiltWays$Walk"
def TX5 : u_T := fun k => match k with
  | 0 => ("StiltWays$Walk", "places", "I", false)
  | 1 => ("StiltWays$Walk", "home", "I", false)
  | 2 => ("StiltWays$Walk", "start", "I", false)
  | 3 => ("StiltWays$Walk", "posts", "I", false)
  | 4 => ("StiltWays$Walk", "postAt", "[I", true)
  | 5 => ("StiltWays$Walk", "longer", "[I", true)
  | 6 => ("StiltWays$Walk", "footing", "[[I", true)
  | 7 => ("StiltWays$Walk", "at", "[[I", true)
  | 8 => ("StiltWays$Walk", "came", "[I", true)
  | 9 => ("StiltWays$Walk", "edges", "I", false)
  | 10 => ("StiltWays$Walk", "ends", "[I", true)
  | 11 => ("StiltWays$Walk", "otherEnds", "[I", true)
  | _ => ("StiltWays$Walk", "paces", "[I", true)
def tyX5 : Nat → FieldType := fun k => match k with
  | 0 => .int
  | 1 => .int
  | 2 => .int
  | 3 => .int
  | 4 => .array .int
  | 5 => .array .int
  | 6 => .array (.array .int)
  | 7 => .array (.array .int)
  | 8 => .array .int
  | 9 => .int
  | 10 => .array .int
  | 11 => .array .int
  | _ => .array .int
abbrev wsX50 : List Cond := u_ws RX5 TX5 13
theorem nmX5 : ∀ a, a < 13 → ∀ b, b < 13 → a ≠ b → (TX5 a).2.1 ≠ (TX5 b).2.1 := by decide +kernel
theorem tyX5_ok : ∀ k, k < 13 → parseFieldDescriptor (TX5 k).2.2.1 = some (tyX5 k) := by decide +kernel
abbrev cX5_init : ByteArray := prog_7_method_1_code
def yX5_init : MethodName := ⟨RX5, "<init>", "()V"⟩
abbrev cX5_prepare : ByteArray := prog_7_method_2_code
def yX5_prepare : MethodName := ⟨RX5, "prepare", "(LStiltWays$Lagoon;II)V"⟩
abbrev cX5_listPosts : ByteArray := prog_7_method_3_code
def yX5_listPosts : MethodName := ⟨RX5, "listPosts", "(LStiltWays$Lagoon;)V"⟩
abbrev cX5_listEdges : ByteArray := prog_7_method_4_code
def yX5_listEdges : MethodName := ⟨RX5, "listEdges", "(LStiltWays$Lagoon;)V"⟩
abbrev cX5_footingIn : ByteArray := prog_7_method_5_code
def yX5_footingIn : MethodName := ⟨RX5, "footingIn", "(LStiltWays$Lagoon;II)I"⟩
abbrev cX5_soonest : ByteArray := prog_7_method_6_code
def yX5_soonest : MethodName := ⟨RX5, "soonest", "(I)I"⟩
abbrev cX5_lightest : ByteArray := prog_7_method_7_code
def yX5_lightest : MethodName := ⟨RX5, "lightest", "(I)I"⟩
abbrev cX5_fewestTaken : ByteArray := prog_7_method_8_code
def yX5_fewestTaken : MethodName := ⟨RX5, "fewestTaken", "(I)I"⟩
abbrev cX5_step : ByteArray := prog_7_method_9_code
def yX5_step : MethodName := ⟨RX5, "step", "(I)Z"⟩
abbrev cX5_hourOf : ByteArray := prog_7_method_10_code
def yX5_hourOf : MethodName := ⟨RX5, "hourOf", "(I)I"⟩
abbrev cX5_arrive : ByteArray := prog_7_method_11_code
def yX5_arrive : MethodName := ⟨RX5, "arrive", "(II)V"⟩
abbrev cX5_walkAlong : ByteArray := prog_7_method_12_code
def yX5_walkAlong : MethodName := ⟨RX5, "walkAlong", "(IIII)V"⟩
abbrev cX5_withSplice : ByteArray := prog_7_method_13_code
def yX5_withSplice : MethodName := ⟨RX5, "withSplice", "(II)I"⟩
def RX6 : String := "StiltWays"
def TX6 : u_T := fun k => match k with
  | 0 => ("StiltWays", "now", "LStiltWays$Lagoon;", true)
  | 1 => ("StiltWays", "kept", "LStiltWays$Lagoon;", true)
  | 2 => ("StiltWays", "keeps", "Z", false)
  | 3 => ("StiltWays", "tape", "LStiltWays$Tape;", true)
  | 4 => ("StiltWays", "walk", "LStiltWays$Walk;", true)
  | 5 => ("StiltWays", "village", "LStiltWays$Village;", true)
  | 6 => ("StiltWays", "exchange", "LStiltWays$Exchange;", true)
  | _ => ("StiltWays", "sheets", "[LStiltWays$Sheet;", true)
def tyX6 : Nat → FieldType := fun k => match k with
  | 0 => .object "StiltWays$Lagoon"
  | 1 => .object "StiltWays$Lagoon"
  | 2 => .boolean
  | 3 => .object "StiltWays$Tape"
  | 4 => .object "StiltWays$Walk"
  | 5 => .object "StiltWays$Village"
  | 6 => .object "StiltWays$Exchange"
  | _ => .array (.object "StiltWays$Sheet")
abbrev wsX60 : List Cond := u_ws RX6 TX6 8
theorem nmX6 : ∀ a, a < 8 → ∀ b, b < 8 → a ≠ b → (TX6 a).2.1 ≠ (TX6 b).2.1 := by decide +kernel
theorem tyX6_ok : ∀ k, k < 8 → parseFieldDescriptor (TX6 k).2.2.1 = some (tyX6 k) := by decide +kernel
abbrev cX6_init : ByteArray := prog_1_method_1_code
def yX6_init : MethodName := ⟨RX6, "<init>", "()V"⟩
abbrev cX6_place : ByteArray := prog_1_method_2_code
def yX6_place : MethodName := ⟨RX6, "place", "(I)I"⟩
abbrev cX6_make : ByteArray := prog_1_method_3_code
def yX6_make : MethodName := ⟨RX6, "make", "(III)I"⟩
abbrev cX6_makeSplices : ByteArray := prog_1_method_4_code
def yX6_makeSplices : MethodName := ⟨RX6, "makeSplices", "(II)I"⟩
abbrev cX6_path : ByteArray := prog_1_method_5_code
def yX6_path : MethodName := ⟨RX6, "path", "(III)I"⟩
abbrev cX6_tide : ByteArray := prog_1_method_6_code
def yX6_tide : MethodName := ⟨RX6, "tide", "(II)I"⟩
abbrev cX6_set : ByteArray := prog_1_method_7_code
def yX6_set : MethodName := ⟨RX6, "set", "(II)I"⟩
abbrev cX6_person : ByteArray := prog_1_method_8_code
def yX6_person : MethodName := ⟨RX6, "person", "(III)I"⟩
abbrev cX6_of : ByteArray := prog_1_method_9_code
def yX6_of : MethodName := ⟨RX6, "of", "(II)I"⟩
abbrev cX6_type : ByteArray := prog_1_method_10_code
def yX6_type : MethodName := ⟨RX6, "type", "(JI)I"⟩
abbrev cX6_lagoon : ByteArray := prog_1_method_11_code
def yX6_lagoon : MethodName := ⟨RX6, "lagoon", "()I"⟩
abbrev cX6_paths : ByteArray := prog_1_method_12_code
def yX6_paths : MethodName := ⟨RX6, "paths", "()I"⟩
abbrev cX6_count : ByteArray := prog_1_method_13_code
def yX6_count : MethodName := ⟨RX6, "count", "(I)I"⟩
abbrev cX6_water : ByteArray := prog_1_method_14_code
def yX6_water : MethodName := ⟨RX6, "water", "(II)I"⟩
abbrev cX6_stands : ByteArray := prog_1_method_15_code
def yX6_stands : MethodName := ⟨RX6, "stands", "(III)I"⟩
abbrev cX6_hours : ByteArray := prog_1_method_16_code
def yX6_hours : MethodName := ⟨RX6, "hours", "(II)I"⟩
abbrev cX6_years : ByteArray := prog_1_method_17_code
def yX6_years : MethodName := ⟨RX6, "years", "(I)I"⟩
abbrev cX6_way : ByteArray := prog_1_method_18_code
def yX6_way : MethodName := ⟨RX6, "way", "(IIII)I"⟩
abbrev cX6_race : ByteArray := prog_1_method_19_code
def yX6_race : MethodName := ⟨RX6, "race", "(IIII)I"⟩
abbrev cX6_need : ByteArray := prog_1_method_20_code
def yX6_need : MethodName := ⟨RX6, "need", "(III)I"⟩
abbrev cX6_met : ByteArray := prog_1_method_21_code
def yX6_met : MethodName := ⟨RX6, "met", "()I"⟩
abbrev cX6_lengths : ByteArray := prog_1_method_22_code
def yX6_lengths : MethodName := ⟨RX6, "lengths", "(I)I"⟩
abbrev cX6_meeting : ByteArray := prog_1_method_23_code
def yX6_meeting : MethodName := ⟨RX6, "meeting", "(I)I"⟩
abbrev cX6_pairs : ByteArray := prog_1_method_24_code
def yX6_pairs : MethodName := ⟨RX6, "pairs", "(I)I"⟩
abbrev cX6_flood : ByteArray := prog_1_method_25_code
def yX6_flood : MethodName := ⟨RX6, "flood", "(II)I"⟩
abbrev cX6_carried : ByteArray := prog_1_method_26_code
def yX6_carried : MethodName := ⟨RX6, "carried", "(III)I"⟩
abbrev cX6_wrong : ByteArray := prog_1_method_27_code
def yX6_wrong : MethodName := ⟨RX6, "wrong", "(II)I"⟩
abbrev cX6_clear : ByteArray := prog_1_method_28_code
def yX6_clear : MethodName := ⟨RX6, "clear", "()I"⟩
abbrev cX6_image : ByteArray := prog_1_method_29_code
def yX6_image : MethodName := ⟨RX6, "image", "()I"⟩
abbrev cX6_restore : ByteArray := prog_1_method_30_code
def yX6_restore : MethodName := ⟨RX6, "restore", "()I"⟩
abbrev cX6_tides : ByteArray := prog_1_method_31_code
def yX6_tides : MethodName := ⟨RX6, "tides", "(II)I"⟩
abbrev cX6_sheet : ByteArray := prog_1_method_32_code
def yX6_sheet : MethodName := ⟨RX6, "sheet", "(III)I"⟩
abbrev cX6_drop : ByteArray := prog_1_method_33_code
def yX6_drop : MethodName := ⟨RX6, "drop", "(I)I"⟩
abbrev cX6_item : ByteArray := prog_1_method_34_code
def yX6_item : MethodName := ⟨RX6, "item", "(IIII)I"⟩
abbrev cX6_copy : ByteArray := prog_1_method_35_code
def yX6_copy : MethodName := ⟨RX6, "copy", "(IIIII)I"⟩
abbrev cX6_refusal : ByteArray := prog_1_method_36_code
def yX6_refusal : MethodName := ⟨RX6, "refusal", "(II)I"⟩
abbrev cX6_within : ByteArray := prog_1_method_37_code
def yX6_within : MethodName := ⟨RX6, "within", "(III)Z"⟩
abbrev cX6_isHour : ByteArray := prog_1_method_38_code
def yX6_isHour : MethodName := ⟨RX6, "isHour", "(I)Z"⟩
abbrev cX6_isMinute : ByteArray := prog_1_method_39_code
def yX6_isMinute : MethodName := ⟨RX6, "isMinute", "(I)Z"⟩
abbrev cX6_isSheet : ByteArray := prog_1_method_40_code
def yX6_isSheet : MethodName := ⟨RX6, "isSheet", "(I)Z"⟩
abbrev cX6_isLane : ByteArray := prog_1_method_41_code
def yX6_isLane : MethodName := ⟨RX6, "isLane", "(I)Z"⟩
abbrev cX6_holds : ByteArray := prog_1_method_42_code
def yX6_holds : MethodName := ⟨RX6, "holds", "(II)Z"⟩
abbrev cX6_byteOf : ByteArray := prog_1_method_43_code
def yX6_byteOf : MethodName := ⟨RX6, "byteOf", "(JI)I"⟩
abbrev cX6_changed : ByteArray := prog_1_method_44_code
def yX6_changed : MethodName := ⟨RX6, "changed", "([III)I"⟩
def RX7 : String := "StiltWaysModel"
def TX7 : u_T := fun k => match k with
  | 0 => ("StiltWaysModel", "z", "[I", true)
  | 1 => ("StiltWaysModel", "isKept", "Z", false)
  | 2 => ("StiltWaysModel", "tape", "[I", true)
  | 3 => ("StiltWaysModel", "taped", "I", false)
  | 4 => ("StiltWaysModel", "at", "I", false)
  | 5 => ("StiltWaysModel", "fault", "I", false)
  | 6 => ("StiltWaysModel", "found", "I", false)
  | 7 => ("StiltWaysModel", "told", "[I", true)
  | 8 => ("StiltWaysModel", "items", "[I", true)
  | 9 => ("StiltWaysModel", "lanes", "[I", true)
  | 10 => ("StiltWaysModel", "sizes", "[I", true)
  | 11 => ("StiltWaysModel", "moved", "[I", true)
  | 12 => ("StiltWaysModel", "is", "[Z", true)
  | 13 => ("StiltWaysModel", "comes", "[Z", true)
  | 14 => ("StiltWaysModel", "soon", "I", false)
  | 15 => ("StiltWaysModel", "light", "I", false)
  | 16 => ("StiltWaysModel", "more", "[I", true)
  | 17 => ("StiltWaysModel", "helps", "[I", true)
  | 18 => ("StiltWaysModel", "most", "[I", true)
  | _ => ("StiltWaysModel", "given", "[I", true)
def tyX7 : Nat → FieldType := fun k => match k with
  | 0 => .array .int
  | 1 => .boolean
  | 2 => .array .int
  | 3 => .int
  | 4 => .int
  | 5 => .int
  | 6 => .int
  | 7 => .array .int
  | 8 => .array .int
  | 9 => .array .int
  | 10 => .array .int
  | 11 => .array .int
  | 12 => .array .boolean
  | 13 => .array .boolean
  | 14 => .int
  | 15 => .int
  | 16 => .array .int
  | 17 => .array .int
  | 18 => .array .int
  | _ => .array .int
abbrev wsX70 : List Cond := u_ws RX7 TX7 20
theorem nmX7 : ∀ a, a < 20 → ∀ b, b < 20 → a ≠ b → (TX7 a).2.1 ≠ (TX7 b).2.1 := by decide +kernel
theorem tyX7_ok : ∀ k, k < 20 → parseFieldDescriptor (TX7 k).2.2.1 = some (tyX7 k) := by decide +kernel
abbrev cX7_init : ByteArray := prog_9_method_1_code
def yX7_init : MethodName := ⟨RX7, "<init>", "()V"⟩
abbrev cX7_in : ByteArray := prog_9_method_2_code
def yX7_in : MethodName := ⟨RX7, "in", "(JJJ)Z"⟩
abbrev cX7_isPlace : ByteArray := prog_9_method_3_code
def yX7_isPlace : MethodName := ⟨RX7, "isPlace", "(I)Z"⟩
abbrev cX7_isPerson : ByteArray := prog_9_method_4_code
def yX7_isPerson : MethodName := ⟨RX7, "isPerson", "(I)Z"⟩
abbrev cX7_isHour : ByteArray := prog_9_method_5_code
def yX7_isHour : MethodName := ⟨RX7, "isHour", "(I)Z"⟩
abbrev cX7_isSet : ByteArray := prog_9_method_6_code
def yX7_isSet : MethodName := ⟨RX7, "isSet", "(I)Z"⟩
abbrev cX7_place : ByteArray := prog_9_method_7_code
def yX7_place : MethodName := ⟨RX7, "place", "(I)I"⟩
abbrev cX7_put : ByteArray := prog_9_method_8_code
def yX7_put : MethodName := ⟨RX7, "put", "(II)V"⟩
abbrev cX7_posts : ByteArray := prog_9_method_9_code
def yX7_posts : MethodName := ⟨RX7, "posts", "(I)I"⟩
abbrev cX7_make : ByteArray := prog_9_method_10_code
def yX7_make : MethodName := ⟨RX7, "make", "(III)I"⟩
abbrev cX7_pathOf : ByteArray := prog_9_method_11_code
def yX7_pathOf : MethodName := ⟨RX7, "pathOf", "(II)I"⟩
abbrev cX7_join : ByteArray := prog_9_method_12_code
def yX7_join : MethodName := ⟨RX7, "join", "(III)V"⟩
abbrev cX7_path : ByteArray := prog_9_method_13_code
def yX7_path : MethodName := ⟨RX7, "path", "(III)I"⟩
abbrev cX7_tide : ByteArray := prog_9_method_14_code
def yX7_tide : MethodName := ⟨RX7, "tide", "(II)I"⟩
abbrev cX7_set : ByteArray := prog_9_method_15_code
def yX7_set : MethodName := ⟨RX7, "set", "(II)I"⟩
abbrev cX7_person : ByteArray := prog_9_method_16_code
def yX7_person : MethodName := ⟨RX7, "person", "(III)I"⟩
abbrev cX7_byKind : ByteArray := prog_9_method_17_code
def yX7_byKind : MethodName := ⟨RX7, "byKind", "(III)I"⟩
abbrev cX7_of : ByteArray := prog_9_method_18_code
def yX7_of : MethodName := ⟨RX7, "of", "(II)I"⟩
abbrev cX7_type : ByteArray := prog_9_method_19_code
def yX7_type : MethodName := ⟨RX7, "type", "(JI)I"⟩
abbrev cX7_next : ByteArray := prog_9_method_20_code
def yX7_next : MethodName := ⟨RX7, "next", "()I"⟩
abbrev cX7_cannot : ByteArray := prog_9_method_21_code
def yX7_cannot : MethodName := ⟨RX7, "cannot", "(I)V"⟩
abbrev cX7_takes : ByteArray := prog_9_method_22_code
def yX7_takes : MethodName := ⟨RX7, "takes", "(I)Z"⟩
abbrev cX7_number : ByteArray := prog_9_method_23_code
def yX7_number : MethodName := ⟨RX7, "number", "(IIZ)V"⟩
abbrev cX7_begin : ByteArray := prog_9_method_24_code
def yX7_begin : MethodName := ⟨RX7, "begin", "()V"⟩
abbrev cX7_fails : ByteArray := prog_9_method_25_code
def yX7_fails : MethodName := ⟨RX7, "fails", "()I"⟩
abbrev cX7_lagoon : ByteArray := prog_9_method_26_code
def yX7_lagoon : MethodName := ⟨RX7, "lagoon", "()I"⟩
abbrev cX7_letter : ByteArray := prog_9_method_27_code
def yX7_letter : MethodName := ⟨RX7, "letter", "(I)I"⟩
abbrev cX7_paths : ByteArray := prog_9_method_28_code
def yX7_paths : MethodName := ⟨RX7, "paths", "()I"⟩
abbrev cX7_count : ByteArray := prog_9_method_29_code
def yX7_count : MethodName := ⟨RX7, "count", "(I)I"⟩
abbrev cX7_waterBy : ByteArray := prog_9_method_30_code
def yX7_waterBy : MethodName := ⟨RX7, "waterBy", "(III)I"⟩
abbrev cX7_reaches : ByteArray := prog_9_method_31_code
def yX7_reaches : MethodName := ⟨RX7, "reaches", "(II)Z"⟩
abbrev cX7_standsBy : ByteArray := prog_9_method_32_code
def yX7_standsBy : MethodName := ⟨RX7, "standsBy", "(IIII)Z"⟩
abbrev cX7_would : ByteArray := prog_9_method_33_code
def yX7_would : MethodName := ⟨RX7, "would", "(IIII)Z"⟩
abbrev cX7_does : ByteArray := prog_9_method_34_code
def yX7_does : MethodName := ⟨RX7, "does", "(III)Z"⟩
abbrev cX7_water : ByteArray := prog_9_method_35_code
def yX7_water : MethodName := ⟨RX7, "water", "(II)I"⟩
abbrev cX7_stands : ByteArray := prog_9_method_36_code
def yX7_stands : MethodName := ⟨RX7, "stands", "(III)I"⟩
abbrev cX7_hours : ByteArray := prog_9_method_37_code
def yX7_hours : MethodName := ⟨RX7, "hours", "(II)I"⟩
abbrev cX7_silted : ByteArray := prog_9_method_38_code
def yX7_silted : MethodName := ⟨RX7, "silted", "(II)I"⟩
abbrev cX7_years : ByteArray := prog_9_method_39_code
def yX7_years : MethodName := ⟨RX7, "years", "(I)I"⟩
abbrev cX7_postOf : ByteArray := prog_9_method_40_code
def yX7_postOf : MethodName := ⟨RX7, "postOf", "(I)I"⟩
abbrev cX7_lengthWith : ByteArray := prog_9_method_41_code
def yX7_lengthWith : MethodName := ⟨RX7, "lengthWith", "(II)I"⟩
abbrev cX7_hourOf : ByteArray := prog_9_method_42_code
def yX7_hourOf : MethodName := ⟨RX7, "hourOf", "(I)I"⟩
abbrev cX7_lasts : ByteArray := prog_9_method_43_code
def yX7_lasts : MethodName := ⟨RX7, "lasts", "(IIIII)Z"⟩
abbrev cX7_arrives : ByteArray := prog_9_method_44_code
def yX7_arrives : MethodName := ⟨RX7, "arrives", "(IIII)V"⟩
abbrev cX7_leaves : ByteArray := prog_9_method_45_code
def yX7_leaves : MethodName := ⟨RX7, "leaves", "(IIIII)V"⟩
abbrev cX7_bits : ByteArray := prog_9_method_46_code
def yX7_bits : MethodName := ⟨RX7, "bits", "(I)I"⟩
abbrev cX7_look : ByteArray := prog_9_method_47_code
def yX7_look : MethodName := ⟨RX7, "look", "(II)V"⟩
abbrev cX7_go : ByteArray := prog_9_method_48_code
def yX7_go : MethodName := ⟨RX7, "go", "(III)V"⟩
abbrev cX7_way : ByteArray := prog_9_method_49_code
def yX7_way : MethodName := ⟨RX7, "way", "(IIII)I"⟩
abbrev cX7_race : ByteArray := prog_9_method_50_code
def yX7_race : MethodName := ⟨RX7, "race", "(IIII)I"⟩
abbrev cX7_need : ByteArray := prog_9_method_51_code
def yX7_need : MethodName := ⟨RX7, "need", "(III)I"⟩
abbrev cX7_met : ByteArray := prog_9_method_52_code
def yX7_met : MethodName := ⟨RX7, "met", "()I"⟩
abbrev cX7_needy : ByteArray := prog_9_method_53_code
def yX7_needy : MethodName := ⟨RX7, "needy", "()I"⟩
abbrev cX7_doesFor : ByteArray := prog_9_method_54_code
def yX7_doesFor : MethodName := ⟨RX7, "doesFor", "(I)I"⟩
abbrev cX7_fewest : ByteArray := prog_9_method_55_code
def yX7_fewest : MethodName := ⟨RX7, "fewest", "()V"⟩
abbrev cX7_lengths : ByteArray := prog_9_method_56_code
def yX7_lengths : MethodName := ⟨RX7, "lengths", "(I)I"⟩
abbrev cX7_meeting : ByteArray := prog_9_method_57_code
def yX7_meeting : MethodName := ⟨RX7, "meeting", "(I)I"⟩
abbrev cX7_pairs : ByteArray := prog_9_method_58_code
def yX7_pairs : MethodName := ⟨RX7, "pairs", "(I)I"⟩
abbrev cX7_isDry : ByteArray := prog_9_method_59_code
def yX7_isDry : MethodName := ⟨RX7, "isDry", "(III)Z"⟩
abbrev cX7_dry : ByteArray := prog_9_method_60_code
def yX7_dry : MethodName := ⟨RX7, "dry", "(III)I"⟩
abbrev cX7_share : ByteArray := prog_9_method_61_code
def yX7_share : MethodName := ⟨RX7, "share", "(I)V"⟩
abbrev cX7_flood : ByteArray := prog_9_method_62_code
def yX7_flood : MethodName := ⟨RX7, "flood", "(II)I"⟩
abbrev cX7_carried : ByteArray := prog_9_method_63_code
def yX7_carried : MethodName := ⟨RX7, "carried", "(III)I"⟩
abbrev cX7_wrong : ByteArray := prog_9_method_64_code
def yX7_wrong : MethodName := ⟨RX7, "wrong", "(II)I"⟩
abbrev cX7_clear : ByteArray := prog_9_method_65_code
def yX7_clear : MethodName := ⟨RX7, "clear", "()I"⟩
abbrev cX7_image : ByteArray := prog_9_method_66_code
def yX7_image : MethodName := ⟨RX7, "image", "()I"⟩
abbrev cX7_restore : ByteArray := prog_9_method_67_code
def yX7_restore : MethodName := ⟨RX7, "restore", "()I"⟩
abbrev cX7_isSheet : ByteArray := prog_9_method_68_code
def yX7_isSheet : MethodName := ⟨RX7, "isSheet", "(I)Z"⟩
abbrev cX7_isLane : ByteArray := prog_9_method_69_code
def yX7_isLane : MethodName := ⟨RX7, "isLane", "(I)Z"⟩
abbrev cX7_tides : ByteArray := prog_9_method_70_code
def yX7_tides : MethodName := ⟨RX7, "tides", "(II)I"⟩
abbrev cX7_sheet : ByteArray := prog_9_method_71_code
def yX7_sheet : MethodName := ⟨RX7, "sheet", "(III)I"⟩
abbrev cX7_drop : ByteArray := prog_9_method_72_code
def yX7_drop : MethodName := ⟨RX7, "drop", "(I)I"⟩
abbrev cX7_item : ByteArray := prog_9_method_73_code
def yX7_item : MethodName := ⟨RX7, "item", "(IIII)I"⟩
abbrev cX7_copy : ByteArray := prog_9_method_74_code
def yX7_copy : MethodName := ⟨RX7, "copy", "(IIIII)I"⟩
def RJ6 : String := "java/lang/Integer"
def TJ6 : u_T := fun k => match k with
  | _ => ("", "", "", false)
def tyJ6 : Nat → FieldType := fun k => match k with
  | _ => .int
abbrev wsJ60 : List Cond := u_ws RJ6 TJ6 0
theorem nmJ6 : ∀ a, a < 0 → ∀ b, b < 0 → a ≠ b → (TJ6 a).2.1 ≠ (TJ6 b).2.1 := by decide +kernel
theorem tyJ6_ok : ∀ k, k < 0 → parseFieldDescriptor (TJ6 k).2.2.1 = some (tyJ6 k) := by decide +kernel
abbrev cJ6_bitCount_0f7a4 : ByteArray := prog_10_method_49_code
def yJ6_bitCount_0f7a4 : MethodName := ⟨RJ6, "bitCount", "(I)I"⟩
def RJ9 : String := "java/lang/Math"
def TJ9 : u_T := fun k => match k with
  | _ => ("", "", "", false)
def tyJ9 : Nat → FieldType := fun k => match k with
  | _ => .int
abbrev wsJ90 : List Cond := u_ws RJ9 TJ9 0
theorem nmJ9 : ∀ a, a < 0 → ∀ b, b < 0 → a ≠ b → (TJ9 a).2.1 ≠ (TJ9 b).2.1 := by decide +kernel
theorem tyJ9_ok : ∀ k, k < 0 → parseFieldDescriptor (TJ9 k).2.2.1 = some (tyJ9 k) := by decide +kernel
abbrev cJ9_max_7cf53 : ByteArray := prog_11_method_65_code
def yJ9_max_7cf53 : MethodName := ⟨RJ9, "max", "(II)I"⟩
abbrev cJ9_min_7cf53 : ByteArray := prog_11_method_69_code
def yJ9_min_7cf53 : MethodName := ⟨RJ9, "min", "(II)I"⟩
def RJ10 : String := "java/lang/System"
def TJ10 : u_T := fun k => match k with
  | _ => ("", "", "", false)
def tyJ10 : Nat → FieldType := fun k => match k with
  | _ => .int
abbrev wsJ100 : List Cond := u_ws RJ10 TJ10 0
theorem nmJ10 : ∀ a, a < 0 → ∀ b, b < 0 → a ≠ b → (TJ10 a).2.1 ≠ (TJ10 b).2.1 := by decide +kernel
theorem tyJ10_ok : ∀ k, k < 0 → parseFieldDescriptor (TJ10 k).2.2.1 = some (tyJ10 k) := by decide +kernel
def RL : String := "StiltWaysLaw"
abbrev cL_law : ByteArray := code
def yL_law : MethodName := ⟨RL, "law", "([I)Z"⟩
abbrev vwCl : List vw_C := [(RX0, TX0, 3), (RX1, TX1, 17), (RX2, TX2, 4), (RX3, TX3, 9), (RX4, TX4, 3), (RX5, TX5, 13), (RX6, TX6, 8), (RX7, TX7, 20)]
/-! one list of words for all methods: what the tables say and a call may carry -/
def gBig : List Cond := lw_tbl.filter goodWord
theorem gBm {w : Cond} (i : Nat) (h : lw_tbl[i]? = some w) (hg : goodWord w = true) : w ∈ gBig := List.mem_filter.mpr ⟨List.mem_of_getElem? h, hg⟩
theorem gBin {C : String} {T : u_T} {N : Nat} (h : (u_ws C T N).all (fun w => decide (w ∈ lw_tbl) && goodWord w) = true) : ∀ w ∈ u_ws C T N, w ∈ gBig := fun w hw => by
  have := List.all_eq_true.mp h w hw
  rw [Bool.and_eq_true, decide_eq_true_eq] at this
  exact List.mem_filter.mpr this
theorem gBgood {c : Cond} {ls : List Cond} (hl : ∀ w ∈ ls, w ∈ gBig) {c2 : Cond} (h : c ∈ gBig) : GoodIn (c2 :: gBig) (ls ++ (c :: gBig)) := by
  intro w hw
  have hb : w ∈ gBig := by
    rcases List.mem_append.mp hw with q | q
    · exact hl w q
    · rcases List.mem_cons.mp q with q | q
      · rw [q]; exact h
      · exact q
  exact ⟨List.mem_cons_of_mem _ hb, good_of_word (List.mem_filter.mp hb).2⟩
theorem gBv {c2 c : Cond} {own C : String} {i : Nat} {y : MethodName} (h1 : Cond.methodLink own i y ∈ gBig) (h2 : Cond.instanceMethod y ∈ gBig) (h3 : Cond.selects C y y ∈ gBig) (h4 : Cond.initialized C ∈ gBig) (h : c ∈ gBig) : GoodIn (c2 :: gBig) (wsV own i C y (c :: gBig)) :=
  gBgood (ls := [.methodLink own i y, .instanceMethod y, .selects C y y, .initialized C]) (by
    intro w hw
    simp only [List.mem_cons, List.not_mem_nil, or_false] at hw
    rcases hw with rfl | rfl | rfl | rfl <;> assumption) h
theorem gBs {c2 c : Cond} {own : String} {i : Nat} {y : MethodName} (h1 : Cond.methodLink own i y ∈ gBig) (h2 : Cond.static y ∈ gBig) (h3 : Cond.initialized y.cls ∈ gBig) (h : c ∈ gBig) : GoodIn (c2 :: gBig) (va_wsS own i y (c :: gBig)) :=
  gBgood (ls := [.methodLink own i y, .static y, .initialized y.cls]) (by
    intro w hw
    simp only [List.mem_cons, List.not_mem_nil, or_false] at hw
    rcases hw with rfl | rfl | rfl <;> assumption) h
theorem gBn {c2 c : Cond} (h : c ∈ gBig) : GoodIn (c2 :: gBig) (c :: gBig) := gBgood (ls := []) (by intro w hw; cases hw) h
theorem gBc {c2 w : Cond} (h : w ∈ gBig) : w ∈ c2 :: gBig := List.mem_cons_of_mem _ h
theorem inB0 : ∀ w ∈ u_ws RX0 TX0 3, w ∈ gBig := gBin (by decide +kernel)
theorem inB1 : ∀ w ∈ u_ws RX1 TX1 17, w ∈ gBig := gBin (by decide +kernel)
theorem inB2 : ∀ w ∈ u_ws RX2 TX2 4, w ∈ gBig := gBin (by decide +kernel)
theorem inB3 : ∀ w ∈ u_ws RX3 TX3 9, w ∈ gBig := gBin (by decide +kernel)
theorem inB4 : ∀ w ∈ u_ws RX4 TX4 3, w ∈ gBig := gBin (by decide +kernel)
theorem inB5 : ∀ w ∈ u_ws RX5 TX5 13, w ∈ gBig := gBin (by decide +kernel)
theorem inB6 : ∀ w ∈ u_ws RX6 TX6 8, w ∈ gBig := gBin (by decide +kernel)
theorem inB7 : ∀ w ∈ u_ws RX7 TX7 20, w ∈ gBig := gBin (by decide +kernel)
theorem kini_L : Cond.initialized RL ∈ gBig := gBm 57 (by decide +kernel) rfl
theorem kini_X6 : Cond.initialized RX6 ∈ gBig := gBm 58 (by decide +kernel) rfl
theorem kini_X1 : Cond.initialized RX1 ∈ gBig := gBm 59 (by decide +kernel) rfl
theorem kini_X3 : Cond.initialized RX3 ∈ gBig := gBm 60 (by decide +kernel) rfl
theorem kini_X5 : Cond.initialized RX5 ∈ gBig := gBm 61 (by decide +kernel) rfl
theorem kini_X4 : Cond.initialized RX4 ∈ gBig := gBm 62 (by decide +kernel) rfl
theorem kini_X0 : Cond.initialized RX0 ∈ gBig := gBm 63 (by decide +kernel) rfl
theorem kini_X2 : Cond.initialized RX2 ∈ gBig := gBm 64 (by decide +kernel) rfl
theorem kini_X7 : Cond.initialized RX7 ∈ gBig := gBm 65 (by decide +kernel) rfl
theorem kini_J9 : Cond.initialized "java/lang/Math" ∈ gBig := gBm 66 (by decide +kernel) rfl
theorem kini_J6 : Cond.initialized RJ6 ∈ gBig := gBm 67 (by decide +kernel) rfl
theorem kini_J10 : Cond.initialized "java/lang/System" ∈ gBig := gBm 68 (by decide +kernel) rfl
theorem kcl_L_7 : Cond.classLink RL 7 RX6 ∈ gBig := gBm 69 (by decide +kernel) rfl
theorem kins_X6 : Cond.instantiable RX6 8 ∈ gBig := gBm 70 (by decide +kernel) rfl
theorem km_L_9 : Cond.methodLink RL 9 yX6_init ∈ gBig := gBm 71 (by decide +kernel) rfl
theorem kin_X6_init : Cond.instanceMethod yX6_init ∈ gBig := gBm 72 (by decide +kernel) rfl
theorem kc_X6_init : Cond.code yX6_init cX6_init 2 none ∈ gBig := gBm 73 (by decide +kernel) rfl
theorem km_X6_1 : Cond.methodLink RX6 1 objectInit ∈ gBig := gBm 74 (by decide +kernel) rfl
theorem kin_Obj : Cond.instanceMethod objectInit ∈ gBig := gBm 75 (by decide +kernel) rfl
theorem kc_Obj : Cond.code objectInit ⟨#[0xb1]⟩ 1 none ∈ gBig := gBm 76 (by decide +kernel) rfl
theorem kcl_X6_7 : Cond.classLink RX6 7 RX1 ∈ gBig := gBm 77 (by decide +kernel) rfl
theorem kins_X1 : Cond.instantiable RX1 17 ∈ gBig := gBm 78 (by decide +kernel) rfl
theorem kin_X1_init : Cond.instanceMethod yX1_init ∈ gBig := gBm 80 (by decide +kernel) rfl
theorem kc_X1_init : Cond.code yX1_init cX1_init 1 none ∈ gBig := gBm 81 (by decide +kernel) rfl
theorem km_X1_3 : Cond.methodLink RX1 3 objectInit ∈ gBig := gBm 82 (by decide +kernel) rfl
theorem kcl_X1_21 : Cond.classLink RX1 21 "[[I" ∈ gBig := gBm 83 (by decide +kernel) rfl
theorem kf_X5_38 : Cond.fieldLink RX5 38 RX1 "places" "I" ∈ gBig := gBm 85 (by decide +kernel) rfl
theorem kf_X1_51 : Cond.fieldLink RX1 51 RX1 "places" "I" ∈ gBig := gBm 86 (by decide +kernel) rfl
theorem kf_X6_58 : Cond.fieldLink RX6 58 RX1 "places" "I" ∈ gBig := gBm 87 (by decide +kernel) rfl
theorem kf_X1_9 : Cond.fieldLink RX1 9 RX1 "depths" "[I" ∈ gBig := gBm 88 (by decide +kernel) rfl
theorem kf_X6_71 : Cond.fieldLink RX6 71 RX1 "depths" "[I" ∈ gBig := gBm 89 (by decide +kernel) rfl
theorem kf_X1_15 : Cond.fieldLink RX1 15 RX1 "splices" "[I" ∈ gBig := gBm 90 (by decide +kernel) rfl
theorem kf_X5_72 : Cond.fieldLink RX5 72 RX1 "splices" "[I" ∈ gBig := gBm 91 (by decide +kernel) rfl
theorem kf_X6_90 : Cond.fieldLink RX6 90 RX1 "splices" "[I" ∈ gBig := gBm 92 (by decide +kernel) rfl
theorem kf_X1_18 : Cond.fieldLink RX1 18 RX1 "silts" "[I" ∈ gBig := gBm 93 (by decide +kernel) rfl
theorem kf_X6_82 : Cond.fieldLink RX6 82 RX1 "silts" "[I" ∈ gBig := gBm 94 (by decide +kernel) rfl
theorem kf_X1_23 : Cond.fieldLink RX1 23 RX1 "minutes" "[[I" ∈ gBig := gBm 95 (by decide +kernel) rfl
theorem kf_X5_78 : Cond.fieldLink RX5 78 RX1 "minutes" "[[I" ∈ gBig := gBm 96 (by decide +kernel) rfl
theorem kf_X6_93 : Cond.fieldLink RX6 93 RX1 "minutes" "[[I" ∈ gBig := gBm 97 (by decide +kernel) rfl
theorem kf_X1_26 : Cond.fieldLink RX1 26 RX1 "tideAt" "[I" ∈ gBig := gBm 98 (by decide +kernel) rfl
theorem kf_X6_104 : Cond.fieldLink RX6 104 RX1 "tideAt" "[I" ∈ gBig := gBm 99 (by decide +kernel) rfl
theorem kf_X1_54 : Cond.fieldLink RX1 54 RX1 "floodTold" "I" ∈ gBig := gBm 100 (by decide +kernel) rfl
theorem kf_X6_107 : Cond.fieldLink RX6 107 RX1 "floodTold" "I" ∈ gBig := gBm 101 (by decide +kernel) rfl
theorem kf_X1_29 : Cond.fieldLink RX1 29 RX1 "reach" "I" ∈ gBig := gBm 102 (by decide +kernel) rfl
theorem kf_X6_110 : Cond.fieldLink RX6 110 RX1 "reach" "I" ∈ gBig := gBm 103 (by decide +kernel) rfl
theorem kf_X0_18 : Cond.fieldLink RX0 18 RX1 "people" "I" ∈ gBig := gBm 104 (by decide +kernel) rfl
theorem kf_X1_57 : Cond.fieldLink RX1 57 RX1 "people" "I" ∈ gBig := gBm 105 (by decide +kernel) rfl
theorem kf_X6_113 : Cond.fieldLink RX6 113 RX1 "people" "I" ∈ gBig := gBm 106 (by decide +kernel) rfl
theorem kf_X1_33 : Cond.fieldLink RX1 33 RX1 "kinds" "[I" ∈ gBig := gBm 107 (by decide +kernel) rfl
theorem kf_X5_84 : Cond.fieldLink RX5 84 RX1 "kinds" "[I" ∈ gBig := gBm 108 (by decide +kernel) rfl
theorem kf_X6_123 : Cond.fieldLink RX6 123 RX1 "kinds" "[I" ∈ gBig := gBm 109 (by decide +kernel) rfl
theorem kf_X1_36 : Cond.fieldLink RX1 36 RX1 "told" "[I" ∈ gBig := gBm 110 (by decide +kernel) rfl
theorem kf_X0_25 : Cond.fieldLink RX0 25 RX1 "told" "[I" ∈ gBig := gBm 111 (by decide +kernel) rfl
theorem kf_X5_81 : Cond.fieldLink RX5 81 RX1 "told" "[I" ∈ gBig := gBm 112 (by decide +kernel) rfl
theorem kf_X6_126 : Cond.fieldLink RX6 126 RX1 "told" "[I" ∈ gBig := gBm 113 (by decide +kernel) rfl
theorem kf_X1_39 : Cond.fieldLink RX1 39 RX1 "homes" "[I" ∈ gBig := gBm 114 (by decide +kernel) rfl
theorem kf_X5_45 : Cond.fieldLink RX5 45 RX1 "homes" "[I" ∈ gBig := gBm 115 (by decide +kernel) rfl
theorem kf_X6_132 : Cond.fieldLink RX6 132 RX1 "homes" "[I" ∈ gBig := gBm 116 (by decide +kernel) rfl
theorem kf_X4_24 : Cond.fieldLink RX4 24 RX1 "needs" "I" ∈ gBig := gBm 117 (by decide +kernel) rfl
theorem kf_X1_60 : Cond.fieldLink RX1 60 RX1 "needs" "I" ∈ gBig := gBm 118 (by decide +kernel) rfl
theorem kf_X6_163 : Cond.fieldLink RX6 163 RX1 "needs" "I" ∈ gBig := gBm 119 (by decide +kernel) rfl
theorem kf_X1_42 : Cond.fieldLink RX1 42 RX1 "needers" "[I" ∈ gBig := gBm 120 (by decide +kernel) rfl
theorem kf_X4_29 : Cond.fieldLink RX4 29 RX1 "needers" "[I" ∈ gBig := gBm 121 (by decide +kernel) rfl
theorem kf_X6_201 : Cond.fieldLink RX6 201 RX1 "needers" "[I" ∈ gBig := gBm 122 (by decide +kernel) rfl
theorem kf_X1_45 : Cond.fieldLink RX1 45 RX1 "needPlaces" "[I" ∈ gBig := gBm 123 (by decide +kernel) rfl
theorem kf_X1_48 : Cond.fieldLink RX1 48 RX1 "needHours" "[I" ∈ gBig := gBm 124 (by decide +kernel) rfl
theorem kf_X1_63 : Cond.fieldLink RX1 63 RX1 "yearsGone" "I" ∈ gBig := gBm 125 (by decide +kernel) rfl
theorem kf_X5_87 : Cond.fieldLink RX5 87 RX1 "yearsGone" "I" ∈ gBig := gBm 126 (by decide +kernel) rfl
theorem kf_X6_166 : Cond.fieldLink RX6 166 RX1 "yearsGone" "I" ∈ gBig := gBm 127 (by decide +kernel) rfl
theorem karr_arrayClass_106 : Cond.arrayClass Jvm.ClassFile.FieldType.int ∈ gBig := gBm 163 (by decide +kernel) rfl
theorem kcl_X6_19 : Cond.classLink RX6 19 RX3 ∈ gBig := gBm 164 (by decide +kernel) rfl
theorem kins_X3 : Cond.instantiable RX3 9 ∈ gBig := gBm 165 (by decide +kernel) rfl
theorem kin_X3_init : Cond.instanceMethod yX3_init ∈ gBig := gBm 167 (by decide +kernel) rfl
theorem kc_X3_init : Cond.code yX3_init cX3_init 1 none ∈ gBig := gBm 168 (by decide +kernel) rfl
theorem km_X3_3 : Cond.methodLink RX3 3 objectInit ∈ gBig := gBm 169 (by decide +kernel) rfl
theorem kf_X3_24 : Cond.fieldLink RX3 24 RX3 "length" "I" ∈ gBig := gBm 170 (by decide +kernel) rfl
theorem kf_X6_139 : Cond.fieldLink RX6 139 RX3 "length" "I" ∈ gBig := gBm 171 (by decide +kernel) rfl
theorem kf_X3_9 : Cond.fieldLink RX3 9 RX3 "signs" "[I" ∈ gBig := gBm 172 (by decide +kernel) rfl
theorem kf_X3_49 : Cond.fieldLink RX3 49 RX3 "next" "I" ∈ gBig := gBm 173 (by decide +kernel) rfl
theorem kf_X3_55 : Cond.fieldLink RX3 55 RX3 "fault" "I" ∈ gBig := gBm 174 (by decide +kernel) rfl
theorem kf_X3_52 : Cond.fieldLink RX3 52 RX3 "postsTold" "I" ∈ gBig := gBm 175 (by decide +kernel) rfl
theorem kf_X3_31 : Cond.fieldLink RX3 31 RX3 "rows" "I" ∈ gBig := gBm 176 (by decide +kernel) rfl
theorem kf_X1_76 : Cond.fieldLink RX1 76 RX3 "rows" "I" ∈ gBig := gBm 177 (by decide +kernel) rfl
theorem kf_X3_15 : Cond.fieldLink RX3 15 RX3 "firsts" "[I" ∈ gBig := gBm 178 (by decide +kernel) rfl
theorem kf_X1_81 : Cond.fieldLink RX1 81 RX3 "firsts" "[I" ∈ gBig := gBm 179 (by decide +kernel) rfl
theorem kf_X3_18 : Cond.fieldLink RX3 18 RX3 "seconds" "[I" ∈ gBig := gBm 180 (by decide +kernel) rfl
theorem kf_X1_91 : Cond.fieldLink RX1 91 RX3 "seconds" "[I" ∈ gBig := gBm 181 (by decide +kernel) rfl
theorem kf_X3_21 : Cond.fieldLink RX3 21 RX3 "lasts" "[I" ∈ gBig := gBm 182 (by decide +kernel) rfl
theorem kf_X1_84 : Cond.fieldLink RX1 84 RX3 "lasts" "[I" ∈ gBig := gBm 183 (by decide +kernel) rfl
theorem kcl_X6_26 : Cond.classLink RX6 26 RX5 ∈ gBig := gBm 203 (by decide +kernel) rfl
theorem kins_X5 : Cond.instantiable RX5 13 ∈ gBig := gBm 204 (by decide +kernel) rfl
theorem kin_X5_init : Cond.instanceMethod yX5_init ∈ gBig := gBm 206 (by decide +kernel) rfl
theorem kc_X5_init : Cond.code yX5_init cX5_init 1 none ∈ gBig := gBm 207 (by decide +kernel) rfl
theorem km_X5_3 : Cond.methodLink RX5 3 objectInit ∈ gBig := gBm 208 (by decide +kernel) rfl
theorem kcl_X5_18 : Cond.classLink RX5 18 "[[I" ∈ gBig := gBm 209 (by decide +kernel) rfl
theorem kf_X5_44 : Cond.fieldLink RX5 44 RX5 "places" "I" ∈ gBig := gBm 210 (by decide +kernel) rfl
theorem kf_X5_48 : Cond.fieldLink RX5 48 RX5 "home" "I" ∈ gBig := gBm 211 (by decide +kernel) rfl
theorem kf_X5_51 : Cond.fieldLink RX5 51 RX5 "start" "I" ∈ gBig := gBm 212 (by decide +kernel) rfl
theorem kf_X5_69 : Cond.fieldLink RX5 69 RX5 "posts" "I" ∈ gBig := gBm 213 (by decide +kernel) rfl
theorem kf_X5_9 : Cond.fieldLink RX5 9 RX5 "postAt" "[I" ∈ gBig := gBm 214 (by decide +kernel) rfl
theorem kf_X5_15 : Cond.fieldLink RX5 15 RX5 "longer" "[I" ∈ gBig := gBm 215 (by decide +kernel) rfl
theorem kf_X5_20 : Cond.fieldLink RX5 20 RX5 "footing" "[[I" ∈ gBig := gBm 216 (by decide +kernel) rfl
theorem kf_X5_23 : Cond.fieldLink RX5 23 RX5 "at" "[[I" ∈ gBig := gBm 217 (by decide +kernel) rfl
theorem kf_X5_26 : Cond.fieldLink RX5 26 RX5 "came" "[I" ∈ gBig := gBm 218 (by decide +kernel) rfl
theorem kf_X5_75 : Cond.fieldLink RX5 75 RX5 "edges" "I" ∈ gBig := gBm 219 (by decide +kernel) rfl
theorem kf_X5_29 : Cond.fieldLink RX5 29 RX5 "ends" "[I" ∈ gBig := gBm 220 (by decide +kernel) rfl
theorem kf_X5_32 : Cond.fieldLink RX5 32 RX5 "otherEnds" "[I" ∈ gBig := gBm 221 (by decide +kernel) rfl
theorem kf_X5_35 : Cond.fieldLink RX5 35 RX5 "paces" "[I" ∈ gBig := gBm 222 (by decide +kernel) rfl
theorem kcl_X6_33 : Cond.classLink RX6 33 RX4 ∈ gBig := gBm 250 (by decide +kernel) rfl
theorem kins_X4 : Cond.instantiable RX4 3 ∈ gBig := gBm 251 (by decide +kernel) rfl
theorem kin_X4_init : Cond.instanceMethod yX4_init ∈ gBig := gBm 253 (by decide +kernel) rfl
theorem kc_X4_init : Cond.code yX4_init cX4_init 1 none ∈ gBig := gBm 254 (by decide +kernel) rfl
theorem km_X4_3 : Cond.methodLink RX4 3 objectInit ∈ gBig := gBm 255 (by decide +kernel) rfl
theorem kcl_X4_15 : Cond.classLink RX4 15 "[[I" ∈ gBig := gBm 256 (by decide +kernel) rfl
theorem kf_X4_20 : Cond.fieldLink RX4 20 RX4 "needy" "I" ∈ gBig := gBm 257 (by decide +kernel) rfl
theorem kf_X4_9 : Cond.fieldLink RX4 9 RX4 "suits" "[I" ∈ gBig := gBm 258 (by decide +kernel) rfl
theorem kf_X4_17 : Cond.fieldLink RX4 17 RX4 "fewest" "[[I" ∈ gBig := gBm 259 (by decide +kernel) rfl
theorem kcl_X6_40 : Cond.classLink RX6 40 RX0 ∈ gBig := gBm 267 (by decide +kernel) rfl
theorem kins_X0 : Cond.instantiable RX0 3 ∈ gBig := gBm 268 (by decide +kernel) rfl
theorem kin_X0_init : Cond.instanceMethod yX0_init ∈ gBig := gBm 270 (by decide +kernel) rfl
theorem kc_X0_init : Cond.code yX0_init cX0_init 1 none ∈ gBig := gBm 271 (by decide +kernel) rfl
theorem km_X0_3 : Cond.methodLink RX0 3 objectInit ∈ gBig := gBm 272 (by decide +kernel) rfl
theorem kf_X0_24 : Cond.fieldLink RX0 24 RX0 "people" "I" ∈ gBig := gBm 273 (by decide +kernel) rfl
theorem kf_X0_9 : Cond.fieldLink RX0 9 RX0 "drowning" "[I" ∈ gBig := gBm 274 (by decide +kernel) rfl
theorem kf_X0_15 : Cond.fieldLink RX0 15 RX0 "fewest" "[I" ∈ gBig := gBm 275 (by decide +kernel) rfl
theorem kcl_X6_47 : Cond.classLink RX6 47 RX2 ∈ gBig := gBm 283 (by decide +kernel) rfl
theorem kins_X2 : Cond.instantiable RX2 4 ∈ gBig := gBm 285 (by decide +kernel) rfl
theorem kin_X2_init : Cond.instanceMethod yX2_init ∈ gBig := gBm 287 (by decide +kernel) rfl
theorem kc_X2_init : Cond.code yX2_init cX2_init 1 none ∈ gBig := gBm 288 (by decide +kernel) rfl
theorem km_X2_3 : Cond.methodLink RX2 3 objectInit ∈ gBig := gBm 289 (by decide +kernel) rfl
theorem kf_X2_15 : Cond.fieldLink RX2 15 RX2 "there" "Z" ∈ gBig := gBm 290 (by decide +kernel) rfl
theorem kf_X6_273 : Cond.fieldLink RX6 273 RX2 "there" "Z" ∈ gBig := gBm 291 (by decide +kernel) rfl
theorem kf_X2_19 : Cond.fieldLink RX2 19 RX2 "lane" "I" ∈ gBig := gBm 292 (by decide +kernel) rfl
theorem kf_X6_279 : Cond.fieldLink RX6 279 RX2 "lane" "I" ∈ gBig := gBm 293 (by decide +kernel) rfl
theorem kf_X2_23 : Cond.fieldLink RX2 23 RX2 "length" "I" ∈ gBig := gBm 294 (by decide +kernel) rfl
theorem kf_X6_253 : Cond.fieldLink RX6 253 RX2 "length" "I" ∈ gBig := gBm 295 (by decide +kernel) rfl
theorem kf_X2_9 : Cond.fieldLink RX2 9 RX2 "items" "[I" ∈ gBig := gBm 296 (by decide +kernel) rfl
theorem kf_X6_254 : Cond.fieldLink RX6 254 RX2 "items" "[I" ∈ gBig := gBm 297 (by decide +kernel) rfl
theorem kf_X6_10 : Cond.fieldLink RX6 10 RX6 "now" "LStiltWays$Lagoon;" ∈ gBig := gBm 307 (by decide +kernel) rfl
theorem kf_X6_16 : Cond.fieldLink RX6 16 RX6 "kept" "LStiltWays$Lagoon;" ∈ gBig := gBm 308 (by decide +kernel) rfl
theorem kf_X6_246 : Cond.fieldLink RX6 246 RX6 "keeps" "Z" ∈ gBig := gBm 309 (by decide +kernel) rfl
theorem kf_X6_22 : Cond.fieldLink RX6 22 RX6 "tape" "LStiltWays$Tape;" ∈ gBig := gBm 310 (by decide +kernel) rfl
theorem kf_X6_29 : Cond.fieldLink RX6 29 RX6 "walk" "LStiltWays$Walk;" ∈ gBig := gBm 311 (by decide +kernel) rfl
theorem kf_X6_36 : Cond.fieldLink RX6 36 RX6 "village" "LStiltWays$Village;" ∈ gBig := gBm 312 (by decide +kernel) rfl
theorem kf_X6_43 : Cond.fieldLink RX6 43 RX6 "exchange" "LStiltWays$Exchange;" ∈ gBig := gBm 313 (by decide +kernel) rfl
theorem kf_X6_49 : Cond.fieldLink RX6 49 RX6 "sheets" "[LStiltWays$Sheet;" ∈ gBig := gBm 314 (by decide +kernel) rfl
theorem km_L_13 : Cond.methodLink RL 13 yX6_place ∈ gBig := gBm 332 (by decide +kernel) rfl
theorem kin_X6_place : Cond.instanceMethod yX6_place ∈ gBig := gBm 333 (by decide +kernel) rfl
theorem ksel_X6_place : Cond.selects RX6 yX6_place yX6_place ∈ gBig := gBm 334 (by decide +kernel) rfl
theorem kc_X6_place : Cond.code yX6_place cX6_place 2 (some .int) ∈ gBig := gBm 335 (by decide +kernel) rfl
theorem km_X6_54 : Cond.methodLink RX6 54 yX6_within ∈ gBig := gBm 336 (by decide +kernel) rfl
theorem kst_X6_within : Cond.static yX6_within ∈ gBig := gBm 337 (by decide +kernel) rfl
theorem kc_X6_within : Cond.code yX6_within cX6_within 3 (some .boolean) ∈ gBig := gBm 338 (by decide +kernel) rfl
theorem km_X6_62 : Cond.methodLink RX6 62 yX1_addPlace ∈ gBig := gBm 339 (by decide +kernel) rfl
theorem kin_X1_addPlace : Cond.instanceMethod yX1_addPlace ∈ gBig := gBm 340 (by decide +kernel) rfl
theorem ksel_X1_addPlace : Cond.selects RX1 yX1_addPlace yX1_addPlace ∈ gBig := gBm 341 (by decide +kernel) rfl
theorem kc_X1_addPlace : Cond.code yX1_addPlace cX1_addPlace 3 (some .int) ∈ gBig := gBm 342 (by decide +kernel) rfl
theorem km_L_18 : Cond.methodLink RL 18 yX6_make ∈ gBig := gBm 343 (by decide +kernel) rfl
theorem kin_X6_make : Cond.instanceMethod yX6_make ∈ gBig := gBm 344 (by decide +kernel) rfl
theorem ksel_X6_make : Cond.selects RX6 yX6_make yX6_make ∈ gBig := gBm 345 (by decide +kernel) rfl
theorem kc_X6_make : Cond.code yX6_make cX6_make 4 (some .int) ∈ gBig := gBm 346 (by decide +kernel) rfl
theorem km_X6_66 : Cond.methodLink RX6 66 yX1_hasPlace ∈ gBig := gBm 347 (by decide +kernel) rfl
theorem kin_X1_hasPlace : Cond.instanceMethod yX1_hasPlace ∈ gBig := gBm 348 (by decide +kernel) rfl
theorem ksel_X1_hasPlace : Cond.selects RX1 yX1_hasPlace yX1_hasPlace ∈ gBig := gBm 349 (by decide +kernel) rfl
theorem kc_X1_hasPlace : Cond.code yX1_hasPlace cX1_hasPlace 2 (some .boolean) ∈ gBig := gBm 350 (by decide +kernel) rfl
theorem kk_X6_70 : Cond.constant RX6 70 (-100001) ∈ gBig := gBm 352 (by decide +kernel) rfl
theorem km_X6_75 : Cond.methodLink RX6 75 yX6_changed ∈ gBig := gBm 353 (by decide +kernel) rfl
theorem kst_X6_changed : Cond.static yX6_changed ∈ gBig := gBm 354 (by decide +kernel) rfl
theorem kc_X6_changed : Cond.code yX6_changed cX6_changed 4 (some .int) ∈ gBig := gBm 355 (by decide +kernel) rfl
theorem km_X6_79 : Cond.methodLink RX6 79 yX6_makeSplices ∈ gBig := gBm 356 (by decide +kernel) rfl
theorem kin_X6_makeSplices : Cond.instanceMethod yX6_makeSplices ∈ gBig := gBm 358 (by decide +kernel) rfl
theorem kc_X6_makeSplices : Cond.code yX6_makeSplices cX6_makeSplices 3 (some .int) ∈ gBig := gBm 359 (by decide +kernel) rfl
theorem km_X6_85 : Cond.methodLink RX6 85 yX1_postsBeside ∈ gBig := gBm 360 (by decide +kernel) rfl
theorem kin_X1_postsBeside : Cond.instanceMethod yX1_postsBeside ∈ gBig := gBm 361 (by decide +kernel) rfl
theorem ksel_X1_postsBeside : Cond.selects RX1 yX1_postsBeside yX1_postsBeside ∈ gBig := gBm 362 (by decide +kernel) rfl
theorem kc_X1_postsBeside : Cond.code yX1_postsBeside cX1_postsBeside 4 (some .int) ∈ gBig := gBm 363 (by decide +kernel) rfl
theorem kk_X6_89 : Cond.constant RX6 89 (-100003) ∈ gBig := gBm 364 (by decide +kernel) rfl
theorem km_L_23 : Cond.methodLink RL 23 yX6_path ∈ gBig := gBm 365 (by decide +kernel) rfl
theorem kin_X6_path : Cond.instanceMethod yX6_path ∈ gBig := gBm 366 (by decide +kernel) rfl
theorem ksel_X6_path : Cond.selects RX6 yX6_path yX6_path ∈ gBig := gBm 367 (by decide +kernel) rfl
theorem kc_X6_path : Cond.code yX6_path cX6_path 5 (some .int) ∈ gBig := gBm 368 (by decide +kernel) rfl
theorem km_X6_97 : Cond.methodLink RX6 97 yX1_join ∈ gBig := gBm 369 (by decide +kernel) rfl
theorem kin_X1_join : Cond.instanceMethod yX1_join ∈ gBig := gBm 370 (by decide +kernel) rfl
theorem ksel_X1_join : Cond.selects RX1 yX1_join yX1_join ∈ gBig := gBm 371 (by decide +kernel) rfl
theorem kc_X1_join : Cond.code yX1_join cX1_join 4 none ∈ gBig := gBm 372 (by decide +kernel) rfl
theorem km_L_27 : Cond.methodLink RL 27 yX6_tide ∈ gBig := gBm 373 (by decide +kernel) rfl
theorem kin_X6_tide : Cond.instanceMethod yX6_tide ∈ gBig := gBm 374 (by decide +kernel) rfl
theorem ksel_X6_tide : Cond.selects RX6 yX6_tide yX6_tide ∈ gBig := gBm 375 (by decide +kernel) rfl
theorem kc_X6_tide : Cond.code yX6_tide cX6_tide 3 (some .int) ∈ gBig := gBm 376 (by decide +kernel) rfl
theorem km_X6_101 : Cond.methodLink RX6 101 yX6_isHour ∈ gBig := gBm 377 (by decide +kernel) rfl
theorem kst_X6_isHour : Cond.static yX6_isHour ∈ gBig := gBm 378 (by decide +kernel) rfl
theorem kc_X6_isHour : Cond.code yX6_isHour cX6_isHour 1 (some .boolean) ∈ gBig := gBm 379 (by decide +kernel) rfl
theorem km_L_32 : Cond.methodLink RL 32 yX6_set ∈ gBig := gBm 380 (by decide +kernel) rfl
theorem kin_X6_set : Cond.instanceMethod yX6_set ∈ gBig := gBm 381 (by decide +kernel) rfl
theorem ksel_X6_set : Cond.selects RX6 yX6_set yX6_set ∈ gBig := gBm 382 (by decide +kernel) rfl
theorem kc_X6_set : Cond.code yX6_set cX6_set 4 (some .int) ∈ gBig := gBm 383 (by decide +kernel) rfl
theorem km_L_36 : Cond.methodLink RL 36 yX6_person ∈ gBig := gBm 384 (by decide +kernel) rfl
theorem kin_X6_person : Cond.instanceMethod yX6_person ∈ gBig := gBm 385 (by decide +kernel) rfl
theorem ksel_X6_person : Cond.selects RX6 yX6_person yX6_person ∈ gBig := gBm 386 (by decide +kernel) rfl
theorem kc_X6_person : Cond.code yX6_person cX6_person 4 (some .int) ∈ gBig := gBm 387 (by decide +kernel) rfl
theorem km_X6_116 : Cond.methodLink RX6 116 yX1_addPerson ∈ gBig := gBm 388 (by decide +kernel) rfl
theorem kin_X1_addPerson : Cond.instanceMethod yX1_addPerson ∈ gBig := gBm 389 (by decide +kernel) rfl
theorem ksel_X1_addPerson : Cond.selects RX1 yX1_addPerson yX1_addPerson ∈ gBig := gBm 390 (by decide +kernel) rfl
theorem kc_X1_addPerson : Cond.code yX1_addPerson cX1_addPerson 4 (some .int) ∈ gBig := gBm 391 (by decide +kernel) rfl
theorem km_L_40 : Cond.methodLink RL 40 yX6_of ∈ gBig := gBm 392 (by decide +kernel) rfl
theorem kin_X6_of : Cond.instanceMethod yX6_of ∈ gBig := gBm 393 (by decide +kernel) rfl
theorem ksel_X6_of : Cond.selects RX6 yX6_of yX6_of ∈ gBig := gBm 394 (by decide +kernel) rfl
theorem kc_X6_of : Cond.code yX6_of cX6_of 3 (some .int) ∈ gBig := gBm 395 (by decide +kernel) rfl
theorem km_X6_120 : Cond.methodLink RX6 120 yX1_hasPerson ∈ gBig := gBm 396 (by decide +kernel) rfl
theorem kin_X1_hasPerson : Cond.instanceMethod yX1_hasPerson ∈ gBig := gBm 397 (by decide +kernel) rfl
theorem ksel_X1_hasPerson : Cond.selects RX1 yX1_hasPerson yX1_hasPerson ∈ gBig := gBm 398 (by decide +kernel) rfl
theorem kc_X1_hasPerson : Cond.code yX1_hasPerson cX1_hasPerson 2 (some .boolean) ∈ gBig := gBm 399 (by decide +kernel) rfl
theorem km_X6_129 : Cond.methodLink RX6 129 yX1_lengthOf ∈ gBig := gBm 400 (by decide +kernel) rfl
theorem kin_X1_lengthOf : Cond.instanceMethod yX1_lengthOf ∈ gBig := gBm 401 (by decide +kernel) rfl
theorem ksel_X1_lengthOf : Cond.selects RX1 yX1_lengthOf yX1_lengthOf ∈ gBig := gBm 402 (by decide +kernel) rfl
theorem kc_X1_lengthOf : Cond.code yX1_lengthOf cX1_lengthOf 2 (some .int) ∈ gBig := gBm 403 (by decide +kernel) rfl
theorem km_X1_113 : Cond.methodLink RX1 113 yX1_lengthByKind ∈ gBig := gBm 404 (by decide +kernel) rfl
theorem kin_X1_lengthByKind : Cond.instanceMethod yX1_lengthByKind ∈ gBig := gBm 405 (by decide +kernel) rfl
theorem ksel_X1_lengthByKind : Cond.selects RX1 yX1_lengthByKind yX1_lengthByKind ∈ gBig := gBm 406 (by decide +kernel) rfl
theorem kc_X1_lengthByKind : Cond.code yX1_lengthByKind cX1_lengthByKind 4 (some .int) ∈ gBig := gBm 407 (by decide +kernel) rfl
theorem km_X1_101 : Cond.methodLink RX1 101 yJ9_max_7cf53 ∈ gBig := gBm 408 (by decide +kernel) rfl
theorem kst_J9_max_7cf53 : Cond.static yJ9_max_7cf53 ∈ gBig := gBm 409 (by decide +kernel) rfl
theorem kc_J9_max_7cf53 : Cond.code yJ9_max_7cf53 cJ9_max_7cf53 2 (some .int) ∈ gBig := gBm 410 (by decide +kernel) rfl
theorem km_L_46 : Cond.methodLink RL 46 yX6_type ∈ gBig := gBm 411 (by decide +kernel) rfl
theorem kin_X6_type : Cond.instanceMethod yX6_type ∈ gBig := gBm 412 (by decide +kernel) rfl
theorem ksel_X6_type : Cond.selects RX6 yX6_type yX6_type ∈ gBig := gBm 413 (by decide +kernel) rfl
theorem kc_X6_type : Cond.code yX6_type cX6_type 5 (some .int) ∈ gBig := gBm 414 (by decide +kernel) rfl
theorem km_X6_135 : Cond.methodLink RX6 135 yX6_byteOf ∈ gBig := gBm 415 (by decide +kernel) rfl
theorem kst_X6_byteOf : Cond.static yX6_byteOf ∈ gBig := gBm 416 (by decide +kernel) rfl
theorem kc_X6_byteOf : Cond.code yX6_byteOf cX6_byteOf 3 (some .int) ∈ gBig := gBm 417 (by decide +kernel) rfl
theorem kk_X6_285 : Cond.constantLong RX6 285 (255) ∈ gBig := gBm 418 (by decide +kernel) rfl
theorem km_X6_142 : Cond.methodLink RX6 142 yX3_append ∈ gBig := gBm 419 (by decide +kernel) rfl
theorem kin_X3_append : Cond.instanceMethod yX3_append ∈ gBig := gBm 420 (by decide +kernel) rfl
theorem ksel_X3_append : Cond.selects RX3 yX3_append yX3_append ∈ gBig := gBm 421 (by decide +kernel) rfl
theorem kc_X3_append : Cond.code yX3_append cX3_append 2 none ∈ gBig := gBm 422 (by decide +kernel) rfl
theorem km_L_51 : Cond.methodLink RL 51 yX6_lagoon ∈ gBig := gBm 423 (by decide +kernel) rfl
theorem kin_X6_lagoon : Cond.instanceMethod yX6_lagoon ∈ gBig := gBm 424 (by decide +kernel) rfl
theorem ksel_X6_lagoon : Cond.selects RX6 yX6_lagoon yX6_lagoon ∈ gBig := gBm 425 (by decide +kernel) rfl
theorem kc_X6_lagoon : Cond.code yX6_lagoon cX6_lagoon 2 (some .int) ∈ gBig := gBm 426 (by decide +kernel) rfl
theorem km_X6_146 : Cond.methodLink RX6 146 yX3_readPlaces ∈ gBig := gBm 427 (by decide +kernel) rfl
theorem kin_X3_readPlaces : Cond.instanceMethod yX3_readPlaces ∈ gBig := gBm 428 (by decide +kernel) rfl
theorem ksel_X3_readPlaces : Cond.selects RX3 yX3_readPlaces yX3_readPlaces ∈ gBig := gBm 429 (by decide +kernel) rfl
theorem kc_X3_readPlaces : Cond.code yX3_readPlaces cX3_readPlaces 2 (some .int) ∈ gBig := gBm 430 (by decide +kernel) rfl
theorem km_X3_28 : Cond.methodLink RX3 28 yX3_begin ∈ gBig := gBm 431 (by decide +kernel) rfl
theorem kin_X3_begin : Cond.instanceMethod yX3_begin ∈ gBig := gBm 433 (by decide +kernel) rfl
theorem kc_X3_begin : Cond.code yX3_begin cX3_begin 1 none ∈ gBig := gBm 434 (by decide +kernel) rfl
theorem km_X3_34 : Cond.methodLink RX3 34 yX3_readPlace ∈ gBig := gBm 435 (by decide +kernel) rfl
theorem kin_X3_readPlace : Cond.instanceMethod yX3_readPlace ∈ gBig := gBm 437 (by decide +kernel) rfl
theorem kc_X3_readPlace : Cond.code yX3_readPlace cX3_readPlace 1 none ∈ gBig := gBm 438 (by decide +kernel) rfl
theorem km_X3_58 : Cond.methodLink RX3 58 yX3_readDepth ∈ gBig := gBm 439 (by decide +kernel) rfl
theorem kin_X3_readDepth : Cond.instanceMethod yX3_readDepth ∈ gBig := gBm 441 (by decide +kernel) rfl
theorem kc_X3_readDepth : Cond.code yX3_readDepth cX3_readDepth 1 (some .int) ∈ gBig := gBm 442 (by decide +kernel) rfl
theorem km_X3_61 : Cond.methodLink RX3 61 yX3_peek ∈ gBig := gBm 443 (by decide +kernel) rfl
theorem kin_X3_peek : Cond.instanceMethod yX3_peek ∈ gBig := gBm 445 (by decide +kernel) rfl
theorem kc_X3_peek : Cond.code yX3_peek cX3_peek 1 (some .int) ∈ gBig := gBm 446 (by decide +kernel) rfl
theorem km_X3_64 : Cond.methodLink RX3 64 yX3_readNumber ∈ gBig := gBm 447 (by decide +kernel) rfl
theorem kin_X3_readNumber : Cond.instanceMethod yX3_readNumber ∈ gBig := gBm 449 (by decide +kernel) rfl
theorem kc_X3_readNumber : Cond.code yX3_readNumber cX3_readNumber 5 (some .int) ∈ gBig := gBm 450 (by decide +kernel) rfl
theorem km_X3_71 : Cond.methodLink RX3 71 yX3_faultAt ∈ gBig := gBm 452 (by decide +kernel) rfl
theorem kin_X3_faultAt : Cond.instanceMethod yX3_faultAt ∈ gBig := gBm 454 (by decide +kernel) rfl
theorem kc_X3_faultAt : Cond.code yX3_faultAt cX3_faultAt 2 none ∈ gBig := gBm 455 (by decide +kernel) rfl
theorem km_X3_78 : Cond.methodLink RX3 78 yJ9_min_7cf53 ∈ gBig := gBm 456 (by decide +kernel) rfl
theorem kst_J9_min_7cf53 : Cond.static yJ9_min_7cf53 ∈ gBig := gBm 457 (by decide +kernel) rfl
theorem kc_J9_min_7cf53 : Cond.code yJ9_min_7cf53 cJ9_min_7cf53 2 (some .int) ∈ gBig := gBm 458 (by decide +kernel) rfl
theorem km_X3_37 : Cond.methodLink RX3 37 yX3_goesOn ∈ gBig := gBm 459 (by decide +kernel) rfl
theorem kin_X3_goesOn : Cond.instanceMethod yX3_goesOn ∈ gBig := gBm 461 (by decide +kernel) rfl
theorem kc_X3_goesOn : Cond.code yX3_goesOn cX3_goesOn 3 (some .boolean) ∈ gBig := gBm 462 (by decide +kernel) rfl
theorem km_X3_41 : Cond.methodLink RX3 41 yX3_outcome ∈ gBig := gBm 463 (by decide +kernel) rfl
theorem kin_X3_outcome : Cond.instanceMethod yX3_outcome ∈ gBig := gBm 465 (by decide +kernel) rfl
theorem kc_X3_outcome : Cond.code yX3_outcome cX3_outcome 1 (some .int) ∈ gBig := gBm 466 (by decide +kernel) rfl
theorem km_X6_150 : Cond.methodLink RX6 150 yX1_settle ∈ gBig := gBm 467 (by decide +kernel) rfl
theorem kin_X1_settle : Cond.instanceMethod yX1_settle ∈ gBig := gBm 468 (by decide +kernel) rfl
theorem ksel_X1_settle : Cond.selects RX1 yX1_settle yX1_settle ∈ gBig := gBm 469 (by decide +kernel) rfl
theorem kc_X1_settle : Cond.code yX1_settle cX1_settle 4 none ∈ gBig := gBm 470 (by decide +kernel) rfl
theorem km_X1_87 : Cond.methodLink RX1 87 yX1_addPlace ∈ gBig := gBm 471 (by decide +kernel) rfl
theorem km_L_56 : Cond.methodLink RL 56 yX6_paths ∈ gBig := gBm 472 (by decide +kernel) rfl
theorem kin_X6_paths : Cond.instanceMethod yX6_paths ∈ gBig := gBm 473 (by decide +kernel) rfl
theorem ksel_X6_paths : Cond.selects RX6 yX6_paths yX6_paths ∈ gBig := gBm 474 (by decide +kernel) rfl
theorem kc_X6_paths : Cond.code yX6_paths cX6_paths 2 (some .int) ∈ gBig := gBm 475 (by decide +kernel) rfl
theorem km_X6_154 : Cond.methodLink RX6 154 yX3_readPaths ∈ gBig := gBm 476 (by decide +kernel) rfl
theorem kin_X3_readPaths : Cond.instanceMethod yX3_readPaths ∈ gBig := gBm 477 (by decide +kernel) rfl
theorem ksel_X3_readPaths : Cond.selects RX3 yX3_readPaths yX3_readPaths ∈ gBig := gBm 478 (by decide +kernel) rfl
theorem kc_X3_readPaths : Cond.code yX3_readPaths cX3_readPaths 3 (some .int) ∈ gBig := gBm 479 (by decide +kernel) rfl
theorem km_X3_45 : Cond.methodLink RX3 45 yX3_readPath ∈ gBig := gBm 480 (by decide +kernel) rfl
theorem kin_X3_readPath : Cond.instanceMethod yX3_readPath ∈ gBig := gBm 482 (by decide +kernel) rfl
theorem kc_X3_readPath : Cond.code yX3_readPath cX3_readPath 2 none ∈ gBig := gBm 483 (by decide +kernel) rfl
theorem km_X3_68 : Cond.methodLink RX3 68 yX3_readLetter ∈ gBig := gBm 484 (by decide +kernel) rfl
theorem kin_X3_readLetter : Cond.instanceMethod yX3_readLetter ∈ gBig := gBm 486 (by decide +kernel) rfl
theorem kc_X3_readLetter : Cond.code yX3_readLetter cX3_readLetter 4 (some .int) ∈ gBig := gBm 487 (by decide +kernel) rfl
theorem km_X6_157 : Cond.methodLink RX6 157 yX1_joinAll ∈ gBig := gBm 488 (by decide +kernel) rfl
theorem kin_X1_joinAll : Cond.instanceMethod yX1_joinAll ∈ gBig := gBm 489 (by decide +kernel) rfl
theorem ksel_X1_joinAll : Cond.selects RX1 yX1_joinAll yX1_joinAll ∈ gBig := gBm 490 (by decide +kernel) rfl
theorem kc_X1_joinAll : Cond.code yX1_joinAll cX1_joinAll 3 none ∈ gBig := gBm 491 (by decide +kernel) rfl
theorem km_X1_94 : Cond.methodLink RX1 94 yX1_join ∈ gBig := gBm 492 (by decide +kernel) rfl
theorem km_L_60 : Cond.methodLink RL 60 yX6_count ∈ gBig := gBm 493 (by decide +kernel) rfl
theorem kin_X6_count : Cond.instanceMethod yX6_count ∈ gBig := gBm 494 (by decide +kernel) rfl
theorem ksel_X6_count : Cond.selects RX6 yX6_count yX6_count ∈ gBig := gBm 495 (by decide +kernel) rfl
theorem kc_X6_count : Cond.code yX6_count cX6_count 2 (some .int) ∈ gBig := gBm 496 (by decide +kernel) rfl
theorem km_X6_160 : Cond.methodLink RX6 160 yX1_countPaths ∈ gBig := gBm 497 (by decide +kernel) rfl
theorem kin_X1_countPaths : Cond.instanceMethod yX1_countPaths ∈ gBig := gBm 498 (by decide +kernel) rfl
theorem ksel_X1_countPaths : Cond.selects RX1 yX1_countPaths yX1_countPaths ∈ gBig := gBm 499 (by decide +kernel) rfl
theorem kc_X1_countPaths : Cond.code yX1_countPaths cX1_countPaths 4 (some .int) ∈ gBig := gBm 500 (by decide +kernel) rfl
theorem km_L_64 : Cond.methodLink RL 64 yX6_water ∈ gBig := gBm 501 (by decide +kernel) rfl
theorem kin_X6_water : Cond.instanceMethod yX6_water ∈ gBig := gBm 502 (by decide +kernel) rfl
theorem ksel_X6_water : Cond.selects RX6 yX6_water yX6_water ∈ gBig := gBm 503 (by decide +kernel) rfl
theorem kc_X6_water : Cond.code yX6_water cX6_water 3 (some .int) ∈ gBig := gBm 504 (by decide +kernel) rfl
theorem km_X6_169 : Cond.methodLink RX6 169 yX1_waterAt ∈ gBig := gBm 505 (by decide +kernel) rfl
theorem kin_X1_waterAt : Cond.instanceMethod yX1_waterAt ∈ gBig := gBm 506 (by decide +kernel) rfl
theorem ksel_X1_waterAt : Cond.selects RX1 yX1_waterAt yX1_waterAt ∈ gBig := gBm 507 (by decide +kernel) rfl
theorem kc_X1_waterAt : Cond.code yX1_waterAt cX1_waterAt 3 (some .int) ∈ gBig := gBm 508 (by decide +kernel) rfl
theorem km_X1_109 : Cond.methodLink RX1 109 yX1_waterOver ∈ gBig := gBm 509 (by decide +kernel) rfl
theorem kin_X1_waterOver : Cond.instanceMethod yX1_waterOver ∈ gBig := gBm 510 (by decide +kernel) rfl
theorem ksel_X1_waterOver : Cond.selects RX1 yX1_waterOver yX1_waterOver ∈ gBig := gBm 511 (by decide +kernel) rfl
theorem kc_X1_waterOver : Cond.code yX1_waterOver cX1_waterOver 4 (some .int) ∈ gBig := gBm 512 (by decide +kernel) rfl
theorem km_L_68 : Cond.methodLink RL 68 yX6_stands ∈ gBig := gBm 513 (by decide +kernel) rfl
theorem kin_X6_stands : Cond.instanceMethod yX6_stands ∈ gBig := gBm 514 (by decide +kernel) rfl
theorem ksel_X6_stands : Cond.selects RX6 yX6_stands yX6_stands ∈ gBig := gBm 515 (by decide +kernel) rfl
theorem kc_X6_stands : Cond.code yX6_stands cX6_stands 4 (some .int) ∈ gBig := gBm 516 (by decide +kernel) rfl
theorem km_X6_172 : Cond.methodLink RX6 172 yX1_standsAt ∈ gBig := gBm 517 (by decide +kernel) rfl
theorem kin_X1_standsAt : Cond.instanceMethod yX1_standsAt ∈ gBig := gBm 518 (by decide +kernel) rfl
theorem ksel_X1_standsAt : Cond.selects RX1 yX1_standsAt yX1_standsAt ∈ gBig := gBm 519 (by decide +kernel) rfl
theorem kc_X1_standsAt : Cond.code yX1_standsAt cX1_standsAt 4 (some .boolean) ∈ gBig := gBm 520 (by decide +kernel) rfl
theorem km_X1_120 : Cond.methodLink RX1 120 yX1_waterAt ∈ gBig := gBm 521 (by decide +kernel) rfl
theorem km_X1_123 : Cond.methodLink RX1 123 yX1_bears ∈ gBig := gBm 522 (by decide +kernel) rfl
theorem kin_X1_bears : Cond.instanceMethod yX1_bears ∈ gBig := gBm 523 (by decide +kernel) rfl
theorem ksel_X1_bears : Cond.selects RX1 yX1_bears yX1_bears ∈ gBig := gBm 524 (by decide +kernel) rfl
theorem kc_X1_bears : Cond.code yX1_bears cX1_bears 5 (some .boolean) ∈ gBig := gBm 525 (by decide +kernel) rfl
theorem km_X1_116 : Cond.methodLink RX1 116 yX1_fits ∈ gBig := gBm 526 (by decide +kernel) rfl
theorem kin_X1_fits : Cond.instanceMethod yX1_fits ∈ gBig := gBm 527 (by decide +kernel) rfl
theorem ksel_X1_fits : Cond.selects RX1 yX1_fits yX1_fits ∈ gBig := gBm 528 (by decide +kernel) rfl
theorem kc_X1_fits : Cond.code yX1_fits cX1_fits 3 (some .boolean) ∈ gBig := gBm 529 (by decide +kernel) rfl
theorem km_L_72 : Cond.methodLink RL 72 yX6_hours ∈ gBig := gBm 530 (by decide +kernel) rfl
theorem kin_X6_hours : Cond.instanceMethod yX6_hours ∈ gBig := gBm 531 (by decide +kernel) rfl
theorem ksel_X6_hours : Cond.selects RX6 yX6_hours yX6_hours ∈ gBig := gBm 532 (by decide +kernel) rfl
theorem kc_X6_hours : Cond.code yX6_hours cX6_hours 5 (some .int) ∈ gBig := gBm 533 (by decide +kernel) rfl
theorem km_L_76 : Cond.methodLink RL 76 yX6_years ∈ gBig := gBm 534 (by decide +kernel) rfl
theorem kin_X6_years : Cond.instanceMethod yX6_years ∈ gBig := gBm 535 (by decide +kernel) rfl
theorem ksel_X6_years : Cond.selects RX6 yX6_years yX6_years ∈ gBig := gBm 536 (by decide +kernel) rfl
theorem kc_X6_years : Cond.code yX6_years cX6_years 2 (some .int) ∈ gBig := gBm 537 (by decide +kernel) rfl
theorem km_X6_175 : Cond.methodLink RX6 175 yX1_age ∈ gBig := gBm 538 (by decide +kernel) rfl
theorem kin_X1_age : Cond.instanceMethod yX1_age ∈ gBig := gBm 539 (by decide +kernel) rfl
theorem ksel_X1_age : Cond.selects RX1 yX1_age yX1_age ∈ gBig := gBm 540 (by decide +kernel) rfl
theorem kc_X1_age : Cond.code yX1_age cX1_age 3 none ∈ gBig := gBm 541 (by decide +kernel) rfl
theorem km_X1_98 : Cond.methodLink RX1 98 yX1_depthIn ∈ gBig := gBm 542 (by decide +kernel) rfl
theorem kin_X1_depthIn : Cond.instanceMethod yX1_depthIn ∈ gBig := gBm 543 (by decide +kernel) rfl
theorem ksel_X1_depthIn : Cond.selects RX1 yX1_depthIn yX1_depthIn ∈ gBig := gBm 544 (by decide +kernel) rfl
theorem kc_X1_depthIn : Cond.code yX1_depthIn cX1_depthIn 3 (some .int) ∈ gBig := gBm 545 (by decide +kernel) rfl
theorem km_X1_106 : Cond.methodLink RX1 106 yJ9_min_7cf53 ∈ gBig := gBm 546 (by decide +kernel) rfl
theorem km_L_80 : Cond.methodLink RL 80 yX6_way ∈ gBig := gBm 547 (by decide +kernel) rfl
theorem kin_X6_way : Cond.instanceMethod yX6_way ∈ gBig := gBm 548 (by decide +kernel) rfl
theorem ksel_X6_way : Cond.selects RX6 yX6_way yX6_way ∈ gBig := gBm 549 (by decide +kernel) rfl
theorem kc_X6_way : Cond.code yX6_way cX6_way 5 (some .int) ∈ gBig := gBm 550 (by decide +kernel) rfl
theorem km_X6_178 : Cond.methodLink RX6 178 yX6_isMinute ∈ gBig := gBm 551 (by decide +kernel) rfl
theorem kst_X6_isMinute : Cond.static yX6_isMinute ∈ gBig := gBm 552 (by decide +kernel) rfl
theorem kc_X6_isMinute : Cond.code yX6_isMinute cX6_isMinute 1 (some .boolean) ∈ gBig := gBm 553 (by decide +kernel) rfl
theorem km_X6_181 : Cond.methodLink RX6 181 yX5_prepare ∈ gBig := gBm 554 (by decide +kernel) rfl
theorem kin_X5_prepare : Cond.instanceMethod yX5_prepare ∈ gBig := gBm 555 (by decide +kernel) rfl
theorem ksel_X5_prepare : Cond.selects RX5 yX5_prepare yX5_prepare ∈ gBig := gBm 556 (by decide +kernel) rfl
theorem kc_X5_prepare : Cond.code yX5_prepare cX5_prepare 6 none ∈ gBig := gBm 557 (by decide +kernel) rfl
theorem km_X5_54 : Cond.methodLink RX5 54 yX5_listPosts ∈ gBig := gBm 558 (by decide +kernel) rfl
theorem kin_X5_listPosts : Cond.instanceMethod yX5_listPosts ∈ gBig := gBm 560 (by decide +kernel) rfl
theorem kc_X5_listPosts : Cond.code yX5_listPosts cX5_listPosts 5 none ∈ gBig := gBm 561 (by decide +kernel) rfl
theorem km_X5_58 : Cond.methodLink RX5 58 yX5_listEdges ∈ gBig := gBm 562 (by decide +kernel) rfl
theorem kin_X5_listEdges : Cond.instanceMethod yX5_listEdges ∈ gBig := gBm 564 (by decide +kernel) rfl
theorem kc_X5_listEdges : Cond.code yX5_listEdges cX5_listEdges 4 none ∈ gBig := gBm 565 (by decide +kernel) rfl
theorem km_X5_61 : Cond.methodLink RX5 61 yX1_waterAt ∈ gBig := gBm 566 (by decide +kernel) rfl
theorem km_X5_65 : Cond.methodLink RX5 65 yX5_footingIn ∈ gBig := gBm 567 (by decide +kernel) rfl
theorem kin_X5_footingIn : Cond.instanceMethod yX5_footingIn ∈ gBig := gBm 569 (by decide +kernel) rfl
theorem kc_X5_footingIn : Cond.code yX5_footingIn cX5_footingIn 7 (some .int) ∈ gBig := gBm 570 (by decide +kernel) rfl
theorem km_X5_90 : Cond.methodLink RX5 90 yX1_bears ∈ gBig := gBm 571 (by decide +kernel) rfl
theorem km_X6_185 : Cond.methodLink RX6 185 yX5_soonest ∈ gBig := gBm 572 (by decide +kernel) rfl
theorem kin_X5_soonest : Cond.instanceMethod yX5_soonest ∈ gBig := gBm 573 (by decide +kernel) rfl
theorem ksel_X5_soonest : Cond.selects RX5 yX5_soonest yX5_soonest ∈ gBig := gBm 574 (by decide +kernel) rfl
theorem kc_X5_soonest : Cond.code yX5_soonest cX5_soonest 3 (some .int) ∈ gBig := gBm 575 (by decide +kernel) rfl
theorem km_X5_94 : Cond.methodLink RX5 94 yX5_step ∈ gBig := gBm 576 (by decide +kernel) rfl
theorem kin_X5_step : Cond.instanceMethod yX5_step ∈ gBig := gBm 578 (by decide +kernel) rfl
theorem kc_X5_step : Cond.code yX5_step cX5_step 7 (some .boolean) ∈ gBig := gBm 579 (by decide +kernel) rfl
theorem km_X5_116 : Cond.methodLink RX5 116 yX5_hourOf ∈ gBig := gBm 580 (by decide +kernel) rfl
theorem kin_X5_hourOf : Cond.instanceMethod yX5_hourOf ∈ gBig := gBm 582 (by decide +kernel) rfl
theorem kc_X5_hourOf : Cond.code yX5_hourOf cX5_hourOf 2 (some .int) ∈ gBig := gBm 583 (by decide +kernel) rfl
theorem km_X5_119 : Cond.methodLink RX5 119 yX5_arrive ∈ gBig := gBm 584 (by decide +kernel) rfl
theorem kin_X5_arrive : Cond.instanceMethod yX5_arrive ∈ gBig := gBm 586 (by decide +kernel) rfl
theorem kc_X5_arrive : Cond.code yX5_arrive cX5_arrive 4 none ∈ gBig := gBm 587 (by decide +kernel) rfl
theorem km_X5_126 : Cond.methodLink RX5 126 yX5_walkAlong ∈ gBig := gBm 588 (by decide +kernel) rfl
theorem kin_X5_walkAlong : Cond.instanceMethod yX5_walkAlong ∈ gBig := gBm 590 (by decide +kernel) rfl
theorem kc_X5_walkAlong : Cond.code yX5_walkAlong cX5_walkAlong 8 none ∈ gBig := gBm 591 (by decide +kernel) rfl
theorem km_X5_123 : Cond.methodLink RX5 123 yX5_withSplice ∈ gBig := gBm 592 (by decide +kernel) rfl
theorem kin_X5_withSplice : Cond.instanceMethod yX5_withSplice ∈ gBig := gBm 594 (by decide +kernel) rfl
theorem kc_X5_withSplice : Cond.code yX5_withSplice cX5_withSplice 4 (some .int) ∈ gBig := gBm 595 (by decide +kernel) rfl
theorem kf_X5_134 : Cond.fieldLink RX5 134 RX5 "LACKING" "[I" ∈ gBig := gBm 597 (by decide +kernel) rfl
theorem km_X6_188 : Cond.methodLink RX6 188 yX5_lightest ∈ gBig := gBm 599 (by decide +kernel) rfl
theorem kin_X5_lightest : Cond.instanceMethod yX5_lightest ∈ gBig := gBm 600 (by decide +kernel) rfl
theorem ksel_X5_lightest : Cond.selects RX5 yX5_lightest yX5_lightest ∈ gBig := gBm 601 (by decide +kernel) rfl
theorem kc_X5_lightest : Cond.code yX5_lightest cX5_lightest 4 (some .int) ∈ gBig := gBm 602 (by decide +kernel) rfl
theorem km_X5_98 : Cond.methodLink RX5 98 yX5_fewestTaken ∈ gBig := gBm 603 (by decide +kernel) rfl
theorem kin_X5_fewestTaken : Cond.instanceMethod yX5_fewestTaken ∈ gBig := gBm 605 (by decide +kernel) rfl
theorem kc_X5_fewestTaken : Cond.code yX5_fewestTaken cX5_fewestTaken 4 (some .int) ∈ gBig := gBm 606 (by decide +kernel) rfl
theorem kst_X6_holds : Cond.static yX6_holds ∈ gBig := gBm 608 (by decide +kernel) rfl
theorem kc_X6_holds : Cond.code yX6_holds cX6_holds 2 (some .boolean) ∈ gBig := gBm 609 (by decide +kernel) rfl
theorem km_X5_111 : Cond.methodLink RX5 111 yJ6_bitCount_0f7a4 ∈ gBig := gBm 610 (by decide +kernel) rfl
theorem kst_J6_bitCount_0f7a4 : Cond.static yJ6_bitCount_0f7a4 ∈ gBig := gBm 611 (by decide +kernel) rfl
theorem kc_J6_bitCount_0f7a4 : Cond.code yJ6_bitCount_0f7a4 cJ6_bitCount_0f7a4 1 (some .int) ∈ gBig := gBm 612 (by decide +kernel) rfl
theorem kk_J6_265 : Cond.constant RJ6 265 (1431655765) ∈ gBig := gBm 613 (by decide +kernel) rfl
theorem kk_J6_266 : Cond.constant RJ6 266 (858993459) ∈ gBig := gBm 614 (by decide +kernel) rfl
theorem kk_J6_267 : Cond.constant RJ6 267 (252645135) ∈ gBig := gBm 615 (by decide +kernel) rfl
theorem km_X5_102 : Cond.methodLink RX5 102 yJ9_min_7cf53 ∈ gBig := gBm 616 (by decide +kernel) rfl
theorem km_L_85 : Cond.methodLink RL 85 yX6_race ∈ gBig := gBm 617 (by decide +kernel) rfl
theorem kin_X6_race : Cond.instanceMethod yX6_race ∈ gBig := gBm 618 (by decide +kernel) rfl
theorem ksel_X6_race : Cond.selects RX6 yX6_race yX6_race ∈ gBig := gBm 619 (by decide +kernel) rfl
theorem kc_X6_race : Cond.code yX6_race cX6_race 10 (some .int) ∈ gBig := gBm 620 (by decide +kernel) rfl
theorem km_X6_191 : Cond.methodLink RX6 191 yX1_hasPeople ∈ gBig := gBm 621 (by decide +kernel) rfl
theorem kin_X1_hasPeople : Cond.instanceMethod yX1_hasPeople ∈ gBig := gBm 622 (by decide +kernel) rfl
theorem ksel_X1_hasPeople : Cond.selects RX1 yX1_hasPeople yX1_hasPeople ∈ gBig := gBm 623 (by decide +kernel) rfl
theorem kc_X1_hasPeople : Cond.code yX1_hasPeople cX1_hasPeople 2 (some .boolean) ∈ gBig := gBm 624 (by decide +kernel) rfl
theorem km_X6_194 : Cond.methodLink RX6 194 yX6_holds ∈ gBig := gBm 625 (by decide +kernel) rfl
theorem km_L_89 : Cond.methodLink RL 89 yX6_need ∈ gBig := gBm 626 (by decide +kernel) rfl
theorem kin_X6_need : Cond.instanceMethod yX6_need ∈ gBig := gBm 627 (by decide +kernel) rfl
theorem ksel_X6_need : Cond.selects RX6 yX6_need yX6_need ∈ gBig := gBm 628 (by decide +kernel) rfl
theorem kc_X6_need : Cond.code yX6_need cX6_need 4 (some .int) ∈ gBig := gBm 629 (by decide +kernel) rfl
theorem km_X6_198 : Cond.methodLink RX6 198 yX1_addNeed ∈ gBig := gBm 630 (by decide +kernel) rfl
theorem kin_X1_addNeed : Cond.instanceMethod yX1_addNeed ∈ gBig := gBm 631 (by decide +kernel) rfl
theorem ksel_X1_addNeed : Cond.selects RX1 yX1_addNeed yX1_addNeed ∈ gBig := gBm 632 (by decide +kernel) rfl
theorem kc_X1_addNeed : Cond.code yX1_addNeed cX1_addNeed 4 (some .int) ∈ gBig := gBm 633 (by decide +kernel) rfl
theorem km_L_93 : Cond.methodLink RL 93 yX6_met ∈ gBig := gBm 634 (by decide +kernel) rfl
theorem kin_X6_met : Cond.instanceMethod yX6_met ∈ gBig := gBm 635 (by decide +kernel) rfl
theorem ksel_X6_met : Cond.selects RX6 yX6_met yX6_met ∈ gBig := gBm 636 (by decide +kernel) rfl
theorem kc_X6_met : Cond.code yX6_met cX6_met 3 (some .int) ∈ gBig := gBm 637 (by decide +kernel) rfl
theorem km_X6_204 : Cond.methodLink RX6 204 yX1_isMet ∈ gBig := gBm 638 (by decide +kernel) rfl
theorem kin_X1_isMet : Cond.instanceMethod yX1_isMet ∈ gBig := gBm 639 (by decide +kernel) rfl
theorem ksel_X1_isMet : Cond.selects RX1 yX1_isMet yX1_isMet ∈ gBig := gBm 640 (by decide +kernel) rfl
theorem kc_X1_isMet : Cond.code yX1_isMet cX1_isMet 4 (some .boolean) ∈ gBig := gBm 641 (by decide +kernel) rfl
theorem km_L_97 : Cond.methodLink RL 97 yX6_lengths ∈ gBig := gBm 642 (by decide +kernel) rfl
theorem kin_X6_lengths : Cond.instanceMethod yX6_lengths ∈ gBig := gBm 643 (by decide +kernel) rfl
theorem ksel_X6_lengths : Cond.selects RX6 yX6_lengths yX6_lengths ∈ gBig := gBm 644 (by decide +kernel) rfl
theorem kc_X6_lengths : Cond.code yX6_lengths cX6_lengths 2 (some .int) ∈ gBig := gBm 645 (by decide +kernel) rfl
theorem km_X6_207 : Cond.methodLink RX6 207 yX4_weigh ∈ gBig := gBm 646 (by decide +kernel) rfl
theorem kin_X4_weigh : Cond.instanceMethod yX4_weigh ∈ gBig := gBm 647 (by decide +kernel) rfl
theorem ksel_X4_weigh : Cond.selects RX4 yX4_weigh yX4_weigh ∈ gBig := gBm 648 (by decide +kernel) rfl
theorem kc_X4_weigh : Cond.code yX4_weigh cX4_weigh 3 none ∈ gBig := gBm 649 (by decide +kernel) rfl
theorem km_X4_32 : Cond.methodLink RX4 32 yX4_suitedBy ∈ gBig := gBm 650 (by decide +kernel) rfl
theorem kin_X4_suitedBy : Cond.instanceMethod yX4_suitedBy ∈ gBig := gBm 652 (by decide +kernel) rfl
theorem kc_X4_suitedBy : Cond.code yX4_suitedBy cX4_suitedBy 5 (some .int) ∈ gBig := gBm 653 (by decide +kernel) rfl
theorem km_X4_40 : Cond.methodLink RX4 40 yX1_isMet ∈ gBig := gBm 654 (by decide +kernel) rfl
theorem km_X4_36 : Cond.methodLink RX4 36 yX4_weighWith ∈ gBig := gBm 655 (by decide +kernel) rfl
theorem kin_X4_weighWith : Cond.instanceMethod yX4_weighWith ∈ gBig := gBm 657 (by decide +kernel) rfl
theorem kc_X4_weighWith : Cond.code yX4_weighWith cX4_weighWith 4 none ∈ gBig := gBm 658 (by decide +kernel) rfl
theorem km_X4_44 : Cond.methodLink RX4 44 yJ9_min_7cf53 ∈ gBig := gBm 659 (by decide +kernel) rfl
theorem km_X6_211 : Cond.methodLink RX6 211 yX4_fewestLengths ∈ gBig := gBm 660 (by decide +kernel) rfl
theorem kin_X4_fewestLengths : Cond.instanceMethod yX4_fewestLengths ∈ gBig := gBm 661 (by decide +kernel) rfl
theorem ksel_X4_fewestLengths : Cond.selects RX4 yX4_fewestLengths yX4_fewestLengths ∈ gBig := gBm 662 (by decide +kernel) rfl
theorem kc_X4_fewestLengths : Cond.code yX4_fewestLengths cX4_fewestLengths 1 (some .int) ∈ gBig := gBm 663 (by decide +kernel) rfl
theorem km_X6_214 : Cond.methodLink RX6 214 yX4_chosen ∈ gBig := gBm 664 (by decide +kernel) rfl
theorem kin_X4_chosen : Cond.instanceMethod yX4_chosen ∈ gBig := gBm 665 (by decide +kernel) rfl
theorem ksel_X4_chosen : Cond.selects RX4 yX4_chosen yX4_chosen ∈ gBig := gBm 666 (by decide +kernel) rfl
theorem kc_X4_chosen : Cond.code yX4_chosen cX4_chosen 6 (some .int) ∈ gBig := gBm 667 (by decide +kernel) rfl
theorem km_X4_50 : Cond.methodLink RX4 50 yX4_fewestLengths ∈ gBig := gBm 668 (by decide +kernel) rfl
theorem km_L_101 : Cond.methodLink RL 101 yX6_meeting ∈ gBig := gBm 669 (by decide +kernel) rfl
theorem kin_X6_meeting : Cond.instanceMethod yX6_meeting ∈ gBig := gBm 670 (by decide +kernel) rfl
theorem ksel_X6_meeting : Cond.selects RX6 yX6_meeting yX6_meeting ∈ gBig := gBm 671 (by decide +kernel) rfl
theorem kc_X6_meeting : Cond.code yX6_meeting cX6_meeting 8 (some .int) ∈ gBig := gBm 672 (by decide +kernel) rfl
theorem km_X6_217 : Cond.methodLink RX6 217 yX1_countStanding ∈ gBig := gBm 673 (by decide +kernel) rfl
theorem kin_X1_countStanding : Cond.instanceMethod yX1_countStanding ∈ gBig := gBm 674 (by decide +kernel) rfl
theorem ksel_X1_countStanding : Cond.selects RX1 yX1_countStanding yX1_countStanding ∈ gBig := gBm 675 (by decide +kernel) rfl
theorem kc_X1_countStanding : Cond.code yX1_countStanding cX1_countStanding 5 (some .int) ∈ gBig := gBm 676 (by decide +kernel) rfl
theorem km_X1_127 : Cond.methodLink RX1 127 yX1_standsAt ∈ gBig := gBm 677 (by decide +kernel) rfl
theorem km_L_105 : Cond.methodLink RL 105 yX6_pairs ∈ gBig := gBm 678 (by decide +kernel) rfl
theorem kin_X6_pairs : Cond.instanceMethod yX6_pairs ∈ gBig := gBm 679 (by decide +kernel) rfl
theorem ksel_X6_pairs : Cond.selects RX6 yX6_pairs yX6_pairs ∈ gBig := gBm 680 (by decide +kernel) rfl
theorem kc_X6_pairs : Cond.code yX6_pairs cX6_pairs 7 (some .int) ∈ gBig := gBm 681 (by decide +kernel) rfl
theorem km_X6_220 : Cond.methodLink RX6 220 yX1_shortestOf ∈ gBig := gBm 682 (by decide +kernel) rfl
theorem kin_X1_shortestOf : Cond.instanceMethod yX1_shortestOf ∈ gBig := gBm 683 (by decide +kernel) rfl
theorem ksel_X1_shortestOf : Cond.selects RX1 yX1_shortestOf yX1_shortestOf ∈ gBig := gBm 684 (by decide +kernel) rfl
theorem kc_X1_shortestOf : Cond.code yX1_shortestOf cX1_shortestOf 4 (some .int) ∈ gBig := gBm 685 (by decide +kernel) rfl
theorem km_X1_133 : Cond.methodLink RX1 133 yX1_lengthOf ∈ gBig := gBm 687 (by decide +kernel) rfl
theorem km_L_109 : Cond.methodLink RL 109 yX6_flood ∈ gBig := gBm 688 (by decide +kernel) rfl
theorem kin_X6_flood : Cond.instanceMethod yX6_flood ∈ gBig := gBm 689 (by decide +kernel) rfl
theorem ksel_X6_flood : Cond.selects RX6 yX6_flood yX6_flood ∈ gBig := gBm 690 (by decide +kernel) rfl
theorem kc_X6_flood : Cond.code yX6_flood cX6_flood 3 (some .int) ∈ gBig := gBm 691 (by decide +kernel) rfl
theorem km_X6_223 : Cond.methodLink RX6 223 yX0_weigh ∈ gBig := gBm 692 (by decide +kernel) rfl
theorem kin_X0_weigh : Cond.instanceMethod yX0_weigh ∈ gBig := gBm 693 (by decide +kernel) rfl
theorem ksel_X0_weigh : Cond.selects RX0 yX0_weigh yX0_weigh ∈ gBig := gBm 694 (by decide +kernel) rfl
theorem kc_X0_weigh : Cond.code yX0_weigh cX0_weigh 5 none ∈ gBig := gBm 695 (by decide +kernel) rfl
theorem km_X0_28 : Cond.methodLink RX0 28 yX1_drownsWith ∈ gBig := gBm 696 (by decide +kernel) rfl
theorem kin_X1_drownsWith : Cond.instanceMethod yX1_drownsWith ∈ gBig := gBm 697 (by decide +kernel) rfl
theorem ksel_X1_drownsWith : Cond.selects RX1 yX1_drownsWith yX1_drownsWith ∈ gBig := gBm 698 (by decide +kernel) rfl
theorem kc_X1_drownsWith : Cond.code yX1_drownsWith cX1_drownsWith 6 (some .boolean) ∈ gBig := gBm 699 (by decide +kernel) rfl
theorem km_X0_32 : Cond.methodLink RX0 32 yX0_firstBest ∈ gBig := gBm 700 (by decide +kernel) rfl
theorem kin_X0_firstBest : Cond.instanceMethod yX0_firstBest ∈ gBig := gBm 702 (by decide +kernel) rfl
theorem kc_X0_firstBest : Cond.code yX0_firstBest cX0_firstBest 4 (some .int) ∈ gBig := gBm 703 (by decide +kernel) rfl
theorem km_X0_36 : Cond.methodLink RX0 36 yX0_drownedBehind ∈ gBig := gBm 705 (by decide +kernel) rfl
theorem kin_X0_drownedBehind : Cond.instanceMethod yX0_drownedBehind ∈ gBig := gBm 707 (by decide +kernel) rfl
theorem kc_X0_drownedBehind : Cond.code yX0_drownedBehind cX0_drownedBehind 4 (some .int) ∈ gBig := gBm 708 (by decide +kernel) rfl
theorem km_X0_40 : Cond.methodLink RX0 40 yJ6_bitCount_0f7a4 ∈ gBig := gBm 709 (by decide +kernel) rfl
theorem km_X0_45 : Cond.methodLink RX0 45 yJ9_min_7cf53 ∈ gBig := gBm 710 (by decide +kernel) rfl
theorem km_X0_54 : Cond.methodLink RX0 54 yJ9_max_7cf53 ∈ gBig := gBm 711 (by decide +kernel) rfl
theorem km_X6_226 : Cond.methodLink RX6 226 yX0_drownedAsTheyAre ∈ gBig := gBm 712 (by decide +kernel) rfl
theorem kin_X0_drownedAsTheyAre : Cond.instanceMethod yX0_drownedAsTheyAre ∈ gBig := gBm 713 (by decide +kernel) rfl
theorem ksel_X0_drownedAsTheyAre : Cond.selects RX0 yX0_drownedAsTheyAre yX0_drownedAsTheyAre ∈ gBig := gBm 714 (by decide +kernel) rfl
theorem kc_X0_drownedAsTheyAre : Cond.code yX0_drownedAsTheyAre cX0_drownedAsTheyAre 3 (some .int) ∈ gBig := gBm 715 (by decide +kernel) rfl
theorem km_X6_229 : Cond.methodLink RX6 229 yX0_fewestDrowned ∈ gBig := gBm 716 (by decide +kernel) rfl
theorem kin_X0_fewestDrowned : Cond.instanceMethod yX0_fewestDrowned ∈ gBig := gBm 717 (by decide +kernel) rfl
theorem ksel_X0_fewestDrowned : Cond.selects RX0 yX0_fewestDrowned yX0_fewestDrowned ∈ gBig := gBm 718 (by decide +kernel) rfl
theorem kc_X0_fewestDrowned : Cond.code yX0_fewestDrowned cX0_fewestDrowned 1 (some .int) ∈ gBig := gBm 719 (by decide +kernel) rfl
theorem km_X6_232 : Cond.methodLink RX6 232 yX0_lengthGivenTo ∈ gBig := gBm 720 (by decide +kernel) rfl
theorem kin_X0_lengthGivenTo : Cond.instanceMethod yX0_lengthGivenTo ∈ gBig := gBm 721 (by decide +kernel) rfl
theorem ksel_X0_lengthGivenTo : Cond.selects RX0 yX0_lengthGivenTo yX0_lengthGivenTo ∈ gBig := gBm 722 (by decide +kernel) rfl
theorem kc_X0_lengthGivenTo : Cond.code yX0_lengthGivenTo cX0_lengthGivenTo 4 (some .int) ∈ gBig := gBm 723 (by decide +kernel) rfl
theorem km_L_113 : Cond.methodLink RL 113 yX6_carried ∈ gBig := gBm 724 (by decide +kernel) rfl
theorem kin_X6_carried : Cond.instanceMethod yX6_carried ∈ gBig := gBm 725 (by decide +kernel) rfl
theorem ksel_X6_carried : Cond.selects RX6 yX6_carried yX6_carried ∈ gBig := gBm 726 (by decide +kernel) rfl
theorem kc_X6_carried : Cond.code yX6_carried cX6_carried 8 (some .int) ∈ gBig := gBm 727 (by decide +kernel) rfl
theorem km_X6_235 : Cond.methodLink RX6 235 yJ9_max_7cf53 ∈ gBig := gBm 728 (by decide +kernel) rfl
theorem km_L_117 : Cond.methodLink RL 117 yX6_wrong ∈ gBig := gBm 729 (by decide +kernel) rfl
theorem kin_X6_wrong : Cond.instanceMethod yX6_wrong ∈ gBig := gBm 730 (by decide +kernel) rfl
theorem ksel_X6_wrong : Cond.selects RX6 yX6_wrong yX6_wrong ∈ gBig := gBm 731 (by decide +kernel) rfl
theorem kc_X6_wrong : Cond.code yX6_wrong cX6_wrong 5 (some .int) ∈ gBig := gBm 732 (by decide +kernel) rfl
theorem km_X6_240 : Cond.methodLink RX6 240 yX1_standsAtHomeIn ∈ gBig := gBm 733 (by decide +kernel) rfl
theorem kin_X1_standsAtHomeIn : Cond.instanceMethod yX1_standsAtHomeIn ∈ gBig := gBm 734 (by decide +kernel) rfl
theorem ksel_X1_standsAtHomeIn : Cond.selects RX1 yX1_standsAtHomeIn yX1_standsAtHomeIn ∈ gBig := gBm 735 (by decide +kernel) rfl
theorem kc_X1_standsAtHomeIn : Cond.code yX1_standsAtHomeIn cX1_standsAtHomeIn 5 (some .boolean) ∈ gBig := gBm 736 (by decide +kernel) rfl
theorem km_L_121 : Cond.methodLink RL 121 yX6_clear ∈ gBig := gBm 737 (by decide +kernel) rfl
theorem kin_X6_clear : Cond.instanceMethod yX6_clear ∈ gBig := gBm 738 (by decide +kernel) rfl
theorem ksel_X6_clear : Cond.selects RX6 yX6_clear yX6_clear ∈ gBig := gBm 739 (by decide +kernel) rfl
theorem kc_X6_clear : Cond.code yX6_clear cX6_clear 2 (some .int) ∈ gBig := gBm 740 (by decide +kernel) rfl
theorem km_L_125 : Cond.methodLink RL 125 yX6_image ∈ gBig := gBm 741 (by decide +kernel) rfl
theorem kin_X6_image : Cond.instanceMethod yX6_image ∈ gBig := gBm 742 (by decide +kernel) rfl
theorem ksel_X6_image : Cond.selects RX6 yX6_image yX6_image ∈ gBig := gBm 743 (by decide +kernel) rfl
theorem kc_X6_image : Cond.code yX6_image cX6_image 1 (some .int) ∈ gBig := gBm 744 (by decide +kernel) rfl
theorem km_X6_243 : Cond.methodLink RX6 243 yX1_become ∈ gBig := gBm 745 (by decide +kernel) rfl
theorem kin_X1_become : Cond.instanceMethod yX1_become ∈ gBig := gBm 746 (by decide +kernel) rfl
theorem ksel_X1_become : Cond.selects RX1 yX1_become yX1_become ∈ gBig := gBm 747 (by decide +kernel) rfl
theorem kc_X1_become : Cond.code yX1_become cX1_become 3 none ∈ gBig := gBm 748 (by decide +kernel) rfl
theorem km_X1_66 : Cond.methodLink RX1 66 arraycopyName ∈ gBig := gBm 749 (by decide +kernel) rfl
theorem kst_System_arraycopy : Cond.static arraycopyName ∈ gBig := gBm 750 (by decide +kernel) rfl
theorem kna_System_arraycopy : Cond.native arraycopyName ∈ gBig := gBm 751 (by decide +kernel) rfl
theorem km_L_129 : Cond.methodLink RL 129 yX6_restore ∈ gBig := gBm 752 (by decide +kernel) rfl
theorem kin_X6_restore : Cond.instanceMethod yX6_restore ∈ gBig := gBm 753 (by decide +kernel) rfl
theorem ksel_X6_restore : Cond.selects RX6 yX6_restore yX6_restore ∈ gBig := gBm 754 (by decide +kernel) rfl
theorem kc_X6_restore : Cond.code yX6_restore cX6_restore 1 (some .int) ∈ gBig := gBm 755 (by decide +kernel) rfl
theorem km_L_133 : Cond.methodLink RL 133 yX6_tides ∈ gBig := gBm 756 (by decide +kernel) rfl
theorem kin_X6_tides : Cond.instanceMethod yX6_tides ∈ gBig := gBm 757 (by decide +kernel) rfl
theorem ksel_X6_tides : Cond.selects RX6 yX6_tides yX6_tides ∈ gBig := gBm 758 (by decide +kernel) rfl
theorem kc_X6_tides : Cond.code yX6_tides cX6_tides 6 (some .int) ∈ gBig := gBm 759 (by decide +kernel) rfl
theorem km_X6_250 : Cond.methodLink RX6 250 yX6_refusal ∈ gBig := gBm 760 (by decide +kernel) rfl
theorem kin_X6_refusal : Cond.instanceMethod yX6_refusal ∈ gBig := gBm 762 (by decide +kernel) rfl
theorem kc_X6_refusal : Cond.code yX6_refusal cX6_refusal 3 (some .int) ∈ gBig := gBm 763 (by decide +kernel) rfl
theorem km_X6_263 : Cond.methodLink RX6 263 yX6_isSheet ∈ gBig := gBm 764 (by decide +kernel) rfl
theorem kst_X6_isSheet : Cond.static yX6_isSheet ∈ gBig := gBm 765 (by decide +kernel) rfl
theorem kc_X6_isSheet : Cond.code yX6_isSheet cX6_isSheet 1 (some .boolean) ∈ gBig := gBm 766 (by decide +kernel) rfl
theorem km_X6_266 : Cond.methodLink RX6 266 yX6_isLane ∈ gBig := gBm 767 (by decide +kernel) rfl
theorem kst_X6_isLane : Cond.static yX6_isLane ∈ gBig := gBm 768 (by decide +kernel) rfl
theorem kc_X6_isLane : Cond.code yX6_isLane cX6_isLane 1 (some .boolean) ∈ gBig := gBm 769 (by decide +kernel) rfl
theorem km_X6_257 : Cond.methodLink RX6 257 arraycopyName ∈ gBig := gBm 770 (by decide +kernel) rfl
theorem km_L_137 : Cond.methodLink RL 137 yX6_sheet ∈ gBig := gBm 771 (by decide +kernel) rfl
theorem kin_X6_sheet : Cond.instanceMethod yX6_sheet ∈ gBig := gBm 772 (by decide +kernel) rfl
theorem ksel_X6_sheet : Cond.selects RX6 yX6_sheet yX6_sheet ∈ gBig := gBm 773 (by decide +kernel) rfl
theorem kc_X6_sheet : Cond.code yX6_sheet cX6_sheet 4 (some .int) ∈ gBig := gBm 774 (by decide +kernel) rfl
theorem km_X6_269 : Cond.methodLink RX6 269 yX2_hold ∈ gBig := gBm 775 (by decide +kernel) rfl
theorem kin_X2_hold : Cond.instanceMethod yX2_hold ∈ gBig := gBm 776 (by decide +kernel) rfl
theorem ksel_X2_hold : Cond.selects RX2 yX2_hold yX2_hold ∈ gBig := gBm 777 (by decide +kernel) rfl
theorem kc_X2_hold : Cond.code yX2_hold cX2_hold 4 none ∈ gBig := gBm 778 (by decide +kernel) rfl
theorem km_L_141 : Cond.methodLink RL 141 yX6_drop ∈ gBig := gBm 779 (by decide +kernel) rfl
theorem kin_X6_drop : Cond.instanceMethod yX6_drop ∈ gBig := gBm 780 (by decide +kernel) rfl
theorem ksel_X6_drop : Cond.selects RX6 yX6_drop yX6_drop ∈ gBig := gBm 781 (by decide +kernel) rfl
theorem kc_X6_drop : Cond.code yX6_drop cX6_drop 3 (some .int) ∈ gBig := gBm 782 (by decide +kernel) rfl
theorem km_L_145 : Cond.methodLink RL 145 yX6_item ∈ gBig := gBm 783 (by decide +kernel) rfl
theorem kin_X6_item : Cond.instanceMethod yX6_item ∈ gBig := gBm 784 (by decide +kernel) rfl
theorem ksel_X6_item : Cond.selects RX6 yX6_item yX6_item ∈ gBig := gBm 785 (by decide +kernel) rfl
theorem kc_X6_item : Cond.code yX6_item cX6_item 7 (some .int) ∈ gBig := gBm 786 (by decide +kernel) rfl
theorem km_X6_276 : Cond.methodLink RX6 276 yX2_put ∈ gBig := gBm 787 (by decide +kernel) rfl
theorem kin_X2_put : Cond.instanceMethod yX2_put ∈ gBig := gBm 788 (by decide +kernel) rfl
theorem ksel_X2_put : Cond.selects RX2 yX2_put yX2_put ∈ gBig := gBm 789 (by decide +kernel) rfl
theorem kc_X2_put : Cond.code yX2_put cX2_put 3 none ∈ gBig := gBm 790 (by decide +kernel) rfl
theorem km_L_149 : Cond.methodLink RL 149 yX6_copy ∈ gBig := gBm 791 (by decide +kernel) rfl
theorem kin_X6_copy : Cond.instanceMethod yX6_copy ∈ gBig := gBm 792 (by decide +kernel) rfl
theorem ksel_X6_copy : Cond.selects RX6 yX6_copy yX6_copy ∈ gBig := gBm 793 (by decide +kernel) rfl
theorem kc_X6_copy : Cond.code yX6_copy cX6_copy 8 (some .int) ∈ gBig := gBm 794 (by decide +kernel) rfl
theorem km_X6_282 : Cond.methodLink RX6 282 yX2_hasRange ∈ gBig := gBm 795 (by decide +kernel) rfl
theorem kin_X2_hasRange : Cond.instanceMethod yX2_hasRange ∈ gBig := gBm 796 (by decide +kernel) rfl
theorem ksel_X2_hasRange : Cond.selects RX2 yX2_hasRange yX2_hasRange ∈ gBig := gBm 797 (by decide +kernel) rfl
theorem kc_X2_hasRange : Cond.code yX2_hasRange cX2_hasRange 3 (some .boolean) ∈ gBig := gBm 798 (by decide +kernel) rfl
theorem kcl_L_10 : Cond.classLink RL 10 RX7 ∈ gBig := gBm 800 (by decide +kernel) rfl
theorem kins_X7 : Cond.instantiable RX7 20 ∈ gBig := gBm 801 (by decide +kernel) rfl
theorem km_L_12 : Cond.methodLink RL 12 yX7_init ∈ gBig := gBm 802 (by decide +kernel) rfl
theorem kin_X7_init : Cond.instanceMethod yX7_init ∈ gBig := gBm 803 (by decide +kernel) rfl
theorem kc_X7_init : Cond.code yX7_init cX7_init 2 none ∈ gBig := gBm 804 (by decide +kernel) rfl
theorem km_X7_1 : Cond.methodLink RX7 1 objectInit ∈ gBig := gBm 805 (by decide +kernel) rfl
theorem kf_X7_7 : Cond.fieldLink RX7 7 RX7 "z" "[I" ∈ gBig := gBm 806 (by decide +kernel) rfl
theorem kf_X7_242 : Cond.fieldLink RX7 242 RX7 "isKept" "Z" ∈ gBig := gBm 807 (by decide +kernel) rfl
theorem kf_X7_13 : Cond.fieldLink RX7 13 RX7 "tape" "[I" ∈ gBig := gBm 808 (by decide +kernel) rfl
theorem kf_X7_110 : Cond.fieldLink RX7 110 RX7 "taped" "I" ∈ gBig := gBm 809 (by decide +kernel) rfl
theorem kf_X7_114 : Cond.fieldLink RX7 114 RX7 "at" "I" ∈ gBig := gBm 810 (by decide +kernel) rfl
theorem kf_X7_117 : Cond.fieldLink RX7 117 RX7 "fault" "I" ∈ gBig := gBm 811 (by decide +kernel) rfl
theorem kf_X7_132 : Cond.fieldLink RX7 132 RX7 "found" "I" ∈ gBig := gBm 812 (by decide +kernel) rfl
theorem kf_X7_16 : Cond.fieldLink RX7 16 RX7 "told" "[I" ∈ gBig := gBm 813 (by decide +kernel) rfl
theorem kf_X7_19 : Cond.fieldLink RX7 19 RX7 "items" "[I" ∈ gBig := gBm 814 (by decide +kernel) rfl
theorem kf_X7_22 : Cond.fieldLink RX7 22 RX7 "lanes" "[I" ∈ gBig := gBm 815 (by decide +kernel) rfl
theorem kf_X7_25 : Cond.fieldLink RX7 25 RX7 "sizes" "[I" ∈ gBig := gBm 816 (by decide +kernel) rfl
theorem kf_X7_28 : Cond.fieldLink RX7 28 RX7 "moved" "[I" ∈ gBig := gBm 817 (by decide +kernel) rfl
theorem kf_X7_31 : Cond.fieldLink RX7 31 RX7 "is" "[Z" ∈ gBig := gBm 818 (by decide +kernel) rfl
theorem kf_X7_35 : Cond.fieldLink RX7 35 RX7 "comes" "[Z" ∈ gBig := gBm 819 (by decide +kernel) rfl
theorem kf_X7_189 : Cond.fieldLink RX7 189 RX7 "soon" "I" ∈ gBig := gBm 820 (by decide +kernel) rfl
theorem kf_X7_192 : Cond.fieldLink RX7 192 RX7 "light" "I" ∈ gBig := gBm 821 (by decide +kernel) rfl
theorem kf_X7_38 : Cond.fieldLink RX7 38 RX7 "more" "[I" ∈ gBig := gBm 822 (by decide +kernel) rfl
theorem kf_X7_41 : Cond.fieldLink RX7 41 RX7 "helps" "[I" ∈ gBig := gBm 823 (by decide +kernel) rfl
theorem kf_X7_44 : Cond.fieldLink RX7 44 RX7 "most" "[I" ∈ gBig := gBm 824 (by decide +kernel) rfl
theorem kf_X7_47 : Cond.fieldLink RX7 47 RX7 "given" "[I" ∈ gBig := gBm 825 (by decide +kernel) rfl
theorem karr_arrayClass_810 : Cond.arrayClass Jvm.ClassFile.FieldType.boolean ∈ gBig := gBm 867 (by decide +kernel) rfl
theorem km_L_17 : Cond.methodLink RL 17 yX7_place ∈ gBig := gBm 868 (by decide +kernel) rfl
theorem kin_X7_place : Cond.instanceMethod yX7_place ∈ gBig := gBm 869 (by decide +kernel) rfl
theorem ksel_X7_place : Cond.selects RX7 yX7_place yX7_place ∈ gBig := gBm 870 (by decide +kernel) rfl
theorem kc_X7_place : Cond.code yX7_place cX7_place 2 (some .int) ∈ gBig := gBm 871 (by decide +kernel) rfl
theorem kk_X7_56 : Cond.constantLong RX7 56 (-20) ∈ gBig := gBm 872 (by decide +kernel) rfl
theorem kk_X7_58 : Cond.constantLong RX7 58 (60) ∈ gBig := gBm 873 (by decide +kernel) rfl
theorem km_X7_50 : Cond.methodLink RX7 50 yX7_in ∈ gBig := gBm 874 (by decide +kernel) rfl
theorem kst_X7_in : Cond.static yX7_in ∈ gBig := gBm 875 (by decide +kernel) rfl
theorem kc_X7_in : Cond.code yX7_in cX7_in 6 (some .boolean) ∈ gBig := gBm 876 (by decide +kernel) rfl
theorem km_X7_60 : Cond.methodLink RX7 60 yX7_put ∈ gBig := gBm 877 (by decide +kernel) rfl
theorem kin_X7_put : Cond.instanceMethod yX7_put ∈ gBig := gBm 879 (by decide +kernel) rfl
theorem kc_X7_put : Cond.code yX7_put cX7_put 4 none ∈ gBig := gBm 880 (by decide +kernel) rfl
theorem km_L_22 : Cond.methodLink RL 22 yX7_make ∈ gBig := gBm 881 (by decide +kernel) rfl
theorem kin_X7_make : Cond.instanceMethod yX7_make ∈ gBig := gBm 882 (by decide +kernel) rfl
theorem ksel_X7_make : Cond.selects RX7 yX7_make yX7_make ∈ gBig := gBm 883 (by decide +kernel) rfl
theorem kc_X7_make : Cond.code yX7_make cX7_make 6 (some .int) ∈ gBig := gBm 884 (by decide +kernel) rfl
theorem kk_X7_64 : Cond.constantLong RX7 64 (20) ∈ gBig := gBm 885 (by decide +kernel) rfl
theorem kk_X7_66 : Cond.constantLong RX7 66 (-5) ∈ gBig := gBm 886 (by decide +kernel) rfl
theorem kk_X7_68 : Cond.constantLong RX7 68 (5) ∈ gBig := gBm 887 (by decide +kernel) rfl
theorem km_X7_70 : Cond.methodLink RX7 70 yX7_isPlace ∈ gBig := gBm 888 (by decide +kernel) rfl
theorem kin_X7_isPlace : Cond.instanceMethod yX7_isPlace ∈ gBig := gBm 890 (by decide +kernel) rfl
theorem kc_X7_isPlace : Cond.code yX7_isPlace cX7_isPlace 2 (some .boolean) ∈ gBig := gBm 891 (by decide +kernel) rfl
theorem kk_X7_74 : Cond.constant RX7 74 (-100001) ∈ gBig := gBm 892 (by decide +kernel) rfl
theorem km_X7_75 : Cond.methodLink RX7 75 yX7_posts ∈ gBig := gBm 893 (by decide +kernel) rfl
theorem kin_X7_posts : Cond.instanceMethod yX7_posts ∈ gBig := gBm 895 (by decide +kernel) rfl
theorem kc_X7_posts : Cond.code yX7_posts cX7_posts 4 (some .int) ∈ gBig := gBm 896 (by decide +kernel) rfl
theorem kk_X7_79 : Cond.constant RX7 79 (-100003) ∈ gBig := gBm 897 (by decide +kernel) rfl
theorem km_L_26 : Cond.methodLink RL 26 yX7_path ∈ gBig := gBm 898 (by decide +kernel) rfl
theorem kin_X7_path : Cond.instanceMethod yX7_path ∈ gBig := gBm 899 (by decide +kernel) rfl
theorem ksel_X7_path : Cond.selects RX7 yX7_path yX7_path ∈ gBig := gBm 900 (by decide +kernel) rfl
theorem kc_X7_path : Cond.code yX7_path cX7_path 5 (some .int) ∈ gBig := gBm 901 (by decide +kernel) rfl
theorem km_X7_80 : Cond.methodLink RX7 80 yX7_pathOf ∈ gBig := gBm 902 (by decide +kernel) rfl
theorem kin_X7_pathOf : Cond.instanceMethod yX7_pathOf ∈ gBig := gBm 904 (by decide +kernel) rfl
theorem kc_X7_pathOf : Cond.code yX7_pathOf cX7_pathOf 3 (some .int) ∈ gBig := gBm 905 (by decide +kernel) rfl
theorem km_X7_84 : Cond.methodLink RX7 84 yX7_join ∈ gBig := gBm 906 (by decide +kernel) rfl
theorem kin_X7_join : Cond.instanceMethod yX7_join ∈ gBig := gBm 908 (by decide +kernel) rfl
theorem kc_X7_join : Cond.code yX7_join cX7_join 4 none ∈ gBig := gBm 909 (by decide +kernel) rfl
theorem km_L_31 : Cond.methodLink RL 31 yX7_tide ∈ gBig := gBm 910 (by decide +kernel) rfl
theorem kin_X7_tide : Cond.instanceMethod yX7_tide ∈ gBig := gBm 911 (by decide +kernel) rfl
theorem ksel_X7_tide : Cond.selects RX7 yX7_tide yX7_tide ∈ gBig := gBm 912 (by decide +kernel) rfl
theorem kc_X7_tide : Cond.code yX7_tide cX7_tide 4 (some .int) ∈ gBig := gBm 913 (by decide +kernel) rfl
theorem km_X7_88 : Cond.methodLink RX7 88 yX7_isHour ∈ gBig := gBm 914 (by decide +kernel) rfl
theorem kst_X7_isHour : Cond.static yX7_isHour ∈ gBig := gBm 915 (by decide +kernel) rfl
theorem kc_X7_isHour : Cond.code yX7_isHour cX7_isHour 1 (some .boolean) ∈ gBig := gBm 916 (by decide +kernel) rfl
theorem kk_X7_54 : Cond.constantLong RX7 54 (23) ∈ gBig := gBm 917 (by decide +kernel) rfl
theorem km_L_35 : Cond.methodLink RL 35 yX7_set ∈ gBig := gBm 918 (by decide +kernel) rfl
theorem kin_X7_set : Cond.instanceMethod yX7_set ∈ gBig := gBm 919 (by decide +kernel) rfl
theorem ksel_X7_set : Cond.selects RX7 yX7_set yX7_set ∈ gBig := gBm 920 (by decide +kernel) rfl
theorem kc_X7_set : Cond.code yX7_set cX7_set 4 (some .int) ∈ gBig := gBm 921 (by decide +kernel) rfl
theorem kk_X7_91 : Cond.constantLong RX7 91 (40) ∈ gBig := gBm 922 (by decide +kernel) rfl
theorem km_L_39 : Cond.methodLink RL 39 yX7_person ∈ gBig := gBm 923 (by decide +kernel) rfl
theorem kin_X7_person : Cond.instanceMethod yX7_person ∈ gBig := gBm 924 (by decide +kernel) rfl
theorem ksel_X7_person : Cond.selects RX7 yX7_person yX7_person ∈ gBig := gBm 925 (by decide +kernel) rfl
theorem kc_X7_person : Cond.code yX7_person cX7_person 5 (some .int) ∈ gBig := gBm 926 (by decide +kernel) rfl
theorem kk_X7_93 : Cond.constantLong RX7 93 (3) ∈ gBig := gBm 927 (by decide +kernel) rfl
theorem km_L_43 : Cond.methodLink RL 43 yX7_of ∈ gBig := gBm 928 (by decide +kernel) rfl
theorem kin_X7_of : Cond.instanceMethod yX7_of ∈ gBig := gBm 929 (by decide +kernel) rfl
theorem ksel_X7_of : Cond.selects RX7 yX7_of yX7_of ∈ gBig := gBm 930 (by decide +kernel) rfl
theorem kc_X7_of : Cond.code yX7_of cX7_of 3 (some .int) ∈ gBig := gBm 931 (by decide +kernel) rfl
theorem km_X7_95 : Cond.methodLink RX7 95 yX7_isPerson ∈ gBig := gBm 932 (by decide +kernel) rfl
theorem kin_X7_isPerson : Cond.instanceMethod yX7_isPerson ∈ gBig := gBm 934 (by decide +kernel) rfl
theorem kc_X7_isPerson : Cond.code yX7_isPerson cX7_isPerson 2 (some .boolean) ∈ gBig := gBm 935 (by decide +kernel) rfl
theorem km_X7_98 : Cond.methodLink RX7 98 yX7_byKind ∈ gBig := gBm 936 (by decide +kernel) rfl
theorem kst_X7_byKind : Cond.static yX7_byKind ∈ gBig := gBm 937 (by decide +kernel) rfl
theorem kc_X7_byKind : Cond.code yX7_byKind cX7_byKind 3 (some .int) ∈ gBig := gBm 938 (by decide +kernel) rfl
theorem km_L_50 : Cond.methodLink RL 50 yX7_type ∈ gBig := gBm 939 (by decide +kernel) rfl
theorem kin_X7_type : Cond.instanceMethod yX7_type ∈ gBig := gBm 940 (by decide +kernel) rfl
theorem ksel_X7_type : Cond.selects RX7 yX7_type yX7_type ∈ gBig := gBm 941 (by decide +kernel) rfl
theorem kc_X7_type : Cond.code yX7_type cX7_type 5 (some .int) ∈ gBig := gBm 942 (by decide +kernel) rfl
theorem kk_X7_102 : Cond.constantLong RX7 102 (8) ∈ gBig := gBm 943 (by decide +kernel) rfl
theorem kk_X7_104 : Cond.constantLong RX7 104 (255) ∈ gBig := gBm 944 (by decide +kernel) rfl
theorem kk_X7_106 : Cond.constantLong RX7 106 (32) ∈ gBig := gBm 945 (by decide +kernel) rfl
theorem kk_X7_108 : Cond.constantLong RX7 108 (126) ∈ gBig := gBm 946 (by decide +kernel) rfl
theorem km_L_55 : Cond.methodLink RL 55 yX7_lagoon ∈ gBig := gBm 947 (by decide +kernel) rfl
theorem kin_X7_lagoon : Cond.instanceMethod yX7_lagoon ∈ gBig := gBm 948 (by decide +kernel) rfl
theorem ksel_X7_lagoon : Cond.selects RX7 yX7_lagoon yX7_lagoon ∈ gBig := gBm 949 (by decide +kernel) rfl
theorem kc_X7_lagoon : Cond.code yX7_lagoon cX7_lagoon 5 (some .int) ∈ gBig := gBm 950 (by decide +kernel) rfl
theorem km_X7_135 : Cond.methodLink RX7 135 yX7_begin ∈ gBig := gBm 951 (by decide +kernel) rfl
theorem kin_X7_begin : Cond.instanceMethod yX7_begin ∈ gBig := gBm 953 (by decide +kernel) rfl
theorem kc_X7_begin : Cond.code yX7_begin cX7_begin 1 none ∈ gBig := gBm 954 (by decide +kernel) rfl
theorem km_X7_138 : Cond.methodLink RX7 138 yX7_takes ∈ gBig := gBm 955 (by decide +kernel) rfl
theorem kin_X7_takes : Cond.instanceMethod yX7_takes ∈ gBig := gBm 957 (by decide +kernel) rfl
theorem kc_X7_takes : Cond.code yX7_takes cX7_takes 3 (some .boolean) ∈ gBig := gBm 958 (by decide +kernel) rfl
theorem km_X7_120 : Cond.methodLink RX7 120 yX7_next ∈ gBig := gBm 959 (by decide +kernel) rfl
theorem kin_X7_next : Cond.instanceMethod yX7_next ∈ gBig := gBm 961 (by decide +kernel) rfl
theorem kc_X7_next : Cond.code yX7_next cX7_next 1 (some .int) ∈ gBig := gBm 962 (by decide +kernel) rfl
theorem km_X7_141 : Cond.methodLink RX7 141 yX7_number ∈ gBig := gBm 963 (by decide +kernel) rfl
theorem kin_X7_number : Cond.instanceMethod yX7_number ∈ gBig := gBm 965 (by decide +kernel) rfl
theorem kc_X7_number : Cond.code yX7_number cX7_number 7 none ∈ gBig := gBm 966 (by decide +kernel) rfl
theorem kk_X7_124 : Cond.constantLong RX7 124 (48) ∈ gBig := gBm 967 (by decide +kernel) rfl
theorem kk_X7_126 : Cond.constantLong RX7 126 (57) ∈ gBig := gBm 968 (by decide +kernel) rfl
theorem km_X7_128 : Cond.methodLink RX7 128 yX7_cannot ∈ gBig := gBm 969 (by decide +kernel) rfl
theorem kin_X7_cannot : Cond.instanceMethod yX7_cannot ∈ gBig := gBm 971 (by decide +kernel) rfl
theorem kc_X7_cannot : Cond.code yX7_cannot cX7_cannot 2 none ∈ gBig := gBm 972 (by decide +kernel) rfl
theorem km_X7_145 : Cond.methodLink RX7 145 yX7_fails ∈ gBig := gBm 973 (by decide +kernel) rfl
theorem kin_X7_fails : Cond.instanceMethod yX7_fails ∈ gBig := gBm 975 (by decide +kernel) rfl
theorem kc_X7_fails : Cond.code yX7_fails cX7_fails 1 (some .int) ∈ gBig := gBm 976 (by decide +kernel) rfl
theorem km_L_59 : Cond.methodLink RL 59 yX7_paths ∈ gBig := gBm 977 (by decide +kernel) rfl
theorem kin_X7_paths : Cond.instanceMethod yX7_paths ∈ gBig := gBm 978 (by decide +kernel) rfl
theorem ksel_X7_paths : Cond.selects RX7 yX7_paths yX7_paths ∈ gBig := gBm 979 (by decide +kernel) rfl
theorem kc_X7_paths : Cond.code yX7_paths cX7_paths 5 (some .int) ∈ gBig := gBm 980 (by decide +kernel) rfl
theorem km_X7_148 : Cond.methodLink RX7 148 yX7_letter ∈ gBig := gBm 981 (by decide +kernel) rfl
theorem kin_X7_letter : Cond.instanceMethod yX7_letter ∈ gBig := gBm 983 (by decide +kernel) rfl
theorem kc_X7_letter : Cond.code yX7_letter cX7_letter 3 (some .int) ∈ gBig := gBm 984 (by decide +kernel) rfl
theorem km_L_63 : Cond.methodLink RL 63 yX7_count ∈ gBig := gBm 985 (by decide +kernel) rfl
theorem kin_X7_count : Cond.instanceMethod yX7_count ∈ gBig := gBm 986 (by decide +kernel) rfl
theorem ksel_X7_count : Cond.selects RX7 yX7_count yX7_count ∈ gBig := gBm 987 (by decide +kernel) rfl
theorem kc_X7_count : Cond.code yX7_count cX7_count 5 (some .int) ∈ gBig := gBm 988 (by decide +kernel) rfl
theorem kk_X7_151 : Cond.constantLong RX7 151 (4) ∈ gBig := gBm 989 (by decide +kernel) rfl
theorem km_L_67 : Cond.methodLink RL 67 yX7_water ∈ gBig := gBm 990 (by decide +kernel) rfl
theorem kin_X7_water : Cond.instanceMethod yX7_water ∈ gBig := gBm 991 (by decide +kernel) rfl
theorem ksel_X7_water : Cond.selects RX7 yX7_water yX7_water ∈ gBig := gBm 992 (by decide +kernel) rfl
theorem kc_X7_water : Cond.code yX7_water cX7_water 3 (some .int) ∈ gBig := gBm 993 (by decide +kernel) rfl
theorem km_X7_157 : Cond.methodLink RX7 157 yX7_waterBy ∈ gBig := gBm 994 (by decide +kernel) rfl
theorem kin_X7_waterBy : Cond.instanceMethod yX7_waterBy ∈ gBig := gBm 996 (by decide +kernel) rfl
theorem kc_X7_waterBy : Cond.code yX7_waterBy cX7_waterBy 5 (some .int) ∈ gBig := gBm 997 (by decide +kernel) rfl
theorem km_L_71 : Cond.methodLink RL 71 yX7_stands ∈ gBig := gBm 998 (by decide +kernel) rfl
theorem kin_X7_stands : Cond.instanceMethod yX7_stands ∈ gBig := gBm 999 (by decide +kernel) rfl
theorem ksel_X7_stands : Cond.selects RX7 yX7_stands yX7_stands ∈ gBig := gBm 1000 (by decide +kernel) rfl
theorem kc_X7_stands : Cond.code yX7_stands cX7_stands 4 (some .int) ∈ gBig := gBm 1001 (by decide +kernel) rfl
theorem km_X7_167 : Cond.methodLink RX7 167 yX7_does ∈ gBig := gBm 1002 (by decide +kernel) rfl
theorem kin_X7_does : Cond.instanceMethod yX7_does ∈ gBig := gBm 1004 (by decide +kernel) rfl
theorem kc_X7_does : Cond.code yX7_does cX7_does 4 (some .boolean) ∈ gBig := gBm 1005 (by decide +kernel) rfl
theorem km_X7_164 : Cond.methodLink RX7 164 yX7_would ∈ gBig := gBm 1006 (by decide +kernel) rfl
theorem kin_X7_would : Cond.instanceMethod yX7_would ∈ gBig := gBm 1008 (by decide +kernel) rfl
theorem kc_X7_would : Cond.code yX7_would cX7_would 5 (some .boolean) ∈ gBig := gBm 1009 (by decide +kernel) rfl
theorem km_X7_160 : Cond.methodLink RX7 160 yX7_standsBy ∈ gBig := gBm 1010 (by decide +kernel) rfl
theorem kin_X7_standsBy : Cond.instanceMethod yX7_standsBy ∈ gBig := gBm 1012 (by decide +kernel) rfl
theorem kc_X7_standsBy : Cond.code yX7_standsBy cX7_standsBy 5 (some .boolean) ∈ gBig := gBm 1013 (by decide +kernel) rfl
theorem km_X7_153 : Cond.methodLink RX7 153 yX7_reaches ∈ gBig := gBm 1014 (by decide +kernel) rfl
theorem kin_X7_reaches : Cond.instanceMethod yX7_reaches ∈ gBig := gBm 1016 (by decide +kernel) rfl
theorem kc_X7_reaches : Cond.code yX7_reaches cX7_reaches 3 (some .boolean) ∈ gBig := gBm 1017 (by decide +kernel) rfl
theorem km_L_75 : Cond.methodLink RL 75 yX7_hours ∈ gBig := gBm 1018 (by decide +kernel) rfl
theorem kin_X7_hours : Cond.instanceMethod yX7_hours ∈ gBig := gBm 1019 (by decide +kernel) rfl
theorem ksel_X7_hours : Cond.selects RX7 yX7_hours yX7_hours ∈ gBig := gBm 1020 (by decide +kernel) rfl
theorem kc_X7_hours : Cond.code yX7_hours cX7_hours 5 (some .int) ∈ gBig := gBm 1021 (by decide +kernel) rfl
theorem km_L_79 : Cond.methodLink RL 79 yX7_years ∈ gBig := gBm 1022 (by decide +kernel) rfl
theorem kin_X7_years : Cond.instanceMethod yX7_years ∈ gBig := gBm 1023 (by decide +kernel) rfl
theorem ksel_X7_years : Cond.selects RX7 yX7_years yX7_years ∈ gBig := gBm 1024 (by decide +kernel) rfl
theorem kc_X7_years : Cond.code yX7_years cX7_years 4 (some .int) ∈ gBig := gBm 1025 (by decide +kernel) rfl
theorem kk_X7_171 : Cond.constantLong RX7 171 (30) ∈ gBig := gBm 1026 (by decide +kernel) rfl
theorem km_X7_173 : Cond.methodLink RX7 173 yX7_silted ∈ gBig := gBm 1027 (by decide +kernel) rfl
theorem kst_X7_silted : Cond.static yX7_silted ∈ gBig := gBm 1028 (by decide +kernel) rfl
theorem kc_X7_silted : Cond.code yX7_silted cX7_silted 3 (some .int) ∈ gBig := gBm 1029 (by decide +kernel) rfl
theorem km_L_84 : Cond.methodLink RL 84 yX7_way ∈ gBig := gBm 1030 (by decide +kernel) rfl
theorem kin_X7_way : Cond.instanceMethod yX7_way ∈ gBig := gBm 1031 (by decide +kernel) rfl
theorem ksel_X7_way : Cond.selects RX7 yX7_way yX7_way ∈ gBig := gBm 1032 (by decide +kernel) rfl
theorem kc_X7_way : Cond.code yX7_way cX7_way 5 (some .int) ∈ gBig := gBm 1033 (by decide +kernel) rfl
theorem kk_X7_209 : Cond.constantLong RX7 209 (1439) ∈ gBig := gBm 1034 (by decide +kernel) rfl
theorem km_X7_211 : Cond.methodLink RX7 211 yX7_go ∈ gBig := gBm 1035 (by decide +kernel) rfl
theorem kin_X7_go : Cond.instanceMethod yX7_go ∈ gBig := gBm 1037 (by decide +kernel) rfl
theorem kc_X7_go : Cond.code yX7_go cX7_go 8 none ∈ gBig := gBm 1038 (by decide +kernel) rfl
theorem km_X7_179 : Cond.methodLink RX7 179 yX7_hourOf ∈ gBig := gBm 1039 (by decide +kernel) rfl
theorem kst_X7_hourOf : Cond.static yX7_hourOf ∈ gBig := gBm 1040 (by decide +kernel) rfl
theorem kc_X7_hourOf : Cond.code yX7_hourOf cX7_hourOf 1 (some .int) ∈ gBig := gBm 1041 (by decide +kernel) rfl
theorem km_X7_182 : Cond.methodLink RX7 182 yX7_lengthWith ∈ gBig := gBm 1042 (by decide +kernel) rfl
theorem kin_X7_lengthWith : Cond.instanceMethod yX7_lengthWith ∈ gBig := gBm 1044 (by decide +kernel) rfl
theorem kc_X7_lengthWith : Cond.code yX7_lengthWith cX7_lengthWith 6 (some .int) ∈ gBig := gBm 1045 (by decide +kernel) rfl
theorem km_X7_176 : Cond.methodLink RX7 176 yX7_postOf ∈ gBig := gBm 1046 (by decide +kernel) rfl
theorem kin_X7_postOf : Cond.instanceMethod yX7_postOf ∈ gBig := gBm 1048 (by decide +kernel) rfl
theorem kc_X7_postOf : Cond.code yX7_postOf cX7_postOf 4 (some .int) ∈ gBig := gBm 1049 (by decide +kernel) rfl
theorem km_X7_198 : Cond.methodLink RX7 198 yX7_arrives ∈ gBig := gBm 1050 (by decide +kernel) rfl
theorem kin_X7_arrives : Cond.instanceMethod yX7_arrives ∈ gBig := gBm 1052 (by decide +kernel) rfl
theorem kc_X7_arrives : Cond.code yX7_arrives cX7_arrives 7 none ∈ gBig := gBm 1053 (by decide +kernel) rfl
theorem km_X7_202 : Cond.methodLink RX7 202 yX7_look ∈ gBig := gBm 1054 (by decide +kernel) rfl
theorem kin_X7_look : Cond.instanceMethod yX7_look ∈ gBig := gBm 1056 (by decide +kernel) rfl
theorem kc_X7_look : Cond.code yX7_look cX7_look 4 none ∈ gBig := gBm 1057 (by decide +kernel) rfl
theorem km_X7_195 : Cond.methodLink RX7 195 yX7_bits ∈ gBig := gBm 1058 (by decide +kernel) rfl
theorem kst_X7_bits : Cond.static yX7_bits ∈ gBig := gBm 1059 (by decide +kernel) rfl
theorem kc_X7_bits : Cond.code yX7_bits cX7_bits 3 (some .int) ∈ gBig := gBm 1060 (by decide +kernel) rfl
theorem km_X7_205 : Cond.methodLink RX7 205 yX7_leaves ∈ gBig := gBm 1061 (by decide +kernel) rfl
theorem kin_X7_leaves : Cond.instanceMethod yX7_leaves ∈ gBig := gBm 1063 (by decide +kernel) rfl
theorem kc_X7_leaves : Cond.code yX7_leaves cX7_leaves 9 none ∈ gBig := gBm 1064 (by decide +kernel) rfl
theorem km_X7_185 : Cond.methodLink RX7 185 yX7_lasts ∈ gBig := gBm 1065 (by decide +kernel) rfl
theorem kin_X7_lasts : Cond.instanceMethod yX7_lasts ∈ gBig := gBm 1067 (by decide +kernel) rfl
theorem kc_X7_lasts : Cond.code yX7_lasts cX7_lasts 7 (some .boolean) ∈ gBig := gBm 1068 (by decide +kernel) rfl
theorem km_L_88 : Cond.methodLink RL 88 yX7_race ∈ gBig := gBm 1069 (by decide +kernel) rfl
theorem kin_X7_race : Cond.instanceMethod yX7_race ∈ gBig := gBm 1070 (by decide +kernel) rfl
theorem ksel_X7_race : Cond.selects RX7 yX7_race yX7_race ∈ gBig := gBm 1071 (by decide +kernel) rfl
theorem kc_X7_race : Cond.code yX7_race cX7_race 9 (some .int) ∈ gBig := gBm 1072 (by decide +kernel) rfl
theorem km_X7_214 : Cond.methodLink RX7 214 yX7_isSet ∈ gBig := gBm 1073 (by decide +kernel) rfl
theorem kin_X7_isSet : Cond.instanceMethod yX7_isSet ∈ gBig := gBm 1075 (by decide +kernel) rfl
theorem kc_X7_isSet : Cond.code yX7_isSet cX7_isSet 2 (some .boolean) ∈ gBig := gBm 1076 (by decide +kernel) rfl
theorem km_L_92 : Cond.methodLink RL 92 yX7_need ∈ gBig := gBm 1077 (by decide +kernel) rfl
theorem kin_X7_need : Cond.instanceMethod yX7_need ∈ gBig := gBm 1078 (by decide +kernel) rfl
theorem ksel_X7_need : Cond.selects RX7 yX7_need yX7_need ∈ gBig := gBm 1079 (by decide +kernel) rfl
theorem kc_X7_need : Cond.code yX7_need cX7_need 5 (some .int) ∈ gBig := gBm 1080 (by decide +kernel) rfl
theorem km_L_96 : Cond.methodLink RL 96 yX7_met ∈ gBig := gBm 1081 (by decide +kernel) rfl
theorem kin_X7_met : Cond.instanceMethod yX7_met ∈ gBig := gBm 1082 (by decide +kernel) rfl
theorem ksel_X7_met : Cond.selects RX7 yX7_met yX7_met ∈ gBig := gBm 1083 (by decide +kernel) rfl
theorem kc_X7_met : Cond.code yX7_met cX7_met 3 (some .int) ∈ gBig := gBm 1084 (by decide +kernel) rfl
theorem km_L_100 : Cond.methodLink RL 100 yX7_lengths ∈ gBig := gBm 1085 (by decide +kernel) rfl
theorem kin_X7_lengths : Cond.instanceMethod yX7_lengths ∈ gBig := gBm 1086 (by decide +kernel) rfl
theorem ksel_X7_lengths : Cond.selects RX7 yX7_lengths yX7_lengths ∈ gBig := gBm 1087 (by decide +kernel) rfl
theorem kc_X7_lengths : Cond.code yX7_lengths cX7_lengths 6 (some .int) ∈ gBig := gBm 1088 (by decide +kernel) rfl
theorem km_X7_223 : Cond.methodLink RX7 223 yX7_fewest ∈ gBig := gBm 1089 (by decide +kernel) rfl
theorem kin_X7_fewest : Cond.instanceMethod yX7_fewest ∈ gBig := gBm 1091 (by decide +kernel) rfl
theorem kc_X7_fewest : Cond.code yX7_fewest cX7_fewest 5 none ∈ gBig := gBm 1092 (by decide +kernel) rfl
theorem km_X7_220 : Cond.methodLink RX7 220 yX7_doesFor ∈ gBig := gBm 1093 (by decide +kernel) rfl
theorem kin_X7_doesFor : Cond.instanceMethod yX7_doesFor ∈ gBig := gBm 1095 (by decide +kernel) rfl
theorem kc_X7_doesFor : Cond.code yX7_doesFor cX7_doesFor 4 (some .int) ∈ gBig := gBm 1096 (by decide +kernel) rfl
theorem km_X7_217 : Cond.methodLink RX7 217 yX7_needy ∈ gBig := gBm 1097 (by decide +kernel) rfl
theorem kin_X7_needy : Cond.instanceMethod yX7_needy ∈ gBig := gBm 1099 (by decide +kernel) rfl
theorem kc_X7_needy : Cond.code yX7_needy cX7_needy 3 (some .int) ∈ gBig := gBm 1100 (by decide +kernel) rfl
theorem km_L_104 : Cond.methodLink RL 104 yX7_meeting ∈ gBig := gBm 1101 (by decide +kernel) rfl
theorem kin_X7_meeting : Cond.instanceMethod yX7_meeting ∈ gBig := gBm 1102 (by decide +kernel) rfl
theorem ksel_X7_meeting : Cond.selects RX7 yX7_meeting yX7_meeting ∈ gBig := gBm 1103 (by decide +kernel) rfl
theorem kc_X7_meeting : Cond.code yX7_meeting cX7_meeting 9 (some .int) ∈ gBig := gBm 1104 (by decide +kernel) rfl
theorem kk_X7_226 : Cond.constantLong RX7 226 (2) ∈ gBig := gBm 1105 (by decide +kernel) rfl
theorem km_L_108 : Cond.methodLink RL 108 yX7_pairs ∈ gBig := gBm 1106 (by decide +kernel) rfl
theorem kin_X7_pairs : Cond.instanceMethod yX7_pairs ∈ gBig := gBm 1107 (by decide +kernel) rfl
theorem ksel_X7_pairs : Cond.selects RX7 yX7_pairs yX7_pairs ∈ gBig := gBm 1108 (by decide +kernel) rfl
theorem kc_X7_pairs : Cond.code yX7_pairs cX7_pairs 8 (some .int) ∈ gBig := gBm 1109 (by decide +kernel) rfl
theorem km_X7_228 : Cond.methodLink RX7 228 yX7_of ∈ gBig := gBm 1110 (by decide +kernel) rfl
theorem km_L_112 : Cond.methodLink RL 112 yX7_flood ∈ gBig := gBm 1111 (by decide +kernel) rfl
theorem kin_X7_flood : Cond.instanceMethod yX7_flood ∈ gBig := gBm 1112 (by decide +kernel) rfl
theorem ksel_X7_flood : Cond.selects RX7 yX7_flood yX7_flood ∈ gBig := gBm 1113 (by decide +kernel) rfl
theorem kc_X7_flood : Cond.code yX7_flood cX7_flood 5 (some .int) ∈ gBig := gBm 1114 (by decide +kernel) rfl
theorem kk_X7_237 : Cond.constantLong RX7 237 (-2) ∈ gBig := gBm 1115 (by decide +kernel) rfl
theorem km_X7_234 : Cond.methodLink RX7 234 yX7_dry ∈ gBig := gBm 1116 (by decide +kernel) rfl
theorem kin_X7_dry : Cond.instanceMethod yX7_dry ∈ gBig := gBm 1118 (by decide +kernel) rfl
theorem kc_X7_dry : Cond.code yX7_dry cX7_dry 4 (some .int) ∈ gBig := gBm 1119 (by decide +kernel) rfl
theorem km_X7_231 : Cond.methodLink RX7 231 yX7_isDry ∈ gBig := gBm 1120 (by decide +kernel) rfl
theorem kin_X7_isDry : Cond.instanceMethod yX7_isDry ∈ gBig := gBm 1122 (by decide +kernel) rfl
theorem kc_X7_isDry : Cond.code yX7_isDry cX7_isDry 5 (some .boolean) ∈ gBig := gBm 1123 (by decide +kernel) rfl
theorem km_X7_239 : Cond.methodLink RX7 239 yX7_share ∈ gBig := gBm 1124 (by decide +kernel) rfl
theorem kin_X7_share : Cond.instanceMethod yX7_share ∈ gBig := gBm 1126 (by decide +kernel) rfl
theorem kc_X7_share : Cond.code yX7_share cX7_share 7 none ∈ gBig := gBm 1127 (by decide +kernel) rfl
theorem km_L_116 : Cond.methodLink RL 116 yX7_carried ∈ gBig := gBm 1128 (by decide +kernel) rfl
theorem kin_X7_carried : Cond.instanceMethod yX7_carried ∈ gBig := gBm 1129 (by decide +kernel) rfl
theorem ksel_X7_carried : Cond.selects RX7 yX7_carried yX7_carried ∈ gBig := gBm 1130 (by decide +kernel) rfl
theorem kc_X7_carried : Cond.code yX7_carried cX7_carried 8 (some .int) ∈ gBig := gBm 1131 (by decide +kernel) rfl
theorem km_L_120 : Cond.methodLink RL 120 yX7_wrong ∈ gBig := gBm 1132 (by decide +kernel) rfl
theorem kin_X7_wrong : Cond.instanceMethod yX7_wrong ∈ gBig := gBm 1133 (by decide +kernel) rfl
theorem ksel_X7_wrong : Cond.selects RX7 yX7_wrong yX7_wrong ∈ gBig := gBm 1134 (by decide +kernel) rfl
theorem kc_X7_wrong : Cond.code yX7_wrong cX7_wrong 8 (some .int) ∈ gBig := gBm 1135 (by decide +kernel) rfl
theorem km_L_124 : Cond.methodLink RL 124 yX7_clear ∈ gBig := gBm 1136 (by decide +kernel) rfl
theorem kin_X7_clear : Cond.instanceMethod yX7_clear ∈ gBig := gBm 1137 (by decide +kernel) rfl
theorem ksel_X7_clear : Cond.selects RX7 yX7_clear yX7_clear ∈ gBig := gBm 1138 (by decide +kernel) rfl
theorem kc_X7_clear : Cond.code yX7_clear cX7_clear 2 (some .int) ∈ gBig := gBm 1139 (by decide +kernel) rfl
theorem km_L_128 : Cond.methodLink RL 128 yX7_image ∈ gBig := gBm 1140 (by decide +kernel) rfl
theorem kin_X7_image : Cond.instanceMethod yX7_image ∈ gBig := gBm 1141 (by decide +kernel) rfl
theorem ksel_X7_image : Cond.selects RX7 yX7_image yX7_image ∈ gBig := gBm 1142 (by decide +kernel) rfl
theorem kc_X7_image : Cond.code yX7_image cX7_image 2 (some .int) ∈ gBig := gBm 1143 (by decide +kernel) rfl
theorem km_L_132 : Cond.methodLink RL 132 yX7_restore ∈ gBig := gBm 1144 (by decide +kernel) rfl
theorem kin_X7_restore : Cond.instanceMethod yX7_restore ∈ gBig := gBm 1145 (by decide +kernel) rfl
theorem ksel_X7_restore : Cond.selects RX7 yX7_restore yX7_restore ∈ gBig := gBm 1146 (by decide +kernel) rfl
theorem kc_X7_restore : Cond.code yX7_restore cX7_restore 2 (some .int) ∈ gBig := gBm 1147 (by decide +kernel) rfl
theorem km_L_136 : Cond.methodLink RL 136 yX7_tides ∈ gBig := gBm 1148 (by decide +kernel) rfl
theorem kin_X7_tides : Cond.instanceMethod yX7_tides ∈ gBig := gBm 1149 (by decide +kernel) rfl
theorem ksel_X7_tides : Cond.selects RX7 yX7_tides yX7_tides ∈ gBig := gBm 1150 (by decide +kernel) rfl
theorem kc_X7_tides : Cond.code yX7_tides cX7_tides 4 (some .int) ∈ gBig := gBm 1151 (by decide +kernel) rfl
theorem km_X7_246 : Cond.methodLink RX7 246 yX7_isSheet ∈ gBig := gBm 1152 (by decide +kernel) rfl
theorem kst_X7_isSheet : Cond.static yX7_isSheet ∈ gBig := gBm 1153 (by decide +kernel) rfl
theorem kc_X7_isSheet : Cond.code yX7_isSheet cX7_isSheet 1 (some .boolean) ∈ gBig := gBm 1154 (by decide +kernel) rfl
theorem km_X7_249 : Cond.methodLink RX7 249 yX7_isLane ∈ gBig := gBm 1155 (by decide +kernel) rfl
theorem kst_X7_isLane : Cond.static yX7_isLane ∈ gBig := gBm 1156 (by decide +kernel) rfl
theorem kc_X7_isLane : Cond.code yX7_isLane cX7_isLane 1 (some .boolean) ∈ gBig := gBm 1157 (by decide +kernel) rfl
theorem km_L_140 : Cond.methodLink RL 140 yX7_sheet ∈ gBig := gBm 1158 (by decide +kernel) rfl
theorem kin_X7_sheet : Cond.instanceMethod yX7_sheet ∈ gBig := gBm 1159 (by decide +kernel) rfl
theorem ksel_X7_sheet : Cond.selects RX7 yX7_sheet yX7_sheet ∈ gBig := gBm 1160 (by decide +kernel) rfl
theorem kc_X7_sheet : Cond.code yX7_sheet cX7_sheet 5 (some .int) ∈ gBig := gBm 1161 (by decide +kernel) rfl
theorem km_L_144 : Cond.methodLink RL 144 yX7_drop ∈ gBig := gBm 1162 (by decide +kernel) rfl
theorem kin_X7_drop : Cond.instanceMethod yX7_drop ∈ gBig := gBm 1163 (by decide +kernel) rfl
theorem ksel_X7_drop : Cond.selects RX7 yX7_drop yX7_drop ∈ gBig := gBm 1164 (by decide +kernel) rfl
theorem kc_X7_drop : Cond.code yX7_drop cX7_drop 2 (some .int) ∈ gBig := gBm 1165 (by decide +kernel) rfl
theorem km_L_148 : Cond.methodLink RL 148 yX7_item ∈ gBig := gBm 1166 (by decide +kernel) rfl
theorem kin_X7_item : Cond.instanceMethod yX7_item ∈ gBig := gBm 1167 (by decide +kernel) rfl
theorem ksel_X7_item : Cond.selects RX7 yX7_item yX7_item ∈ gBig := gBm 1168 (by decide +kernel) rfl
theorem kc_X7_item : Cond.code yX7_item cX7_item 5 (some .int) ∈ gBig := gBm 1169 (by decide +kernel) rfl
theorem km_L_153 : Cond.methodLink RL 153 yX7_copy ∈ gBig := gBm 1170 (by decide +kernel) rfl
theorem kin_X7_copy : Cond.instanceMethod yX7_copy ∈ gBig := gBm 1171 (by decide +kernel) rfl
theorem ksel_X7_copy : Cond.selects RX7 yX7_copy yX7_copy ∈ gBig := gBm 1172 (by decide +kernel) rfl
theorem kc_X7_copy : Cond.code yX7_copy cX7_copy 7 (some .int) ∈ gBig := gBm 1173 (by decide +kernel) rfl
theorem kk_L_44 : Cond.constantLong RL 44 (4294967295) ∈ gBig := gBm 1174 (by decide +kernel) rfl
theorem ksel_X6_makeSplices : Cond.selects RX6 yX6_makeSplices yX6_makeSplices ∈ gBig := gBm 0 (by decide +kernel) rfl
theorem ksel_X3_begin : Cond.selects RX3 yX3_begin yX3_begin ∈ gBig := gBm 1 (by decide +kernel) rfl
theorem ksel_X3_readPlace : Cond.selects RX3 yX3_readPlace yX3_readPlace ∈ gBig := gBm 2 (by decide +kernel) rfl
theorem ksel_X3_readDepth : Cond.selects RX3 yX3_readDepth yX3_readDepth ∈ gBig := gBm 3 (by decide +kernel) rfl
theorem ksel_X3_peek : Cond.selects RX3 yX3_peek yX3_peek ∈ gBig := gBm 4 (by decide +kernel) rfl
theorem ksel_X3_readNumber : Cond.selects RX3 yX3_readNumber yX3_readNumber ∈ gBig := gBm 5 (by decide +kernel) rfl
theorem ksel_X3_faultAt : Cond.selects RX3 yX3_faultAt yX3_faultAt ∈ gBig := gBm 6 (by decide +kernel) rfl
theorem ksel_X3_goesOn : Cond.selects RX3 yX3_goesOn yX3_goesOn ∈ gBig := gBm 7 (by decide +kernel) rfl
theorem ksel_X3_outcome : Cond.selects RX3 yX3_outcome yX3_outcome ∈ gBig := gBm 8 (by decide +kernel) rfl
theorem ksel_X3_readPath : Cond.selects RX3 yX3_readPath yX3_readPath ∈ gBig := gBm 9 (by decide +kernel) rfl
theorem ksel_X3_readLetter : Cond.selects RX3 yX3_readLetter yX3_readLetter ∈ gBig := gBm 10 (by decide +kernel) rfl
theorem ksel_X5_listPosts : Cond.selects RX5 yX5_listPosts yX5_listPosts ∈ gBig := gBm 11 (by decide +kernel) rfl
theorem ksel_X5_listEdges : Cond.selects RX5 yX5_listEdges yX5_listEdges ∈ gBig := gBm 12 (by decide +kernel) rfl
theorem ksel_X5_footingIn : Cond.selects RX5 yX5_footingIn yX5_footingIn ∈ gBig := gBm 13 (by decide +kernel) rfl
theorem ksel_X5_step : Cond.selects RX5 yX5_step yX5_step ∈ gBig := gBm 14 (by decide +kernel) rfl
theorem ksel_X5_hourOf : Cond.selects RX5 yX5_hourOf yX5_hourOf ∈ gBig := gBm 15 (by decide +kernel) rfl
theorem ksel_X5_arrive : Cond.selects RX5 yX5_arrive yX5_arrive ∈ gBig := gBm 16 (by decide +kernel) rfl
theorem ksel_X5_walkAlong : Cond.selects RX5 yX5_walkAlong yX5_walkAlong ∈ gBig := gBm 17 (by decide +kernel) rfl
theorem ksel_X5_withSplice : Cond.selects RX5 yX5_withSplice yX5_withSplice ∈ gBig := gBm 18 (by decide +kernel) rfl
theorem ksel_X5_fewestTaken : Cond.selects RX5 yX5_fewestTaken yX5_fewestTaken ∈ gBig := gBm 19 (by decide +kernel) rfl
theorem ksel_X4_suitedBy : Cond.selects RX4 yX4_suitedBy yX4_suitedBy ∈ gBig := gBm 20 (by decide +kernel) rfl
theorem ksel_X4_weighWith : Cond.selects RX4 yX4_weighWith yX4_weighWith ∈ gBig := gBm 21 (by decide +kernel) rfl
theorem ksel_X0_firstBest : Cond.selects RX0 yX0_firstBest yX0_firstBest ∈ gBig := gBm 22 (by decide +kernel) rfl
theorem ksel_X0_drownedBehind : Cond.selects RX0 yX0_drownedBehind yX0_drownedBehind ∈ gBig := gBm 23 (by decide +kernel) rfl
theorem ksel_X6_refusal : Cond.selects RX6 yX6_refusal yX6_refusal ∈ gBig := gBm 24 (by decide +kernel) rfl
theorem ksel_X7_put : Cond.selects RX7 yX7_put yX7_put ∈ gBig := gBm 25 (by decide +kernel) rfl
theorem ksel_X7_isPlace : Cond.selects RX7 yX7_isPlace yX7_isPlace ∈ gBig := gBm 26 (by decide +kernel) rfl
theorem ksel_X7_posts : Cond.selects RX7 yX7_posts yX7_posts ∈ gBig := gBm 27 (by decide +kernel) rfl
theorem ksel_X7_pathOf : Cond.selects RX7 yX7_pathOf yX7_pathOf ∈ gBig := gBm 28 (by decide +kernel) rfl
theorem ksel_X7_join : Cond.selects RX7 yX7_join yX7_join ∈ gBig := gBm 29 (by decide +kernel) rfl
theorem ksel_X7_isPerson : Cond.selects RX7 yX7_isPerson yX7_isPerson ∈ gBig := gBm 30 (by decide +kernel) rfl
theorem ksel_X7_begin : Cond.selects RX7 yX7_begin yX7_begin ∈ gBig := gBm 31 (by decide +kernel) rfl
theorem ksel_X7_takes : Cond.selects RX7 yX7_takes yX7_takes ∈ gBig := gBm 32 (by decide +kernel) rfl
theorem ksel_X7_next : Cond.selects RX7 yX7_next yX7_next ∈ gBig := gBm 33 (by decide +kernel) rfl
theorem ksel_X7_number : Cond.selects RX7 yX7_number yX7_number ∈ gBig := gBm 34 (by decide +kernel) rfl
theorem ksel_X7_cannot : Cond.selects RX7 yX7_cannot yX7_cannot ∈ gBig := gBm 35 (by decide +kernel) rfl
theorem ksel_X7_fails : Cond.selects RX7 yX7_fails yX7_fails ∈ gBig := gBm 36 (by decide +kernel) rfl
theorem ksel_X7_letter : Cond.selects RX7 yX7_letter yX7_letter ∈ gBig := gBm 37 (by decide +kernel) rfl
theorem ksel_X7_waterBy : Cond.selects RX7 yX7_waterBy yX7_waterBy ∈ gBig := gBm 38 (by decide +kernel) rfl
theorem ksel_X7_does : Cond.selects RX7 yX7_does yX7_does ∈ gBig := gBm 39 (by decide +kernel) rfl
theorem ksel_X7_would : Cond.selects RX7 yX7_would yX7_would ∈ gBig := gBm 40 (by decide +kernel) rfl
theorem ksel_X7_standsBy : Cond.selects RX7 yX7_standsBy yX7_standsBy ∈ gBig := gBm 41 (by decide +kernel) rfl
theorem ksel_X7_reaches : Cond.selects RX7 yX7_reaches yX7_reaches ∈ gBig := gBm 42 (by decide +kernel) rfl
theorem ksel_X7_go : Cond.selects RX7 yX7_go yX7_go ∈ gBig := gBm 43 (by decide +kernel) rfl
theorem ksel_X7_lengthWith : Cond.selects RX7 yX7_lengthWith yX7_lengthWith ∈ gBig := gBm 44 (by decide +kernel) rfl
theorem ksel_X7_postOf : Cond.selects RX7 yX7_postOf yX7_postOf ∈ gBig := gBm 45 (by decide +kernel) rfl
theorem ksel_X7_arrives : Cond.selects RX7 yX7_arrives yX7_arrives ∈ gBig := gBm 46 (by decide +kernel) rfl
theorem ksel_X7_look : Cond.selects RX7 yX7_look yX7_look ∈ gBig := gBm 47 (by decide +kernel) rfl
theorem ksel_X7_leaves : Cond.selects RX7 yX7_leaves yX7_leaves ∈ gBig := gBm 48 (by decide +kernel) rfl
theorem ksel_X7_lasts : Cond.selects RX7 yX7_lasts yX7_lasts ∈ gBig := gBm 49 (by decide +kernel) rfl
theorem ksel_X7_isSet : Cond.selects RX7 yX7_isSet yX7_isSet ∈ gBig := gBm 50 (by decide +kernel) rfl
theorem ksel_X7_fewest : Cond.selects RX7 yX7_fewest yX7_fewest ∈ gBig := gBm 51 (by decide +kernel) rfl
theorem ksel_X7_doesFor : Cond.selects RX7 yX7_doesFor yX7_doesFor ∈ gBig := gBm 52 (by decide +kernel) rfl
theorem ksel_X7_needy : Cond.selects RX7 yX7_needy yX7_needy ∈ gBig := gBm 53 (by decide +kernel) rfl
theorem ksel_X7_dry : Cond.selects RX7 yX7_dry yX7_dry ∈ gBig := gBm 54 (by decide +kernel) rfl
theorem ksel_X7_isDry : Cond.selects RX7 yX7_isDry yX7_isDry ∈ gBig := gBm 55 (by decide +kernel) rfl
theorem ksel_X7_share : Cond.selects RX7 yX7_share yX7_share ∈ gBig := gBm 56 (by decide +kernel) rfl
end
section
/-! a world of n numbered cells: cell k lies at ad k and holds what en makes of the row of ints of that number -/
abbrev gMem : Type := Nat → Nat → Int32
def grow (σ : gMem) (k : Nat) (r : Nat → Int32) : gMem := fun a => if a = k then r else σ a
def gst (σ : gMem) (k i : Nat) (x : Int32) : gMem := grow σ k (upd (σ k) i x)
abbrev gEn : Type := Nat → (Nat → Int32) → va_E
abbrev gG : Type := va_G × (Nat → Nat) × Nat × gEn × List (ClassId × FieldType) × Nat
def gsw (G : gG) (σ : gMem) : va_W := (List.range G.2.2.1).map (fun k => (G.2.1 k, G.2.2.2.1 k (σ k)))
theorem gsw_get {G : gG} {σ : gMem} {k : Nat} (hk : k < G.2.2.1) : (gsw G σ)[k]? = some (G.2.1 k, G.2.2.2.1 k (σ k)) := by
  simp [gsw, hk]
theorem gsw_at {G : gG} {σ : gMem} {k : Nat} {q : Nat × va_E} (h : (gsw G σ)[k]? = some q) : k < G.2.2.1 ∧ q = (G.2.1 k, G.2.2.2.1 k (σ k)) := by
  by_cases hk : k < G.2.2.1
  · rw [gsw_get hk] at h
    exact ⟨hk, (Option.some.inj h).symm⟩
  · rw [List.getElem?_eq_none (by simp [gsw]; omega)] at h
    cases h
theorem gsw_set {G : gG} {σ : gMem} {k : Nat} {r : Nat → Int32} {e : va_E} (hk : k < G.2.2.1) (he : e = G.2.2.2.1 k r) : (gsw G σ).set k (G.2.1 k, e) = gsw G (grow σ k r) := by
  subst he
  apply List.ext_getElem?
  intro j
  rw [List.getElem?_set]
  by_cases hj : j < G.2.2.1
  · rw [gsw_get hj]
    by_cases e : k = j
    · subst e
      simp [gsw, grow, hj]
    · rw [if_neg e, gsw_get hj]
      simp [grow, show ¬ j = k from fun q => e q.symm]
  · rw [List.getElem?_eq_none (l := gsw G (grow σ k r)) (by simp [gsw]; omega), if_neg (by omega), List.getElem?_eq_none (by simp [gsw]; omega)]
def gA (G : gG) : Nat → Prop := fun q => ∃ k : Nat, k < G.2.2.1 ∧ q = G.2.1 k
def gInj (G : gG) : Prop := ∀ i j : Nat, i < G.2.2.1 → j < G.2.2.1 → G.2.1 i = G.2.1 j → i = j
theorem gsw_D {G : gG} (h : gInj G) {A : Nat → Prop} (hA : ∀ q, gA G q → A q) (σ : gMem) : va_D A (gsw G σ) := by
  refine ⟨fun i j p q hp hq e => ?_, fun k q hq => ?_⟩
  · obtain ⟨h1, rfl⟩ := gsw_at hp
    obtain ⟨h2, rfl⟩ := gsw_at hq
    exact h i j h1 h2 e
  · obtain ⟨h1, rfl⟩ := gsw_at hq
    exact hA _ ⟨k, h1, rfl⟩
/-- the table LACKING: 0x55, 0x33, 0x0F -/
def gLk (j : Nat) : Int32 := if j = 0 then 85 else if j = 1 then 51 else 15
/-- the links between nest mates' methods -/
def gNl : List (String × Nat × MethodName) := [("StiltWays$Walk", 130, yX6_within), ("StiltWays$Walk", 107, yX6_holds), ("StiltWays$Tape", 74, yX6_within), ("StiltWays$Sheet", 26, yX6_within), ("StiltWays$Lagoon", 72, yX6_within), ("StiltWays$Lagoon", 130, yX6_holds), ("StiltWays$Exchange", 50, yX6_holds), ("StiltWays", 9, yX1_init), ("StiltWays", 53, yX2_init), ("StiltWays", 42, yX0_init), ("StiltWays", 35, yX4_init), ("StiltWays", 28, yX5_init), ("StiltWays", 21, yX3_init)]
def gNs (U : State) : Prop := ∀ q ∈ gNl, va_Nw (.methodLinkNest q.1 q.2.1 q.2.2 "StiltWays") U
def gL (b : Nat) (A : Nat → Prop) (U : State) : Prop := va_Z "StiltWays$Walk" "LACKING" "[I" (.ref b) A U U.heap ∧ va_T .int b 3 (fun j => .int (gLk j)) A U U.heap ∧ gNs U
theorem gL_at {b : Nat} {A B : Nat → Prop} {s U : State} {H : Heap} {locs : List Loc} (h : gL b A s) (hS : va_S A s.heap H locs) (hU : U.heap = H) (hW : s.WarmedH U.vm) (hB : ∀ q, B q → A q) : gL b B U := by
  subst hU
  exact ⟨((h.1.kept hS.2.1).moved hW.alike).narrow hB, ((h.2.1.kept hS.2.1).moved hW.alike).narrow hB, fun q hq => va_Nw.warmM hW (h.2.2 q hq)⟩
theorem gL_fb {b : Nat} {A : Nat → Prop} {a : Array Value} {U : State} {g : JFrame} {mk : MethodId} (h : gL b A U) : gL b A (U.calling g mk a) :=
  ⟨va_Z.moved (u := U) (U := U.calling g mk a) (Vm.Alike.refl U.vm) h.1, va_T.moved (u := U) (U := U.calling g mk a) (Vm.Alike.refl U.vm) h.2.1, fun q hq => va_Nw.same (w := .methodLinkNest q.1 q.2.1 q.2.2 "StiltWays") rfl (u := U) (U := U.calling g mk a) rfl (h.2.2 q hq)⟩
/-! what a method's frame stands on, in one name -/
abbrev gK : Type := Program × Launch × Env × Room × State × MethodId × Array Value × List Frame × Method × Code × Nat × Nat × (State → Prop)
abbrev gks (κ : gK) : State := κ.2.2.2.2.1
abbrev gkR (κ : gK) : Room := κ.2.2.2.1
abbrev gkm (κ : gK) : MethodId := κ.2.2.2.2.2.1
abbrev gka (κ : gK) : Array Value := κ.2.2.2.2.2.2.1
abbrev gkb (κ : gK) : List Frame := κ.2.2.2.2.2.2.2.1
abbrev gkh (κ : gK) : Method := κ.2.2.2.2.2.2.2.2.1
abbrev gkc (κ : gK) : Code := κ.2.2.2.2.2.2.2.2.2.1
abbrev gkn (κ : gK) : Nat := κ.2.2.2.2.2.2.2.2.2.2.1
abbrev gkz (κ : gK) : Nat := κ.2.2.2.2.2.2.2.2.2.2.2.1
abbrev gkQ (κ : gK) : State → Prop := κ.2.2.2.2.2.2.2.2.2.2.2.2
abbrev gW (κ : gK) (H : Heap) (locs : List Loc) (g : JFrame) : Prop := W κ.1 κ.2.1 κ.2.2.1 (gkR κ) (gks κ) (gkm κ) (gka κ) (gkb κ) (gkh κ) (gkc κ) H locs (gkn κ) (gkz κ) (gkQ κ) g
/-- the frame at pc, with these locals and this stack, over any heap that holds the world σ -/
def wx (κ : gK) (G : gG) (A : Nat → Prop) (nL : Nat) (σ : gMem) (pc : Nat) (lv : List (Nat × Value)) (st : List Value) : Prop :=
  ∀ (H : Heap) (locs : List Loc) (ls : Array Slot), va_P G.1 vwCl (gsw G σ) H → va_S A (gks κ).heap H locs → lv_has ls nL lv → gW κ H locs (F0 (gkm κ) pc ls st)
def gC (κ : gK) (cc : ByteArray) (own : String) (Ts : List Cond) (nL : Nat) (G : gG) (A : Nat → Prop) (rmo : Room) : Prop :=
  CallFix κ.1 (gkm κ) (gkc κ) cc nL (gks κ) (gka κ) Ts own ∧ va_K G.1 vwCl G.2.2.2.2.1 (gks κ) ∧ (∀ σ : gMem, va_D A (gsw G σ)) ∧ gL G.2.2.2.2.2 A (gks κ) ∧ gkR κ = rmo ∧ gkn κ ≤ rmo.cells ∧ gkz κ ≤ rmo.slots ∧ ∀ q, gA G q → A q
theorem gC.hts {κ : gK} {cc : ByteArray} {own : String} {Ts : List Cond} {nL : Nat} {G : gG} {A : Nat → Prop} {rmo : Room} (C : gC κ cc own Ts nL G A rmo) {w : Cond} (h : w ∈ Ts) : w.before (gka κ) (gks κ) = true := C.1.2.2.2.2 w h
/-! the values of programs: none is a step that the machine would refuse -/
def gck {β : Type} (b : Bool) (o : Option β) : Option β := match b with
  | true => o
  | false => none
theorem gck_some {β : Type} {b : Bool} {o : Option β} {y : β} (h : gck b o = some y) : b = true ∧ o = some y := by
  cases b
  · cases h
  · exact ⟨rfl, h⟩
theorem gck_t {β : Type} {b : Bool} {o : Option β} (h : b = true) : gck b o = o := by subst h; rfl
def gnm {α β : Type} (x : α) (K : α → Option β) : Option β := K x
theorem gnm_ex {α β : Type} {x : α} {K : α → Option β} {y : β} (h : gnm x K = some y) : ∃ v : α, v = x ∧ K v = some y := ⟨x, rfl, h⟩
theorem gif_pos {c : Prop} [Decidable c] {β : Type} {a b : Option β} {y : β} (h : c) (hM : (if c then a else b) = some y) : a = some y := by
  rw [if_pos h] at hM; exact hM
theorem gif_neg {c : Prop} [Decidable c] {β : Type} {a b : Option β} {y : β} (h : ¬ c) (hM : (if c then a else b) = some y) : b = some y := by
  rw [if_neg h] at hM; exact hM
def inb (i : Int32) (n : Nat) : Bool := !(decide (i < 0) || decide (n ≤ i.toNatClampNeg))
theorem inb_vp {i : Int32} {n : Nat} (h : inb i n = true) : vp_in i n := by
  intro q
  rcases q with q | q
  · simp [inb, q] at h
  · simp [inb, q] at h
theorem inb_lt {i : Int32} {n : Nat} (h : inb i n = true) : i.toNatClampNeg < n := Nat.not_le.mp fun q => inb_vp h (Or.inr q)
def izb (x : Int32) : Bool := decide (x = 0) || decide (x = 1)
theorem izb_n {x : Int32} (h : izb x = true) : narrow .boolean (.int x) = .int x := by
  simp [izb] at h
  rcases h with rfl | rfl <;> rfl
def grem (x y : Int32) : Int32 := x - x / y * y
def gmax (x y : Int32) : Int32 := if x < y then y else x
def gmin (x y : Int32) : Int32 := if y < x then y else x
def gus (x y : Int32) : Int32 := (x.toUInt32 >>> (y.toUInt32 &&& Int32.toUInt32 31)).toInt32
theorem gs2 {α β : Type} {a c : α} {b d : β} (h : some (a, b) = some (c, d)) : a = c ∧ b = d := by cases h; exact ⟨rfl, rfl⟩
theorem gs1 {α : Type} {a c : α} (h : some a = some c) : a = c := Option.some.inj h

def gb1 {α1 β : Type} (o : Option (α1)) (K : α1 → Option β) : Option β := match o with
  | some a1 => K a1
  | none => none
theorem gb1_some {α1 β : Type} {o : Option (α1)} {K : α1 → Option β} {y : β} (h : gb1 o K = some y) : ∃ (a1 : α1), o = some a1 ∧ K a1 = some y := by
  cases o with
  | none => cases h
  | some q => exact ⟨_, rfl, h⟩
def gb2 {α1 α2 β : Type} (o : Option (α1 × α2)) (K : α1 → α2 → Option β) : Option β := match o with
  | some (a1, a2) => K a1 a2
  | none => none
theorem gb2_some {α1 α2 β : Type} {o : Option (α1 × α2)} {K : α1 → α2 → Option β} {y : β} (h : gb2 o K = some y) : ∃ (a1 : α1) (a2 : α2), o = some (a1, a2) ∧ K a1 a2 = some y := by
  cases o with
  | none => cases h
  | some q => obtain ⟨a1, a2⟩ := q; exact ⟨a1, a2, rfl, h⟩
def gb3 {α1 α2 α3 β : Type} (o : Option (α1 × α2 × α3)) (K : α1 → α2 → α3 → Option β) : Option β := match o with
  | some (a1, a2, a3) => K a1 a2 a3
  | none => none
theorem gb3_some {α1 α2 α3 β : Type} {o : Option (α1 × α2 × α3)} {K : α1 → α2 → α3 → Option β} {y : β} (h : gb3 o K = some y) : ∃ (a1 : α1) (a2 : α2) (a3 : α3), o = some (a1, a2, a3) ∧ K a1 a2 a3 = some y := by
  cases o with
  | none => cases h
  | some q => obtain ⟨a1, a2, a3⟩ := q; exact ⟨a1, a2, a3, rfl, h⟩
def gb4 {α1 α2 α3 α4 β : Type} (o : Option (α1 × α2 × α3 × α4)) (K : α1 → α2 → α3 → α4 → Option β) : Option β := match o with
  | some (a1, a2, a3, a4) => K a1 a2 a3 a4
  | none => none
theorem gb4_some {α1 α2 α3 α4 β : Type} {o : Option (α1 × α2 × α3 × α4)} {K : α1 → α2 → α3 → α4 → Option β} {y : β} (h : gb4 o K = some y) : ∃ (a1 : α1) (a2 : α2) (a3 : α3) (a4 : α4), o = some (a1, a2, a3, a4) ∧ K a1 a2 a3 a4 = some y := by
  cases o with
  | none => cases h
  | some q => obtain ⟨a1, a2, a3, a4⟩ := q; exact ⟨a1, a2, a3, a4, rfl, h⟩
def gb5 {α1 α2 α3 α4 α5 β : Type} (o : Option (α1 × α2 × α3 × α4 × α5)) (K : α1 → α2 → α3 → α4 → α5 → Option β) : Option β := match o with
  | some (a1, a2, a3, a4, a5) => K a1 a2 a3 a4 a5
  | none => none
theorem gb5_some {α1 α2 α3 α4 α5 β : Type} {o : Option (α1 × α2 × α3 × α4 × α5)} {K : α1 → α2 → α3 → α4 → α5 → Option β} {y : β} (h : gb5 o K = some y) : ∃ (a1 : α1) (a2 : α2) (a3 : α3) (a4 : α4) (a5 : α5), o = some (a1, a2, a3, a4, a5) ∧ K a1 a2 a3 a4 a5 = some y := by
  cases o with
  | none => cases h
  | some q => obtain ⟨a1, a2, a3, a4, a5⟩ := q; exact ⟨a1, a2, a3, a4, a5, rfl, h⟩
def gb6 {α1 α2 α3 α4 α5 α6 β : Type} (o : Option (α1 × α2 × α3 × α4 × α5 × α6)) (K : α1 → α2 → α3 → α4 → α5 → α6 → Option β) : Option β := match o with
  | some (a1, a2, a3, a4, a5, a6) => K a1 a2 a3 a4 a5 a6
  | none => none
theorem gb6_some {α1 α2 α3 α4 α5 α6 β : Type} {o : Option (α1 × α2 × α3 × α4 × α5 × α6)} {K : α1 → α2 → α3 → α4 → α5 → α6 → Option β} {y : β} (h : gb6 o K = some y) : ∃ (a1 : α1) (a2 : α2) (a3 : α3) (a4 : α4) (a5 : α5) (a6 : α6), o = some (a1, a2, a3, a4, a5, a6) ∧ K a1 a2 a3 a4 a5 a6 = some y := by
  cases o with
  | none => cases h
  | some q => obtain ⟨a1, a2, a3, a4, a5, a6⟩ := q; exact ⟨a1, a2, a3, a4, a5, a6, rfl, h⟩
def gb7 {α1 α2 α3 α4 α5 α6 α7 β : Type} (o : Option (α1 × α2 × α3 × α4 × α5 × α6 × α7)) (K : α1 → α2 → α3 → α4 → α5 → α6 → α7 → Option β) : Option β := match o with
  | some (a1, a2, a3, a4, a5, a6, a7) => K a1 a2 a3 a4 a5 a6 a7
  | none => none
theorem gb7_some {α1 α2 α3 α4 α5 α6 α7 β : Type} {o : Option (α1 × α2 × α3 × α4 × α5 × α6 × α7)} {K : α1 → α2 → α3 → α4 → α5 → α6 → α7 → Option β} {y : β} (h : gb7 o K = some y) : ∃ (a1 : α1) (a2 : α2) (a3 : α3) (a4 : α4) (a5 : α5) (a6 : α6) (a7 : α7), o = some (a1, a2, a3, a4, a5, a6, a7) ∧ K a1 a2 a3 a4 a5 a6 a7 = some y := by
  cases o with
  | none => cases h
  | some q => obtain ⟨a1, a2, a3, a4, a5, a6, a7⟩ := q; exact ⟨a1, a2, a3, a4, a5, a6, a7, rfl, h⟩
def gb8 {α1 α2 α3 α4 α5 α6 α7 α8 β : Type} (o : Option (α1 × α2 × α3 × α4 × α5 × α6 × α7 × α8)) (K : α1 → α2 → α3 → α4 → α5 → α6 → α7 → α8 → Option β) : Option β := match o with
  | some (a1, a2, a3, a4, a5, a6, a7, a8) => K a1 a2 a3 a4 a5 a6 a7 a8
  | none => none
theorem gb8_some {α1 α2 α3 α4 α5 α6 α7 α8 β : Type} {o : Option (α1 × α2 × α3 × α4 × α5 × α6 × α7 × α8)} {K : α1 → α2 → α3 → α4 → α5 → α6 → α7 → α8 → Option β} {y : β} (h : gb8 o K = some y) : ∃ (a1 : α1) (a2 : α2) (a3 : α3) (a4 : α4) (a5 : α5) (a6 : α6) (a7 : α7) (a8 : α8), o = some (a1, a2, a3, a4, a5, a6, a7, a8) ∧ K a1 a2 a3 a4 a5 a6 a7 a8 = some y := by
  cases o with
  | none => cases h
  | some q => obtain ⟨a1, a2, a3, a4, a5, a6, a7, a8⟩ := q; exact ⟨a1, a2, a3, a4, a5, a6, a7, a8, rfl, h⟩
def gb9 {α1 α2 α3 α4 α5 α6 α7 α8 α9 β : Type} (o : Option (α1 × α2 × α3 × α4 × α5 × α6 × α7 × α8 × α9)) (K : α1 → α2 → α3 → α4 → α5 → α6 → α7 → α8 → α9 → Option β) : Option β := match o with
  | some (a1, a2, a3, a4, a5, a6, a7, a8, a9) => K a1 a2 a3 a4 a5 a6 a7 a8 a9
  | none => none
theorem gb9_some {α1 α2 α3 α4 α5 α6 α7 α8 α9 β : Type} {o : Option (α1 × α2 × α3 × α4 × α5 × α6 × α7 × α8 × α9)} {K : α1 → α2 → α3 → α4 → α5 → α6 → α7 → α8 → α9 → Option β} {y : β} (h : gb9 o K = some y) : ∃ (a1 : α1) (a2 : α2) (a3 : α3) (a4 : α4) (a5 : α5) (a6 : α6) (a7 : α7) (a8 : α8) (a9 : α9), o = some (a1, a2, a3, a4, a5, a6, a7, a8, a9) ∧ K a1 a2 a3 a4 a5 a6 a7 a8 a9 = some y := by
  cases o with
  | none => cases h
  | some q => obtain ⟨a1, a2, a3, a4, a5, a6, a7, a8, a9⟩ := q; exact ⟨a1, a2, a3, a4, a5, a6, a7, a8, a9, rfl, h⟩
def gb10 {α1 α2 α3 α4 α5 α6 α7 α8 α9 α10 β : Type} (o : Option (α1 × α2 × α3 × α4 × α5 × α6 × α7 × α8 × α9 × α10)) (K : α1 → α2 → α3 → α4 → α5 → α6 → α7 → α8 → α9 → α10 → Option β) : Option β := match o with
  | some (a1, a2, a3, a4, a5, a6, a7, a8, a9, a10) => K a1 a2 a3 a4 a5 a6 a7 a8 a9 a10
  | none => none
theorem gb10_some {α1 α2 α3 α4 α5 α6 α7 α8 α9 α10 β : Type} {o : Option (α1 × α2 × α3 × α4 × α5 × α6 × α7 × α8 × α9 × α10)} {K : α1 → α2 → α3 → α4 → α5 → α6 → α7 → α8 → α9 → α10 → Option β} {y : β} (h : gb10 o K = some y) : ∃ (a1 : α1) (a2 : α2) (a3 : α3) (a4 : α4) (a5 : α5) (a6 : α6) (a7 : α7) (a8 : α8) (a9 : α9) (a10 : α10), o = some (a1, a2, a3, a4, a5, a6, a7, a8, a9, a10) ∧ K a1 a2 a3 a4 a5 a6 a7 a8 a9 a10 = some y := by
  cases o with
  | none => cases h
  | some q => obtain ⟨a1, a2, a3, a4, a5, a6, a7, a8, a9, a10⟩ := q; exact ⟨a1, a2, a3, a4, a5, a6, a7, a8, a9, a10, rfl, h⟩
section GX
variable {κ : gK} {rmo : Room} {cc : ByteArray} {own : String} {Ts : List Cond} {nL : Nat} {G : gG} {A : Nat → Prop} {σ : gMem} {pc pc' : Nat} {lv lv' : List (Nat × Value)} {st : List Value}
theorem x_ic (C : gC κ cc own Ts nL G A rmo) {n : Int} {v : Int32} (hv : Int32.ofInt n = v) (hdg : decode cc pc = .ok (.iconst n, 1)) (hp : pc + 1 = pc') (k : wx κ G A nL σ pc' lv (.int v :: st)) : wx κ G A nL σ pc lv (st) := by
  subst hp
  exact fun H locs ls hP hS hl => lv_iconst C.1.1 C.1.2.1 hdg hv (k H locs ls hP hS hl)
theorem x_bi (C : gC κ cc own Ts nL G A rmo) {n : Int} {v : Int32} (hv : (Int8.ofInt n).toInt32 = v) (hdg : decode cc pc = .ok (.bipush n, 2)) (hp : pc + 2 = pc') (k : wx κ G A nL σ pc' lv (.int v :: st)) : wx κ G A nL σ pc lv (st) := by
  subst hp
  exact fun H locs ls hP hS hl => lv_bipush C.1.1 C.1.2.1 hdg hv (k H locs ls hP hS hl)
theorem x_si (C : gC κ cc own Ts nL G A rmo) {n : Int} {v : Int32} (hv : (Int16.ofInt n).toInt32 = v) (hdg : decode cc pc = .ok (.sipush n, 3)) (hp : pc + 3 = pc') (k : wx κ G A nL σ pc' lv (.int v :: st)) : wx κ G A nL σ pc lv (st) := by
  subst hp
  exact fun H locs ls hP hS hl => lv_sipush C.1.1 C.1.2.1 hdg hv (k H locs ls hP hS hl)
theorem x_lc (C : gC κ cc own Ts nL G A rmo) {n : Fin 2} {v : Int64} (hv : Int64.ofNat (n : Nat) = v) (hdg : decode cc pc = .ok (.lconst n, 1)) (hp : pc + 1 = pc') (k : wx κ G A nL σ pc' lv (.long v :: st)) : wx κ G A nL σ pc lv (st) := by
  subst hp
  exact fun H locs ls hP hS hl => lv_lconst C.1.1 C.1.2.1 hdg hv (k H locs ls hP hS hl)
theorem x_ldc (C : gC κ cc own Ts nL G A rmo) {index : Nat} {v : Int32} (hc : Jvm.Cond.constant own index v ∈ Ts) (hdg : decode cc pc = .ok (.ldc index, 2)) (hp : pc + 2 = pc') (k : wx κ G A nL σ pc' lv (.int v :: st)) : wx κ G A nL σ pc lv (st) := by
  subst hp
  exact fun H locs ls hP hS hl => lv_ldc C.1.1 C.1.2.1 C.1.2.2.2.1 (C.hts hc) hdg (k H locs ls hP hS hl)
theorem x_ldcw (C : gC κ cc own Ts nL G A rmo) {index : Nat} {v : Int32} (hc : Jvm.Cond.constant own index v ∈ Ts) (hdg : decode cc pc = .ok (.ldc_w index, 3)) (hp : pc + 3 = pc') (k : wx κ G A nL σ pc' lv (.int v :: st)) : wx κ G A nL σ pc lv (st) := by
  subst hp
  exact fun H locs ls hP hS hl => lv_ldcw C.1.1 C.1.2.1 C.1.2.2.2.1 (C.hts hc) hdg (k H locs ls hP hS hl)
theorem x_ldc2 (C : gC κ cc own Ts nL G A rmo) {index : Nat} {v : Int64} (hc : Jvm.Cond.constantLong own index v ∈ Ts) (hdg : decode cc pc = .ok (.ldc2_w index, 3)) (hp : pc + 3 = pc') (k : wx κ G A nL σ pc' lv (.long v :: st)) : wx κ G A nL σ pc lv (st) := by
  subst hp
  exact fun H locs ls hP hS hl => lv_ldc2 C.1.1 C.1.2.1 C.1.2.2.2.1 (C.hts hc) hdg (k H locs ls hP hS hl)
theorem x_iln (C : gC κ cc own Ts nL G A rmo) {k0 : Fin 4} {x : Int32} (j : Nat) (hj : lv[j]? = some ((k0 : Nat), .int x)) (hdg : decode cc pc = .ok (.iload_n k0, 1)) (hp : pc + 1 = pc') (k : wx κ G A nL σ pc' lv (.int x :: st)) : wx κ G A nL σ pc lv (st) := by
  subst hp
  exact fun H locs ls hP hS hl => lv_iload_n C.1.1 C.1.2.1 hdg rfl (lv_at hl j hj) (k H locs ls hP hS hl)
theorem x_il (C : gC κ cc own Ts nL G A rmo) {i : Nat} {x : Int32} (j : Nat) (hj : lv[j]? = some (i, .int x)) (hdg : decode cc pc = .ok (.iload i, 2)) (hp : pc + 2 = pc') (k : wx κ G A nL σ pc' lv (.int x :: st)) : wx κ G A nL σ pc lv (st) := by
  subst hp
  exact fun H locs ls hP hS hl => lv_iload C.1.1 C.1.2.1 hdg (lv_at hl j hj) (k H locs ls hP hS hl)
theorem x_lln (C : gC κ cc own Ts nL G A rmo) {k0 : Fin 4} {x : Int64} (j : Nat) (hj : lv[j]? = some ((k0 : Nat), .long x)) (hdg : decode cc pc = .ok (.lload_n k0, 1)) (hp : pc + 1 = pc') (k : wx κ G A nL σ pc' lv (.long x :: st)) : wx κ G A nL σ pc lv (st) := by
  subst hp
  exact fun H locs ls hP hS hl => lv_lload_n C.1.1 C.1.2.1 hdg rfl (lv_at hl j hj) (k H locs ls hP hS hl)
theorem x_ll (C : gC κ cc own Ts nL G A rmo) {i : Nat} {x : Int64} (j : Nat) (hj : lv[j]? = some (i, .long x)) (hdg : decode cc pc = .ok (.lload i, 2)) (hp : pc + 2 = pc') (k : wx κ G A nL σ pc' lv (.long x :: st)) : wx κ G A nL σ pc lv (st) := by
  subst hp
  exact fun H locs ls hP hS hl => lv_lload C.1.1 C.1.2.1 hdg (lv_at hl j hj) (k H locs ls hP hS hl)
theorem x_aln (C : gC κ cc own Ts nL G A rmo) {k0 : Fin 4} {x : Nat} (j : Nat) (hj : lv[j]? = some ((k0 : Nat), .ref x)) (hdg : decode cc pc = .ok (.aload_n k0, 1)) (hp : pc + 1 = pc') (k : wx κ G A nL σ pc' lv (.ref x :: st)) : wx κ G A nL σ pc lv (st) := by
  subst hp
  exact fun H locs ls hP hS hl => lv_aload_n C.1.1 C.1.2.1 hdg rfl (lv_at hl j hj) (k H locs ls hP hS hl)
theorem x_al (C : gC κ cc own Ts nL G A rmo) {i : Nat} {x : Nat} (j : Nat) (hj : lv[j]? = some (i, .ref x)) (hdg : decode cc pc = .ok (.aload i, 2)) (hp : pc + 2 = pc') (k : wx κ G A nL σ pc' lv (.ref x :: st)) : wx κ G A nL σ pc lv (st) := by
  subst hp
  exact fun H locs ls hP hS hl => lv_aload C.1.1 C.1.2.1 hdg (lv_at hl j hj) (k H locs ls hP hS hl)
theorem x_istn (C : gC κ cc own Ts nL G A rmo) {i : Nat} {k0 : Fin 4} (hi : (k0 : Nat) = i) {x v : Int32} (ev : v = x) (hn : i < nL) (hl' : (i, Value.int v) :: lv.filter (fun q => !(q.1 == i) && !(q.1 + 1 == i && q.2.category == 2)) = lv') (hdg : decode cc pc = .ok (.istore_n k0, 1)) (hp : pc + 1 = pc') (k : wx κ G A nL σ pc' lv' st) : wx κ G A nL σ pc lv (.int x :: st) := by
  subst hp
  subst ev
  exact fun H locs ls hP hS hl => lv_istore_n C.1.1 C.1.2.1 hdg hi hl hn hl' (fun ls hl => k H locs ls hP hS hl)
theorem x_astn (C : gC κ cc own Ts nL G A rmo) {i : Nat} {k0 : Fin 4} (hi : (k0 : Nat) = i) {x : Nat} (hn : i < nL) (hl' : (i, Value.ref x) :: lv.filter (fun q => !(q.1 == i) && !(q.1 + 1 == i && q.2.category == 2)) = lv') (hdg : decode cc pc = .ok (.astore_n k0, 1)) (hp : pc + 1 = pc') (k : wx κ G A nL σ pc' lv' st) : wx κ G A nL σ pc lv (.ref x :: st) := by
  subst hp
  exact fun H locs ls hP hS hl => lv_astore_n C.1.1 C.1.2.1 hdg hi hl hn hl' (fun ls hl => k H locs ls hP hS hl)
theorem x_ist (C : gC κ cc own Ts nL G A rmo) {i : Nat}  {x v : Int32} (ev : v = x) (hn : i < nL) (hl' : (i, Value.int v) :: lv.filter (fun q => !(q.1 == i) && !(q.1 + 1 == i && q.2.category == 2)) = lv') (hdg : decode cc pc = .ok (.istore i, 2)) (hp : pc + 2 = pc') (k : wx κ G A nL σ pc' lv' st) : wx κ G A nL σ pc lv (.int x :: st) := by
  subst hp
  subst ev
  exact fun H locs ls hP hS hl => lv_istore C.1.1 C.1.2.1 hdg hl hn hl' (fun ls hl => k H locs ls hP hS hl)
theorem x_ast (C : gC κ cc own Ts nL G A rmo) {i : Nat}  {x : Nat} (hn : i < nL) (hl' : (i, Value.ref x) :: lv.filter (fun q => !(q.1 == i) && !(q.1 + 1 == i && q.2.category == 2)) = lv') (hdg : decode cc pc = .ok (.astore i, 2)) (hp : pc + 2 = pc') (k : wx κ G A nL σ pc' lv' st) : wx κ G A nL σ pc lv (.ref x :: st) := by
  subst hp
  exact fun H locs ls hP hS hl => lv_astore C.1.1 C.1.2.1 hdg hl hn hl' (fun ls hl => k H locs ls hP hS hl)
theorem x_iinc (C : gC κ cc own Ts nL G A rmo) {i j : Nat} {n : Int} {x v : Int32} (hj : lv[j]? = some (i, .int x)) (ev : v = x + Int32.ofInt n) (hn : i < nL) (hl' : (i, Value.int v) :: lv.filter (fun q => !(q.1 == i) && !(q.1 + 1 == i && q.2.category == 2)) = lv') (hdg : decode cc pc = .ok (.iinc i n, 3)) (hp : pc + 3 = pc') (k : wx κ G A nL σ pc' lv' st) : wx κ G A nL σ pc lv st := by
  subst hp
  exact fun H locs ls hP hS hl => lv_iinc C.1.1 C.1.2.1 hdg hl hj ev.symm hn hl' (fun ls hl => k H locs ls hP hS hl)
theorem x_iadd (C : gC κ cc own Ts nL G A rmo) {x y : Int32} (hdg : decode cc pc = .ok (.iadd, 1)) (hp : pc + 1 = pc') (k : wx κ G A nL σ pc' lv (.int (x + y) :: st)) : wx κ G A nL σ pc lv (.int y :: .int x :: st) := by
  subst hp
  exact fun H locs ls hP hS hl => lv_iadd C.1.1 C.1.2.1 hdg (k H locs ls hP hS hl)
theorem x_isub (C : gC κ cc own Ts nL G A rmo) {x y : Int32} (hdg : decode cc pc = .ok (.isub, 1)) (hp : pc + 1 = pc') (k : wx κ G A nL σ pc' lv (.int (x - y) :: st)) : wx κ G A nL σ pc lv (.int y :: .int x :: st) := by
  subst hp
  exact fun H locs ls hP hS hl => lv_isub C.1.1 C.1.2.1 hdg (k H locs ls hP hS hl)
theorem x_imul (C : gC κ cc own Ts nL G A rmo) {x y : Int32} (hdg : decode cc pc = .ok (.imul, 1)) (hp : pc + 1 = pc') (k : wx κ G A nL σ pc' lv (.int (x * y) :: st)) : wx κ G A nL σ pc lv (.int y :: .int x :: st) := by
  subst hp
  exact fun H locs ls hP hS hl => lv_imul C.1.1 C.1.2.1 hdg (k H locs ls hP hS hl)
theorem x_iand (C : gC κ cc own Ts nL G A rmo) {x y : Int32} (hdg : decode cc pc = .ok (.iand, 1)) (hp : pc + 1 = pc') (k : wx κ G A nL σ pc' lv (.int (x &&& y) :: st)) : wx κ G A nL σ pc lv (.int y :: .int x :: st) := by
  subst hp
  exact fun H locs ls hP hS hl => lv_iand C.1.1 C.1.2.1 hdg (k H locs ls hP hS hl)
theorem x_ior (C : gC κ cc own Ts nL G A rmo) {x y : Int32} (hdg : decode cc pc = .ok (.ior, 1)) (hp : pc + 1 = pc') (k : wx κ G A nL σ pc' lv (.int (x ||| y) :: st)) : wx κ G A nL σ pc lv (.int y :: .int x :: st) := by
  subst hp
  exact fun H locs ls hP hS hl => lv_ior C.1.1 C.1.2.1 hdg (k H locs ls hP hS hl)
theorem x_ixor (C : gC κ cc own Ts nL G A rmo) {x y : Int32} (hdg : decode cc pc = .ok (.ixor, 1)) (hp : pc + 1 = pc') (k : wx κ G A nL σ pc' lv (.int (x ^^^ y) :: st)) : wx κ G A nL σ pc lv (.int y :: .int x :: st) := by
  subst hp
  exact fun H locs ls hP hS hl => lv_ixor C.1.1 C.1.2.1 hdg (k H locs ls hP hS hl)
theorem x_ishl (C : gC κ cc own Ts nL G A rmo) {x y : Int32} (hdg : decode cc pc = .ok (.ishl, 1)) (hp : pc + 1 = pc') (k : wx κ G A nL σ pc' lv (.int (x <<< (y &&& 31)) :: st)) : wx κ G A nL σ pc lv (.int y :: .int x :: st) := by
  subst hp
  exact fun H locs ls hP hS hl => lv_ishl C.1.1 C.1.2.1 hdg (k H locs ls hP hS hl)
theorem x_ishr (C : gC κ cc own Ts nL G A rmo) {x y : Int32} (hdg : decode cc pc = .ok (.ishr, 1)) (hp : pc + 1 = pc') (k : wx κ G A nL σ pc' lv (.int (x >>> (y &&& 31)) :: st)) : wx κ G A nL σ pc lv (.int y :: .int x :: st) := by
  subst hp
  exact fun H locs ls hP hS hl => lv_ishr C.1.1 C.1.2.1 hdg (k H locs ls hP hS hl)
theorem x_idiv (C : gC κ cc own Ts nL G A rmo) {x y : Int32} (hne : ¬ y = 0) (hdg : decode cc pc = .ok (.idiv, 1)) (hp : pc + 1 = pc') (k : wx κ G A nL σ pc' lv (.int (x / y) :: st)) : wx κ G A nL σ pc lv (.int y :: .int x :: st) := by
  subst hp
  exact fun H locs ls hP hS hl => lv_idiv C.1.1 C.1.2.1 hdg hne (k H locs ls hP hS hl)
theorem x_irem (C : gC κ cc own Ts nL G A rmo) {x y : Int32} (hne : ¬ y = 0) (hdg : decode cc pc = .ok (.irem, 1)) (hp : pc + 1 = pc') (k : wx κ G A nL σ pc' lv (.int (grem x y) :: st)) : wx κ G A nL σ pc lv (.int y :: .int x :: st) := by
  subst hp
  exact fun H locs ls hP hS hl => lv_irem C.1.1 C.1.2.1 hdg hne (k H locs ls hP hS hl)
theorem x_ineg (C : gC κ cc own Ts nL G A rmo) {x : Int32} (hdg : decode cc pc = .ok (.ineg, 1)) (hp : pc + 1 = pc') (k : wx κ G A nL σ pc' lv (.int (-x) :: st)) : wx κ G A nL σ pc lv (.int x :: st) := by
  subst hp
  exact fun H locs ls hP hS hl => lv_ineg C.1.1 C.1.2.1 hdg (k H locs ls hP hS hl)
theorem x_iushr (C : gC κ cc own Ts nL G A rmo) {x y : Int32} (hdg : decode cc pc = .ok (.iushr, 1)) (hp : pc + 1 = pc') (k : wx κ G A nL σ pc' lv (.int (gus x y) :: st)) : wx κ G A nL σ pc lv (.int y :: .int x :: st) := by
  subst hp
  exact fun H locs ls hP hS hl => lv_iushr C.1.1 C.1.2.1 hdg rfl (k H locs ls hP hS hl)
theorem x_ladd (C : gC κ cc own Ts nL G A rmo) {x y : Int64} (hdg : decode cc pc = .ok (.ladd, 1)) (hp : pc + 1 = pc') (k : wx κ G A nL σ pc' lv (.long (x + y) :: st)) : wx κ G A nL σ pc lv (.long y :: .long x :: st) := by
  subst hp
  exact fun H locs ls hP hS hl => lv_ladd C.1.1 C.1.2.1 hdg (k H locs ls hP hS hl)
theorem x_land (C : gC κ cc own Ts nL G A rmo) {x y : Int64} (hdg : decode cc pc = .ok (.land, 1)) (hp : pc + 1 = pc') (k : wx κ G A nL σ pc' lv (.long (x &&& y) :: st)) : wx κ G A nL σ pc lv (.long y :: .long x :: st) := by
  subst hp
  exact fun H locs ls hP hS hl => lv_land C.1.1 C.1.2.1 hdg (k H locs ls hP hS hl)
theorem x_lor (C : gC κ cc own Ts nL G A rmo) {x y : Int64} (hdg : decode cc pc = .ok (.lor, 1)) (hp : pc + 1 = pc') (k : wx κ G A nL σ pc' lv (.long (x ||| y) :: st)) : wx κ G A nL σ pc lv (.long y :: .long x :: st) := by
  subst hp
  exact fun H locs ls hP hS hl => lv_lor C.1.1 C.1.2.1 hdg (k H locs ls hP hS hl)
theorem x_lshl (C : gC κ cc own Ts nL G A rmo) {x : Int64} {y : Int32} (hdg : decode cc pc = .ok (.lshl, 1)) (hp : pc + 1 = pc') (k : wx κ G A nL σ pc' lv (.long (x <<< (y.toInt64 &&& 63)) :: st)) : wx κ G A nL σ pc lv (.int y :: .long x :: st) := by
  subst hp
  exact fun H locs ls hP hS hl => lv_lshl C.1.1 C.1.2.1 hdg rfl (k H locs ls hP hS hl)
theorem x_lshr (C : gC κ cc own Ts nL G A rmo) {x : Int64} {y : Int32} (hdg : decode cc pc = .ok (.lshr, 1)) (hp : pc + 1 = pc') (k : wx κ G A nL σ pc' lv (.long (x >>> (y.toInt64 &&& 63)) :: st)) : wx κ G A nL σ pc lv (.int y :: .long x :: st) := by
  subst hp
  exact fun H locs ls hP hS hl => lv_lshr C.1.1 C.1.2.1 hdg rfl (k H locs ls hP hS hl)
theorem x_lcmp (C : gC κ cc own Ts nL G A rmo) {x y : Int64} (hdg : decode cc pc = .ok (.lcmp, 1)) (hp : pc + 1 = pc') (k : wx κ G A nL σ pc' lv (.int (lg_cmp x y) :: st)) : wx κ G A nL σ pc lv (.long y :: .long x :: st) := by
  subst hp
  exact fun H locs ls hP hS hl => W.lcmp C.1.1 C.1.2.1 hdg (k H locs ls hP hS hl)
theorem x_i2l (C : gC κ cc own Ts nL G A rmo) {x : Int32} (hdg : decode cc pc = .ok (.i2l, 1)) (hp : pc + 1 = pc') (k : wx κ G A nL σ pc' lv (.long x.toInt64 :: st)) : wx κ G A nL σ pc lv (.int x :: st) := by
  subst hp
  exact fun H locs ls hP hS hl => lv_i2l C.1.1 C.1.2.1 hdg rfl (k H locs ls hP hS hl)
theorem x_l2i (C : gC κ cc own Ts nL G A rmo) {x : Int64} (hdg : decode cc pc = .ok (.l2i, 1)) (hp : pc + 1 = pc') (k : wx κ G A nL σ pc' lv (.int x.toInt32 :: st)) : wx κ G A nL σ pc lv (.long x :: st) := by
  subst hp
  exact fun H locs ls hP hS hl => lv_l2i C.1.1 C.1.2.1 hdg rfl (k H locs ls hP hS hl)
theorem x_i2b (C : gC κ cc own Ts nL G A rmo) {x : Int32} (hdg : decode cc pc = .ok (.i2b, 1)) (hp : pc + 1 = pc') (k : wx κ G A nL σ pc' lv (.int x.toInt8.toInt32 :: st)) : wx κ G A nL σ pc lv (.int x :: st) := by
  subst hp
  exact fun H locs ls hP hS hl => lv_i2b C.1.1 C.1.2.1 hdg rfl (k H locs ls hP hS hl)
theorem x_i2s (C : gC κ cc own Ts nL G A rmo) {x : Int32} (hdg : decode cc pc = .ok (.i2s, 1)) (hp : pc + 1 = pc') (k : wx κ G A nL σ pc' lv (.int x.toInt16.toInt32 :: st)) : wx κ G A nL σ pc lv (.int x :: st) := by
  subst hp
  exact fun H locs ls hP hS hl => lv_i2s C.1.1 C.1.2.1 hdg rfl (k H locs ls hP hS hl)
theorem x_dup (C : gC κ cc own Ts nL G A rmo) {v : Value} (hv : v.category = 1) (hdg : decode cc pc = .ok (.dup, 1)) (hp : pc + 1 = pc') (k : wx κ G A nL σ pc' lv (v :: v :: st)) : wx κ G A nL σ pc lv (v :: st) := by
  subst hp
  exact fun H locs ls hP hS hl => lv_dup C.1.1 C.1.2.1 hdg hv (k H locs ls hP hS hl)
theorem x_pop (C : gC κ cc own Ts nL G A rmo) {v : Value} (hv : v.category = 1) (hdg : decode cc pc = .ok (.pop, 1)) (hp : pc + 1 = pc') (k : wx κ G A nL σ pc' lv (st)) : wx κ G A nL σ pc lv (v :: st) := by
  subst hp
  exact fun H locs ls hP hS hl => lv_pop C.1.1 C.1.2.1 hdg hv (k H locs ls hP hS hl)
theorem x_dupx1 (C : gC κ cc own Ts nL G A rmo) {v u : Value} (hv : v.category = 1) (hu : u.category = 1) (hdg : decode cc pc = .ok (.dup_x1, 1)) (hp : pc + 1 = pc') (k : wx κ G A nL σ pc' lv (v :: u :: v :: st)) : wx κ G A nL σ pc lv (v :: u :: st) := by
  subst hp
  exact fun H locs ls hP hS hl => lv_dup_x1 C.1.1 C.1.2.1 hdg hv hu (k H locs ls hP hS hl)
theorem x_dup2 (C : gC κ cc own Ts nL G A rmo) {v u : Value} (hv : v.category = 1) (hu : u.category = 1) (hdg : decode cc pc = .ok (.dup2, 1)) (hp : pc + 1 = pc') (k : wx κ G A nL σ pc' lv (v :: u :: v :: u :: st)) : wx κ G A nL σ pc lv (v :: u :: st) := by
  subst hp
  exact fun H locs ls hP hS hl => lv_dup2_11 C.1.1 C.1.2.1 hdg hv hu (k H locs ls hP hS hl)
theorem x_if_eq (C : gC κ cc own Ts nL G A rmo) {x : Int32} {off : Int} {tgt : Nat} (hdg : decode cc pc = .ok (.ifCond .eq off, 3)) (ht : (pc : Int) + off = (tgt : Int)) (hp : pc + 3 = pc') (kt : x = 0 → wx κ G A nL σ tgt lv st) (kf : ¬ x = 0 → wx κ G A nL σ pc' lv st) : wx κ G A nL σ pc lv (.int x :: st) := by
  subst hp
  exact fun H locs ls hP hS hl => lv_if_eq C.1.1 C.1.2.1 hdg ht (fun h => kt h H locs ls hP hS hl) (fun h => kf h H locs ls hP hS hl)
theorem x_if_ne (C : gC κ cc own Ts nL G A rmo) {x : Int32} {off : Int} {tgt : Nat} (hdg : decode cc pc = .ok (.ifCond .ne off, 3)) (ht : (pc : Int) + off = (tgt : Int)) (hp : pc + 3 = pc') (kt : ¬ x = 0 → wx κ G A nL σ tgt lv st) (kf : x = 0 → wx κ G A nL σ pc' lv st) : wx κ G A nL σ pc lv (.int x :: st) := by
  subst hp
  exact fun H locs ls hP hS hl => lv_if_ne C.1.1 C.1.2.1 hdg ht (fun h => kt h H locs ls hP hS hl) (fun h => kf h H locs ls hP hS hl)
theorem x_if_lt (C : gC κ cc own Ts nL G A rmo) {x : Int32} {off : Int} {tgt : Nat} (hdg : decode cc pc = .ok (.ifCond .lt off, 3)) (ht : (pc : Int) + off = (tgt : Int)) (hp : pc + 3 = pc') (kt : x < 0 → wx κ G A nL σ tgt lv st) (kf : ¬ x < 0 → wx κ G A nL σ pc' lv st) : wx κ G A nL σ pc lv (.int x :: st) := by
  subst hp
  exact fun H locs ls hP hS hl => lv_if_lt C.1.1 C.1.2.1 hdg ht (fun h => kt h H locs ls hP hS hl) (fun h => kf h H locs ls hP hS hl)
theorem x_if_ge (C : gC κ cc own Ts nL G A rmo) {x : Int32} {off : Int} {tgt : Nat} (hdg : decode cc pc = .ok (.ifCond .ge off, 3)) (ht : (pc : Int) + off = (tgt : Int)) (hp : pc + 3 = pc') (kt : 0 ≤ x → wx κ G A nL σ tgt lv st) (kf : ¬ 0 ≤ x → wx κ G A nL σ pc' lv st) : wx κ G A nL σ pc lv (.int x :: st) := by
  subst hp
  exact fun H locs ls hP hS hl => lv_if_ge C.1.1 C.1.2.1 hdg ht (fun h => kt h H locs ls hP hS hl) (fun h => kf h H locs ls hP hS hl)
theorem x_if_gt (C : gC κ cc own Ts nL G A rmo) {x : Int32} {off : Int} {tgt : Nat} (hdg : decode cc pc = .ok (.ifCond .gt off, 3)) (ht : (pc : Int) + off = (tgt : Int)) (hp : pc + 3 = pc') (kt : 0 < x → wx κ G A nL σ tgt lv st) (kf : ¬ 0 < x → wx κ G A nL σ pc' lv st) : wx κ G A nL σ pc lv (.int x :: st) := by
  subst hp
  exact fun H locs ls hP hS hl => lv_if_gt C.1.1 C.1.2.1 hdg ht (fun h => kt h H locs ls hP hS hl) (fun h => kf h H locs ls hP hS hl)
theorem x_if_le (C : gC κ cc own Ts nL G A rmo) {x : Int32} {off : Int} {tgt : Nat} (hdg : decode cc pc = .ok (.ifCond .le off, 3)) (ht : (pc : Int) + off = (tgt : Int)) (hp : pc + 3 = pc') (kt : x ≤ 0 → wx κ G A nL σ tgt lv st) (kf : ¬ x ≤ 0 → wx κ G A nL σ pc' lv st) : wx κ G A nL σ pc lv (.int x :: st) := by
  subst hp
  exact fun H locs ls hP hS hl => lv_if_le C.1.1 C.1.2.1 hdg ht (fun h => kt h H locs ls hP hS hl) (fun h => kf h H locs ls hP hS hl)
theorem x_ic_eq (C : gC κ cc own Ts nL G A rmo) {x y : Int32} {off : Int} {tgt : Nat} (hdg : decode cc pc = .ok (.if_icmp .eq off, 3)) (ht : (pc : Int) + off = (tgt : Int)) (hp : pc + 3 = pc') (kt : x = y → wx κ G A nL σ tgt lv st) (kf : ¬ x = y → wx κ G A nL σ pc' lv st) : wx κ G A nL σ pc lv (.int y :: .int x :: st) := by
  subst hp
  exact fun H locs ls hP hS hl => lv_icmp_eq C.1.1 C.1.2.1 hdg ht (fun h => kt h H locs ls hP hS hl) (fun h => kf h H locs ls hP hS hl)
theorem x_ic_ne (C : gC κ cc own Ts nL G A rmo) {x y : Int32} {off : Int} {tgt : Nat} (hdg : decode cc pc = .ok (.if_icmp .ne off, 3)) (ht : (pc : Int) + off = (tgt : Int)) (hp : pc + 3 = pc') (kt : ¬ x = y → wx κ G A nL σ tgt lv st) (kf : x = y → wx κ G A nL σ pc' lv st) : wx κ G A nL σ pc lv (.int y :: .int x :: st) := by
  subst hp
  exact fun H locs ls hP hS hl => lv_icmp_ne C.1.1 C.1.2.1 hdg ht (fun h => kt h H locs ls hP hS hl) (fun h => kf h H locs ls hP hS hl)
theorem x_ic_lt (C : gC κ cc own Ts nL G A rmo) {x y : Int32} {off : Int} {tgt : Nat} (hdg : decode cc pc = .ok (.if_icmp .lt off, 3)) (ht : (pc : Int) + off = (tgt : Int)) (hp : pc + 3 = pc') (kt : x < y → wx κ G A nL σ tgt lv st) (kf : ¬ x < y → wx κ G A nL σ pc' lv st) : wx κ G A nL σ pc lv (.int y :: .int x :: st) := by
  subst hp
  exact fun H locs ls hP hS hl => lv_icmp_lt C.1.1 C.1.2.1 hdg ht (fun h => kt h H locs ls hP hS hl) (fun h => kf h H locs ls hP hS hl)
theorem x_ic_ge (C : gC κ cc own Ts nL G A rmo) {x y : Int32} {off : Int} {tgt : Nat} (hdg : decode cc pc = .ok (.if_icmp .ge off, 3)) (ht : (pc : Int) + off = (tgt : Int)) (hp : pc + 3 = pc') (kt : y ≤ x → wx κ G A nL σ tgt lv st) (kf : ¬ y ≤ x → wx κ G A nL σ pc' lv st) : wx κ G A nL σ pc lv (.int y :: .int x :: st) := by
  subst hp
  exact fun H locs ls hP hS hl => lv_icmp_ge C.1.1 C.1.2.1 hdg ht (fun h => kt h H locs ls hP hS hl) (fun h => kf h H locs ls hP hS hl)
theorem x_ic_gt (C : gC κ cc own Ts nL G A rmo) {x y : Int32} {off : Int} {tgt : Nat} (hdg : decode cc pc = .ok (.if_icmp .gt off, 3)) (ht : (pc : Int) + off = (tgt : Int)) (hp : pc + 3 = pc') (kt : y < x → wx κ G A nL σ tgt lv st) (kf : ¬ y < x → wx κ G A nL σ pc' lv st) : wx κ G A nL σ pc lv (.int y :: .int x :: st) := by
  subst hp
  exact fun H locs ls hP hS hl => lv_icmp_gt C.1.1 C.1.2.1 hdg ht (fun h => kt h H locs ls hP hS hl) (fun h => kf h H locs ls hP hS hl)
theorem x_ic_le (C : gC κ cc own Ts nL G A rmo) {x y : Int32} {off : Int} {tgt : Nat} (hdg : decode cc pc = .ok (.if_icmp .le off, 3)) (ht : (pc : Int) + off = (tgt : Int)) (hp : pc + 3 = pc') (kt : x ≤ y → wx κ G A nL σ tgt lv st) (kf : ¬ x ≤ y → wx κ G A nL σ pc' lv st) : wx κ G A nL σ pc lv (.int y :: .int x :: st) := by
  subst hp
  exact fun H locs ls hP hS hl => lv_icmp_le C.1.1 C.1.2.1 hdg ht (fun h => kt h H locs ls hP hS hl) (fun h => kf h H locs ls hP hS hl)
theorem x_goto (C : gC κ cc own Ts nL G A rmo) {off : Int} {tgt : Nat} (hdg : decode cc pc = .ok (.goto off, 3)) (ht : (pc : Int) + off = (tgt : Int)) (k : wx κ G A nL σ tgt lv st) : wx κ G A nL σ pc lv st :=
  fun H locs ls hP hS hl => lv_goto C.1.1 C.1.2.1 hdg ht (k H locs ls hP hS hl)
theorem x_swout (C : gC κ cc own Ts nL G A rmo) {dflt lo hi : Int} {offs : Array Int} {len : Nat} {x : Int32} {tgt : Nat} (hdg : decode cc pc = .ok (.tableswitch dflt lo hi offs, len)) (h : x.toInt < lo ∨ hi < x.toInt) (ht : (pc : Int) + dflt = (tgt : Int)) (k : wx κ G A nL σ tgt lv st) : wx κ G A nL σ pc lv (.int x :: st) :=
  fun H locs ls hP hS hl => lv_tableOut C.1.1 C.1.2.1 hdg h ht (k H locs ls hP hS hl)
theorem x_swin (C : gC κ cc own Ts nL G A rmo) {dflt lo hi : Int} {offs : Array Int} {len : Nat} {x : Int32} {off : Int} {tgt : Nat} (hdg : decode cc pc = .ok (.tableswitch dflt lo hi offs, len)) (h1 : ¬ x.toInt < lo) (h2 : ¬ hi < x.toInt) (ho : offs[(x.toInt - lo).toNat]? = some off) (ht : (pc : Int) + off = (tgt : Int)) (k : wx κ G A nL σ tgt lv st) : wx κ G A nL σ pc lv (.int x :: st) :=
  fun H locs ls hP hS hl => lv_tableIn C.1.1 C.1.2.1 hdg h1 h2 ho ht (k H locs ls hP hS hl)
theorem x_sub (ks : List Nat) (hl' : lv_pick lv ks = lv') (k : wx κ G A nL σ pc lv' st) : wx κ G A nL σ pc lv st :=
  fun H locs ls hP hS hl => k H locs ls hP hS (lv_sub hl ks hl')
/-! memory -/
theorem x_get (C : gC κ cc own Ts nL G A rmo) {k0 ci j index N : Nat} {Cn : String} {T : u_T} {fs : List Value} {v : Value} (hk : k0 < G.2.2.1) (he : G.2.2.2.1 k0 (σ k0) = .inr (ci, fs)) (hc : vwCl[ci]? = some (Cn, T, N)) (hin : ∀ w ∈ u_ws Cn T N, w ∈ Ts) (hj : j < N) (hv : fs[j]? = some v) (hlink : Cond.fieldLink own index (T j).1 (T j).2.1 (T j).2.2.1 ∈ Ts) (hdg : decode cc pc = .ok (.getfield index, 3)) (hp : pc + 3 = pc') (k : wx κ G A nL σ pc' lv (v :: st)) : wx κ G A nL σ pc lv (.ref (G.2.1 k0) :: st) := by
  subst hp
  exact fun H locs ls hP hS hl => va_get C.1.1 C.1.2.1 C.1.2.2.2.2 hin C.1.2.2.2.1 C.2.1 hP k0 (by rw [gsw_get hk, he]) hc j hj (C.hts hlink) (fun _ h => h) hv hdg (k H locs ls hP hS hl)
theorem x_put (C : gC κ cc own Ts nL G A rmo) {σ1 : gMem} {k0 ci j index N : Nat} {Cn : String} {T : u_T} {fs : List Value} {x : Int32} {ty : FieldType} (e1 : σ1 = gst σ k0 j x) (hk : k0 < G.2.2.1) (he : G.2.2.2.1 k0 (σ k0) = .inr (ci, fs)) (he' : G.2.2.2.1 k0 (upd (σ k0) j x) = .inr (ci, fs.set j (.int x))) (hc : vwCl[ci]? = some (Cn, T, N)) (hin : ∀ w ∈ u_ws Cn T N, w ∈ Ts) (ty0 : Nat → FieldType) (hty : ∀ k, k < N → parseFieldDescriptor (T k).2.2.1 = some (ty0 k)) (hnm : ∀ a, a < N → ∀ b, b < N → a ≠ b → (T a).2.1 ≠ (T b).2.1) (hj : j < N) (hfin : (T j).2.2.2 = false) (hd : parseFieldDescriptor (T j).2.2.1 = some ty) (hn : narrow ty (.int x) = .int x) (hfit : fits ty (.int x) = true) (hjl : j < fs.length) (hlink : Cond.fieldLink own index (T j).1 (T j).2.1 (T j).2.2.1 ∈ Ts) (hdg : decode cc pc = .ok (.putfield index, 3)) (hp : pc + 3 = pc') (k : wx κ G A nL σ1 pc' lv st) : wx κ G A nL σ pc lv (.int x :: .ref (G.2.1 k0) :: st) := by
  subst hp
  subst e1
  exact fun H locs ls hP hS hl => va_put C.1.1 C.1.2.1 C.1.2.2.2.2 hin ty0 hty hnm C.1.2.2.2.1 C.2.1 hP (C.2.2.1 σ) hS k0 (by rw [gsw_get hk, he]) hc j hj (C.hts hlink) (fun _ h => h) hfin hd hn hfit hjl hdg (fun H locs hP _ hS => k H locs ls (by rw [gsw_set hk he'.symm] at hP; exact hP) hS hl)
theorem x_iald (C : gC κ cc own Ts nL G A rmo) {k0 n : Nat} {cy : ClassId} {i : Int32} (hk : k0 < G.2.2.1) (he : G.2.2.2.1 k0 (σ k0) = .inl (cy, (n, .inl (σ k0)))) (ht : G.2.2.2.2.1[0]? = some (cy, .int)) (hin : inb i n = true) (hdg : decode cc pc = .ok (.iaload, 1)) (hp : pc + 1 = pc') (k : wx κ G A nL σ pc' lv (.int (σ k0 i.toNatClampNeg) :: st)) : wx κ G A nL σ pc lv (.int i :: .ref (G.2.1 k0) :: st) := by
  subst hp
  exact fun H locs ls hP hS hl => va_iald C.1.1 C.1.2.1 C.2.1 hP k0 0 (by rw [gsw_get hk, he]) ht (inb_vp hin) hdg (k H locs ls hP hS hl)
theorem x_iast (C : gC κ cc own Ts nL G A rmo) {σ1 : gMem} {k0 n : Nat} {cy : ClassId} {i x : Int32} (e1 : σ1 = gst σ k0 i.toNatClampNeg x) (hk : k0 < G.2.2.1) (he : ∀ r, G.2.2.2.1 k0 r = .inl (cy, (n, .inl r))) (ht : G.2.2.2.2.1[0]? = some (cy, .int)) (hin : inb i n = true) (hdg : decode cc pc = .ok (.iastore, 1)) (hp : pc + 1 = pc') (k : wx κ G A nL σ1 pc' lv st) : wx κ G A nL σ pc lv (.int x :: .int i :: .ref (G.2.1 k0) :: st) := by
  subst hp
  subst e1
  exact fun H locs ls hP hS hl => va_iast C.1.1 C.1.2.1 C.2.1 hP (C.2.2.1 σ) hS k0 0 (by rw [gsw_get hk, he]) ht (inb_vp hin) hdg (fun H locs hP _ hS => k H locs ls (by rw [gsw_set hk (he _).symm] at hP; exact hP) hS hl)
theorem x_zald (C : gC κ cc own Ts nL G A rmo) {k0 n : Nat} {cy : ClassId} {i : Int32} (hk : k0 < G.2.2.1) (he : G.2.2.2.1 k0 (σ k0) = .inl (cy, (n, .inl (σ k0)))) (ht : G.2.2.2.2.1[1]? = some (cy, .boolean)) (hin : inb i n = true) (hdg : decode cc pc = .ok (.baload, 1)) (hp : pc + 1 = pc') (k : wx κ G A nL σ pc' lv (.int (σ k0 i.toNatClampNeg) :: st)) : wx κ G A nL σ pc lv (.int i :: .ref (G.2.1 k0) :: st) := by
  subst hp
  exact fun H locs ls hP hS hl => va_zald C.1.1 C.1.2.1 C.2.1 hP k0 1 (by rw [gsw_get hk, he]) ht (inb_vp hin) hdg (k H locs ls hP hS hl)
theorem x_zast (C : gC κ cc own Ts nL G A rmo) {σ1 : gMem} {k0 n : Nat} {cy : ClassId} {i x : Int32} (e1 : σ1 = gst σ k0 i.toNatClampNeg x) (hx : vp_nar .boolean x = x) (hk : k0 < G.2.2.1) (he : ∀ r, G.2.2.2.1 k0 r = .inl (cy, (n, .inl r))) (ht : G.2.2.2.2.1[1]? = some (cy, .boolean)) (hin : inb i n = true) (hdg : decode cc pc = .ok (.bastore, 1)) (hp : pc + 1 = pc') (k : wx κ G A nL σ1 pc' lv st) : wx κ G A nL σ pc lv (.int x :: .int i :: .ref (G.2.1 k0) :: st) := by
  subst hp
  subst e1
  exact fun H locs ls hP hS hl => va_zast C.1.1 C.1.2.1 C.2.1 hP (C.2.2.1 σ) hS k0 1 (by rw [gsw_get hk, he]) ht (inb_vp hin) hdg (fun H locs hP _ hS => k H locs ls (by rw [hx, gsw_set hk (he _).symm] at hP; exact hP) hS hl)
/-- an array of references of any kind, read -/
theorem x_aald (C : gC κ cc own Ts nL G A rmo) {k0 t0 n k1 : Nat} {cy : ClassId} {ty : FieldType} {f : Nat → Option Nat} {i : Int32} (hk : k0 < G.2.2.1) (he : G.2.2.2.1 k0 (σ k0) = .inl (cy, (n, .inr (.inr (.inr (.inr f)))))) (ht : G.2.2.2.2.1[t0]? = some (cy, ty)) (hty : ty.isReference = true) (hin : inb i n = true) (hf : f i.toNatClampNeg = some (G.2.1 k1)) (hdg : decode cc pc = .ok (.aaload, 1)) (hp : pc + 1 = pc') (k : wx κ G A nL σ pc' lv (.ref (G.2.1 k1) :: st)) : wx κ G A nL σ pc lv (.int i :: .ref (G.2.1 k0) :: st) := by
  subst hp
  intro H locs ls hP hS hl
  have hlt : i.toNatClampNeg < n := inb_lt hin
  have ha : (gsw G σ)[k0]? = some (G.2.1 k0, .inl (cy, (n, .inr (.inr (.inr (.inr f)))))) := by rw [gsw_get hk, he]
  exact W.aald (v := .ref (G.2.1 k1)) (ty := ty) C.1.1 C.1.2.1 (hP k0 _ ha) ((C.2.1.2 t0 _ ht).1 n (fun j => va_rf (f j))) hty (fun q => by cases q) (by show ¬ (i < 0 ∨ (arrV _ _ _).slots.size ≤ _); rw [arrV_size]; exact inb_vp hin) (by show (arrV _ _ _).slots[_]? = _; rw [arrV_read _ _ hlt, hf]; rfl) rfl rfl hdg (k H locs ls hP hS hl)
theorem x_lack (C : gC κ cc own Ts nL G A rmo) {index : Nat} (hlink : Cond.fieldLink own index "StiltWays$Walk" "LACKING" "[I" ∈ Ts) (hdg : decode cc pc = .ok (.getstatic index, 3)) (hp : pc + 3 = pc') (k : wx κ G A nL σ pc' lv (.ref G.2.2.2.2.2 :: st)) : wx κ G A nL σ pc lv st := by
  subst hp
  exact fun H locs ls hP hS hl => va_gets C.1.1 C.1.2.1 C.2.2.2.1.1 hS C.1.2.2.2.1 (C.hts hlink) (fun _ h => h) hdg (k H locs ls hP hS hl)
theorem x_lald (C : gC κ cc own Ts nL G A rmo) {i : Int32} (hin : inb i 3 = true) (hdg : decode cc pc = .ok (.iaload, 1)) (hp : pc + 1 = pc') (k : wx κ G A nL σ pc' lv (.int (gLk i.toNatClampNeg) :: st)) : wx κ G A nL σ pc lv (.int i :: .ref G.2.2.2.2.2 :: st) := by
  subst hp
  exact fun H locs ls hP hS hl => va_ti C.1.1 C.1.2.1 C.2.2.2.1.2.1 hS (inb_vp hin) rfl hdg (k H locs ls hP hS hl)
end GX
/-! calls, ends, the entry -/
def gPre (G : gG) (σ : gMem) (U : State) : Prop := va_P G.1 vwCl (gsw G σ) U.heap ∧ va_K G.1 vwCl G.2.2.2.2.1 U ∧ gL G.2.2.2.2.2 (gA G) U
theorem gfb {G : gG} {σ : gMem} {av : List Value} : FrameBlind (va_Pc av (gPre G σ)) := fun a U g mk q => by
  obtain ⟨q0, qP, qK, qL⟩ := q
  exact ⟨q0, qP, va_K.moved (u := U) (U := U.calling g mk a) (Vm.Alike.refl U.vm) qK, gL_fb qL⟩
abbrev gQi (G : gG) (r0 : Int32) (σ0 : gMem) : Array Value → State → Outcome → State → Prop := va_Qi (fun (r : Int32) (u : gMem) => r = r0 ∧ u = σ0) (fun u t => va_P G.1 vwCl (gsw G u) t.heap) (gA G)
abbrev gQv (G : gG) (σ0 : gMem) : Array Value → State → Outcome → State → Prop := va_Qv (fun (u : gMem) => u = σ0) (fun u t => va_P G.1 vwCl (gsw G u) t.heap) (gA G)
/-- the method ends with r0 and the world σ0 -/
def gMi (l : Launch) (y : MethodName) (ws : List Cond) (rm : Room) (G : gG) (av : List Value) (σ : gMem) (r0 : Int32) (σ0 : gMem) : Prop := Met l y ws rm (va_Pc av (gPre G σ)) (gQi G r0 σ0) 0 0 (gA G)
def gMv (l : Launch) (y : MethodName) (ws : List Cond) (rm : Room) (G : gG) (av : List Value) (σ : gMem) (σ0 : gMem) : Prop := Met l y ws rm (va_Pc av (gPre G σ)) (gQv G σ0) 0 0 (gA G)
def gE (κ : gK) (G : gG) (ret : Option FieldType) (Qc : Array Value → State → Outcome → State → Prop) (l : Launch) : Prop := (gkh κ).sig.returnType = ret ∧ (gkh κ).locks = false ∧ gkn κ = 0 ∧ gkz κ = 0 ∧ gkQ κ = MQ (gkb κ) Qc (gka κ) (gks κ) 0 0 (gA G) ∧ κ.2.1 = l
theorem gIntro {l : Launch} {y : MethodName} {ws ws' : List Cond} {rm : Room} {G : gG} {av : List Value} {σ : gMem} {Qc : Array Value → State → Outcome → State → Prop} {cc : ByteArray} {own : String} {maxL : Nat} {ret : Option FieldType} {lv : List (Nat × Value)} (hG : gInj G) (hy : plainName y.cls = true) (ho : y.cls = own) (hw : ws = Cond.code y cc maxL ret :: ws') (hn : (lg_sl av).length ≤ maxL) (hlv : lv_args 0 av = lv)
    (body : ∀ κ : gK, gC κ cc own ws maxL G (gA G) rm → gE κ G ret Qc l → wx κ G (gA G) maxL σ 0 lv []) : Met l y ws rm (va_Pc av (gPre G σ)) Qc 0 0 (gA G) := by
  refine Met.ofW (cc := cc) (maxL := maxL) (ret := ret) hy hw ?_
  intro p e s m args below meth c s₁ B hml hv
  obtain ⟨rfl, hP, hK, hL⟩ := hv
  have hl := lv_entry av (n := maxL) hn
  rw [lg_entry_eq]
  subst hlv
  subst ho
  exact body (p, l, e, (headSpec ws rm).room, s, m, av.toArray, below, meth, c, 0, 0, MQ below Qc av.toArray s 0 0 (gA G)) ⟨⟨B.exec, B.bytes, hml, findClass_of_methodNamed B.named, atoms_spec (ws := ws) B.pre⟩, hK, gsw_D hG (fun _ h => h), hL, rfl, Nat.zero_le _, Nat.zero_le _, fun _ h => h⟩ ⟨B.returns, B.notSynchronized, rfl, rfl, rfl, rfl⟩ s.heap [] _ hP va_S.rf hl
section GY
variable {κ : gK} {rmo : Room} {cc : ByteArray} {own : String} {Ts : List Cond} {nL : Nat} {G : gG} {A : Nat → Prop} {σ σ0 : gMem} {r0 : Int32} {pc pc' : Nat} {lv lv' : List (Nat × Value)} {st rest : List Value} {l : Launch}
theorem x_iret (C : gC κ cc own Ts nL G (gA G) rmo) (E : gE κ G (some .int) (gQi G r0 σ0) l) {v : Int32} (h : v = r0 ∧ σ = σ0) (hdg : decode cc pc = .ok (.ireturn, 1)) : wx κ G (gA G) nL σ pc lv [.int v] := by
  obtain ⟨p, l, e, R, s, m, args, below, meth, c, n, z, Q⟩ := κ
  obtain ⟨hr, hlk, hn, hz, hQ, -⟩ := E
  replace hn : n = 0 := hn
  replace hz : z = 0 := hz
  subst hn
  subst hz
  replace hQ : Q = MQ below (gQi G r0 σ0) args s 0 0 (gA G) := hQ
  subst hQ
  intro H locs ls hP hS hl
  exact W.iret (v := v) C.1.1 C.1.2.1 hr (fun t ht hW => ⟨⟨v, σ, rfl, h, by show va_P G.1 vwCl (gsw G σ) t.heap; rw [ht]; exact hP⟩, hS.F ht⟩) hS.2.2 hdg hlk
theorem x_zret (C : gC κ cc own Ts nL G (gA G) rmo) (E : gE κ G (some .boolean) (gQi G r0 σ0) l) {v : Int32} (hv : izb v = true) (h : v = r0 ∧ σ = σ0) (hdg : decode cc pc = .ok (.ireturn, 1)) : wx κ G (gA G) nL σ pc lv [.int v] := by
  obtain ⟨p, l, e, R, s, m, args, below, meth, c, n, z, Q⟩ := κ
  obtain ⟨hr, hlk, hn, hz, hQ, -⟩ := E
  replace hn : n = 0 := hn
  replace hz : z = 0 := hz
  subst hn
  subst hz
  replace hQ : Q = MQ below (gQi G r0 σ0) args s 0 0 (gA G) := hQ
  subst hQ
  intro H locs ls hP hS hl
  exact W.zret (v := v) C.1.1 C.1.2.1 hr (izb_n hv) (fun t ht hW => ⟨⟨v, σ, rfl, h, by show va_P G.1 vwCl (gsw G σ) t.heap; rw [ht]; exact hP⟩, hS.F ht⟩) hS.2.2 hdg hlk
theorem x_vret (C : gC κ cc own Ts nL G (gA G) rmo) (E : gE κ G none (gQv G σ0) l) (h : σ = σ0) (hdg : decode cc pc = .ok (.return_, 1)) : wx κ G (gA G) nL σ pc lv [] := by
  obtain ⟨p, l, e, R, s, m, args, below, meth, c, n, z, Q⟩ := κ
  obtain ⟨hr, hlk, hn, hz, hQ, -⟩ := E
  replace hn : n = 0 := hn
  replace hz : z = 0 := hz
  subst hn
  subst hz
  replace hQ : Q = MQ below (gQv G σ0) args s 0 0 (gA G) := hQ
  subst hQ
  intro H locs ls hP hS hl
  exact W.vret C.1.1 C.1.2.1 hr (fun t ht hW => ⟨⟨σ, rfl, h, by show va_P G.1 vwCl (gsw G σ) t.heap; rw [ht]; exact hP⟩, hS.F ht⟩) hS.2.2 hdg hlk
theorem gpreV (C : gC κ cc own Ts nL G A rmo) {k0 ci N : Nat} {Cn : String} {T : u_T} {fs : List Value} {As : List Value} {H : Heap} {locs : List Loc} (hk : k0 < G.2.2.1) (he : G.2.2.2.1 k0 (σ k0) = .inr (ci, fs)) (hc : vwCl[ci]? = some (Cn, T, N)) (hP : va_P G.1 vwCl (gsw G σ) H) (hS : va_S A (gks κ).heap H locs) : PreV (gks κ) H Cn (G.2.1 k0) (va_Pc (.ref (G.2.1 k0) :: As) (gPre G σ)) As :=
  ⟨gfb, va_recv C.2.1 hP hc (by rw [gsw_get hk, he]), fun U hU hW => ⟨rfl, by rw [hU]; exact hP, va_K.moved hW.alike C.2.1, gL_at C.2.2.2.1 hS hU hW C.2.2.2.2.2.2.2⟩⟩
theorem gpreS (C : gC κ cc own Ts nL G A rmo) {As : List Value} {H : Heap} {locs : List Loc} (hP : va_P G.1 vwCl (gsw G σ) H) (hS : va_S A (gks κ).heap H locs) : PreS (gks κ) H (va_Pc As (gPre G σ)) As :=
  ⟨gfb, fun U hU hW => ⟨rfl, by rw [hU]; exact hP, va_K.moved hW.alike C.2.1, gL_at C.2.2.2.1 hS hU hW C.2.2.2.2.2.2.2⟩⟩
theorem x_cvi (C : gC κ cc own Ts nL G A rmo) (El : κ.2.1 = l) {y : MethodName} {ws ws2 : List Cond} {rm : Room} {bytes : ByteArray} {maxL index : Nat} {ret : Option FieldType} {As : List Value} {k0 ci N : Nat} {Cn : String} {T : u_T} {fs : List Value} (n : Nat) (hM : gMi l y ws rm G (.ref (G.2.1 k0) :: As) σ r0 σ0) (hg : GoodIn Ts (wsV own index Cn y ws)) (hw : ws = Cond.code y bytes maxL ret :: ws2) (hrc : rm.cells = 0) (hrs : rm.slots = 0) (hd : y.cls = Cn ∧ y.cls ≠ "java/lang/invoke/MethodHandle" ∧ y.cls ≠ "java/lang/invoke/VarHandle" ∧ (parseMethodDescriptor y.desc).map (fun d => d.parameters.length) = some n) (hR : rm.frames + 1 ≤ rmo.frames ∧ 8 + (maxL + 11) + rm.locals ≤ rmo.locals) (hk : k0 < G.2.2.1) (he : G.2.2.2.1 k0 (σ k0) = .inr (ci, fs)) (hc : vwCl[ci]? = some (Cn, T, N)) (hn : As.length = n) (hst : st = As.reverse ++ .ref (G.2.1 k0) :: rest) (hcat : (rest.map fun v => v.category).sum ≤ 8) (hdg : decode cc pc = .ok (.invokevirtual index, 3)) (hp : pc + 3 = pc') (k : wx κ G A nL σ0 pc' lv (.int r0 :: rest)) : wx κ G A nL σ pc lv st := by
  subst hp
  subst hst
  subst El
  intro H locs ls hP hS hl
  exact va_calli (va_runV (As := As) (rest := rest) C.1 hM (cwV n C.1.2.2.2.2 hg hw hrc hrs hd (by rw [C.2.2.2.2.1]; exact hR)) (gpreV C hk he hc hP hS) rfl hn hl.1 rfl (lv_room hcat) hdg ⟨by rw [C.2.2.2.2.1]; exact C.2.2.2.2.2.1, by rw [C.2.2.2.2.1]; exact C.2.2.2.2.2.2.1⟩) hS (fun q _ h => C.2.2.2.2.2.2.2 q h) C.2.2.2.2.2.2.2 (fun r u t H1 locs1 ht hvm hw hB hz1 hk1 hS => by obtain ⟨rfl, rfl⟩ := hw; rw [ht] at hB; exact k H1 locs1 ls hB hS hl)
theorem x_csi (C : gC κ cc own Ts nL G A rmo) (El : κ.2.1 = l) {y : MethodName} {ws ws2 : List Cond} {rm : Room} {bytes : ByteArray} {maxL index : Nat} {ret : Option FieldType} {As : List Value} (n : Nat) (hM : gMi l y ws rm G As σ r0 σ0) (hg : GoodIn Ts (va_wsS own index y ws)) (hw : ws = Cond.code y bytes maxL ret :: ws2) (hrc : rm.cells = 0) (hrs : rm.slots = 0) (hd : y.cls ≠ "java/lang/invoke/MethodHandle" ∧ y.cls ≠ "java/lang/invoke/VarHandle" ∧ (parseMethodDescriptor y.desc).map (fun d => d.parameters.length) = some n) (hR : rm.frames + 1 ≤ rmo.frames ∧ 8 + (maxL + 11) + rm.locals ≤ rmo.locals) (hn : As.length = n) (hst : st = As.reverse ++ rest) (hcat : (rest.map fun v => v.category).sum ≤ 8) (hdg : decode cc pc = .ok (.invokestatic index, 3)) (hp : pc + 3 = pc') (k : wx κ G A nL σ0 pc' lv (.int r0 :: rest)) : wx κ G A nL σ pc lv st := by
  subst hp
  subst hst
  subst El
  intro H locs ls hP hS hl
  exact va_calli (va_runS (As := As) (rest := rest) C.1 hM (va_cwS n C.1.2.2.2.2 hg hw hrc hrs hd (by rw [C.2.2.2.2.1]; exact hR)) (gpreS C hP hS) rfl hn hl.1 rfl (lv_room hcat) hdg ⟨by rw [C.2.2.2.2.1]; exact C.2.2.2.2.2.1, by rw [C.2.2.2.2.1]; exact C.2.2.2.2.2.2.1⟩) hS (fun q _ h => C.2.2.2.2.2.2.2 q h) C.2.2.2.2.2.2.2 (fun r u t H1 locs1 ht hvm hw hB hz1 hk1 hS => by obtain ⟨rfl, rfl⟩ := hw; rw [ht] at hB; exact k H1 locs1 ls hB hS hl)
theorem x_csni (C : gC κ cc own Ts nL G A rmo) (El : κ.2.1 = l) {y : MethodName} {ws ws2 : List Cond} {rm : Room} {bytes : ByteArray} {maxL index : Nat} {ret : Option FieldType} {As : List Value} (n : Nat) (hM : gMi l y ws rm G As σ r0 σ0) (hg : GoodIn Ts ws) (hw : ws = Cond.code y bytes maxL ret :: ws2) (hrc : rm.cells = 0) (hrs : rm.slots = 0) (hN : (own, index, y) ∈ gNl) (hini : Cond.initialized y.cls ∈ Ts) (hsta : Cond.static y ∈ Ts) (hd : y.cls ≠ "java/lang/invoke/MethodHandle" ∧ y.cls ≠ "java/lang/invoke/VarHandle" ∧ (parseMethodDescriptor y.desc).map (fun d => d.parameters.length) = some n) (hR : rm.frames + 1 ≤ rmo.frames ∧ 8 + (maxL + 11) + rm.locals ≤ rmo.locals) (hn : As.length = n) (hst : st = As.reverse ++ rest) (hcat : (rest.map fun v => v.category).sum ≤ 8) (hdg : decode cc pc = .ok (.invokestatic index, 3)) (hp : pc + 3 = pc') (k : wx κ G A nL σ0 pc' lv (.int r0 :: rest)) : wx κ G A nL σ pc lv st := by
  subst hp
  subst hst
  subst El
  intro H locs ls hP hS hl
  exact va_calli (va_runSN (As := As) (rest := rest) C.1 hM ⟨va_cnB n C.1.2.2.2.2 hg hw hrc hrs (C.2.2.2.1.2.2 _ hN) (C.hts hini) hd (by rw [C.2.2.2.2.1]; exact hR), C.hts hsta, trivial⟩ (gpreS C hP hS) rfl hn hl.1 rfl (lv_room hcat) hdg ⟨by rw [C.2.2.2.2.1]; exact C.2.2.2.2.2.1, by rw [C.2.2.2.2.1]; exact C.2.2.2.2.2.2.1⟩) hS (fun q _ h => C.2.2.2.2.2.2.2 q h) C.2.2.2.2.2.2.2 (fun r u t H1 locs1 ht hvm hw hB hz1 hk1 hS => by obtain ⟨rfl, rfl⟩ := hw; rw [ht] at hB; exact k H1 locs1 ls hB hS hl)
theorem x_cvv (C : gC κ cc own Ts nL G A rmo) (El : κ.2.1 = l) {y : MethodName} {ws ws2 : List Cond} {rm : Room} {bytes : ByteArray} {maxL index : Nat} {ret : Option FieldType} {As : List Value} {k0 ci N : Nat} {Cn : String} {T : u_T} {fs : List Value} (n : Nat) (hM : gMv l y ws rm G (.ref (G.2.1 k0) :: As) σ σ0) (hg : GoodIn Ts (wsV own index Cn y ws)) (hw : ws = Cond.code y bytes maxL ret :: ws2) (hrc : rm.cells = 0) (hrs : rm.slots = 0) (hd : y.cls = Cn ∧ y.cls ≠ "java/lang/invoke/MethodHandle" ∧ y.cls ≠ "java/lang/invoke/VarHandle" ∧ (parseMethodDescriptor y.desc).map (fun d => d.parameters.length) = some n) (hR : rm.frames + 1 ≤ rmo.frames ∧ 8 + (maxL + 11) + rm.locals ≤ rmo.locals) (hk : k0 < G.2.2.1) (he : G.2.2.2.1 k0 (σ k0) = .inr (ci, fs)) (hc : vwCl[ci]? = some (Cn, T, N)) (hn : As.length = n) (hst : st = As.reverse ++ .ref (G.2.1 k0) :: rest) (hcat : (rest.map fun v => v.category).sum ≤ 8) (hdg : decode cc pc = .ok (.invokevirtual index, 3)) (hp : pc + 3 = pc') (k : wx κ G A nL σ0 pc' lv rest) : wx κ G A nL σ pc lv st := by
  subst hp
  subst hst
  subst El
  intro H locs ls hP hS hl
  exact va_callv (va_runV (As := As) (rest := rest) C.1 hM (cwV n C.1.2.2.2.2 hg hw hrc hrs hd (by rw [C.2.2.2.2.1]; exact hR)) (gpreV C hk he hc hP hS) rfl hn hl.1 rfl (lv_room hcat) hdg ⟨by rw [C.2.2.2.2.1]; exact C.2.2.2.2.2.1, by rw [C.2.2.2.2.1]; exact C.2.2.2.2.2.2.1⟩) hS (fun q _ h => C.2.2.2.2.2.2.2 q h) C.2.2.2.2.2.2.2 (fun u t H1 locs1 ht hvm hw hB hz1 hk1 hS => by subst hw; rw [ht] at hB; exact k H1 locs1 ls hB hS hl)
theorem x_csv (C : gC κ cc own Ts nL G A rmo) (El : κ.2.1 = l) {y : MethodName} {ws ws2 : List Cond} {rm : Room} {bytes : ByteArray} {maxL index : Nat} {ret : Option FieldType} {As : List Value} (n : Nat) (hM : gMv l y ws rm G As σ σ0) (hg : GoodIn Ts (va_wsS own index y ws)) (hw : ws = Cond.code y bytes maxL ret :: ws2) (hrc : rm.cells = 0) (hrs : rm.slots = 0) (hd : y.cls ≠ "java/lang/invoke/MethodHandle" ∧ y.cls ≠ "java/lang/invoke/VarHandle" ∧ (parseMethodDescriptor y.desc).map (fun d => d.parameters.length) = some n) (hR : rm.frames + 1 ≤ rmo.frames ∧ 8 + (maxL + 11) + rm.locals ≤ rmo.locals) (hn : As.length = n) (hst : st = As.reverse ++ rest) (hcat : (rest.map fun v => v.category).sum ≤ 8) (hdg : decode cc pc = .ok (.invokestatic index, 3)) (hp : pc + 3 = pc') (k : wx κ G A nL σ0 pc' lv rest) : wx κ G A nL σ pc lv st := by
  subst hp
  subst hst
  subst El
  intro H locs ls hP hS hl
  exact va_callv (va_runS (As := As) (rest := rest) C.1 hM (va_cwS n C.1.2.2.2.2 hg hw hrc hrs hd (by rw [C.2.2.2.2.1]; exact hR)) (gpreS C hP hS) rfl hn hl.1 rfl (lv_room hcat) hdg ⟨by rw [C.2.2.2.2.1]; exact C.2.2.2.2.2.1, by rw [C.2.2.2.2.1]; exact C.2.2.2.2.2.2.1⟩) hS (fun q _ h => C.2.2.2.2.2.2.2 q h) C.2.2.2.2.2.2.2 (fun u t H1 locs1 ht hvm hw hB hz1 hk1 hS => by subst hw; rw [ht] at hB; exact k H1 locs1 ls hB hS hl)
theorem x_csnv (C : gC κ cc own Ts nL G A rmo) (El : κ.2.1 = l) {y : MethodName} {ws ws2 : List Cond} {rm : Room} {bytes : ByteArray} {maxL index : Nat} {ret : Option FieldType} {As : List Value} (n : Nat) (hM : gMv l y ws rm G As σ σ0) (hg : GoodIn Ts ws) (hw : ws = Cond.code y bytes maxL ret :: ws2) (hrc : rm.cells = 0) (hrs : rm.slots = 0) (hN : (own, index, y) ∈ gNl) (hini : Cond.initialized y.cls ∈ Ts) (hsta : Cond.static y ∈ Ts) (hd : y.cls ≠ "java/lang/invoke/MethodHandle" ∧ y.cls ≠ "java/lang/invoke/VarHandle" ∧ (parseMethodDescriptor y.desc).map (fun d => d.parameters.length) = some n) (hR : rm.frames + 1 ≤ rmo.frames ∧ 8 + (maxL + 11) + rm.locals ≤ rmo.locals) (hn : As.length = n) (hst : st = As.reverse ++ rest) (hcat : (rest.map fun v => v.category).sum ≤ 8) (hdg : decode cc pc = .ok (.invokestatic index, 3)) (hp : pc + 3 = pc') (k : wx κ G A nL σ0 pc' lv rest) : wx κ G A nL σ pc lv st := by
  subst hp
  subst hst
  subst El
  intro H locs ls hP hS hl
  exact va_callv (va_runSN (As := As) (rest := rest) C.1 hM ⟨va_cnB n C.1.2.2.2.2 hg hw hrc hrs (C.2.2.2.1.2.2 _ hN) (C.hts hini) hd (by rw [C.2.2.2.2.1]; exact hR), C.hts hsta, trivial⟩ (gpreS C hP hS) rfl hn hl.1 rfl (lv_room hcat) hdg ⟨by rw [C.2.2.2.2.1]; exact C.2.2.2.2.2.1, by rw [C.2.2.2.2.1]; exact C.2.2.2.2.2.2.1⟩) hS (fun q _ h => C.2.2.2.2.2.2.2 q h) C.2.2.2.2.2.2.2 (fun u t H1 locs1 ht hvm hw hB hz1 hk1 hS => by subst hw; rw [ht] at hB; exact k H1 locs1 ls hB hS hl)
theorem x_mmax (C : gC κ cc own Ts nL G A rmo) {index : Nat} {x y : Int32} (hlink : Cond.methodLink own index Lib.Math.max.name ∈ Ts) (hstat : Cond.static Lib.Math.max.name ∈ Ts) (hini : Cond.initialized "java/lang/Math" ∈ Ts) (hcode : Cond.code Lib.Math.max.name Lib.Math.max.code 2 (some .int) ∈ Ts) (hf : 1 ≤ rmo.frames) (hlo : (rest.map fun v => v.category).sum + 13 ≤ rmo.locals) (hdg : decode cc pc = .ok (.invokestatic index, 3)) (hp : pc + 3 = pc') (k : wx κ G A nL σ pc' lv (.int (gmax x y) :: rest)) : wx κ G A nL σ pc lv (.int y :: .int x :: rest) := by
  subst hp
  intro H locs ls hP hS hl
  exact va_mmax C.1.1 C.1.2.1 (C.1.2.2.1.trans hl.1.symm) C.1.2.2.2.1 (C.hts hlink) (C.hts hstat) (C.hts hini) (C.hts hcode) (by rw [C.2.2.2.2.1]; exact hf) (by rw [C.2.2.2.2.1]; exact hlo) (by rw [C.2.2.2.2.1]; exact C.2.2.2.2.2.1) (by rw [C.2.2.2.2.1]; exact C.2.2.2.2.2.2.1) hdg (k H locs ls hP hS hl)
theorem x_mmin (C : gC κ cc own Ts nL G A rmo) {index : Nat} {x y : Int32} (hlink : Cond.methodLink own index Lib.Math.min.name ∈ Ts) (hstat : Cond.static Lib.Math.min.name ∈ Ts) (hini : Cond.initialized "java/lang/Math" ∈ Ts) (hcode : Cond.code Lib.Math.min.name Lib.Math.min.code 2 (some .int) ∈ Ts) (hf : 1 ≤ rmo.frames) (hlo : (rest.map fun v => v.category).sum + 13 ≤ rmo.locals) (hdg : decode cc pc = .ok (.invokestatic index, 3)) (hp : pc + 3 = pc') (k : wx κ G A nL σ pc' lv (.int (gmin x y) :: rest)) : wx κ G A nL σ pc lv (.int y :: .int x :: rest) := by
  subst hp
  intro H locs ls hP hS hl
  exact va_mmin C.1.1 C.1.2.1 (C.1.2.2.1.trans hl.1.symm) C.1.2.2.2.1 (C.hts hlink) (C.hts hstat) (C.hts hini) (C.hts hcode) (by rw [C.2.2.2.2.1]; exact hf) (by rw [C.2.2.2.2.1]; exact hlo) (by rw [C.2.2.2.2.1]; exact C.2.2.2.2.2.1) (by rw [C.2.2.2.2.1]; exact C.2.2.2.2.2.2.1) hdg (k H locs ls hP hS hl)
def gcpy (σ : gMem) (k0 k1 : Nat) (sp dp n : Int32) : gMem := grow σ k1 (va_cpy (σ k0) (σ k1) sp.toNatClampNeg dp.toNatClampNeg n.toNatClampNeg)
def gcok (n0 n1 : Nat) (sp dp n : Int32) : Bool := !(decide (sp < 0)) && !(decide (dp < 0)) && !(decide (n < 0)) && decide (sp.toNatClampNeg + n.toNatClampNeg ≤ n0) && decide (dp.toNatClampNeg + n.toNatClampNeg ≤ n1)
theorem x_copy (C : gC κ cc own Ts nL G A rmo) {σ1 : gMem} {index k0 k1 n0 n1 : Nat} {cy : ClassId} {sp dp n : Int32} (e1 : σ1 = gcpy σ k0 k1 sp dp n) (hlink : Cond.methodLink own index arraycopyName ∈ Ts) (hnat : Cond.native arraycopyName ∈ Ts) (hstat : Cond.static arraycopyName ∈ Ts) (hini : Cond.initialized "java/lang/System" ∈ Ts) (hk0 : k0 < G.2.2.1) (hk1 : k1 < G.2.2.1) (he0 : ∀ r, G.2.2.2.1 k0 r = .inl (cy, (n0, .inl r))) (he1 : ∀ r, G.2.2.2.1 k1 r = .inl (cy, (n1, .inl r))) (ht : G.2.2.2.2.1[0]? = some (cy, .int)) (hok : gcok n0 n1 sp dp n = true) (hf : 1 ≤ rmo.frames) (hlo : (rest.map fun v => v.category).sum + (nativeFrameWords "java/lang/System" "arraycopy" 5 + 11) ≤ rmo.locals) (hdg : decode cc pc = .ok (.invokestatic index, 3)) (hp : pc + 3 = pc') (k : wx κ G A nL σ1 pc' lv rest) : wx κ G A nL σ pc lv (.int n :: .int dp :: .ref (G.2.1 k1) :: .int sp :: .ref (G.2.1 k0) :: rest) := by
  subst hp
  subst e1
  simp only [gcok, Bool.and_eq_true, Bool.not_eq_true', decide_eq_false_iff_not, decide_eq_true_eq] at hok
  obtain ⟨⟨⟨⟨h1, h2⟩, h3⟩, h4⟩, h5⟩ := hok
  intro H locs ls hP hS hl
  exact va_copyi C.1.1 C.1.2.1 (C.1.2.2.1.trans hl.1.symm) C.1.2.2.2.1 (C.hts hlink) (C.hts hnat) (C.hts hstat) (C.hts hini) C.2.1 hP (C.2.2.1 σ) hS k0 k1 0 0 (by rw [gsw_get hk0, he0]) (by rw [gsw_get hk1, he1]) ht ht rfl h1 h2 h3 h4 h5 (fun _ _ => rfl) (by rw [C.2.2.2.2.1]; exact hf) (by rw [C.2.2.2.2.1]; exact hlo) hdg (fun H locs hP _ hS => k H locs ls (by rw [gsw_set hk1 (he1 _).symm] at hP; exact hP) hS hl)
end GY
end
section
abbrev gtys (cy : Nat → ClassId) : List (ClassId × FieldType) := [(cy 0, .int), (cy 1, .boolean), (cy 2, .object "StiltWays$Sheet"), (cy 3, .array .int)]
theorem gnI {x k : Int32} {n : Int} (h : ¬ x = k) (hk : k.toInt = n) : x.toInt ≠ n := fun q => h (Int32.toInt_inj.mp (by rw [hk]; exact q))
def gisX (k : Nat) : Bool := k == 0 || k == 1 || k == 25 || k == 49 || k == 54 || k == 136 || k == 201 || k == 5 || k == 29 || k == 57 || k == 58 || k == 138 || k == 204 || (decide (205 ≤ k) && decide (k < 209))
def glX (k : Nat) : Nat := if k ≤ 2 then 12 else if k ≤ 3 then 12 else if k ≤ 4 then 12 else if k ≤ 6 then 24 else if k ≤ 7 then 8 else if k ≤ 8 then 8 else if k ≤ 9 then 8 else if k ≤ 10 then 10 else if k ≤ 11 then 10 else if k ≤ 12 then 10 else if k ≤ 24 then 12 else if k ≤ 26 then 12 else if k ≤ 27 then 12 else if k ≤ 28 then 12 else if k ≤ 30 then 24 else if k ≤ 31 then 8 else if k ≤ 32 then 8 else if k ≤ 33 then 8 else if k ≤ 34 then 10 else if k ≤ 35 then 10 else if k ≤ 36 then 10 else if k ≤ 48 then 12 else if k ≤ 50 then 80 else if k ≤ 51 then 8 else if k ≤ 52 then 8 else if k ≤ 53 then 8 else if k ≤ 55 then 12 else if k ≤ 56 then 8 else if k ≤ 59 then 12 else if k ≤ 60 then 144 else if k ≤ 61 then 144 else if k ≤ 62 then 144 else if k ≤ 74 then 24 else if k ≤ 135 then 12 else if k ≤ 137 then 61 else if k ≤ 200 then 256 else if k ≤ 202 then 8 else if k ≤ 203 then 256 else if k ≤ 212 then 24 else 0
def gobX (ad : Nat → Nat) (cy : Nat → ClassId) (k : Nat) (r : Nat → Int32) : va_E := if k = 0 then .inr (6, [.ref (ad 1), .ref (ad 25), .int (r 2), .ref (ad 49), .ref (ad 54), .ref (ad 136), .ref (ad 201), .ref (ad 204)]) else if k = 1 then .inr (1, [.int (r 0), .ref (ad 2), .ref (ad 3), .ref (ad 4), .ref (ad 5), .ref (ad 6), .int (r 6), .int (r 7), .int (r 8), .ref (ad 7), .ref (ad 8), .ref (ad 9), .int (r 12), .ref (ad 10), .ref (ad 11), .ref (ad 12), .int (r 16)]) else if k = 25 then .inr (1, [.int (r 0), .ref (ad 26), .ref (ad 27), .ref (ad 28), .ref (ad 29), .ref (ad 30), .int (r 6), .int (r 7), .int (r 8), .ref (ad 31), .ref (ad 32), .ref (ad 33), .int (r 12), .ref (ad 34), .ref (ad 35), .ref (ad 36), .int (r 16)]) else if k = 49 then .inr (3, [.int (r 0), .ref (ad 50), .int (r 2), .int (r 3), .int (r 4), .int (r 5), .ref (ad 51), .ref (ad 52), .ref (ad 53)]) else if k = 54 then .inr (5, [.int (r 0), .int (r 1), .int (r 2), .int (r 3), .ref (ad 55), .ref (ad 56), .ref (ad 57), .ref (ad 58), .ref (ad 59), .int (r 9), .ref (ad 60), .ref (ad 61), .ref (ad 62)]) else if k = 136 then .inr (4, [.int (r 0), .ref (ad 137), .ref (ad 138)]) else if k = 201 then .inr (0, [.int (r 0), .ref (ad 202), .ref (ad 203)]) else if k = 5 then .inl (cy 3, (12, .inr (.inr (.inr (.inr (fun i => if i < 12 then some (ad (13 + i)) else none)))))) else if k = 29 then .inl (cy 3, (12, .inr (.inr (.inr (.inr (fun i => if i < 12 then some (ad (37 + i)) else none)))))) else if k = 57 then .inl (cy 3, (12, .inr (.inr (.inr (.inr (fun i => if i < 12 then some (ad (63 + i)) else none)))))) else if k = 58 then .inl (cy 3, (61, .inr (.inr (.inr (.inr (fun i => if i < 61 then some (ad (75 + i)) else none)))))) else if k = 138 then .inl (cy 3, (62, .inr (.inr (.inr (.inr (fun i => if i < 62 then some (ad (139 + i)) else none)))))) else if k = 204 then .inl (cy 2, (4, .inr (.inr (.inr (.inr (fun i => if i < 4 then some (ad (205 + i)) else none)))))) else .inr (2, [.int (r 0), .int (r 1), .int (r 2), .ref (ad (k + 4))])
def gentX (ad : Nat → Nat) (cy : Nat → ClassId) : gEn := fun k r => if gisX k = true then gobX ad cy k r else .inl (cy 0, (glX k, .inl r))
abbrev gGX (D : va_G) (ad : Nat → Nat) (cy : Nat → ClassId) (b : Nat) : gG := (D, ad, 213, gentX ad cy, gtys cy, b)
def glM (k : Nat) : Nat := if k = 1 then 528 else if k = 2 then 80 else if k = 3 then 24 else if k = 4 then 96 else if k = 5 then 4 else if k = 6 then 4 else if k = 7 then 24 else if k = 8 then 96 else if k = 9 then 5856 else if k = 10 then 15872 else if k = 11 then 61 else if k = 12 then 256 else if k = 13 then 8 else 0
def gentM (ad : Nat → Nat) (cy : Nat → ClassId) : gEn := fun k r => if k = 0 then .inr (7, [.ref (ad 1), .int (r 1), .ref (ad 2), .int (r 3), .int (r 4), .int (r 5), .int (r 6), .ref (ad 3), .ref (ad 4), .ref (ad 5), .ref (ad 6), .ref (ad 7), .ref (ad 8), .ref (ad 9), .int (r 14), .int (r 15), .ref (ad 10), .ref (ad 11), .ref (ad 12), .ref (ad 13)]) else if k = 8 ∨ k = 9 then .inl (cy 1, (glM k, .inl r)) else .inl (cy 0, (glM k, .inl r))
abbrev gGM (D : va_G) (ad : Nat → Nat) (cy : Nat → ClassId) (b : Nat) : gG := (D, ad, 14, gentM ad cy, gtys cy, b)
theorem gXk_rown : ∀ i : Nat, i < 12 → gisX (13 + i) = false ∧ glX (13 + i) = 12 := by decide +kernel
theorem gXe_rown {ad : Nat → Nat} {cy : Nat → ClassId} {i : Nat} {r : Nat → Int32} (hi : i < 12) : gentX ad cy (13 + i) r = .inl (cy 0, (12, .inl r)) := by
  simp [gentX, (gXk_rown i hi).1, (gXk_rown i hi).2]
theorem gXlt_rown {i : Nat} (hi : i < 12) : 13 + i < 213 := by omega
theorem gXk_rowk : ∀ i : Nat, i < 12 → gisX (37 + i) = false ∧ glX (37 + i) = 12 := by decide +kernel
theorem gXe_rowk {ad : Nat → Nat} {cy : Nat → ClassId} {i : Nat} {r : Nat → Int32} (hi : i < 12) : gentX ad cy (37 + i) r = .inl (cy 0, (12, .inl r)) := by
  simp [gentX, (gXk_rowk i hi).1, (gXk_rowk i hi).2]
theorem gXlt_rowk {i : Nat} (hi : i < 12) : 37 + i < 213 := by omega
theorem gXk_foot : ∀ i : Nat, i < 12 → gisX (63 + i) = false ∧ glX (63 + i) = 24 := by decide +kernel
theorem gXe_foot {ad : Nat → Nat} {cy : Nat → ClassId} {i : Nat} {r : Nat → Int32} (hi : i < 12) : gentX ad cy (63 + i) r = .inl (cy 0, (24, .inl r)) := by
  simp [gentX, (gXk_foot i hi).1, (gXk_foot i hi).2]
theorem gXlt_foot {i : Nat} (hi : i < 12) : 63 + i < 213 := by omega
theorem gXk_at : ∀ i : Nat, i < 61 → gisX (75 + i) = false ∧ glX (75 + i) = 12 := by decide +kernel
theorem gXe_at {ad : Nat → Nat} {cy : Nat → ClassId} {i : Nat} {r : Nat → Int32} (hi : i < 61) : gentX ad cy (75 + i) r = .inl (cy 0, (12, .inl r)) := by
  simp [gentX, (gXk_at i hi).1, (gXk_at i hi).2]
theorem gXlt_at {i : Nat} (hi : i < 61) : 75 + i < 213 := by omega
theorem gXk_few : ∀ i : Nat, i < 62 → gisX (139 + i) = false ∧ glX (139 + i) = 256 := by decide +kernel
theorem gXe_few {ad : Nat → Nat} {cy : Nat → ClassId} {i : Nat} {r : Nat → Int32} (hi : i < 62) : gentX ad cy (139 + i) r = .inl (cy 0, (256, .inl r)) := by
  simp [gentX, (gXk_few i hi).1, (gXk_few i hi).2]
theorem gXlt_few {i : Nat} (hi : i < 62) : 139 + i < 213 := by omega
theorem gXk_ite : ∀ i : Nat, i < 4 → gisX (209 + i) = false ∧ glX (209 + i) = 24 := by decide +kernel
theorem gXe_ite {ad : Nat → Nat} {cy : Nat → ClassId} {i : Nat} {r : Nat → Int32} (hi : i < 4) : gentX ad cy (209 + i) r = .inl (cy 0, (24, .inl r)) := by
  simp [gentX, (gXk_ite i hi).1, (gXk_ite i hi).2]
theorem gXlt_ite {i : Nat} (hi : i < 4) : 209 + i < 213 := by omega
theorem gXlt_she {i : Nat} (hi : i < 4) : 205 + i < 213 := by omega
theorem gXe_she {ad : Nat → Nat} {cy : Nat → ClassId} {i : Nat} {r : Nat → Int32} (hi : i < 4) : gentX ad cy (205 + i) r = .inr (2, [.int (r 0), .int (r 1), .int (r 2), .ref (ad (209 + i))]) := by
  rcases (show i = 0 ∨ i = 1 ∨ i = 2 ∨ i = 3 by omega) with rfl | rfl | rfl | rfl <;> rfl
section GR
variable {κ : gK} {rmo : Room} {cc : ByteArray} {own : String} {c0 : Cond} {nL : Nat} {D : va_G} {ad : Nat → Nat} {cy : Nat → ClassId} {b : Nat} {A : Nat → Prop} {σ σ1 : gMem} {pc pc' : Nat} {lv : List (Nat × Value)} {st : List Value} {index : Nat} {i x : Int32}
theorem gXg_0_now (C : gC κ cc own (c0 :: gBig) nL (gGX D ad cy b) A rmo) (hlink : Cond.fieldLink own index RX6 "now" "LStiltWays$Lagoon;" ∈ gBig) (hdg : decode cc pc = .ok (.getfield index, 3)) (hp : pc + 3 = pc') (k : wx κ (gGX D ad cy b) A nL σ pc' lv (.ref (ad 1) :: st)) : wx κ (gGX D ad cy b) A nL σ pc lv (.ref (ad 0) :: st) :=
  x_get (G := (gGX D ad cy b)) (k0 := 0) (ci := 6) (j := 0) (N := 8) (Cn := RX6) (T := TX6) C (by show 0 < 213; decide) rfl rfl (fun w h => gBc (inB6 w h)) (by decide) rfl (gBc hlink) hdg hp k
theorem gXg_0_kept (C : gC κ cc own (c0 :: gBig) nL (gGX D ad cy b) A rmo) (hlink : Cond.fieldLink own index RX6 "kept" "LStiltWays$Lagoon;" ∈ gBig) (hdg : decode cc pc = .ok (.getfield index, 3)) (hp : pc + 3 = pc') (k : wx κ (gGX D ad cy b) A nL σ pc' lv (.ref (ad 25) :: st)) : wx κ (gGX D ad cy b) A nL σ pc lv (.ref (ad 0) :: st) :=
  x_get (G := (gGX D ad cy b)) (k0 := 0) (ci := 6) (j := 1) (N := 8) (Cn := RX6) (T := TX6) C (by show 0 < 213; decide) rfl rfl (fun w h => gBc (inB6 w h)) (by decide) rfl (gBc hlink) hdg hp k
theorem gXg_0_keeps (C : gC κ cc own (c0 :: gBig) nL (gGX D ad cy b) A rmo) (hlink : Cond.fieldLink own index RX6 "keeps" "Z" ∈ gBig) (hdg : decode cc pc = .ok (.getfield index, 3)) (hp : pc + 3 = pc') (k : wx κ (gGX D ad cy b) A nL σ pc' lv (.int (σ 0 2) :: st)) : wx κ (gGX D ad cy b) A nL σ pc lv (.ref (ad 0) :: st) :=
  x_get (G := (gGX D ad cy b)) (k0 := 0) (ci := 6) (j := 2) (N := 8) (Cn := RX6) (T := TX6) C (by show 0 < 213; decide) rfl rfl (fun w h => gBc (inB6 w h)) (by decide) rfl (gBc hlink) hdg hp k
theorem gXp_0_keeps (C : gC κ cc own (c0 :: gBig) nL (gGX D ad cy b) A rmo) (ev : σ1 = gst σ 0 2 x) (hz : narrow .boolean (.int x) = .int x) (hz2 : fits .boolean (.int x) = true) (hlink : Cond.fieldLink own index RX6 "keeps" "Z" ∈ gBig) (hdg : decode cc pc = .ok (.putfield index, 3)) (hp : pc + 3 = pc') (k : wx κ (gGX D ad cy b) A nL σ1 pc' lv st) : wx κ (gGX D ad cy b) A nL σ pc lv (.int x :: .ref (ad 0) :: st) :=
  x_put (G := (gGX D ad cy b)) (k0 := 0) (ci := 6) (j := 2) (N := 8) (Cn := RX6) (T := TX6) C ev (by show 0 < 213; decide) rfl rfl rfl (fun w h => gBc (inB6 w h)) tyX6 tyX6_ok nmX6 (by decide) rfl (tyX6_ok 2 (by decide)) hz hz2 (by show 2 < 8; decide) (gBc hlink) hdg hp k
theorem gXg_0_tape (C : gC κ cc own (c0 :: gBig) nL (gGX D ad cy b) A rmo) (hlink : Cond.fieldLink own index RX6 "tape" "LStiltWays$Tape;" ∈ gBig) (hdg : decode cc pc = .ok (.getfield index, 3)) (hp : pc + 3 = pc') (k : wx κ (gGX D ad cy b) A nL σ pc' lv (.ref (ad 49) :: st)) : wx κ (gGX D ad cy b) A nL σ pc lv (.ref (ad 0) :: st) :=
  x_get (G := (gGX D ad cy b)) (k0 := 0) (ci := 6) (j := 3) (N := 8) (Cn := RX6) (T := TX6) C (by show 0 < 213; decide) rfl rfl (fun w h => gBc (inB6 w h)) (by decide) rfl (gBc hlink) hdg hp k
theorem gXg_0_walk (C : gC κ cc own (c0 :: gBig) nL (gGX D ad cy b) A rmo) (hlink : Cond.fieldLink own index RX6 "walk" "LStiltWays$Walk;" ∈ gBig) (hdg : decode cc pc = .ok (.getfield index, 3)) (hp : pc + 3 = pc') (k : wx κ (gGX D ad cy b) A nL σ pc' lv (.ref (ad 54) :: st)) : wx κ (gGX D ad cy b) A nL σ pc lv (.ref (ad 0) :: st) :=
  x_get (G := (gGX D ad cy b)) (k0 := 0) (ci := 6) (j := 4) (N := 8) (Cn := RX6) (T := TX6) C (by show 0 < 213; decide) rfl rfl (fun w h => gBc (inB6 w h)) (by decide) rfl (gBc hlink) hdg hp k
theorem gXg_0_village (C : gC κ cc own (c0 :: gBig) nL (gGX D ad cy b) A rmo) (hlink : Cond.fieldLink own index RX6 "village" "LStiltWays$Village;" ∈ gBig) (hdg : decode cc pc = .ok (.getfield index, 3)) (hp : pc + 3 = pc') (k : wx κ (gGX D ad cy b) A nL σ pc' lv (.ref (ad 136) :: st)) : wx κ (gGX D ad cy b) A nL σ pc lv (.ref (ad 0) :: st) :=
  x_get (G := (gGX D ad cy b)) (k0 := 0) (ci := 6) (j := 5) (N := 8) (Cn := RX6) (T := TX6) C (by show 0 < 213; decide) rfl rfl (fun w h => gBc (inB6 w h)) (by decide) rfl (gBc hlink) hdg hp k
theorem gXg_0_exchange (C : gC κ cc own (c0 :: gBig) nL (gGX D ad cy b) A rmo) (hlink : Cond.fieldLink own index RX6 "exchange" "LStiltWays$Exchange;" ∈ gBig) (hdg : decode cc pc = .ok (.getfield index, 3)) (hp : pc + 3 = pc') (k : wx κ (gGX D ad cy b) A nL σ pc' lv (.ref (ad 201) :: st)) : wx κ (gGX D ad cy b) A nL σ pc lv (.ref (ad 0) :: st) :=
  x_get (G := (gGX D ad cy b)) (k0 := 0) (ci := 6) (j := 6) (N := 8) (Cn := RX6) (T := TX6) C (by show 0 < 213; decide) rfl rfl (fun w h => gBc (inB6 w h)) (by decide) rfl (gBc hlink) hdg hp k
theorem gXg_0_sheets (C : gC κ cc own (c0 :: gBig) nL (gGX D ad cy b) A rmo) (hlink : Cond.fieldLink own index RX6 "sheets" "[LStiltWays$Sheet;" ∈ gBig) (hdg : decode cc pc = .ok (.getfield index, 3)) (hp : pc + 3 = pc') (k : wx κ (gGX D ad cy b) A nL σ pc' lv (.ref (ad 204) :: st)) : wx κ (gGX D ad cy b) A nL σ pc lv (.ref (ad 0) :: st) :=
  x_get (G := (gGX D ad cy b)) (k0 := 0) (ci := 6) (j := 7) (N := 8) (Cn := RX6) (T := TX6) C (by show 0 < 213; decide) rfl rfl (fun w h => gBc (inB6 w h)) (by decide) rfl (gBc hlink) hdg hp k
theorem gXg_1_places (C : gC κ cc own (c0 :: gBig) nL (gGX D ad cy b) A rmo) (hlink : Cond.fieldLink own index RX1 "places" "I" ∈ gBig) (hdg : decode cc pc = .ok (.getfield index, 3)) (hp : pc + 3 = pc') (k : wx κ (gGX D ad cy b) A nL σ pc' lv (.int (σ 1 0) :: st)) : wx κ (gGX D ad cy b) A nL σ pc lv (.ref (ad 1) :: st) :=
  x_get (G := (gGX D ad cy b)) (k0 := 1) (ci := 1) (j := 0) (N := 17) (Cn := RX1) (T := TX1) C (by show 1 < 213; decide) rfl rfl (fun w h => gBc (inB1 w h)) (by decide) rfl (gBc hlink) hdg hp k
theorem gXp_1_places (C : gC κ cc own (c0 :: gBig) nL (gGX D ad cy b) A rmo) (ev : σ1 = gst σ 1 0 x) (hlink : Cond.fieldLink own index RX1 "places" "I" ∈ gBig) (hdg : decode cc pc = .ok (.putfield index, 3)) (hp : pc + 3 = pc') (k : wx κ (gGX D ad cy b) A nL σ1 pc' lv st) : wx κ (gGX D ad cy b) A nL σ pc lv (.int x :: .ref (ad 1) :: st) :=
  x_put (G := (gGX D ad cy b)) (k0 := 1) (ci := 1) (j := 0) (N := 17) (Cn := RX1) (T := TX1) C ev (by show 1 < 213; decide) rfl rfl rfl (fun w h => gBc (inB1 w h)) tyX1 tyX1_ok nmX1 (by decide) rfl (tyX1_ok 0 (by decide)) rfl rfl (by show 0 < 17; decide) (gBc hlink) hdg hp k
theorem gXg_1_depths (C : gC κ cc own (c0 :: gBig) nL (gGX D ad cy b) A rmo) (hlink : Cond.fieldLink own index RX1 "depths" "[I" ∈ gBig) (hdg : decode cc pc = .ok (.getfield index, 3)) (hp : pc + 3 = pc') (k : wx κ (gGX D ad cy b) A nL σ pc' lv (.ref (ad 2) :: st)) : wx κ (gGX D ad cy b) A nL σ pc lv (.ref (ad 1) :: st) :=
  x_get (G := (gGX D ad cy b)) (k0 := 1) (ci := 1) (j := 1) (N := 17) (Cn := RX1) (T := TX1) C (by show 1 < 213; decide) rfl rfl (fun w h => gBc (inB1 w h)) (by decide) rfl (gBc hlink) hdg hp k
theorem gXg_1_splices (C : gC κ cc own (c0 :: gBig) nL (gGX D ad cy b) A rmo) (hlink : Cond.fieldLink own index RX1 "splices" "[I" ∈ gBig) (hdg : decode cc pc = .ok (.getfield index, 3)) (hp : pc + 3 = pc') (k : wx κ (gGX D ad cy b) A nL σ pc' lv (.ref (ad 3) :: st)) : wx κ (gGX D ad cy b) A nL σ pc lv (.ref (ad 1) :: st) :=
  x_get (G := (gGX D ad cy b)) (k0 := 1) (ci := 1) (j := 2) (N := 17) (Cn := RX1) (T := TX1) C (by show 1 < 213; decide) rfl rfl (fun w h => gBc (inB1 w h)) (by decide) rfl (gBc hlink) hdg hp k
theorem gXg_1_silts (C : gC κ cc own (c0 :: gBig) nL (gGX D ad cy b) A rmo) (hlink : Cond.fieldLink own index RX1 "silts" "[I" ∈ gBig) (hdg : decode cc pc = .ok (.getfield index, 3)) (hp : pc + 3 = pc') (k : wx κ (gGX D ad cy b) A nL σ pc' lv (.ref (ad 4) :: st)) : wx κ (gGX D ad cy b) A nL σ pc lv (.ref (ad 1) :: st) :=
  x_get (G := (gGX D ad cy b)) (k0 := 1) (ci := 1) (j := 3) (N := 17) (Cn := RX1) (T := TX1) C (by show 1 < 213; decide) rfl rfl (fun w h => gBc (inB1 w h)) (by decide) rfl (gBc hlink) hdg hp k
theorem gXg_1_minutes (C : gC κ cc own (c0 :: gBig) nL (gGX D ad cy b) A rmo) (hlink : Cond.fieldLink own index RX1 "minutes" "[[I" ∈ gBig) (hdg : decode cc pc = .ok (.getfield index, 3)) (hp : pc + 3 = pc') (k : wx κ (gGX D ad cy b) A nL σ pc' lv (.ref (ad 5) :: st)) : wx κ (gGX D ad cy b) A nL σ pc lv (.ref (ad 1) :: st) :=
  x_get (G := (gGX D ad cy b)) (k0 := 1) (ci := 1) (j := 4) (N := 17) (Cn := RX1) (T := TX1) C (by show 1 < 213; decide) rfl rfl (fun w h => gBc (inB1 w h)) (by decide) rfl (gBc hlink) hdg hp k
theorem gXg_1_tideAt (C : gC κ cc own (c0 :: gBig) nL (gGX D ad cy b) A rmo) (hlink : Cond.fieldLink own index RX1 "tideAt" "[I" ∈ gBig) (hdg : decode cc pc = .ok (.getfield index, 3)) (hp : pc + 3 = pc') (k : wx κ (gGX D ad cy b) A nL σ pc' lv (.ref (ad 6) :: st)) : wx κ (gGX D ad cy b) A nL σ pc lv (.ref (ad 1) :: st) :=
  x_get (G := (gGX D ad cy b)) (k0 := 1) (ci := 1) (j := 5) (N := 17) (Cn := RX1) (T := TX1) C (by show 1 < 213; decide) rfl rfl (fun w h => gBc (inB1 w h)) (by decide) rfl (gBc hlink) hdg hp k
theorem gXg_1_floodTold (C : gC κ cc own (c0 :: gBig) nL (gGX D ad cy b) A rmo) (hlink : Cond.fieldLink own index RX1 "floodTold" "I" ∈ gBig) (hdg : decode cc pc = .ok (.getfield index, 3)) (hp : pc + 3 = pc') (k : wx κ (gGX D ad cy b) A nL σ pc' lv (.int (σ 1 6) :: st)) : wx κ (gGX D ad cy b) A nL σ pc lv (.ref (ad 1) :: st) :=
  x_get (G := (gGX D ad cy b)) (k0 := 1) (ci := 1) (j := 6) (N := 17) (Cn := RX1) (T := TX1) C (by show 1 < 213; decide) rfl rfl (fun w h => gBc (inB1 w h)) (by decide) rfl (gBc hlink) hdg hp k
theorem gXp_1_floodTold (C : gC κ cc own (c0 :: gBig) nL (gGX D ad cy b) A rmo) (ev : σ1 = gst σ 1 6 x) (hlink : Cond.fieldLink own index RX1 "floodTold" "I" ∈ gBig) (hdg : decode cc pc = .ok (.putfield index, 3)) (hp : pc + 3 = pc') (k : wx κ (gGX D ad cy b) A nL σ1 pc' lv st) : wx κ (gGX D ad cy b) A nL σ pc lv (.int x :: .ref (ad 1) :: st) :=
  x_put (G := (gGX D ad cy b)) (k0 := 1) (ci := 1) (j := 6) (N := 17) (Cn := RX1) (T := TX1) C ev (by show 1 < 213; decide) rfl rfl rfl (fun w h => gBc (inB1 w h)) tyX1 tyX1_ok nmX1 (by decide) rfl (tyX1_ok 6 (by decide)) rfl rfl (by show 6 < 17; decide) (gBc hlink) hdg hp k
theorem gXg_1_reach (C : gC κ cc own (c0 :: gBig) nL (gGX D ad cy b) A rmo) (hlink : Cond.fieldLink own index RX1 "reach" "I" ∈ gBig) (hdg : decode cc pc = .ok (.getfield index, 3)) (hp : pc + 3 = pc') (k : wx κ (gGX D ad cy b) A nL σ pc' lv (.int (σ 1 7) :: st)) : wx κ (gGX D ad cy b) A nL σ pc lv (.ref (ad 1) :: st) :=
  x_get (G := (gGX D ad cy b)) (k0 := 1) (ci := 1) (j := 7) (N := 17) (Cn := RX1) (T := TX1) C (by show 1 < 213; decide) rfl rfl (fun w h => gBc (inB1 w h)) (by decide) rfl (gBc hlink) hdg hp k
theorem gXp_1_reach (C : gC κ cc own (c0 :: gBig) nL (gGX D ad cy b) A rmo) (ev : σ1 = gst σ 1 7 x) (hlink : Cond.fieldLink own index RX1 "reach" "I" ∈ gBig) (hdg : decode cc pc = .ok (.putfield index, 3)) (hp : pc + 3 = pc') (k : wx κ (gGX D ad cy b) A nL σ1 pc' lv st) : wx κ (gGX D ad cy b) A nL σ pc lv (.int x :: .ref (ad 1) :: st) :=
  x_put (G := (gGX D ad cy b)) (k0 := 1) (ci := 1) (j := 7) (N := 17) (Cn := RX1) (T := TX1) C ev (by show 1 < 213; decide) rfl rfl rfl (fun w h => gBc (inB1 w h)) tyX1 tyX1_ok nmX1 (by decide) rfl (tyX1_ok 7 (by decide)) rfl rfl (by show 7 < 17; decide) (gBc hlink) hdg hp k
theorem gXg_1_people (C : gC κ cc own (c0 :: gBig) nL (gGX D ad cy b) A rmo) (hlink : Cond.fieldLink own index RX1 "people" "I" ∈ gBig) (hdg : decode cc pc = .ok (.getfield index, 3)) (hp : pc + 3 = pc') (k : wx κ (gGX D ad cy b) A nL σ pc' lv (.int (σ 1 8) :: st)) : wx κ (gGX D ad cy b) A nL σ pc lv (.ref (ad 1) :: st) :=
  x_get (G := (gGX D ad cy b)) (k0 := 1) (ci := 1) (j := 8) (N := 17) (Cn := RX1) (T := TX1) C (by show 1 < 213; decide) rfl rfl (fun w h => gBc (inB1 w h)) (by decide) rfl (gBc hlink) hdg hp k
theorem gXp_1_people (C : gC κ cc own (c0 :: gBig) nL (gGX D ad cy b) A rmo) (ev : σ1 = gst σ 1 8 x) (hlink : Cond.fieldLink own index RX1 "people" "I" ∈ gBig) (hdg : decode cc pc = .ok (.putfield index, 3)) (hp : pc + 3 = pc') (k : wx κ (gGX D ad cy b) A nL σ1 pc' lv st) : wx κ (gGX D ad cy b) A nL σ pc lv (.int x :: .ref (ad 1) :: st) :=
  x_put (G := (gGX D ad cy b)) (k0 := 1) (ci := 1) (j := 8) (N := 17) (Cn := RX1) (T := TX1) C ev (by show 1 < 213; decide) rfl rfl rfl (fun w h => gBc (inB1 w h)) tyX1 tyX1_ok nmX1 (by decide) rfl (tyX1_ok 8 (by decide)) rfl rfl (by show 8 < 17; decide) (gBc hlink) hdg hp k
theorem gXg_1_kinds (C : gC κ cc own (c0 :: gBig) nL (gGX D ad cy b) A rmo) (hlink : Cond.fieldLink own index RX1 "kinds" "[I" ∈ gBig) (hdg : decode cc pc = .ok (.getfield index, 3)) (hp : pc + 3 = pc') (k : wx κ (gGX D ad cy b) A nL σ pc' lv (.ref (ad 7) :: st)) : wx κ (gGX D ad cy b) A nL σ pc lv (.ref (ad 1) :: st) :=
  x_get (G := (gGX D ad cy b)) (k0 := 1) (ci := 1) (j := 9) (N := 17) (Cn := RX1) (T := TX1) C (by show 1 < 213; decide) rfl rfl (fun w h => gBc (inB1 w h)) (by decide) rfl (gBc hlink) hdg hp k
theorem gXg_1_told (C : gC κ cc own (c0 :: gBig) nL (gGX D ad cy b) A rmo) (hlink : Cond.fieldLink own index RX1 "told" "[I" ∈ gBig) (hdg : decode cc pc = .ok (.getfield index, 3)) (hp : pc + 3 = pc') (k : wx κ (gGX D ad cy b) A nL σ pc' lv (.ref (ad 8) :: st)) : wx κ (gGX D ad cy b) A nL σ pc lv (.ref (ad 1) :: st) :=
  x_get (G := (gGX D ad cy b)) (k0 := 1) (ci := 1) (j := 10) (N := 17) (Cn := RX1) (T := TX1) C (by show 1 < 213; decide) rfl rfl (fun w h => gBc (inB1 w h)) (by decide) rfl (gBc hlink) hdg hp k
theorem gXg_1_homes (C : gC κ cc own (c0 :: gBig) nL (gGX D ad cy b) A rmo) (hlink : Cond.fieldLink own index RX1 "homes" "[I" ∈ gBig) (hdg : decode cc pc = .ok (.getfield index, 3)) (hp : pc + 3 = pc') (k : wx κ (gGX D ad cy b) A nL σ pc' lv (.ref (ad 9) :: st)) : wx κ (gGX D ad cy b) A nL σ pc lv (.ref (ad 1) :: st) :=
  x_get (G := (gGX D ad cy b)) (k0 := 1) (ci := 1) (j := 11) (N := 17) (Cn := RX1) (T := TX1) C (by show 1 < 213; decide) rfl rfl (fun w h => gBc (inB1 w h)) (by decide) rfl (gBc hlink) hdg hp k
theorem gXg_1_needs (C : gC κ cc own (c0 :: gBig) nL (gGX D ad cy b) A rmo) (hlink : Cond.fieldLink own index RX1 "needs" "I" ∈ gBig) (hdg : decode cc pc = .ok (.getfield index, 3)) (hp : pc + 3 = pc') (k : wx κ (gGX D ad cy b) A nL σ pc' lv (.int (σ 1 12) :: st)) : wx κ (gGX D ad cy b) A nL σ pc lv (.ref (ad 1) :: st) :=
  x_get (G := (gGX D ad cy b)) (k0 := 1) (ci := 1) (j := 12) (N := 17) (Cn := RX1) (T := TX1) C (by show 1 < 213; decide) rfl rfl (fun w h => gBc (inB1 w h)) (by decide) rfl (gBc hlink) hdg hp k
theorem gXp_1_needs (C : gC κ cc own (c0 :: gBig) nL (gGX D ad cy b) A rmo) (ev : σ1 = gst σ 1 12 x) (hlink : Cond.fieldLink own index RX1 "needs" "I" ∈ gBig) (hdg : decode cc pc = .ok (.putfield index, 3)) (hp : pc + 3 = pc') (k : wx κ (gGX D ad cy b) A nL σ1 pc' lv st) : wx κ (gGX D ad cy b) A nL σ pc lv (.int x :: .ref (ad 1) :: st) :=
  x_put (G := (gGX D ad cy b)) (k0 := 1) (ci := 1) (j := 12) (N := 17) (Cn := RX1) (T := TX1) C ev (by show 1 < 213; decide) rfl rfl rfl (fun w h => gBc (inB1 w h)) tyX1 tyX1_ok nmX1 (by decide) rfl (tyX1_ok 12 (by decide)) rfl rfl (by show 12 < 17; decide) (gBc hlink) hdg hp k
theorem gXg_1_needers (C : gC κ cc own (c0 :: gBig) nL (gGX D ad cy b) A rmo) (hlink : Cond.fieldLink own index RX1 "needers" "[I" ∈ gBig) (hdg : decode cc pc = .ok (.getfield index, 3)) (hp : pc + 3 = pc') (k : wx κ (gGX D ad cy b) A nL σ pc' lv (.ref (ad 10) :: st)) : wx κ (gGX D ad cy b) A nL σ pc lv (.ref (ad 1) :: st) :=
  x_get (G := (gGX D ad cy b)) (k0 := 1) (ci := 1) (j := 13) (N := 17) (Cn := RX1) (T := TX1) C (by show 1 < 213; decide) rfl rfl (fun w h => gBc (inB1 w h)) (by decide) rfl (gBc hlink) hdg hp k
theorem gXg_1_needPlaces (C : gC κ cc own (c0 :: gBig) nL (gGX D ad cy b) A rmo) (hlink : Cond.fieldLink own index RX1 "needPlaces" "[I" ∈ gBig) (hdg : decode cc pc = .ok (.getfield index, 3)) (hp : pc + 3 = pc') (k : wx κ (gGX D ad cy b) A nL σ pc' lv (.ref (ad 11) :: st)) : wx κ (gGX D ad cy b) A nL σ pc lv (.ref (ad 1) :: st) :=
  x_get (G := (gGX D ad cy b)) (k0 := 1) (ci := 1) (j := 14) (N := 17) (Cn := RX1) (T := TX1) C (by show 1 < 213; decide) rfl rfl (fun w h => gBc (inB1 w h)) (by decide) rfl (gBc hlink) hdg hp k
theorem gXg_1_needHours (C : gC κ cc own (c0 :: gBig) nL (gGX D ad cy b) A rmo) (hlink : Cond.fieldLink own index RX1 "needHours" "[I" ∈ gBig) (hdg : decode cc pc = .ok (.getfield index, 3)) (hp : pc + 3 = pc') (k : wx κ (gGX D ad cy b) A nL σ pc' lv (.ref (ad 12) :: st)) : wx κ (gGX D ad cy b) A nL σ pc lv (.ref (ad 1) :: st) :=
  x_get (G := (gGX D ad cy b)) (k0 := 1) (ci := 1) (j := 15) (N := 17) (Cn := RX1) (T := TX1) C (by show 1 < 213; decide) rfl rfl (fun w h => gBc (inB1 w h)) (by decide) rfl (gBc hlink) hdg hp k
theorem gXg_1_yearsGone (C : gC κ cc own (c0 :: gBig) nL (gGX D ad cy b) A rmo) (hlink : Cond.fieldLink own index RX1 "yearsGone" "I" ∈ gBig) (hdg : decode cc pc = .ok (.getfield index, 3)) (hp : pc + 3 = pc') (k : wx κ (gGX D ad cy b) A nL σ pc' lv (.int (σ 1 16) :: st)) : wx κ (gGX D ad cy b) A nL σ pc lv (.ref (ad 1) :: st) :=
  x_get (G := (gGX D ad cy b)) (k0 := 1) (ci := 1) (j := 16) (N := 17) (Cn := RX1) (T := TX1) C (by show 1 < 213; decide) rfl rfl (fun w h => gBc (inB1 w h)) (by decide) rfl (gBc hlink) hdg hp k
theorem gXp_1_yearsGone (C : gC κ cc own (c0 :: gBig) nL (gGX D ad cy b) A rmo) (ev : σ1 = gst σ 1 16 x) (hlink : Cond.fieldLink own index RX1 "yearsGone" "I" ∈ gBig) (hdg : decode cc pc = .ok (.putfield index, 3)) (hp : pc + 3 = pc') (k : wx κ (gGX D ad cy b) A nL σ1 pc' lv st) : wx κ (gGX D ad cy b) A nL σ pc lv (.int x :: .ref (ad 1) :: st) :=
  x_put (G := (gGX D ad cy b)) (k0 := 1) (ci := 1) (j := 16) (N := 17) (Cn := RX1) (T := TX1) C ev (by show 1 < 213; decide) rfl rfl rfl (fun w h => gBc (inB1 w h)) tyX1 tyX1_ok nmX1 (by decide) rfl (tyX1_ok 16 (by decide)) rfl rfl (by show 16 < 17; decide) (gBc hlink) hdg hp k
theorem gXg_25_places (C : gC κ cc own (c0 :: gBig) nL (gGX D ad cy b) A rmo) (hlink : Cond.fieldLink own index RX1 "places" "I" ∈ gBig) (hdg : decode cc pc = .ok (.getfield index, 3)) (hp : pc + 3 = pc') (k : wx κ (gGX D ad cy b) A nL σ pc' lv (.int (σ 25 0) :: st)) : wx κ (gGX D ad cy b) A nL σ pc lv (.ref (ad 25) :: st) :=
  x_get (G := (gGX D ad cy b)) (k0 := 25) (ci := 1) (j := 0) (N := 17) (Cn := RX1) (T := TX1) C (by show 25 < 213; decide) rfl rfl (fun w h => gBc (inB1 w h)) (by decide) rfl (gBc hlink) hdg hp k
theorem gXp_25_places (C : gC κ cc own (c0 :: gBig) nL (gGX D ad cy b) A rmo) (ev : σ1 = gst σ 25 0 x) (hlink : Cond.fieldLink own index RX1 "places" "I" ∈ gBig) (hdg : decode cc pc = .ok (.putfield index, 3)) (hp : pc + 3 = pc') (k : wx κ (gGX D ad cy b) A nL σ1 pc' lv st) : wx κ (gGX D ad cy b) A nL σ pc lv (.int x :: .ref (ad 25) :: st) :=
  x_put (G := (gGX D ad cy b)) (k0 := 25) (ci := 1) (j := 0) (N := 17) (Cn := RX1) (T := TX1) C ev (by show 25 < 213; decide) rfl rfl rfl (fun w h => gBc (inB1 w h)) tyX1 tyX1_ok nmX1 (by decide) rfl (tyX1_ok 0 (by decide)) rfl rfl (by show 0 < 17; decide) (gBc hlink) hdg hp k
theorem gXg_25_depths (C : gC κ cc own (c0 :: gBig) nL (gGX D ad cy b) A rmo) (hlink : Cond.fieldLink own index RX1 "depths" "[I" ∈ gBig) (hdg : decode cc pc = .ok (.getfield index, 3)) (hp : pc + 3 = pc') (k : wx κ (gGX D ad cy b) A nL σ pc' lv (.ref (ad 26) :: st)) : wx κ (gGX D ad cy b) A nL σ pc lv (.ref (ad 25) :: st) :=
  x_get (G := (gGX D ad cy b)) (k0 := 25) (ci := 1) (j := 1) (N := 17) (Cn := RX1) (T := TX1) C (by show 25 < 213; decide) rfl rfl (fun w h => gBc (inB1 w h)) (by decide) rfl (gBc hlink) hdg hp k
theorem gXg_25_splices (C : gC κ cc own (c0 :: gBig) nL (gGX D ad cy b) A rmo) (hlink : Cond.fieldLink own index RX1 "splices" "[I" ∈ gBig) (hdg : decode cc pc = .ok (.getfield index, 3)) (hp : pc + 3 = pc') (k : wx κ (gGX D ad cy b) A nL σ pc' lv (.ref (ad 27) :: st)) : wx κ (gGX D ad cy b) A nL σ pc lv (.ref (ad 25) :: st) :=
  x_get (G := (gGX D ad cy b)) (k0 := 25) (ci := 1) (j := 2) (N := 17) (Cn := RX1) (T := TX1) C (by show 25 < 213; decide) rfl rfl (fun w h => gBc (inB1 w h)) (by decide) rfl (gBc hlink) hdg hp k
theorem gXg_25_silts (C : gC κ cc own (c0 :: gBig) nL (gGX D ad cy b) A rmo) (hlink : Cond.fieldLink own index RX1 "silts" "[I" ∈ gBig) (hdg : decode cc pc = .ok (.getfield index, 3)) (hp : pc + 3 = pc') (k : wx κ (gGX D ad cy b) A nL σ pc' lv (.ref (ad 28) :: st)) : wx κ (gGX D ad cy b) A nL σ pc lv (.ref (ad 25) :: st) :=
  x_get (G := (gGX D ad cy b)) (k0 := 25) (ci := 1) (j := 3) (N := 17) (Cn := RX1) (T := TX1) C (by show 25 < 213; decide) rfl rfl (fun w h => gBc (inB1 w h)) (by decide) rfl (gBc hlink) hdg hp k
theorem gXg_25_minutes (C : gC κ cc own (c0 :: gBig) nL (gGX D ad cy b) A rmo) (hlink : Cond.fieldLink own index RX1 "minutes" "[[I" ∈ gBig) (hdg : decode cc pc = .ok (.getfield index, 3)) (hp : pc + 3 = pc') (k : wx κ (gGX D ad cy b) A nL σ pc' lv (.ref (ad 29) :: st)) : wx κ (gGX D ad cy b) A nL σ pc lv (.ref (ad 25) :: st) :=
  x_get (G := (gGX D ad cy b)) (k0 := 25) (ci := 1) (j := 4) (N := 17) (Cn := RX1) (T := TX1) C (by show 25 < 213; decide) rfl rfl (fun w h => gBc (inB1 w h)) (by decide) rfl (gBc hlink) hdg hp k
theorem gXg_25_tideAt (C : gC κ cc own (c0 :: gBig) nL (gGX D ad cy b) A rmo) (hlink : Cond.fieldLink own index RX1 "tideAt" "[I" ∈ gBig) (hdg : decode cc pc = .ok (.getfield index, 3)) (hp : pc + 3 = pc') (k : wx κ (gGX D ad cy b) A nL σ pc' lv (.ref (ad 30) :: st)) : wx κ (gGX D ad cy b) A nL σ pc lv (.ref (ad 25) :: st) :=
  x_get (G := (gGX D ad cy b)) (k0 := 25) (ci := 1) (j := 5) (N := 17) (Cn := RX1) (T := TX1) C (by show 25 < 213; decide) rfl rfl (fun w h => gBc (inB1 w h)) (by decide) rfl (gBc hlink) hdg hp k
theorem gXg_25_floodTold (C : gC κ cc own (c0 :: gBig) nL (gGX D ad cy b) A rmo) (hlink : Cond.fieldLink own index RX1 "floodTold" "I" ∈ gBig) (hdg : decode cc pc = .ok (.getfield index, 3)) (hp : pc + 3 = pc') (k : wx κ (gGX D ad cy b) A nL σ pc' lv (.int (σ 25 6) :: st)) : wx κ (gGX D ad cy b) A nL σ pc lv (.ref (ad 25) :: st) :=
  x_get (G := (gGX D ad cy b)) (k0 := 25) (ci := 1) (j := 6) (N := 17) (Cn := RX1) (T := TX1) C (by show 25 < 213; decide) rfl rfl (fun w h => gBc (inB1 w h)) (by decide) rfl (gBc hlink) hdg hp k
theorem gXp_25_floodTold (C : gC κ cc own (c0 :: gBig) nL (gGX D ad cy b) A rmo) (ev : σ1 = gst σ 25 6 x) (hlink : Cond.fieldLink own index RX1 "floodTold" "I" ∈ gBig) (hdg : decode cc pc = .ok (.putfield index, 3)) (hp : pc + 3 = pc') (k : wx κ (gGX D ad cy b) A nL σ1 pc' lv st) : wx κ (gGX D ad cy b) A nL σ pc lv (.int x :: .ref (ad 25) :: st) :=
  x_put (G := (gGX D ad cy b)) (k0 := 25) (ci := 1) (j := 6) (N := 17) (Cn := RX1) (T := TX1) C ev (by show 25 < 213; decide) rfl rfl rfl (fun w h => gBc (inB1 w h)) tyX1 tyX1_ok nmX1 (by decide) rfl (tyX1_ok 6 (by decide)) rfl rfl (by show 6 < 17; decide) (gBc hlink) hdg hp k
theorem gXg_25_reach (C : gC κ cc own (c0 :: gBig) nL (gGX D ad cy b) A rmo) (hlink : Cond.fieldLink own index RX1 "reach" "I" ∈ gBig) (hdg : decode cc pc = .ok (.getfield index, 3)) (hp : pc + 3 = pc') (k : wx κ (gGX D ad cy b) A nL σ pc' lv (.int (σ 25 7) :: st)) : wx κ (gGX D ad cy b) A nL σ pc lv (.ref (ad 25) :: st) :=
  x_get (G := (gGX D ad cy b)) (k0 := 25) (ci := 1) (j := 7) (N := 17) (Cn := RX1) (T := TX1) C (by show 25 < 213; decide) rfl rfl (fun w h => gBc (inB1 w h)) (by decide) rfl (gBc hlink) hdg hp k
theorem gXp_25_reach (C : gC κ cc own (c0 :: gBig) nL (gGX D ad cy b) A rmo) (ev : σ1 = gst σ 25 7 x) (hlink : Cond.fieldLink own index RX1 "reach" "I" ∈ gBig) (hdg : decode cc pc = .ok (.putfield index, 3)) (hp : pc + 3 = pc') (k : wx κ (gGX D ad cy b) A nL σ1 pc' lv st) : wx κ (gGX D ad cy b) A nL σ pc lv (.int x :: .ref (ad 25) :: st) :=
  x_put (G := (gGX D ad cy b)) (k0 := 25) (ci := 1) (j := 7) (N := 17) (Cn := RX1) (T := TX1) C ev (by show 25 < 213; decide) rfl rfl rfl (fun w h => gBc (inB1 w h)) tyX1 tyX1_ok nmX1 (by decide) rfl (tyX1_ok 7 (by decide)) rfl rfl (by show 7 < 17; decide) (gBc hlink) hdg hp k
theorem gXg_25_people (C : gC κ cc own (c0 :: gBig) nL (gGX D ad cy b) A rmo) (hlink : Cond.fieldLink own index RX1 "people" "I" ∈ gBig) (hdg : decode cc pc = .ok (.getfield index, 3)) (hp : pc + 3 = pc') (k : wx κ (gGX D ad cy b) A nL σ pc' lv (.int (σ 25 8) :: st)) : wx κ (gGX D ad cy b) A nL σ pc lv (.ref (ad 25) :: st) :=
  x_get (G := (gGX D ad cy b)) (k0 := 25) (ci := 1) (j := 8) (N := 17) (Cn := RX1) (T := TX1) C (by show 25 < 213; decide) rfl rfl (fun w h => gBc (inB1 w h)) (by decide) rfl (gBc hlink) hdg hp k
theorem gXp_25_people (C : gC κ cc own (c0 :: gBig) nL (gGX D ad cy b) A rmo) (ev : σ1 = gst σ 25 8 x) (hlink : Cond.fieldLink own index RX1 "people" "I" ∈ gBig) (hdg : decode cc pc = .ok (.putfield index, 3)) (hp : pc + 3 = pc') (k : wx κ (gGX D ad cy b) A nL σ1 pc' lv st) : wx κ (gGX D ad cy b) A nL σ pc lv (.int x :: .ref (ad 25) :: st) :=
  x_put (G := (gGX D ad cy b)) (k0 := 25) (ci := 1) (j := 8) (N := 17) (Cn := RX1) (T := TX1) C ev (by show 25 < 213; decide) rfl rfl rfl (fun w h => gBc (inB1 w h)) tyX1 tyX1_ok nmX1 (by decide) rfl (tyX1_ok 8 (by decide)) rfl rfl (by show 8 < 17; decide) (gBc hlink) hdg hp k
theorem gXg_25_kinds (C : gC κ cc own (c0 :: gBig) nL (gGX D ad cy b) A rmo) (hlink : Cond.fieldLink own index RX1 "kinds" "[I" ∈ gBig) (hdg : decode cc pc = .ok (.getfield index, 3)) (hp : pc + 3 = pc') (k : wx κ (gGX D ad cy b) A nL σ pc' lv (.ref (ad 31) :: st)) : wx κ (gGX D ad cy b) A nL σ pc lv (.ref (ad 25) :: st) :=
  x_get (G := (gGX D ad cy b)) (k0 := 25) (ci := 1) (j := 9) (N := 17) (Cn := RX1) (T := TX1) C (by show 25 < 213; decide) rfl rfl (fun w h => gBc (inB1 w h)) (by decide) rfl (gBc hlink) hdg hp k
theorem gXg_25_told (C : gC κ cc own (c0 :: gBig) nL (gGX D ad cy b) A rmo) (hlink : Cond.fieldLink own index RX1 "told" "[I" ∈ gBig) (hdg : decode cc pc = .ok (.getfield index, 3)) (hp : pc + 3 = pc') (k : wx κ (gGX D ad cy b) A nL σ pc' lv (.ref (ad 32) :: st)) : wx κ (gGX D ad cy b) A nL σ pc lv (.ref (ad 25) :: st) :=
  x_get (G := (gGX D ad cy b)) (k0 := 25) (ci := 1) (j := 10) (N := 17) (Cn := RX1) (T := TX1) C (by show 25 < 213; decide) rfl rfl (fun w h => gBc (inB1 w h)) (by decide) rfl (gBc hlink) hdg hp k
theorem gXg_25_homes (C : gC κ cc own (c0 :: gBig) nL (gGX D ad cy b) A rmo) (hlink : Cond.fieldLink own index RX1 "homes" "[I" ∈ gBig) (hdg : decode cc pc = .ok (.getfield index, 3)) (hp : pc + 3 = pc') (k : wx κ (gGX D ad cy b) A nL σ pc' lv (.ref (ad 33) :: st)) : wx κ (gGX D ad cy b) A nL σ pc lv (.ref (ad 25) :: st) :=
  x_get (G := (gGX D ad cy b)) (k0 := 25) (ci := 1) (j := 11) (N := 17) (Cn := RX1) (T := TX1) C (by show 25 < 213; decide) rfl rfl (fun w h => gBc (inB1 w h)) (by decide) rfl (gBc hlink) hdg hp k
theorem gXg_25_needs (C : gC κ cc own (c0 :: gBig) nL (gGX D ad cy b) A rmo) (hlink : Cond.fieldLink own index RX1 "needs" "I" ∈ gBig) (hdg : decode cc pc = .ok (.getfield index, 3)) (hp : pc + 3 = pc') (k : wx κ (gGX D ad cy b) A nL σ pc' lv (.int (σ 25 12) :: st)) : wx κ (gGX D ad cy b) A nL σ pc lv (.ref (ad 25) :: st) :=
  x_get (G := (gGX D ad cy b)) (k0 := 25) (ci := 1) (j := 12) (N := 17) (Cn := RX1) (T := TX1) C (by show 25 < 213; decide) rfl rfl (fun w h => gBc (inB1 w h)) (by decide) rfl (gBc hlink) hdg hp k
theorem gXp_25_needs (C : gC κ cc own (c0 :: gBig) nL (gGX D ad cy b) A rmo) (ev : σ1 = gst σ 25 12 x) (hlink : Cond.fieldLink own index RX1 "needs" "I" ∈ gBig) (hdg : decode cc pc = .ok (.putfield index, 3)) (hp : pc + 3 = pc') (k : wx κ (gGX D ad cy b) A nL σ1 pc' lv st) : wx κ (gGX D ad cy b) A nL σ pc lv (.int x :: .ref (ad 25) :: st) :=
  x_put (G := (gGX D ad cy b)) (k0 := 25) (ci := 1) (j := 12) (N := 17) (Cn := RX1) (T := TX1) C ev (by show 25 < 213; decide) rfl rfl rfl (fun w h => gBc (inB1 w h)) tyX1 tyX1_ok nmX1 (by decide) rfl (tyX1_ok 12 (by decide)) rfl rfl (by show 12 < 17; decide) (gBc hlink) hdg hp k
theorem gXg_25_needers (C : gC κ cc own (c0 :: gBig) nL (gGX D ad cy b) A rmo) (hlink : Cond.fieldLink own index RX1 "needers" "[I" ∈ gBig) (hdg : decode cc pc = .ok (.getfield index, 3)) (hp : pc + 3 = pc') (k : wx κ (gGX D ad cy b) A nL σ pc' lv (.ref (ad 34) :: st)) : wx κ (gGX D ad cy b) A nL σ pc lv (.ref (ad 25) :: st) :=
  x_get (G := (gGX D ad cy b)) (k0 := 25) (ci := 1) (j := 13) (N := 17) (Cn := RX1) (T := TX1) C (by show 25 < 213; decide) rfl rfl (fun w h => gBc (inB1 w h)) (by decide) rfl (gBc hlink) hdg hp k
theorem gXg_25_needPlaces (C : gC κ cc own (c0 :: gBig) nL (gGX D ad cy b) A rmo) (hlink : Cond.fieldLink own index RX1 "needPlaces" "[I" ∈ gBig) (hdg : decode cc pc = .ok (.getfield index, 3)) (hp : pc + 3 = pc') (k : wx κ (gGX D ad cy b) A nL σ pc' lv (.ref (ad 35) :: st)) : wx κ (gGX D ad cy b) A nL σ pc lv (.ref (ad 25) :: st) :=
  x_get (G := (gGX D ad cy b)) (k0 := 25) (ci := 1) (j := 14) (N := 17) (Cn := RX1) (T := TX1) C (by show 25 < 213; decide) rfl rfl (fun w h => gBc (inB1 w h)) (by decide) rfl (gBc hlink) hdg hp k
theorem gXg_25_needHours (C : gC κ cc own (c0 :: gBig) nL (gGX D ad cy b) A rmo) (hlink : Cond.fieldLink own index RX1 "needHours" "[I" ∈ gBig) (hdg : decode cc pc = .ok (.getfield index, 3)) (hp : pc + 3 = pc') (k : wx κ (gGX D ad cy b) A nL σ pc' lv (.ref (ad 36) :: st)) : wx κ (gGX D ad cy b) A nL σ pc lv (.ref (ad 25) :: st) :=
  x_get (G := (gGX D ad cy b)) (k0 := 25) (ci := 1) (j := 15) (N := 17) (Cn := RX1) (T := TX1) C (by show 25 < 213; decide) rfl rfl (fun w h => gBc (inB1 w h)) (by decide) rfl (gBc hlink) hdg hp k
theorem gXg_25_yearsGone (C : gC κ cc own (c0 :: gBig) nL (gGX D ad cy b) A rmo) (hlink : Cond.fieldLink own index RX1 "yearsGone" "I" ∈ gBig) (hdg : decode cc pc = .ok (.getfield index, 3)) (hp : pc + 3 = pc') (k : wx κ (gGX D ad cy b) A nL σ pc' lv (.int (σ 25 16) :: st)) : wx κ (gGX D ad cy b) A nL σ pc lv (.ref (ad 25) :: st) :=
  x_get (G := (gGX D ad cy b)) (k0 := 25) (ci := 1) (j := 16) (N := 17) (Cn := RX1) (T := TX1) C (by show 25 < 213; decide) rfl rfl (fun w h => gBc (inB1 w h)) (by decide) rfl (gBc hlink) hdg hp k
theorem gXp_25_yearsGone (C : gC κ cc own (c0 :: gBig) nL (gGX D ad cy b) A rmo) (ev : σ1 = gst σ 25 16 x) (hlink : Cond.fieldLink own index RX1 "yearsGone" "I" ∈ gBig) (hdg : decode cc pc = .ok (.putfield index, 3)) (hp : pc + 3 = pc') (k : wx κ (gGX D ad cy b) A nL σ1 pc' lv st) : wx κ (gGX D ad cy b) A nL σ pc lv (.int x :: .ref (ad 25) :: st) :=
  x_put (G := (gGX D ad cy b)) (k0 := 25) (ci := 1) (j := 16) (N := 17) (Cn := RX1) (T := TX1) C ev (by show 25 < 213; decide) rfl rfl rfl (fun w h => gBc (inB1 w h)) tyX1 tyX1_ok nmX1 (by decide) rfl (tyX1_ok 16 (by decide)) rfl rfl (by show 16 < 17; decide) (gBc hlink) hdg hp k
theorem gXg_49_length (C : gC κ cc own (c0 :: gBig) nL (gGX D ad cy b) A rmo) (hlink : Cond.fieldLink own index RX3 "length" "I" ∈ gBig) (hdg : decode cc pc = .ok (.getfield index, 3)) (hp : pc + 3 = pc') (k : wx κ (gGX D ad cy b) A nL σ pc' lv (.int (σ 49 0) :: st)) : wx κ (gGX D ad cy b) A nL σ pc lv (.ref (ad 49) :: st) :=
  x_get (G := (gGX D ad cy b)) (k0 := 49) (ci := 3) (j := 0) (N := 9) (Cn := RX3) (T := TX3) C (by show 49 < 213; decide) rfl rfl (fun w h => gBc (inB3 w h)) (by decide) rfl (gBc hlink) hdg hp k
theorem gXp_49_length (C : gC κ cc own (c0 :: gBig) nL (gGX D ad cy b) A rmo) (ev : σ1 = gst σ 49 0 x) (hlink : Cond.fieldLink own index RX3 "length" "I" ∈ gBig) (hdg : decode cc pc = .ok (.putfield index, 3)) (hp : pc + 3 = pc') (k : wx κ (gGX D ad cy b) A nL σ1 pc' lv st) : wx κ (gGX D ad cy b) A nL σ pc lv (.int x :: .ref (ad 49) :: st) :=
  x_put (G := (gGX D ad cy b)) (k0 := 49) (ci := 3) (j := 0) (N := 9) (Cn := RX3) (T := TX3) C ev (by show 49 < 213; decide) rfl rfl rfl (fun w h => gBc (inB3 w h)) tyX3 tyX3_ok nmX3 (by decide) rfl (tyX3_ok 0 (by decide)) rfl rfl (by show 0 < 9; decide) (gBc hlink) hdg hp k
theorem gXg_49_signs (C : gC κ cc own (c0 :: gBig) nL (gGX D ad cy b) A rmo) (hlink : Cond.fieldLink own index RX3 "signs" "[I" ∈ gBig) (hdg : decode cc pc = .ok (.getfield index, 3)) (hp : pc + 3 = pc') (k : wx κ (gGX D ad cy b) A nL σ pc' lv (.ref (ad 50) :: st)) : wx κ (gGX D ad cy b) A nL σ pc lv (.ref (ad 49) :: st) :=
  x_get (G := (gGX D ad cy b)) (k0 := 49) (ci := 3) (j := 1) (N := 9) (Cn := RX3) (T := TX3) C (by show 49 < 213; decide) rfl rfl (fun w h => gBc (inB3 w h)) (by decide) rfl (gBc hlink) hdg hp k
theorem gXg_49_next (C : gC κ cc own (c0 :: gBig) nL (gGX D ad cy b) A rmo) (hlink : Cond.fieldLink own index RX3 "next" "I" ∈ gBig) (hdg : decode cc pc = .ok (.getfield index, 3)) (hp : pc + 3 = pc') (k : wx κ (gGX D ad cy b) A nL σ pc' lv (.int (σ 49 2) :: st)) : wx κ (gGX D ad cy b) A nL σ pc lv (.ref (ad 49) :: st) :=
  x_get (G := (gGX D ad cy b)) (k0 := 49) (ci := 3) (j := 2) (N := 9) (Cn := RX3) (T := TX3) C (by show 49 < 213; decide) rfl rfl (fun w h => gBc (inB3 w h)) (by decide) rfl (gBc hlink) hdg hp k
theorem gXp_49_next (C : gC κ cc own (c0 :: gBig) nL (gGX D ad cy b) A rmo) (ev : σ1 = gst σ 49 2 x) (hlink : Cond.fieldLink own index RX3 "next" "I" ∈ gBig) (hdg : decode cc pc = .ok (.putfield index, 3)) (hp : pc + 3 = pc') (k : wx κ (gGX D ad cy b) A nL σ1 pc' lv st) : wx κ (gGX D ad cy b) A nL σ pc lv (.int x :: .ref (ad 49) :: st) :=
  x_put (G := (gGX D ad cy b)) (k0 := 49) (ci := 3) (j := 2) (N := 9) (Cn := RX3) (T := TX3) C ev (by show 49 < 213; decide) rfl rfl rfl (fun w h => gBc (inB3 w h)) tyX3 tyX3_ok nmX3 (by decide) rfl (tyX3_ok 2 (by decide)) rfl rfl (by show 2 < 9; decide) (gBc hlink) hdg hp k
theorem gXg_49_fault (C : gC κ cc own (c0 :: gBig) nL (gGX D ad cy b) A rmo) (hlink : Cond.fieldLink own index RX3 "fault" "I" ∈ gBig) (hdg : decode cc pc = .ok (.getfield index, 3)) (hp : pc + 3 = pc') (k : wx κ (gGX D ad cy b) A nL σ pc' lv (.int (σ 49 3) :: st)) : wx κ (gGX D ad cy b) A nL σ pc lv (.ref (ad 49) :: st) :=
  x_get (G := (gGX D ad cy b)) (k0 := 49) (ci := 3) (j := 3) (N := 9) (Cn := RX3) (T := TX3) C (by show 49 < 213; decide) rfl rfl (fun w h => gBc (inB3 w h)) (by decide) rfl (gBc hlink) hdg hp k
theorem gXp_49_fault (C : gC κ cc own (c0 :: gBig) nL (gGX D ad cy b) A rmo) (ev : σ1 = gst σ 49 3 x) (hlink : Cond.fieldLink own index RX3 "fault" "I" ∈ gBig) (hdg : decode cc pc = .ok (.putfield index, 3)) (hp : pc + 3 = pc') (k : wx κ (gGX D ad cy b) A nL σ1 pc' lv st) : wx κ (gGX D ad cy b) A nL σ pc lv (.int x :: .ref (ad 49) :: st) :=
  x_put (G := (gGX D ad cy b)) (k0 := 49) (ci := 3) (j := 3) (N := 9) (Cn := RX3) (T := TX3) C ev (by show 49 < 213; decide) rfl rfl rfl (fun w h => gBc (inB3 w h)) tyX3 tyX3_ok nmX3 (by decide) rfl (tyX3_ok 3 (by decide)) rfl rfl (by show 3 < 9; decide) (gBc hlink) hdg hp k
theorem gXg_49_postsTold (C : gC κ cc own (c0 :: gBig) nL (gGX D ad cy b) A rmo) (hlink : Cond.fieldLink own index RX3 "postsTold" "I" ∈ gBig) (hdg : decode cc pc = .ok (.getfield index, 3)) (hp : pc + 3 = pc') (k : wx κ (gGX D ad cy b) A nL σ pc' lv (.int (σ 49 4) :: st)) : wx κ (gGX D ad cy b) A nL σ pc lv (.ref (ad 49) :: st) :=
  x_get (G := (gGX D ad cy b)) (k0 := 49) (ci := 3) (j := 4) (N := 9) (Cn := RX3) (T := TX3) C (by show 49 < 213; decide) rfl rfl (fun w h => gBc (inB3 w h)) (by decide) rfl (gBc hlink) hdg hp k
theorem gXp_49_postsTold (C : gC κ cc own (c0 :: gBig) nL (gGX D ad cy b) A rmo) (ev : σ1 = gst σ 49 4 x) (hlink : Cond.fieldLink own index RX3 "postsTold" "I" ∈ gBig) (hdg : decode cc pc = .ok (.putfield index, 3)) (hp : pc + 3 = pc') (k : wx κ (gGX D ad cy b) A nL σ1 pc' lv st) : wx κ (gGX D ad cy b) A nL σ pc lv (.int x :: .ref (ad 49) :: st) :=
  x_put (G := (gGX D ad cy b)) (k0 := 49) (ci := 3) (j := 4) (N := 9) (Cn := RX3) (T := TX3) C ev (by show 49 < 213; decide) rfl rfl rfl (fun w h => gBc (inB3 w h)) tyX3 tyX3_ok nmX3 (by decide) rfl (tyX3_ok 4 (by decide)) rfl rfl (by show 4 < 9; decide) (gBc hlink) hdg hp k
theorem gXg_49_rows (C : gC κ cc own (c0 :: gBig) nL (gGX D ad cy b) A rmo) (hlink : Cond.fieldLink own index RX3 "rows" "I" ∈ gBig) (hdg : decode cc pc = .ok (.getfield index, 3)) (hp : pc + 3 = pc') (k : wx κ (gGX D ad cy b) A nL σ pc' lv (.int (σ 49 5) :: st)) : wx κ (gGX D ad cy b) A nL σ pc lv (.ref (ad 49) :: st) :=
  x_get (G := (gGX D ad cy b)) (k0 := 49) (ci := 3) (j := 5) (N := 9) (Cn := RX3) (T := TX3) C (by show 49 < 213; decide) rfl rfl (fun w h => gBc (inB3 w h)) (by decide) rfl (gBc hlink) hdg hp k
theorem gXp_49_rows (C : gC κ cc own (c0 :: gBig) nL (gGX D ad cy b) A rmo) (ev : σ1 = gst σ 49 5 x) (hlink : Cond.fieldLink own index RX3 "rows" "I" ∈ gBig) (hdg : decode cc pc = .ok (.putfield index, 3)) (hp : pc + 3 = pc') (k : wx κ (gGX D ad cy b) A nL σ1 pc' lv st) : wx κ (gGX D ad cy b) A nL σ pc lv (.int x :: .ref (ad 49) :: st) :=
  x_put (G := (gGX D ad cy b)) (k0 := 49) (ci := 3) (j := 5) (N := 9) (Cn := RX3) (T := TX3) C ev (by show 49 < 213; decide) rfl rfl rfl (fun w h => gBc (inB3 w h)) tyX3 tyX3_ok nmX3 (by decide) rfl (tyX3_ok 5 (by decide)) rfl rfl (by show 5 < 9; decide) (gBc hlink) hdg hp k
theorem gXg_49_firsts (C : gC κ cc own (c0 :: gBig) nL (gGX D ad cy b) A rmo) (hlink : Cond.fieldLink own index RX3 "firsts" "[I" ∈ gBig) (hdg : decode cc pc = .ok (.getfield index, 3)) (hp : pc + 3 = pc') (k : wx κ (gGX D ad cy b) A nL σ pc' lv (.ref (ad 51) :: st)) : wx κ (gGX D ad cy b) A nL σ pc lv (.ref (ad 49) :: st) :=
  x_get (G := (gGX D ad cy b)) (k0 := 49) (ci := 3) (j := 6) (N := 9) (Cn := RX3) (T := TX3) C (by show 49 < 213; decide) rfl rfl (fun w h => gBc (inB3 w h)) (by decide) rfl (gBc hlink) hdg hp k
theorem gXg_49_seconds (C : gC κ cc own (c0 :: gBig) nL (gGX D ad cy b) A rmo) (hlink : Cond.fieldLink own index RX3 "seconds" "[I" ∈ gBig) (hdg : decode cc pc = .ok (.getfield index, 3)) (hp : pc + 3 = pc') (k : wx κ (gGX D ad cy b) A nL σ pc' lv (.ref (ad 52) :: st)) : wx κ (gGX D ad cy b) A nL σ pc lv (.ref (ad 49) :: st) :=
  x_get (G := (gGX D ad cy b)) (k0 := 49) (ci := 3) (j := 7) (N := 9) (Cn := RX3) (T := TX3) C (by show 49 < 213; decide) rfl rfl (fun w h => gBc (inB3 w h)) (by decide) rfl (gBc hlink) hdg hp k
theorem gXg_49_lasts (C : gC κ cc own (c0 :: gBig) nL (gGX D ad cy b) A rmo) (hlink : Cond.fieldLink own index RX3 "lasts" "[I" ∈ gBig) (hdg : decode cc pc = .ok (.getfield index, 3)) (hp : pc + 3 = pc') (k : wx κ (gGX D ad cy b) A nL σ pc' lv (.ref (ad 53) :: st)) : wx κ (gGX D ad cy b) A nL σ pc lv (.ref (ad 49) :: st) :=
  x_get (G := (gGX D ad cy b)) (k0 := 49) (ci := 3) (j := 8) (N := 9) (Cn := RX3) (T := TX3) C (by show 49 < 213; decide) rfl rfl (fun w h => gBc (inB3 w h)) (by decide) rfl (gBc hlink) hdg hp k
theorem gXg_54_places (C : gC κ cc own (c0 :: gBig) nL (gGX D ad cy b) A rmo) (hlink : Cond.fieldLink own index RX5 "places" "I" ∈ gBig) (hdg : decode cc pc = .ok (.getfield index, 3)) (hp : pc + 3 = pc') (k : wx κ (gGX D ad cy b) A nL σ pc' lv (.int (σ 54 0) :: st)) : wx κ (gGX D ad cy b) A nL σ pc lv (.ref (ad 54) :: st) :=
  x_get (G := (gGX D ad cy b)) (k0 := 54) (ci := 5) (j := 0) (N := 13) (Cn := RX5) (T := TX5) C (by show 54 < 213; decide) rfl rfl (fun w h => gBc (inB5 w h)) (by decide) rfl (gBc hlink) hdg hp k
theorem gXp_54_places (C : gC κ cc own (c0 :: gBig) nL (gGX D ad cy b) A rmo) (ev : σ1 = gst σ 54 0 x) (hlink : Cond.fieldLink own index RX5 "places" "I" ∈ gBig) (hdg : decode cc pc = .ok (.putfield index, 3)) (hp : pc + 3 = pc') (k : wx κ (gGX D ad cy b) A nL σ1 pc' lv st) : wx κ (gGX D ad cy b) A nL σ pc lv (.int x :: .ref (ad 54) :: st) :=
  x_put (G := (gGX D ad cy b)) (k0 := 54) (ci := 5) (j := 0) (N := 13) (Cn := RX5) (T := TX5) C ev (by show 54 < 213; decide) rfl rfl rfl (fun w h => gBc (inB5 w h)) tyX5 tyX5_ok nmX5 (by decide) rfl (tyX5_ok 0 (by decide)) rfl rfl (by show 0 < 13; decide) (gBc hlink) hdg hp k
theorem gXg_54_home (C : gC κ cc own (c0 :: gBig) nL (gGX D ad cy b) A rmo) (hlink : Cond.fieldLink own index RX5 "home" "I" ∈ gBig) (hdg : decode cc pc = .ok (.getfield index, 3)) (hp : pc + 3 = pc') (k : wx κ (gGX D ad cy b) A nL σ pc' lv (.int (σ 54 1) :: st)) : wx κ (gGX D ad cy b) A nL σ pc lv (.ref (ad 54) :: st) :=
  x_get (G := (gGX D ad cy b)) (k0 := 54) (ci := 5) (j := 1) (N := 13) (Cn := RX5) (T := TX5) C (by show 54 < 213; decide) rfl rfl (fun w h => gBc (inB5 w h)) (by decide) rfl (gBc hlink) hdg hp k
theorem gXp_54_home (C : gC κ cc own (c0 :: gBig) nL (gGX D ad cy b) A rmo) (ev : σ1 = gst σ 54 1 x) (hlink : Cond.fieldLink own index RX5 "home" "I" ∈ gBig) (hdg : decode cc pc = .ok (.putfield index, 3)) (hp : pc + 3 = pc') (k : wx κ (gGX D ad cy b) A nL σ1 pc' lv st) : wx κ (gGX D ad cy b) A nL σ pc lv (.int x :: .ref (ad 54) :: st) :=
  x_put (G := (gGX D ad cy b)) (k0 := 54) (ci := 5) (j := 1) (N := 13) (Cn := RX5) (T := TX5) C ev (by show 54 < 213; decide) rfl rfl rfl (fun w h => gBc (inB5 w h)) tyX5 tyX5_ok nmX5 (by decide) rfl (tyX5_ok 1 (by decide)) rfl rfl (by show 1 < 13; decide) (gBc hlink) hdg hp k
theorem gXg_54_start (C : gC κ cc own (c0 :: gBig) nL (gGX D ad cy b) A rmo) (hlink : Cond.fieldLink own index RX5 "start" "I" ∈ gBig) (hdg : decode cc pc = .ok (.getfield index, 3)) (hp : pc + 3 = pc') (k : wx κ (gGX D ad cy b) A nL σ pc' lv (.int (σ 54 2) :: st)) : wx κ (gGX D ad cy b) A nL σ pc lv (.ref (ad 54) :: st) :=
  x_get (G := (gGX D ad cy b)) (k0 := 54) (ci := 5) (j := 2) (N := 13) (Cn := RX5) (T := TX5) C (by show 54 < 213; decide) rfl rfl (fun w h => gBc (inB5 w h)) (by decide) rfl (gBc hlink) hdg hp k
theorem gXp_54_start (C : gC κ cc own (c0 :: gBig) nL (gGX D ad cy b) A rmo) (ev : σ1 = gst σ 54 2 x) (hlink : Cond.fieldLink own index RX5 "start" "I" ∈ gBig) (hdg : decode cc pc = .ok (.putfield index, 3)) (hp : pc + 3 = pc') (k : wx κ (gGX D ad cy b) A nL σ1 pc' lv st) : wx κ (gGX D ad cy b) A nL σ pc lv (.int x :: .ref (ad 54) :: st) :=
  x_put (G := (gGX D ad cy b)) (k0 := 54) (ci := 5) (j := 2) (N := 13) (Cn := RX5) (T := TX5) C ev (by show 54 < 213; decide) rfl rfl rfl (fun w h => gBc (inB5 w h)) tyX5 tyX5_ok nmX5 (by decide) rfl (tyX5_ok 2 (by decide)) rfl rfl (by show 2 < 13; decide) (gBc hlink) hdg hp k
theorem gXg_54_posts (C : gC κ cc own (c0 :: gBig) nL (gGX D ad cy b) A rmo) (hlink : Cond.fieldLink own index RX5 "posts" "I" ∈ gBig) (hdg : decode cc pc = .ok (.getfield index, 3)) (hp : pc + 3 = pc') (k : wx κ (gGX D ad cy b) A nL σ pc' lv (.int (σ 54 3) :: st)) : wx κ (gGX D ad cy b) A nL σ pc lv (.ref (ad 54) :: st) :=
  x_get (G := (gGX D ad cy b)) (k0 := 54) (ci := 5) (j := 3) (N := 13) (Cn := RX5) (T := TX5) C (by show 54 < 213; decide) rfl rfl (fun w h => gBc (inB5 w h)) (by decide) rfl (gBc hlink) hdg hp k
theorem gXp_54_posts (C : gC κ cc own (c0 :: gBig) nL (gGX D ad cy b) A rmo) (ev : σ1 = gst σ 54 3 x) (hlink : Cond.fieldLink own index RX5 "posts" "I" ∈ gBig) (hdg : decode cc pc = .ok (.putfield index, 3)) (hp : pc + 3 = pc') (k : wx κ (gGX D ad cy b) A nL σ1 pc' lv st) : wx κ (gGX D ad cy b) A nL σ pc lv (.int x :: .ref (ad 54) :: st) :=
  x_put (G := (gGX D ad cy b)) (k0 := 54) (ci := 5) (j := 3) (N := 13) (Cn := RX5) (T := TX5) C ev (by show 54 < 213; decide) rfl rfl rfl (fun w h => gBc (inB5 w h)) tyX5 tyX5_ok nmX5 (by decide) rfl (tyX5_ok 3 (by decide)) rfl rfl (by show 3 < 13; decide) (gBc hlink) hdg hp k
theorem gXg_54_postAt (C : gC κ cc own (c0 :: gBig) nL (gGX D ad cy b) A rmo) (hlink : Cond.fieldLink own index RX5 "postAt" "[I" ∈ gBig) (hdg : decode cc pc = .ok (.getfield index, 3)) (hp : pc + 3 = pc') (k : wx κ (gGX D ad cy b) A nL σ pc' lv (.ref (ad 55) :: st)) : wx κ (gGX D ad cy b) A nL σ pc lv (.ref (ad 54) :: st) :=
  x_get (G := (gGX D ad cy b)) (k0 := 54) (ci := 5) (j := 4) (N := 13) (Cn := RX5) (T := TX5) C (by show 54 < 213; decide) rfl rfl (fun w h => gBc (inB5 w h)) (by decide) rfl (gBc hlink) hdg hp k
theorem gXg_54_longer (C : gC κ cc own (c0 :: gBig) nL (gGX D ad cy b) A rmo) (hlink : Cond.fieldLink own index RX5 "longer" "[I" ∈ gBig) (hdg : decode cc pc = .ok (.getfield index, 3)) (hp : pc + 3 = pc') (k : wx κ (gGX D ad cy b) A nL σ pc' lv (.ref (ad 56) :: st)) : wx κ (gGX D ad cy b) A nL σ pc lv (.ref (ad 54) :: st) :=
  x_get (G := (gGX D ad cy b)) (k0 := 54) (ci := 5) (j := 5) (N := 13) (Cn := RX5) (T := TX5) C (by show 54 < 213; decide) rfl rfl (fun w h => gBc (inB5 w h)) (by decide) rfl (gBc hlink) hdg hp k
theorem gXg_54_footing (C : gC κ cc own (c0 :: gBig) nL (gGX D ad cy b) A rmo) (hlink : Cond.fieldLink own index RX5 "footing" "[[I" ∈ gBig) (hdg : decode cc pc = .ok (.getfield index, 3)) (hp : pc + 3 = pc') (k : wx κ (gGX D ad cy b) A nL σ pc' lv (.ref (ad 57) :: st)) : wx κ (gGX D ad cy b) A nL σ pc lv (.ref (ad 54) :: st) :=
  x_get (G := (gGX D ad cy b)) (k0 := 54) (ci := 5) (j := 6) (N := 13) (Cn := RX5) (T := TX5) C (by show 54 < 213; decide) rfl rfl (fun w h => gBc (inB5 w h)) (by decide) rfl (gBc hlink) hdg hp k
theorem gXg_54_at (C : gC κ cc own (c0 :: gBig) nL (gGX D ad cy b) A rmo) (hlink : Cond.fieldLink own index RX5 "at" "[[I" ∈ gBig) (hdg : decode cc pc = .ok (.getfield index, 3)) (hp : pc + 3 = pc') (k : wx κ (gGX D ad cy b) A nL σ pc' lv (.ref (ad 58) :: st)) : wx κ (gGX D ad cy b) A nL σ pc lv (.ref (ad 54) :: st) :=
  x_get (G := (gGX D ad cy b)) (k0 := 54) (ci := 5) (j := 7) (N := 13) (Cn := RX5) (T := TX5) C (by show 54 < 213; decide) rfl rfl (fun w h => gBc (inB5 w h)) (by decide) rfl (gBc hlink) hdg hp k
theorem gXg_54_came (C : gC κ cc own (c0 :: gBig) nL (gGX D ad cy b) A rmo) (hlink : Cond.fieldLink own index RX5 "came" "[I" ∈ gBig) (hdg : decode cc pc = .ok (.getfield index, 3)) (hp : pc + 3 = pc') (k : wx κ (gGX D ad cy b) A nL σ pc' lv (.ref (ad 59) :: st)) : wx κ (gGX D ad cy b) A nL σ pc lv (.ref (ad 54) :: st) :=
  x_get (G := (gGX D ad cy b)) (k0 := 54) (ci := 5) (j := 8) (N := 13) (Cn := RX5) (T := TX5) C (by show 54 < 213; decide) rfl rfl (fun w h => gBc (inB5 w h)) (by decide) rfl (gBc hlink) hdg hp k
theorem gXg_54_edges (C : gC κ cc own (c0 :: gBig) nL (gGX D ad cy b) A rmo) (hlink : Cond.fieldLink own index RX5 "edges" "I" ∈ gBig) (hdg : decode cc pc = .ok (.getfield index, 3)) (hp : pc + 3 = pc') (k : wx κ (gGX D ad cy b) A nL σ pc' lv (.int (σ 54 9) :: st)) : wx κ (gGX D ad cy b) A nL σ pc lv (.ref (ad 54) :: st) :=
  x_get (G := (gGX D ad cy b)) (k0 := 54) (ci := 5) (j := 9) (N := 13) (Cn := RX5) (T := TX5) C (by show 54 < 213; decide) rfl rfl (fun w h => gBc (inB5 w h)) (by decide) rfl (gBc hlink) hdg hp k
theorem gXp_54_edges (C : gC κ cc own (c0 :: gBig) nL (gGX D ad cy b) A rmo) (ev : σ1 = gst σ 54 9 x) (hlink : Cond.fieldLink own index RX5 "edges" "I" ∈ gBig) (hdg : decode cc pc = .ok (.putfield index, 3)) (hp : pc + 3 = pc') (k : wx κ (gGX D ad cy b) A nL σ1 pc' lv st) : wx κ (gGX D ad cy b) A nL σ pc lv (.int x :: .ref (ad 54) :: st) :=
  x_put (G := (gGX D ad cy b)) (k0 := 54) (ci := 5) (j := 9) (N := 13) (Cn := RX5) (T := TX5) C ev (by show 54 < 213; decide) rfl rfl rfl (fun w h => gBc (inB5 w h)) tyX5 tyX5_ok nmX5 (by decide) rfl (tyX5_ok 9 (by decide)) rfl rfl (by show 9 < 13; decide) (gBc hlink) hdg hp k
theorem gXg_54_ends (C : gC κ cc own (c0 :: gBig) nL (gGX D ad cy b) A rmo) (hlink : Cond.fieldLink own index RX5 "ends" "[I" ∈ gBig) (hdg : decode cc pc = .ok (.getfield index, 3)) (hp : pc + 3 = pc') (k : wx κ (gGX D ad cy b) A nL σ pc' lv (.ref (ad 60) :: st)) : wx κ (gGX D ad cy b) A nL σ pc lv (.ref (ad 54) :: st) :=
  x_get (G := (gGX D ad cy b)) (k0 := 54) (ci := 5) (j := 10) (N := 13) (Cn := RX5) (T := TX5) C (by show 54 < 213; decide) rfl rfl (fun w h => gBc (inB5 w h)) (by decide) rfl (gBc hlink) hdg hp k
theorem gXg_54_otherEnds (C : gC κ cc own (c0 :: gBig) nL (gGX D ad cy b) A rmo) (hlink : Cond.fieldLink own index RX5 "otherEnds" "[I" ∈ gBig) (hdg : decode cc pc = .ok (.getfield index, 3)) (hp : pc + 3 = pc') (k : wx κ (gGX D ad cy b) A nL σ pc' lv (.ref (ad 61) :: st)) : wx κ (gGX D ad cy b) A nL σ pc lv (.ref (ad 54) :: st) :=
  x_get (G := (gGX D ad cy b)) (k0 := 54) (ci := 5) (j := 11) (N := 13) (Cn := RX5) (T := TX5) C (by show 54 < 213; decide) rfl rfl (fun w h => gBc (inB5 w h)) (by decide) rfl (gBc hlink) hdg hp k
theorem gXg_54_paces (C : gC κ cc own (c0 :: gBig) nL (gGX D ad cy b) A rmo) (hlink : Cond.fieldLink own index RX5 "paces" "[I" ∈ gBig) (hdg : decode cc pc = .ok (.getfield index, 3)) (hp : pc + 3 = pc') (k : wx κ (gGX D ad cy b) A nL σ pc' lv (.ref (ad 62) :: st)) : wx κ (gGX D ad cy b) A nL σ pc lv (.ref (ad 54) :: st) :=
  x_get (G := (gGX D ad cy b)) (k0 := 54) (ci := 5) (j := 12) (N := 13) (Cn := RX5) (T := TX5) C (by show 54 < 213; decide) rfl rfl (fun w h => gBc (inB5 w h)) (by decide) rfl (gBc hlink) hdg hp k
theorem gXg_136_needy (C : gC κ cc own (c0 :: gBig) nL (gGX D ad cy b) A rmo) (hlink : Cond.fieldLink own index RX4 "needy" "I" ∈ gBig) (hdg : decode cc pc = .ok (.getfield index, 3)) (hp : pc + 3 = pc') (k : wx κ (gGX D ad cy b) A nL σ pc' lv (.int (σ 136 0) :: st)) : wx κ (gGX D ad cy b) A nL σ pc lv (.ref (ad 136) :: st) :=
  x_get (G := (gGX D ad cy b)) (k0 := 136) (ci := 4) (j := 0) (N := 3) (Cn := RX4) (T := TX4) C (by show 136 < 213; decide) rfl rfl (fun w h => gBc (inB4 w h)) (by decide) rfl (gBc hlink) hdg hp k
theorem gXp_136_needy (C : gC κ cc own (c0 :: gBig) nL (gGX D ad cy b) A rmo) (ev : σ1 = gst σ 136 0 x) (hlink : Cond.fieldLink own index RX4 "needy" "I" ∈ gBig) (hdg : decode cc pc = .ok (.putfield index, 3)) (hp : pc + 3 = pc') (k : wx κ (gGX D ad cy b) A nL σ1 pc' lv st) : wx κ (gGX D ad cy b) A nL σ pc lv (.int x :: .ref (ad 136) :: st) :=
  x_put (G := (gGX D ad cy b)) (k0 := 136) (ci := 4) (j := 0) (N := 3) (Cn := RX4) (T := TX4) C ev (by show 136 < 213; decide) rfl rfl rfl (fun w h => gBc (inB4 w h)) tyX4 tyX4_ok nmX4 (by decide) rfl (tyX4_ok 0 (by decide)) rfl rfl (by show 0 < 3; decide) (gBc hlink) hdg hp k
theorem gXg_136_suits (C : gC κ cc own (c0 :: gBig) nL (gGX D ad cy b) A rmo) (hlink : Cond.fieldLink own index RX4 "suits" "[I" ∈ gBig) (hdg : decode cc pc = .ok (.getfield index, 3)) (hp : pc + 3 = pc') (k : wx κ (gGX D ad cy b) A nL σ pc' lv (.ref (ad 137) :: st)) : wx κ (gGX D ad cy b) A nL σ pc lv (.ref (ad 136) :: st) :=
  x_get (G := (gGX D ad cy b)) (k0 := 136) (ci := 4) (j := 1) (N := 3) (Cn := RX4) (T := TX4) C (by show 136 < 213; decide) rfl rfl (fun w h => gBc (inB4 w h)) (by decide) rfl (gBc hlink) hdg hp k
theorem gXg_136_fewest (C : gC κ cc own (c0 :: gBig) nL (gGX D ad cy b) A rmo) (hlink : Cond.fieldLink own index RX4 "fewest" "[[I" ∈ gBig) (hdg : decode cc pc = .ok (.getfield index, 3)) (hp : pc + 3 = pc') (k : wx κ (gGX D ad cy b) A nL σ pc' lv (.ref (ad 138) :: st)) : wx κ (gGX D ad cy b) A nL σ pc lv (.ref (ad 136) :: st) :=
  x_get (G := (gGX D ad cy b)) (k0 := 136) (ci := 4) (j := 2) (N := 3) (Cn := RX4) (T := TX4) C (by show 136 < 213; decide) rfl rfl (fun w h => gBc (inB4 w h)) (by decide) rfl (gBc hlink) hdg hp k
theorem gXg_201_people (C : gC κ cc own (c0 :: gBig) nL (gGX D ad cy b) A rmo) (hlink : Cond.fieldLink own index RX0 "people" "I" ∈ gBig) (hdg : decode cc pc = .ok (.getfield index, 3)) (hp : pc + 3 = pc') (k : wx κ (gGX D ad cy b) A nL σ pc' lv (.int (σ 201 0) :: st)) : wx κ (gGX D ad cy b) A nL σ pc lv (.ref (ad 201) :: st) :=
  x_get (G := (gGX D ad cy b)) (k0 := 201) (ci := 0) (j := 0) (N := 3) (Cn := RX0) (T := TX0) C (by show 201 < 213; decide) rfl rfl (fun w h => gBc (inB0 w h)) (by decide) rfl (gBc hlink) hdg hp k
theorem gXp_201_people (C : gC κ cc own (c0 :: gBig) nL (gGX D ad cy b) A rmo) (ev : σ1 = gst σ 201 0 x) (hlink : Cond.fieldLink own index RX0 "people" "I" ∈ gBig) (hdg : decode cc pc = .ok (.putfield index, 3)) (hp : pc + 3 = pc') (k : wx κ (gGX D ad cy b) A nL σ1 pc' lv st) : wx κ (gGX D ad cy b) A nL σ pc lv (.int x :: .ref (ad 201) :: st) :=
  x_put (G := (gGX D ad cy b)) (k0 := 201) (ci := 0) (j := 0) (N := 3) (Cn := RX0) (T := TX0) C ev (by show 201 < 213; decide) rfl rfl rfl (fun w h => gBc (inB0 w h)) tyX0 tyX0_ok nmX0 (by decide) rfl (tyX0_ok 0 (by decide)) rfl rfl (by show 0 < 3; decide) (gBc hlink) hdg hp k
theorem gXg_201_drowning (C : gC κ cc own (c0 :: gBig) nL (gGX D ad cy b) A rmo) (hlink : Cond.fieldLink own index RX0 "drowning" "[I" ∈ gBig) (hdg : decode cc pc = .ok (.getfield index, 3)) (hp : pc + 3 = pc') (k : wx κ (gGX D ad cy b) A nL σ pc' lv (.ref (ad 202) :: st)) : wx κ (gGX D ad cy b) A nL σ pc lv (.ref (ad 201) :: st) :=
  x_get (G := (gGX D ad cy b)) (k0 := 201) (ci := 0) (j := 1) (N := 3) (Cn := RX0) (T := TX0) C (by show 201 < 213; decide) rfl rfl (fun w h => gBc (inB0 w h)) (by decide) rfl (gBc hlink) hdg hp k
theorem gXg_201_fewest (C : gC κ cc own (c0 :: gBig) nL (gGX D ad cy b) A rmo) (hlink : Cond.fieldLink own index RX0 "fewest" "[I" ∈ gBig) (hdg : decode cc pc = .ok (.getfield index, 3)) (hp : pc + 3 = pc') (k : wx κ (gGX D ad cy b) A nL σ pc' lv (.ref (ad 203) :: st)) : wx κ (gGX D ad cy b) A nL σ pc lv (.ref (ad 201) :: st) :=
  x_get (G := (gGX D ad cy b)) (k0 := 201) (ci := 0) (j := 2) (N := 3) (Cn := RX0) (T := TX0) C (by show 201 < 213; decide) rfl rfl (fun w h => gBc (inB0 w h)) (by decide) rfl (gBc hlink) hdg hp k
theorem gXa_2 (C : gC κ cc own (c0 :: gBig) nL (gGX D ad cy b) A rmo) (h : inb i 12 = true) (hdg : decode cc pc = .ok (.iaload, 1)) (hp : pc + 1 = pc') (k : wx κ (gGX D ad cy b) A nL σ pc' lv (.int (σ 2 i.toNatClampNeg) :: st)) : wx κ (gGX D ad cy b) A nL σ pc lv (.int i :: .ref (ad 2) :: st) :=
  x_iald (G := (gGX D ad cy b)) (k0 := 2) C (by show 2 < 213; decide) rfl rfl h hdg hp k
theorem gXs_2 (C : gC κ cc own (c0 :: gBig) nL (gGX D ad cy b) A rmo) (ev : σ1 = gst σ 2 i.toNatClampNeg x) (h : inb i 12 = true) (hdg : decode cc pc = .ok (.iastore, 1)) (hp : pc + 1 = pc') (k : wx κ (gGX D ad cy b) A nL σ1 pc' lv st) : wx κ (gGX D ad cy b) A nL σ pc lv (.int x :: .int i :: .ref (ad 2) :: st) :=
  x_iast (G := (gGX D ad cy b)) (k0 := 2) C ev (by show 2 < 213; decide) (fun _ => rfl) rfl h hdg hp k
theorem gXa_3 (C : gC κ cc own (c0 :: gBig) nL (gGX D ad cy b) A rmo) (h : inb i 12 = true) (hdg : decode cc pc = .ok (.iaload, 1)) (hp : pc + 1 = pc') (k : wx κ (gGX D ad cy b) A nL σ pc' lv (.int (σ 3 i.toNatClampNeg) :: st)) : wx κ (gGX D ad cy b) A nL σ pc lv (.int i :: .ref (ad 3) :: st) :=
  x_iald (G := (gGX D ad cy b)) (k0 := 3) C (by show 3 < 213; decide) rfl rfl h hdg hp k
theorem gXs_3 (C : gC κ cc own (c0 :: gBig) nL (gGX D ad cy b) A rmo) (ev : σ1 = gst σ 3 i.toNatClampNeg x) (h : inb i 12 = true) (hdg : decode cc pc = .ok (.iastore, 1)) (hp : pc + 1 = pc') (k : wx κ (gGX D ad cy b) A nL σ1 pc' lv st) : wx κ (gGX D ad cy b) A nL σ pc lv (.int x :: .int i :: .ref (ad 3) :: st) :=
  x_iast (G := (gGX D ad cy b)) (k0 := 3) C ev (by show 3 < 213; decide) (fun _ => rfl) rfl h hdg hp k
theorem gXa_4 (C : gC κ cc own (c0 :: gBig) nL (gGX D ad cy b) A rmo) (h : inb i 12 = true) (hdg : decode cc pc = .ok (.iaload, 1)) (hp : pc + 1 = pc') (k : wx κ (gGX D ad cy b) A nL σ pc' lv (.int (σ 4 i.toNatClampNeg) :: st)) : wx κ (gGX D ad cy b) A nL σ pc lv (.int i :: .ref (ad 4) :: st) :=
  x_iald (G := (gGX D ad cy b)) (k0 := 4) C (by show 4 < 213; decide) rfl rfl h hdg hp k
theorem gXs_4 (C : gC κ cc own (c0 :: gBig) nL (gGX D ad cy b) A rmo) (ev : σ1 = gst σ 4 i.toNatClampNeg x) (h : inb i 12 = true) (hdg : decode cc pc = .ok (.iastore, 1)) (hp : pc + 1 = pc') (k : wx κ (gGX D ad cy b) A nL σ1 pc' lv st) : wx κ (gGX D ad cy b) A nL σ pc lv (.int x :: .int i :: .ref (ad 4) :: st) :=
  x_iast (G := (gGX D ad cy b)) (k0 := 4) C ev (by show 4 < 213; decide) (fun _ => rfl) rfl h hdg hp k
theorem gXa_6 (C : gC κ cc own (c0 :: gBig) nL (gGX D ad cy b) A rmo) (h : inb i 24 = true) (hdg : decode cc pc = .ok (.iaload, 1)) (hp : pc + 1 = pc') (k : wx κ (gGX D ad cy b) A nL σ pc' lv (.int (σ 6 i.toNatClampNeg) :: st)) : wx κ (gGX D ad cy b) A nL σ pc lv (.int i :: .ref (ad 6) :: st) :=
  x_iald (G := (gGX D ad cy b)) (k0 := 6) C (by show 6 < 213; decide) rfl rfl h hdg hp k
theorem gXs_6 (C : gC κ cc own (c0 :: gBig) nL (gGX D ad cy b) A rmo) (ev : σ1 = gst σ 6 i.toNatClampNeg x) (h : inb i 24 = true) (hdg : decode cc pc = .ok (.iastore, 1)) (hp : pc + 1 = pc') (k : wx κ (gGX D ad cy b) A nL σ1 pc' lv st) : wx κ (gGX D ad cy b) A nL σ pc lv (.int x :: .int i :: .ref (ad 6) :: st) :=
  x_iast (G := (gGX D ad cy b)) (k0 := 6) C ev (by show 6 < 213; decide) (fun _ => rfl) rfl h hdg hp k
theorem gXa_7 (C : gC κ cc own (c0 :: gBig) nL (gGX D ad cy b) A rmo) (h : inb i 8 = true) (hdg : decode cc pc = .ok (.iaload, 1)) (hp : pc + 1 = pc') (k : wx κ (gGX D ad cy b) A nL σ pc' lv (.int (σ 7 i.toNatClampNeg) :: st)) : wx κ (gGX D ad cy b) A nL σ pc lv (.int i :: .ref (ad 7) :: st) :=
  x_iald (G := (gGX D ad cy b)) (k0 := 7) C (by show 7 < 213; decide) rfl rfl h hdg hp k
theorem gXs_7 (C : gC κ cc own (c0 :: gBig) nL (gGX D ad cy b) A rmo) (ev : σ1 = gst σ 7 i.toNatClampNeg x) (h : inb i 8 = true) (hdg : decode cc pc = .ok (.iastore, 1)) (hp : pc + 1 = pc') (k : wx κ (gGX D ad cy b) A nL σ1 pc' lv st) : wx κ (gGX D ad cy b) A nL σ pc lv (.int x :: .int i :: .ref (ad 7) :: st) :=
  x_iast (G := (gGX D ad cy b)) (k0 := 7) C ev (by show 7 < 213; decide) (fun _ => rfl) rfl h hdg hp k
theorem gXa_8 (C : gC κ cc own (c0 :: gBig) nL (gGX D ad cy b) A rmo) (h : inb i 8 = true) (hdg : decode cc pc = .ok (.iaload, 1)) (hp : pc + 1 = pc') (k : wx κ (gGX D ad cy b) A nL σ pc' lv (.int (σ 8 i.toNatClampNeg) :: st)) : wx κ (gGX D ad cy b) A nL σ pc lv (.int i :: .ref (ad 8) :: st) :=
  x_iald (G := (gGX D ad cy b)) (k0 := 8) C (by show 8 < 213; decide) rfl rfl h hdg hp k
theorem gXs_8 (C : gC κ cc own (c0 :: gBig) nL (gGX D ad cy b) A rmo) (ev : σ1 = gst σ 8 i.toNatClampNeg x) (h : inb i 8 = true) (hdg : decode cc pc = .ok (.iastore, 1)) (hp : pc + 1 = pc') (k : wx κ (gGX D ad cy b) A nL σ1 pc' lv st) : wx κ (gGX D ad cy b) A nL σ pc lv (.int x :: .int i :: .ref (ad 8) :: st) :=
  x_iast (G := (gGX D ad cy b)) (k0 := 8) C ev (by show 8 < 213; decide) (fun _ => rfl) rfl h hdg hp k
theorem gXa_9 (C : gC κ cc own (c0 :: gBig) nL (gGX D ad cy b) A rmo) (h : inb i 8 = true) (hdg : decode cc pc = .ok (.iaload, 1)) (hp : pc + 1 = pc') (k : wx κ (gGX D ad cy b) A nL σ pc' lv (.int (σ 9 i.toNatClampNeg) :: st)) : wx κ (gGX D ad cy b) A nL σ pc lv (.int i :: .ref (ad 9) :: st) :=
  x_iald (G := (gGX D ad cy b)) (k0 := 9) C (by show 9 < 213; decide) rfl rfl h hdg hp k
theorem gXs_9 (C : gC κ cc own (c0 :: gBig) nL (gGX D ad cy b) A rmo) (ev : σ1 = gst σ 9 i.toNatClampNeg x) (h : inb i 8 = true) (hdg : decode cc pc = .ok (.iastore, 1)) (hp : pc + 1 = pc') (k : wx κ (gGX D ad cy b) A nL σ1 pc' lv st) : wx κ (gGX D ad cy b) A nL σ pc lv (.int x :: .int i :: .ref (ad 9) :: st) :=
  x_iast (G := (gGX D ad cy b)) (k0 := 9) C ev (by show 9 < 213; decide) (fun _ => rfl) rfl h hdg hp k
theorem gXa_10 (C : gC κ cc own (c0 :: gBig) nL (gGX D ad cy b) A rmo) (h : inb i 10 = true) (hdg : decode cc pc = .ok (.iaload, 1)) (hp : pc + 1 = pc') (k : wx κ (gGX D ad cy b) A nL σ pc' lv (.int (σ 10 i.toNatClampNeg) :: st)) : wx κ (gGX D ad cy b) A nL σ pc lv (.int i :: .ref (ad 10) :: st) :=
  x_iald (G := (gGX D ad cy b)) (k0 := 10) C (by show 10 < 213; decide) rfl rfl h hdg hp k
theorem gXs_10 (C : gC κ cc own (c0 :: gBig) nL (gGX D ad cy b) A rmo) (ev : σ1 = gst σ 10 i.toNatClampNeg x) (h : inb i 10 = true) (hdg : decode cc pc = .ok (.iastore, 1)) (hp : pc + 1 = pc') (k : wx κ (gGX D ad cy b) A nL σ1 pc' lv st) : wx κ (gGX D ad cy b) A nL σ pc lv (.int x :: .int i :: .ref (ad 10) :: st) :=
  x_iast (G := (gGX D ad cy b)) (k0 := 10) C ev (by show 10 < 213; decide) (fun _ => rfl) rfl h hdg hp k
theorem gXa_11 (C : gC κ cc own (c0 :: gBig) nL (gGX D ad cy b) A rmo) (h : inb i 10 = true) (hdg : decode cc pc = .ok (.iaload, 1)) (hp : pc + 1 = pc') (k : wx κ (gGX D ad cy b) A nL σ pc' lv (.int (σ 11 i.toNatClampNeg) :: st)) : wx κ (gGX D ad cy b) A nL σ pc lv (.int i :: .ref (ad 11) :: st) :=
  x_iald (G := (gGX D ad cy b)) (k0 := 11) C (by show 11 < 213; decide) rfl rfl h hdg hp k
theorem gXs_11 (C : gC κ cc own (c0 :: gBig) nL (gGX D ad cy b) A rmo) (ev : σ1 = gst σ 11 i.toNatClampNeg x) (h : inb i 10 = true) (hdg : decode cc pc = .ok (.iastore, 1)) (hp : pc + 1 = pc') (k : wx κ (gGX D ad cy b) A nL σ1 pc' lv st) : wx κ (gGX D ad cy b) A nL σ pc lv (.int x :: .int i :: .ref (ad 11) :: st) :=
  x_iast (G := (gGX D ad cy b)) (k0 := 11) C ev (by show 11 < 213; decide) (fun _ => rfl) rfl h hdg hp k
theorem gXa_12 (C : gC κ cc own (c0 :: gBig) nL (gGX D ad cy b) A rmo) (h : inb i 10 = true) (hdg : decode cc pc = .ok (.iaload, 1)) (hp : pc + 1 = pc') (k : wx κ (gGX D ad cy b) A nL σ pc' lv (.int (σ 12 i.toNatClampNeg) :: st)) : wx κ (gGX D ad cy b) A nL σ pc lv (.int i :: .ref (ad 12) :: st) :=
  x_iald (G := (gGX D ad cy b)) (k0 := 12) C (by show 12 < 213; decide) rfl rfl h hdg hp k
theorem gXs_12 (C : gC κ cc own (c0 :: gBig) nL (gGX D ad cy b) A rmo) (ev : σ1 = gst σ 12 i.toNatClampNeg x) (h : inb i 10 = true) (hdg : decode cc pc = .ok (.iastore, 1)) (hp : pc + 1 = pc') (k : wx κ (gGX D ad cy b) A nL σ1 pc' lv st) : wx κ (gGX D ad cy b) A nL σ pc lv (.int x :: .int i :: .ref (ad 12) :: st) :=
  x_iast (G := (gGX D ad cy b)) (k0 := 12) C ev (by show 12 < 213; decide) (fun _ => rfl) rfl h hdg hp k
theorem gXa_26 (C : gC κ cc own (c0 :: gBig) nL (gGX D ad cy b) A rmo) (h : inb i 12 = true) (hdg : decode cc pc = .ok (.iaload, 1)) (hp : pc + 1 = pc') (k : wx κ (gGX D ad cy b) A nL σ pc' lv (.int (σ 26 i.toNatClampNeg) :: st)) : wx κ (gGX D ad cy b) A nL σ pc lv (.int i :: .ref (ad 26) :: st) :=
  x_iald (G := (gGX D ad cy b)) (k0 := 26) C (by show 26 < 213; decide) rfl rfl h hdg hp k
theorem gXs_26 (C : gC κ cc own (c0 :: gBig) nL (gGX D ad cy b) A rmo) (ev : σ1 = gst σ 26 i.toNatClampNeg x) (h : inb i 12 = true) (hdg : decode cc pc = .ok (.iastore, 1)) (hp : pc + 1 = pc') (k : wx κ (gGX D ad cy b) A nL σ1 pc' lv st) : wx κ (gGX D ad cy b) A nL σ pc lv (.int x :: .int i :: .ref (ad 26) :: st) :=
  x_iast (G := (gGX D ad cy b)) (k0 := 26) C ev (by show 26 < 213; decide) (fun _ => rfl) rfl h hdg hp k
theorem gXa_27 (C : gC κ cc own (c0 :: gBig) nL (gGX D ad cy b) A rmo) (h : inb i 12 = true) (hdg : decode cc pc = .ok (.iaload, 1)) (hp : pc + 1 = pc') (k : wx κ (gGX D ad cy b) A nL σ pc' lv (.int (σ 27 i.toNatClampNeg) :: st)) : wx κ (gGX D ad cy b) A nL σ pc lv (.int i :: .ref (ad 27) :: st) :=
  x_iald (G := (gGX D ad cy b)) (k0 := 27) C (by show 27 < 213; decide) rfl rfl h hdg hp k
theorem gXs_27 (C : gC κ cc own (c0 :: gBig) nL (gGX D ad cy b) A rmo) (ev : σ1 = gst σ 27 i.toNatClampNeg x) (h : inb i 12 = true) (hdg : decode cc pc = .ok (.iastore, 1)) (hp : pc + 1 = pc') (k : wx κ (gGX D ad cy b) A nL σ1 pc' lv st) : wx κ (gGX D ad cy b) A nL σ pc lv (.int x :: .int i :: .ref (ad 27) :: st) :=
  x_iast (G := (gGX D ad cy b)) (k0 := 27) C ev (by show 27 < 213; decide) (fun _ => rfl) rfl h hdg hp k
theorem gXa_28 (C : gC κ cc own (c0 :: gBig) nL (gGX D ad cy b) A rmo) (h : inb i 12 = true) (hdg : decode cc pc = .ok (.iaload, 1)) (hp : pc + 1 = pc') (k : wx κ (gGX D ad cy b) A nL σ pc' lv (.int (σ 28 i.toNatClampNeg) :: st)) : wx κ (gGX D ad cy b) A nL σ pc lv (.int i :: .ref (ad 28) :: st) :=
  x_iald (G := (gGX D ad cy b)) (k0 := 28) C (by show 28 < 213; decide) rfl rfl h hdg hp k
theorem gXs_28 (C : gC κ cc own (c0 :: gBig) nL (gGX D ad cy b) A rmo) (ev : σ1 = gst σ 28 i.toNatClampNeg x) (h : inb i 12 = true) (hdg : decode cc pc = .ok (.iastore, 1)) (hp : pc + 1 = pc') (k : wx κ (gGX D ad cy b) A nL σ1 pc' lv st) : wx κ (gGX D ad cy b) A nL σ pc lv (.int x :: .int i :: .ref (ad 28) :: st) :=
  x_iast (G := (gGX D ad cy b)) (k0 := 28) C ev (by show 28 < 213; decide) (fun _ => rfl) rfl h hdg hp k
theorem gXa_30 (C : gC κ cc own (c0 :: gBig) nL (gGX D ad cy b) A rmo) (h : inb i 24 = true) (hdg : decode cc pc = .ok (.iaload, 1)) (hp : pc + 1 = pc') (k : wx κ (gGX D ad cy b) A nL σ pc' lv (.int (σ 30 i.toNatClampNeg) :: st)) : wx κ (gGX D ad cy b) A nL σ pc lv (.int i :: .ref (ad 30) :: st) :=
  x_iald (G := (gGX D ad cy b)) (k0 := 30) C (by show 30 < 213; decide) rfl rfl h hdg hp k
theorem gXs_30 (C : gC κ cc own (c0 :: gBig) nL (gGX D ad cy b) A rmo) (ev : σ1 = gst σ 30 i.toNatClampNeg x) (h : inb i 24 = true) (hdg : decode cc pc = .ok (.iastore, 1)) (hp : pc + 1 = pc') (k : wx κ (gGX D ad cy b) A nL σ1 pc' lv st) : wx κ (gGX D ad cy b) A nL σ pc lv (.int x :: .int i :: .ref (ad 30) :: st) :=
  x_iast (G := (gGX D ad cy b)) (k0 := 30) C ev (by show 30 < 213; decide) (fun _ => rfl) rfl h hdg hp k
theorem gXa_31 (C : gC κ cc own (c0 :: gBig) nL (gGX D ad cy b) A rmo) (h : inb i 8 = true) (hdg : decode cc pc = .ok (.iaload, 1)) (hp : pc + 1 = pc') (k : wx κ (gGX D ad cy b) A nL σ pc' lv (.int (σ 31 i.toNatClampNeg) :: st)) : wx κ (gGX D ad cy b) A nL σ pc lv (.int i :: .ref (ad 31) :: st) :=
  x_iald (G := (gGX D ad cy b)) (k0 := 31) C (by show 31 < 213; decide) rfl rfl h hdg hp k
theorem gXs_31 (C : gC κ cc own (c0 :: gBig) nL (gGX D ad cy b) A rmo) (ev : σ1 = gst σ 31 i.toNatClampNeg x) (h : inb i 8 = true) (hdg : decode cc pc = .ok (.iastore, 1)) (hp : pc + 1 = pc') (k : wx κ (gGX D ad cy b) A nL σ1 pc' lv st) : wx κ (gGX D ad cy b) A nL σ pc lv (.int x :: .int i :: .ref (ad 31) :: st) :=
  x_iast (G := (gGX D ad cy b)) (k0 := 31) C ev (by show 31 < 213; decide) (fun _ => rfl) rfl h hdg hp k
theorem gXa_32 (C : gC κ cc own (c0 :: gBig) nL (gGX D ad cy b) A rmo) (h : inb i 8 = true) (hdg : decode cc pc = .ok (.iaload, 1)) (hp : pc + 1 = pc') (k : wx κ (gGX D ad cy b) A nL σ pc' lv (.int (σ 32 i.toNatClampNeg) :: st)) : wx κ (gGX D ad cy b) A nL σ pc lv (.int i :: .ref (ad 32) :: st) :=
  x_iald (G := (gGX D ad cy b)) (k0 := 32) C (by show 32 < 213; decide) rfl rfl h hdg hp k
theorem gXs_32 (C : gC κ cc own (c0 :: gBig) nL (gGX D ad cy b) A rmo) (ev : σ1 = gst σ 32 i.toNatClampNeg x) (h : inb i 8 = true) (hdg : decode cc pc = .ok (.iastore, 1)) (hp : pc + 1 = pc') (k : wx κ (gGX D ad cy b) A nL σ1 pc' lv st) : wx κ (gGX D ad cy b) A nL σ pc lv (.int x :: .int i :: .ref (ad 32) :: st) :=
  x_iast (G := (gGX D ad cy b)) (k0 := 32) C ev (by show 32 < 213; decide) (fun _ => rfl) rfl h hdg hp k
theorem gXa_33 (C : gC κ cc own (c0 :: gBig) nL (gGX D ad cy b) A rmo) (h : inb i 8 = true) (hdg : decode cc pc = .ok (.iaload, 1)) (hp : pc + 1 = pc') (k : wx κ (gGX D ad cy b) A nL σ pc' lv (.int (σ 33 i.toNatClampNeg) :: st)) : wx κ (gGX D ad cy b) A nL σ pc lv (.int i :: .ref (ad 33) :: st) :=
  x_iald (G := (gGX D ad cy b)) (k0 := 33) C (by show 33 < 213; decide) rfl rfl h hdg hp k
theorem gXs_33 (C : gC κ cc own (c0 :: gBig) nL (gGX D ad cy b) A rmo) (ev : σ1 = gst σ 33 i.toNatClampNeg x) (h : inb i 8 = true) (hdg : decode cc pc = .ok (.iastore, 1)) (hp : pc + 1 = pc') (k : wx κ (gGX D ad cy b) A nL σ1 pc' lv st) : wx κ (gGX D ad cy b) A nL σ pc lv (.int x :: .int i :: .ref (ad 33) :: st) :=
  x_iast (G := (gGX D ad cy b)) (k0 := 33) C ev (by show 33 < 213; decide) (fun _ => rfl) rfl h hdg hp k
theorem gXa_34 (C : gC κ cc own (c0 :: gBig) nL (gGX D ad cy b) A rmo) (h : inb i 10 = true) (hdg : decode cc pc = .ok (.iaload, 1)) (hp : pc + 1 = pc') (k : wx κ (gGX D ad cy b) A nL σ pc' lv (.int (σ 34 i.toNatClampNeg) :: st)) : wx κ (gGX D ad cy b) A nL σ pc lv (.int i :: .ref (ad 34) :: st) :=
  x_iald (G := (gGX D ad cy b)) (k0 := 34) C (by show 34 < 213; decide) rfl rfl h hdg hp k
theorem gXs_34 (C : gC κ cc own (c0 :: gBig) nL (gGX D ad cy b) A rmo) (ev : σ1 = gst σ 34 i.toNatClampNeg x) (h : inb i 10 = true) (hdg : decode cc pc = .ok (.iastore, 1)) (hp : pc + 1 = pc') (k : wx κ (gGX D ad cy b) A nL σ1 pc' lv st) : wx κ (gGX D ad cy b) A nL σ pc lv (.int x :: .int i :: .ref (ad 34) :: st) :=
  x_iast (G := (gGX D ad cy b)) (k0 := 34) C ev (by show 34 < 213; decide) (fun _ => rfl) rfl h hdg hp k
theorem gXa_35 (C : gC κ cc own (c0 :: gBig) nL (gGX D ad cy b) A rmo) (h : inb i 10 = true) (hdg : decode cc pc = .ok (.iaload, 1)) (hp : pc + 1 = pc') (k : wx κ (gGX D ad cy b) A nL σ pc' lv (.int (σ 35 i.toNatClampNeg) :: st)) : wx κ (gGX D ad cy b) A nL σ pc lv (.int i :: .ref (ad 35) :: st) :=
  x_iald (G := (gGX D ad cy b)) (k0 := 35) C (by show 35 < 213; decide) rfl rfl h hdg hp k
theorem gXs_35 (C : gC κ cc own (c0 :: gBig) nL (gGX D ad cy b) A rmo) (ev : σ1 = gst σ 35 i.toNatClampNeg x) (h : inb i 10 = true) (hdg : decode cc pc = .ok (.iastore, 1)) (hp : pc + 1 = pc') (k : wx κ (gGX D ad cy b) A nL σ1 pc' lv st) : wx κ (gGX D ad cy b) A nL σ pc lv (.int x :: .int i :: .ref (ad 35) :: st) :=
  x_iast (G := (gGX D ad cy b)) (k0 := 35) C ev (by show 35 < 213; decide) (fun _ => rfl) rfl h hdg hp k
theorem gXa_36 (C : gC κ cc own (c0 :: gBig) nL (gGX D ad cy b) A rmo) (h : inb i 10 = true) (hdg : decode cc pc = .ok (.iaload, 1)) (hp : pc + 1 = pc') (k : wx κ (gGX D ad cy b) A nL σ pc' lv (.int (σ 36 i.toNatClampNeg) :: st)) : wx κ (gGX D ad cy b) A nL σ pc lv (.int i :: .ref (ad 36) :: st) :=
  x_iald (G := (gGX D ad cy b)) (k0 := 36) C (by show 36 < 213; decide) rfl rfl h hdg hp k
theorem gXs_36 (C : gC κ cc own (c0 :: gBig) nL (gGX D ad cy b) A rmo) (ev : σ1 = gst σ 36 i.toNatClampNeg x) (h : inb i 10 = true) (hdg : decode cc pc = .ok (.iastore, 1)) (hp : pc + 1 = pc') (k : wx κ (gGX D ad cy b) A nL σ1 pc' lv st) : wx κ (gGX D ad cy b) A nL σ pc lv (.int x :: .int i :: .ref (ad 36) :: st) :=
  x_iast (G := (gGX D ad cy b)) (k0 := 36) C ev (by show 36 < 213; decide) (fun _ => rfl) rfl h hdg hp k
theorem gXa_50 (C : gC κ cc own (c0 :: gBig) nL (gGX D ad cy b) A rmo) (h : inb i 80 = true) (hdg : decode cc pc = .ok (.iaload, 1)) (hp : pc + 1 = pc') (k : wx κ (gGX D ad cy b) A nL σ pc' lv (.int (σ 50 i.toNatClampNeg) :: st)) : wx κ (gGX D ad cy b) A nL σ pc lv (.int i :: .ref (ad 50) :: st) :=
  x_iald (G := (gGX D ad cy b)) (k0 := 50) C (by show 50 < 213; decide) rfl rfl h hdg hp k
theorem gXs_50 (C : gC κ cc own (c0 :: gBig) nL (gGX D ad cy b) A rmo) (ev : σ1 = gst σ 50 i.toNatClampNeg x) (h : inb i 80 = true) (hdg : decode cc pc = .ok (.iastore, 1)) (hp : pc + 1 = pc') (k : wx κ (gGX D ad cy b) A nL σ1 pc' lv st) : wx κ (gGX D ad cy b) A nL σ pc lv (.int x :: .int i :: .ref (ad 50) :: st) :=
  x_iast (G := (gGX D ad cy b)) (k0 := 50) C ev (by show 50 < 213; decide) (fun _ => rfl) rfl h hdg hp k
theorem gXa_51 (C : gC κ cc own (c0 :: gBig) nL (gGX D ad cy b) A rmo) (h : inb i 8 = true) (hdg : decode cc pc = .ok (.iaload, 1)) (hp : pc + 1 = pc') (k : wx κ (gGX D ad cy b) A nL σ pc' lv (.int (σ 51 i.toNatClampNeg) :: st)) : wx κ (gGX D ad cy b) A nL σ pc lv (.int i :: .ref (ad 51) :: st) :=
  x_iald (G := (gGX D ad cy b)) (k0 := 51) C (by show 51 < 213; decide) rfl rfl h hdg hp k
theorem gXs_51 (C : gC κ cc own (c0 :: gBig) nL (gGX D ad cy b) A rmo) (ev : σ1 = gst σ 51 i.toNatClampNeg x) (h : inb i 8 = true) (hdg : decode cc pc = .ok (.iastore, 1)) (hp : pc + 1 = pc') (k : wx κ (gGX D ad cy b) A nL σ1 pc' lv st) : wx κ (gGX D ad cy b) A nL σ pc lv (.int x :: .int i :: .ref (ad 51) :: st) :=
  x_iast (G := (gGX D ad cy b)) (k0 := 51) C ev (by show 51 < 213; decide) (fun _ => rfl) rfl h hdg hp k
theorem gXa_52 (C : gC κ cc own (c0 :: gBig) nL (gGX D ad cy b) A rmo) (h : inb i 8 = true) (hdg : decode cc pc = .ok (.iaload, 1)) (hp : pc + 1 = pc') (k : wx κ (gGX D ad cy b) A nL σ pc' lv (.int (σ 52 i.toNatClampNeg) :: st)) : wx κ (gGX D ad cy b) A nL σ pc lv (.int i :: .ref (ad 52) :: st) :=
  x_iald (G := (gGX D ad cy b)) (k0 := 52) C (by show 52 < 213; decide) rfl rfl h hdg hp k
theorem gXs_52 (C : gC κ cc own (c0 :: gBig) nL (gGX D ad cy b) A rmo) (ev : σ1 = gst σ 52 i.toNatClampNeg x) (h : inb i 8 = true) (hdg : decode cc pc = .ok (.iastore, 1)) (hp : pc + 1 = pc') (k : wx κ (gGX D ad cy b) A nL σ1 pc' lv st) : wx κ (gGX D ad cy b) A nL σ pc lv (.int x :: .int i :: .ref (ad 52) :: st) :=
  x_iast (G := (gGX D ad cy b)) (k0 := 52) C ev (by show 52 < 213; decide) (fun _ => rfl) rfl h hdg hp k
theorem gXa_53 (C : gC κ cc own (c0 :: gBig) nL (gGX D ad cy b) A rmo) (h : inb i 8 = true) (hdg : decode cc pc = .ok (.iaload, 1)) (hp : pc + 1 = pc') (k : wx κ (gGX D ad cy b) A nL σ pc' lv (.int (σ 53 i.toNatClampNeg) :: st)) : wx κ (gGX D ad cy b) A nL σ pc lv (.int i :: .ref (ad 53) :: st) :=
  x_iald (G := (gGX D ad cy b)) (k0 := 53) C (by show 53 < 213; decide) rfl rfl h hdg hp k
theorem gXs_53 (C : gC κ cc own (c0 :: gBig) nL (gGX D ad cy b) A rmo) (ev : σ1 = gst σ 53 i.toNatClampNeg x) (h : inb i 8 = true) (hdg : decode cc pc = .ok (.iastore, 1)) (hp : pc + 1 = pc') (k : wx κ (gGX D ad cy b) A nL σ1 pc' lv st) : wx κ (gGX D ad cy b) A nL σ pc lv (.int x :: .int i :: .ref (ad 53) :: st) :=
  x_iast (G := (gGX D ad cy b)) (k0 := 53) C ev (by show 53 < 213; decide) (fun _ => rfl) rfl h hdg hp k
theorem gXa_55 (C : gC κ cc own (c0 :: gBig) nL (gGX D ad cy b) A rmo) (h : inb i 12 = true) (hdg : decode cc pc = .ok (.iaload, 1)) (hp : pc + 1 = pc') (k : wx κ (gGX D ad cy b) A nL σ pc' lv (.int (σ 55 i.toNatClampNeg) :: st)) : wx κ (gGX D ad cy b) A nL σ pc lv (.int i :: .ref (ad 55) :: st) :=
  x_iald (G := (gGX D ad cy b)) (k0 := 55) C (by show 55 < 213; decide) rfl rfl h hdg hp k
theorem gXs_55 (C : gC κ cc own (c0 :: gBig) nL (gGX D ad cy b) A rmo) (ev : σ1 = gst σ 55 i.toNatClampNeg x) (h : inb i 12 = true) (hdg : decode cc pc = .ok (.iastore, 1)) (hp : pc + 1 = pc') (k : wx κ (gGX D ad cy b) A nL σ1 pc' lv st) : wx κ (gGX D ad cy b) A nL σ pc lv (.int x :: .int i :: .ref (ad 55) :: st) :=
  x_iast (G := (gGX D ad cy b)) (k0 := 55) C ev (by show 55 < 213; decide) (fun _ => rfl) rfl h hdg hp k
theorem gXa_56 (C : gC κ cc own (c0 :: gBig) nL (gGX D ad cy b) A rmo) (h : inb i 8 = true) (hdg : decode cc pc = .ok (.iaload, 1)) (hp : pc + 1 = pc') (k : wx κ (gGX D ad cy b) A nL σ pc' lv (.int (σ 56 i.toNatClampNeg) :: st)) : wx κ (gGX D ad cy b) A nL σ pc lv (.int i :: .ref (ad 56) :: st) :=
  x_iald (G := (gGX D ad cy b)) (k0 := 56) C (by show 56 < 213; decide) rfl rfl h hdg hp k
theorem gXs_56 (C : gC κ cc own (c0 :: gBig) nL (gGX D ad cy b) A rmo) (ev : σ1 = gst σ 56 i.toNatClampNeg x) (h : inb i 8 = true) (hdg : decode cc pc = .ok (.iastore, 1)) (hp : pc + 1 = pc') (k : wx κ (gGX D ad cy b) A nL σ1 pc' lv st) : wx κ (gGX D ad cy b) A nL σ pc lv (.int x :: .int i :: .ref (ad 56) :: st) :=
  x_iast (G := (gGX D ad cy b)) (k0 := 56) C ev (by show 56 < 213; decide) (fun _ => rfl) rfl h hdg hp k
theorem gXa_59 (C : gC κ cc own (c0 :: gBig) nL (gGX D ad cy b) A rmo) (h : inb i 12 = true) (hdg : decode cc pc = .ok (.iaload, 1)) (hp : pc + 1 = pc') (k : wx κ (gGX D ad cy b) A nL σ pc' lv (.int (σ 59 i.toNatClampNeg) :: st)) : wx κ (gGX D ad cy b) A nL σ pc lv (.int i :: .ref (ad 59) :: st) :=
  x_iald (G := (gGX D ad cy b)) (k0 := 59) C (by show 59 < 213; decide) rfl rfl h hdg hp k
theorem gXs_59 (C : gC κ cc own (c0 :: gBig) nL (gGX D ad cy b) A rmo) (ev : σ1 = gst σ 59 i.toNatClampNeg x) (h : inb i 12 = true) (hdg : decode cc pc = .ok (.iastore, 1)) (hp : pc + 1 = pc') (k : wx κ (gGX D ad cy b) A nL σ1 pc' lv st) : wx κ (gGX D ad cy b) A nL σ pc lv (.int x :: .int i :: .ref (ad 59) :: st) :=
  x_iast (G := (gGX D ad cy b)) (k0 := 59) C ev (by show 59 < 213; decide) (fun _ => rfl) rfl h hdg hp k
theorem gXa_60 (C : gC κ cc own (c0 :: gBig) nL (gGX D ad cy b) A rmo) (h : inb i 144 = true) (hdg : decode cc pc = .ok (.iaload, 1)) (hp : pc + 1 = pc') (k : wx κ (gGX D ad cy b) A nL σ pc' lv (.int (σ 60 i.toNatClampNeg) :: st)) : wx κ (gGX D ad cy b) A nL σ pc lv (.int i :: .ref (ad 60) :: st) :=
  x_iald (G := (gGX D ad cy b)) (k0 := 60) C (by show 60 < 213; decide) rfl rfl h hdg hp k
theorem gXs_60 (C : gC κ cc own (c0 :: gBig) nL (gGX D ad cy b) A rmo) (ev : σ1 = gst σ 60 i.toNatClampNeg x) (h : inb i 144 = true) (hdg : decode cc pc = .ok (.iastore, 1)) (hp : pc + 1 = pc') (k : wx κ (gGX D ad cy b) A nL σ1 pc' lv st) : wx κ (gGX D ad cy b) A nL σ pc lv (.int x :: .int i :: .ref (ad 60) :: st) :=
  x_iast (G := (gGX D ad cy b)) (k0 := 60) C ev (by show 60 < 213; decide) (fun _ => rfl) rfl h hdg hp k
theorem gXa_61 (C : gC κ cc own (c0 :: gBig) nL (gGX D ad cy b) A rmo) (h : inb i 144 = true) (hdg : decode cc pc = .ok (.iaload, 1)) (hp : pc + 1 = pc') (k : wx κ (gGX D ad cy b) A nL σ pc' lv (.int (σ 61 i.toNatClampNeg) :: st)) : wx κ (gGX D ad cy b) A nL σ pc lv (.int i :: .ref (ad 61) :: st) :=
  x_iald (G := (gGX D ad cy b)) (k0 := 61) C (by show 61 < 213; decide) rfl rfl h hdg hp k
theorem gXs_61 (C : gC κ cc own (c0 :: gBig) nL (gGX D ad cy b) A rmo) (ev : σ1 = gst σ 61 i.toNatClampNeg x) (h : inb i 144 = true) (hdg : decode cc pc = .ok (.iastore, 1)) (hp : pc + 1 = pc') (k : wx κ (gGX D ad cy b) A nL σ1 pc' lv st) : wx κ (gGX D ad cy b) A nL σ pc lv (.int x :: .int i :: .ref (ad 61) :: st) :=
  x_iast (G := (gGX D ad cy b)) (k0 := 61) C ev (by show 61 < 213; decide) (fun _ => rfl) rfl h hdg hp k
theorem gXa_62 (C : gC κ cc own (c0 :: gBig) nL (gGX D ad cy b) A rmo) (h : inb i 144 = true) (hdg : decode cc pc = .ok (.iaload, 1)) (hp : pc + 1 = pc') (k : wx κ (gGX D ad cy b) A nL σ pc' lv (.int (σ 62 i.toNatClampNeg) :: st)) : wx κ (gGX D ad cy b) A nL σ pc lv (.int i :: .ref (ad 62) :: st) :=
  x_iald (G := (gGX D ad cy b)) (k0 := 62) C (by show 62 < 213; decide) rfl rfl h hdg hp k
theorem gXs_62 (C : gC κ cc own (c0 :: gBig) nL (gGX D ad cy b) A rmo) (ev : σ1 = gst σ 62 i.toNatClampNeg x) (h : inb i 144 = true) (hdg : decode cc pc = .ok (.iastore, 1)) (hp : pc + 1 = pc') (k : wx κ (gGX D ad cy b) A nL σ1 pc' lv st) : wx κ (gGX D ad cy b) A nL σ pc lv (.int x :: .int i :: .ref (ad 62) :: st) :=
  x_iast (G := (gGX D ad cy b)) (k0 := 62) C ev (by show 62 < 213; decide) (fun _ => rfl) rfl h hdg hp k
theorem gXa_137 (C : gC κ cc own (c0 :: gBig) nL (gGX D ad cy b) A rmo) (h : inb i 61 = true) (hdg : decode cc pc = .ok (.iaload, 1)) (hp : pc + 1 = pc') (k : wx κ (gGX D ad cy b) A nL σ pc' lv (.int (σ 137 i.toNatClampNeg) :: st)) : wx κ (gGX D ad cy b) A nL σ pc lv (.int i :: .ref (ad 137) :: st) :=
  x_iald (G := (gGX D ad cy b)) (k0 := 137) C (by show 137 < 213; decide) rfl rfl h hdg hp k
theorem gXs_137 (C : gC κ cc own (c0 :: gBig) nL (gGX D ad cy b) A rmo) (ev : σ1 = gst σ 137 i.toNatClampNeg x) (h : inb i 61 = true) (hdg : decode cc pc = .ok (.iastore, 1)) (hp : pc + 1 = pc') (k : wx κ (gGX D ad cy b) A nL σ1 pc' lv st) : wx κ (gGX D ad cy b) A nL σ pc lv (.int x :: .int i :: .ref (ad 137) :: st) :=
  x_iast (G := (gGX D ad cy b)) (k0 := 137) C ev (by show 137 < 213; decide) (fun _ => rfl) rfl h hdg hp k
theorem gXa_202 (C : gC κ cc own (c0 :: gBig) nL (gGX D ad cy b) A rmo) (h : inb i 8 = true) (hdg : decode cc pc = .ok (.iaload, 1)) (hp : pc + 1 = pc') (k : wx κ (gGX D ad cy b) A nL σ pc' lv (.int (σ 202 i.toNatClampNeg) :: st)) : wx κ (gGX D ad cy b) A nL σ pc lv (.int i :: .ref (ad 202) :: st) :=
  x_iald (G := (gGX D ad cy b)) (k0 := 202) C (by show 202 < 213; decide) rfl rfl h hdg hp k
theorem gXs_202 (C : gC κ cc own (c0 :: gBig) nL (gGX D ad cy b) A rmo) (ev : σ1 = gst σ 202 i.toNatClampNeg x) (h : inb i 8 = true) (hdg : decode cc pc = .ok (.iastore, 1)) (hp : pc + 1 = pc') (k : wx κ (gGX D ad cy b) A nL σ1 pc' lv st) : wx κ (gGX D ad cy b) A nL σ pc lv (.int x :: .int i :: .ref (ad 202) :: st) :=
  x_iast (G := (gGX D ad cy b)) (k0 := 202) C ev (by show 202 < 213; decide) (fun _ => rfl) rfl h hdg hp k
theorem gXa_203 (C : gC κ cc own (c0 :: gBig) nL (gGX D ad cy b) A rmo) (h : inb i 256 = true) (hdg : decode cc pc = .ok (.iaload, 1)) (hp : pc + 1 = pc') (k : wx κ (gGX D ad cy b) A nL σ pc' lv (.int (σ 203 i.toNatClampNeg) :: st)) : wx κ (gGX D ad cy b) A nL σ pc lv (.int i :: .ref (ad 203) :: st) :=
  x_iald (G := (gGX D ad cy b)) (k0 := 203) C (by show 203 < 213; decide) rfl rfl h hdg hp k
theorem gXs_203 (C : gC κ cc own (c0 :: gBig) nL (gGX D ad cy b) A rmo) (ev : σ1 = gst σ 203 i.toNatClampNeg x) (h : inb i 256 = true) (hdg : decode cc pc = .ok (.iastore, 1)) (hp : pc + 1 = pc') (k : wx κ (gGX D ad cy b) A nL σ1 pc' lv st) : wx κ (gGX D ad cy b) A nL σ pc lv (.int x :: .int i :: .ref (ad 203) :: st) :=
  x_iast (G := (gGX D ad cy b)) (k0 := 203) C ev (by show 203 < 213; decide) (fun _ => rfl) rfl h hdg hp k
theorem gMg_0_z (C : gC κ cc own (c0 :: gBig) nL (gGM D ad cy b) A rmo) (hlink : Cond.fieldLink own index RX7 "z" "[I" ∈ gBig) (hdg : decode cc pc = .ok (.getfield index, 3)) (hp : pc + 3 = pc') (k : wx κ (gGM D ad cy b) A nL σ pc' lv (.ref (ad 1) :: st)) : wx κ (gGM D ad cy b) A nL σ pc lv (.ref (ad 0) :: st) :=
  x_get (G := (gGM D ad cy b)) (k0 := 0) (ci := 7) (j := 0) (N := 20) (Cn := RX7) (T := TX7) C (by show 0 < 14; decide) rfl rfl (fun w h => gBc (inB7 w h)) (by decide) rfl (gBc hlink) hdg hp k
theorem gMg_0_isKept (C : gC κ cc own (c0 :: gBig) nL (gGM D ad cy b) A rmo) (hlink : Cond.fieldLink own index RX7 "isKept" "Z" ∈ gBig) (hdg : decode cc pc = .ok (.getfield index, 3)) (hp : pc + 3 = pc') (k : wx κ (gGM D ad cy b) A nL σ pc' lv (.int (σ 0 1) :: st)) : wx κ (gGM D ad cy b) A nL σ pc lv (.ref (ad 0) :: st) :=
  x_get (G := (gGM D ad cy b)) (k0 := 0) (ci := 7) (j := 1) (N := 20) (Cn := RX7) (T := TX7) C (by show 0 < 14; decide) rfl rfl (fun w h => gBc (inB7 w h)) (by decide) rfl (gBc hlink) hdg hp k
theorem gMp_0_isKept (C : gC κ cc own (c0 :: gBig) nL (gGM D ad cy b) A rmo) (ev : σ1 = gst σ 0 1 x) (hz : narrow .boolean (.int x) = .int x) (hz2 : fits .boolean (.int x) = true) (hlink : Cond.fieldLink own index RX7 "isKept" "Z" ∈ gBig) (hdg : decode cc pc = .ok (.putfield index, 3)) (hp : pc + 3 = pc') (k : wx κ (gGM D ad cy b) A nL σ1 pc' lv st) : wx κ (gGM D ad cy b) A nL σ pc lv (.int x :: .ref (ad 0) :: st) :=
  x_put (G := (gGM D ad cy b)) (k0 := 0) (ci := 7) (j := 1) (N := 20) (Cn := RX7) (T := TX7) C ev (by show 0 < 14; decide) rfl rfl rfl (fun w h => gBc (inB7 w h)) tyX7 tyX7_ok nmX7 (by decide) rfl (tyX7_ok 1 (by decide)) hz hz2 (by show 1 < 20; decide) (gBc hlink) hdg hp k
theorem gMg_0_tape (C : gC κ cc own (c0 :: gBig) nL (gGM D ad cy b) A rmo) (hlink : Cond.fieldLink own index RX7 "tape" "[I" ∈ gBig) (hdg : decode cc pc = .ok (.getfield index, 3)) (hp : pc + 3 = pc') (k : wx κ (gGM D ad cy b) A nL σ pc' lv (.ref (ad 2) :: st)) : wx κ (gGM D ad cy b) A nL σ pc lv (.ref (ad 0) :: st) :=
  x_get (G := (gGM D ad cy b)) (k0 := 0) (ci := 7) (j := 2) (N := 20) (Cn := RX7) (T := TX7) C (by show 0 < 14; decide) rfl rfl (fun w h => gBc (inB7 w h)) (by decide) rfl (gBc hlink) hdg hp k
theorem gMg_0_taped (C : gC κ cc own (c0 :: gBig) nL (gGM D ad cy b) A rmo) (hlink : Cond.fieldLink own index RX7 "taped" "I" ∈ gBig) (hdg : decode cc pc = .ok (.getfield index, 3)) (hp : pc + 3 = pc') (k : wx κ (gGM D ad cy b) A nL σ pc' lv (.int (σ 0 3) :: st)) : wx κ (gGM D ad cy b) A nL σ pc lv (.ref (ad 0) :: st) :=
  x_get (G := (gGM D ad cy b)) (k0 := 0) (ci := 7) (j := 3) (N := 20) (Cn := RX7) (T := TX7) C (by show 0 < 14; decide) rfl rfl (fun w h => gBc (inB7 w h)) (by decide) rfl (gBc hlink) hdg hp k
theorem gMp_0_taped (C : gC κ cc own (c0 :: gBig) nL (gGM D ad cy b) A rmo) (ev : σ1 = gst σ 0 3 x) (hlink : Cond.fieldLink own index RX7 "taped" "I" ∈ gBig) (hdg : decode cc pc = .ok (.putfield index, 3)) (hp : pc + 3 = pc') (k : wx κ (gGM D ad cy b) A nL σ1 pc' lv st) : wx κ (gGM D ad cy b) A nL σ pc lv (.int x :: .ref (ad 0) :: st) :=
  x_put (G := (gGM D ad cy b)) (k0 := 0) (ci := 7) (j := 3) (N := 20) (Cn := RX7) (T := TX7) C ev (by show 0 < 14; decide) rfl rfl rfl (fun w h => gBc (inB7 w h)) tyX7 tyX7_ok nmX7 (by decide) rfl (tyX7_ok 3 (by decide)) rfl rfl (by show 3 < 20; decide) (gBc hlink) hdg hp k
theorem gMg_0_at (C : gC κ cc own (c0 :: gBig) nL (gGM D ad cy b) A rmo) (hlink : Cond.fieldLink own index RX7 "at" "I" ∈ gBig) (hdg : decode cc pc = .ok (.getfield index, 3)) (hp : pc + 3 = pc') (k : wx κ (gGM D ad cy b) A nL σ pc' lv (.int (σ 0 4) :: st)) : wx κ (gGM D ad cy b) A nL σ pc lv (.ref (ad 0) :: st) :=
  x_get (G := (gGM D ad cy b)) (k0 := 0) (ci := 7) (j := 4) (N := 20) (Cn := RX7) (T := TX7) C (by show 0 < 14; decide) rfl rfl (fun w h => gBc (inB7 w h)) (by decide) rfl (gBc hlink) hdg hp k
theorem gMp_0_at (C : gC κ cc own (c0 :: gBig) nL (gGM D ad cy b) A rmo) (ev : σ1 = gst σ 0 4 x) (hlink : Cond.fieldLink own index RX7 "at" "I" ∈ gBig) (hdg : decode cc pc = .ok (.putfield index, 3)) (hp : pc + 3 = pc') (k : wx κ (gGM D ad cy b) A nL σ1 pc' lv st) : wx κ (gGM D ad cy b) A nL σ pc lv (.int x :: .ref (ad 0) :: st) :=
  x_put (G := (gGM D ad cy b)) (k0 := 0) (ci := 7) (j := 4) (N := 20) (Cn := RX7) (T := TX7) C ev (by show 0 < 14; decide) rfl rfl rfl (fun w h => gBc (inB7 w h)) tyX7 tyX7_ok nmX7 (by decide) rfl (tyX7_ok 4 (by decide)) rfl rfl (by show 4 < 20; decide) (gBc hlink) hdg hp k
theorem gMg_0_fault (C : gC κ cc own (c0 :: gBig) nL (gGM D ad cy b) A rmo) (hlink : Cond.fieldLink own index RX7 "fault" "I" ∈ gBig) (hdg : decode cc pc = .ok (.getfield index, 3)) (hp : pc + 3 = pc') (k : wx κ (gGM D ad cy b) A nL σ pc' lv (.int (σ 0 5) :: st)) : wx κ (gGM D ad cy b) A nL σ pc lv (.ref (ad 0) :: st) :=
  x_get (G := (gGM D ad cy b)) (k0 := 0) (ci := 7) (j := 5) (N := 20) (Cn := RX7) (T := TX7) C (by show 0 < 14; decide) rfl rfl (fun w h => gBc (inB7 w h)) (by decide) rfl (gBc hlink) hdg hp k
theorem gMp_0_fault (C : gC κ cc own (c0 :: gBig) nL (gGM D ad cy b) A rmo) (ev : σ1 = gst σ 0 5 x) (hlink : Cond.fieldLink own index RX7 "fault" "I" ∈ gBig) (hdg : decode cc pc = .ok (.putfield index, 3)) (hp : pc + 3 = pc') (k : wx κ (gGM D ad cy b) A nL σ1 pc' lv st) : wx κ (gGM D ad cy b) A nL σ pc lv (.int x :: .ref (ad 0) :: st) :=
  x_put (G := (gGM D ad cy b)) (k0 := 0) (ci := 7) (j := 5) (N := 20) (Cn := RX7) (T := TX7) C ev (by show 0 < 14; decide) rfl rfl rfl (fun w h => gBc (inB7 w h)) tyX7 tyX7_ok nmX7 (by decide) rfl (tyX7_ok 5 (by decide)) rfl rfl (by show 5 < 20; decide) (gBc hlink) hdg hp k
theorem gMg_0_found (C : gC κ cc own (c0 :: gBig) nL (gGM D ad cy b) A rmo) (hlink : Cond.fieldLink own index RX7 "found" "I" ∈ gBig) (hdg : decode cc pc = .ok (.getfield index, 3)) (hp : pc + 3 = pc') (k : wx κ (gGM D ad cy b) A nL σ pc' lv (.int (σ 0 6) :: st)) : wx κ (gGM D ad cy b) A nL σ pc lv (.ref (ad 0) :: st) :=
  x_get (G := (gGM D ad cy b)) (k0 := 0) (ci := 7) (j := 6) (N := 20) (Cn := RX7) (T := TX7) C (by show 0 < 14; decide) rfl rfl (fun w h => gBc (inB7 w h)) (by decide) rfl (gBc hlink) hdg hp k
theorem gMp_0_found (C : gC κ cc own (c0 :: gBig) nL (gGM D ad cy b) A rmo) (ev : σ1 = gst σ 0 6 x) (hlink : Cond.fieldLink own index RX7 "found" "I" ∈ gBig) (hdg : decode cc pc = .ok (.putfield index, 3)) (hp : pc + 3 = pc') (k : wx κ (gGM D ad cy b) A nL σ1 pc' lv st) : wx κ (gGM D ad cy b) A nL σ pc lv (.int x :: .ref (ad 0) :: st) :=
  x_put (G := (gGM D ad cy b)) (k0 := 0) (ci := 7) (j := 6) (N := 20) (Cn := RX7) (T := TX7) C ev (by show 0 < 14; decide) rfl rfl rfl (fun w h => gBc (inB7 w h)) tyX7 tyX7_ok nmX7 (by decide) rfl (tyX7_ok 6 (by decide)) rfl rfl (by show 6 < 20; decide) (gBc hlink) hdg hp k
theorem gMg_0_told (C : gC κ cc own (c0 :: gBig) nL (gGM D ad cy b) A rmo) (hlink : Cond.fieldLink own index RX7 "told" "[I" ∈ gBig) (hdg : decode cc pc = .ok (.getfield index, 3)) (hp : pc + 3 = pc') (k : wx κ (gGM D ad cy b) A nL σ pc' lv (.ref (ad 3) :: st)) : wx κ (gGM D ad cy b) A nL σ pc lv (.ref (ad 0) :: st) :=
  x_get (G := (gGM D ad cy b)) (k0 := 0) (ci := 7) (j := 7) (N := 20) (Cn := RX7) (T := TX7) C (by show 0 < 14; decide) rfl rfl (fun w h => gBc (inB7 w h)) (by decide) rfl (gBc hlink) hdg hp k
theorem gMg_0_items (C : gC κ cc own (c0 :: gBig) nL (gGM D ad cy b) A rmo) (hlink : Cond.fieldLink own index RX7 "items" "[I" ∈ gBig) (hdg : decode cc pc = .ok (.getfield index, 3)) (hp : pc + 3 = pc') (k : wx κ (gGM D ad cy b) A nL σ pc' lv (.ref (ad 4) :: st)) : wx κ (gGM D ad cy b) A nL σ pc lv (.ref (ad 0) :: st) :=
  x_get (G := (gGM D ad cy b)) (k0 := 0) (ci := 7) (j := 8) (N := 20) (Cn := RX7) (T := TX7) C (by show 0 < 14; decide) rfl rfl (fun w h => gBc (inB7 w h)) (by decide) rfl (gBc hlink) hdg hp k
theorem gMg_0_lanes (C : gC κ cc own (c0 :: gBig) nL (gGM D ad cy b) A rmo) (hlink : Cond.fieldLink own index RX7 "lanes" "[I" ∈ gBig) (hdg : decode cc pc = .ok (.getfield index, 3)) (hp : pc + 3 = pc') (k : wx κ (gGM D ad cy b) A nL σ pc' lv (.ref (ad 5) :: st)) : wx κ (gGM D ad cy b) A nL σ pc lv (.ref (ad 0) :: st) :=
  x_get (G := (gGM D ad cy b)) (k0 := 0) (ci := 7) (j := 9) (N := 20) (Cn := RX7) (T := TX7) C (by show 0 < 14; decide) rfl rfl (fun w h => gBc (inB7 w h)) (by decide) rfl (gBc hlink) hdg hp k
theorem gMg_0_sizes (C : gC κ cc own (c0 :: gBig) nL (gGM D ad cy b) A rmo) (hlink : Cond.fieldLink own index RX7 "sizes" "[I" ∈ gBig) (hdg : decode cc pc = .ok (.getfield index, 3)) (hp : pc + 3 = pc') (k : wx κ (gGM D ad cy b) A nL σ pc' lv (.ref (ad 6) :: st)) : wx κ (gGM D ad cy b) A nL σ pc lv (.ref (ad 0) :: st) :=
  x_get (G := (gGM D ad cy b)) (k0 := 0) (ci := 7) (j := 10) (N := 20) (Cn := RX7) (T := TX7) C (by show 0 < 14; decide) rfl rfl (fun w h => gBc (inB7 w h)) (by decide) rfl (gBc hlink) hdg hp k
theorem gMg_0_moved (C : gC κ cc own (c0 :: gBig) nL (gGM D ad cy b) A rmo) (hlink : Cond.fieldLink own index RX7 "moved" "[I" ∈ gBig) (hdg : decode cc pc = .ok (.getfield index, 3)) (hp : pc + 3 = pc') (k : wx κ (gGM D ad cy b) A nL σ pc' lv (.ref (ad 7) :: st)) : wx κ (gGM D ad cy b) A nL σ pc lv (.ref (ad 0) :: st) :=
  x_get (G := (gGM D ad cy b)) (k0 := 0) (ci := 7) (j := 11) (N := 20) (Cn := RX7) (T := TX7) C (by show 0 < 14; decide) rfl rfl (fun w h => gBc (inB7 w h)) (by decide) rfl (gBc hlink) hdg hp k
theorem gMg_0_is (C : gC κ cc own (c0 :: gBig) nL (gGM D ad cy b) A rmo) (hlink : Cond.fieldLink own index RX7 "is" "[Z" ∈ gBig) (hdg : decode cc pc = .ok (.getfield index, 3)) (hp : pc + 3 = pc') (k : wx κ (gGM D ad cy b) A nL σ pc' lv (.ref (ad 8) :: st)) : wx κ (gGM D ad cy b) A nL σ pc lv (.ref (ad 0) :: st) :=
  x_get (G := (gGM D ad cy b)) (k0 := 0) (ci := 7) (j := 12) (N := 20) (Cn := RX7) (T := TX7) C (by show 0 < 14; decide) rfl rfl (fun w h => gBc (inB7 w h)) (by decide) rfl (gBc hlink) hdg hp k
theorem gMg_0_comes (C : gC κ cc own (c0 :: gBig) nL (gGM D ad cy b) A rmo) (hlink : Cond.fieldLink own index RX7 "comes" "[Z" ∈ gBig) (hdg : decode cc pc = .ok (.getfield index, 3)) (hp : pc + 3 = pc') (k : wx κ (gGM D ad cy b) A nL σ pc' lv (.ref (ad 9) :: st)) : wx κ (gGM D ad cy b) A nL σ pc lv (.ref (ad 0) :: st) :=
  x_get (G := (gGM D ad cy b)) (k0 := 0) (ci := 7) (j := 13) (N := 20) (Cn := RX7) (T := TX7) C (by show 0 < 14; decide) rfl rfl (fun w h => gBc (inB7 w h)) (by decide) rfl (gBc hlink) hdg hp k
theorem gMg_0_soon (C : gC κ cc own (c0 :: gBig) nL (gGM D ad cy b) A rmo) (hlink : Cond.fieldLink own index RX7 "soon" "I" ∈ gBig) (hdg : decode cc pc = .ok (.getfield index, 3)) (hp : pc + 3 = pc') (k : wx κ (gGM D ad cy b) A nL σ pc' lv (.int (σ 0 14) :: st)) : wx κ (gGM D ad cy b) A nL σ pc lv (.ref (ad 0) :: st) :=
  x_get (G := (gGM D ad cy b)) (k0 := 0) (ci := 7) (j := 14) (N := 20) (Cn := RX7) (T := TX7) C (by show 0 < 14; decide) rfl rfl (fun w h => gBc (inB7 w h)) (by decide) rfl (gBc hlink) hdg hp k
theorem gMp_0_soon (C : gC κ cc own (c0 :: gBig) nL (gGM D ad cy b) A rmo) (ev : σ1 = gst σ 0 14 x) (hlink : Cond.fieldLink own index RX7 "soon" "I" ∈ gBig) (hdg : decode cc pc = .ok (.putfield index, 3)) (hp : pc + 3 = pc') (k : wx κ (gGM D ad cy b) A nL σ1 pc' lv st) : wx κ (gGM D ad cy b) A nL σ pc lv (.int x :: .ref (ad 0) :: st) :=
  x_put (G := (gGM D ad cy b)) (k0 := 0) (ci := 7) (j := 14) (N := 20) (Cn := RX7) (T := TX7) C ev (by show 0 < 14; decide) rfl rfl rfl (fun w h => gBc (inB7 w h)) tyX7 tyX7_ok nmX7 (by decide) rfl (tyX7_ok 14 (by decide)) rfl rfl (by show 14 < 20; decide) (gBc hlink) hdg hp k
theorem gMg_0_light (C : gC κ cc own (c0 :: gBig) nL (gGM D ad cy b) A rmo) (hlink : Cond.fieldLink own index RX7 "light" "I" ∈ gBig) (hdg : decode cc pc = .ok (.getfield index, 3)) (hp : pc + 3 = pc') (k : wx κ (gGM D ad cy b) A nL σ pc' lv (.int (σ 0 15) :: st)) : wx κ (gGM D ad cy b) A nL σ pc lv (.ref (ad 0) :: st) :=
  x_get (G := (gGM D ad cy b)) (k0 := 0) (ci := 7) (j := 15) (N := 20) (Cn := RX7) (T := TX7) C (by show 0 < 14; decide) rfl rfl (fun w h => gBc (inB7 w h)) (by decide) rfl (gBc hlink) hdg hp k
theorem gMp_0_light (C : gC κ cc own (c0 :: gBig) nL (gGM D ad cy b) A rmo) (ev : σ1 = gst σ 0 15 x) (hlink : Cond.fieldLink own index RX7 "light" "I" ∈ gBig) (hdg : decode cc pc = .ok (.putfield index, 3)) (hp : pc + 3 = pc') (k : wx κ (gGM D ad cy b) A nL σ1 pc' lv st) : wx κ (gGM D ad cy b) A nL σ pc lv (.int x :: .ref (ad 0) :: st) :=
  x_put (G := (gGM D ad cy b)) (k0 := 0) (ci := 7) (j := 15) (N := 20) (Cn := RX7) (T := TX7) C ev (by show 0 < 14; decide) rfl rfl rfl (fun w h => gBc (inB7 w h)) tyX7 tyX7_ok nmX7 (by decide) rfl (tyX7_ok 15 (by decide)) rfl rfl (by show 15 < 20; decide) (gBc hlink) hdg hp k
theorem gMg_0_more (C : gC κ cc own (c0 :: gBig) nL (gGM D ad cy b) A rmo) (hlink : Cond.fieldLink own index RX7 "more" "[I" ∈ gBig) (hdg : decode cc pc = .ok (.getfield index, 3)) (hp : pc + 3 = pc') (k : wx κ (gGM D ad cy b) A nL σ pc' lv (.ref (ad 10) :: st)) : wx κ (gGM D ad cy b) A nL σ pc lv (.ref (ad 0) :: st) :=
  x_get (G := (gGM D ad cy b)) (k0 := 0) (ci := 7) (j := 16) (N := 20) (Cn := RX7) (T := TX7) C (by show 0 < 14; decide) rfl rfl (fun w h => gBc (inB7 w h)) (by decide) rfl (gBc hlink) hdg hp k
theorem gMg_0_helps (C : gC κ cc own (c0 :: gBig) nL (gGM D ad cy b) A rmo) (hlink : Cond.fieldLink own index RX7 "helps" "[I" ∈ gBig) (hdg : decode cc pc = .ok (.getfield index, 3)) (hp : pc + 3 = pc') (k : wx κ (gGM D ad cy b) A nL σ pc' lv (.ref (ad 11) :: st)) : wx κ (gGM D ad cy b) A nL σ pc lv (.ref (ad 0) :: st) :=
  x_get (G := (gGM D ad cy b)) (k0 := 0) (ci := 7) (j := 17) (N := 20) (Cn := RX7) (T := TX7) C (by show 0 < 14; decide) rfl rfl (fun w h => gBc (inB7 w h)) (by decide) rfl (gBc hlink) hdg hp k
theorem gMg_0_most (C : gC κ cc own (c0 :: gBig) nL (gGM D ad cy b) A rmo) (hlink : Cond.fieldLink own index RX7 "most" "[I" ∈ gBig) (hdg : decode cc pc = .ok (.getfield index, 3)) (hp : pc + 3 = pc') (k : wx κ (gGM D ad cy b) A nL σ pc' lv (.ref (ad 12) :: st)) : wx κ (gGM D ad cy b) A nL σ pc lv (.ref (ad 0) :: st) :=
  x_get (G := (gGM D ad cy b)) (k0 := 0) (ci := 7) (j := 18) (N := 20) (Cn := RX7) (T := TX7) C (by show 0 < 14; decide) rfl rfl (fun w h => gBc (inB7 w h)) (by decide) rfl (gBc hlink) hdg hp k
theorem gMg_0_given (C : gC κ cc own (c0 :: gBig) nL (gGM D ad cy b) A rmo) (hlink : Cond.fieldLink own index RX7 "given" "[I" ∈ gBig) (hdg : decode cc pc = .ok (.getfield index, 3)) (hp : pc + 3 = pc') (k : wx κ (gGM D ad cy b) A nL σ pc' lv (.ref (ad 13) :: st)) : wx κ (gGM D ad cy b) A nL σ pc lv (.ref (ad 0) :: st) :=
  x_get (G := (gGM D ad cy b)) (k0 := 0) (ci := 7) (j := 19) (N := 20) (Cn := RX7) (T := TX7) C (by show 0 < 14; decide) rfl rfl (fun w h => gBc (inB7 w h)) (by decide) rfl (gBc hlink) hdg hp k
theorem gMa_1 (C : gC κ cc own (c0 :: gBig) nL (gGM D ad cy b) A rmo) (h : inb i 528 = true) (hdg : decode cc pc = .ok (.iaload, 1)) (hp : pc + 1 = pc') (k : wx κ (gGM D ad cy b) A nL σ pc' lv (.int (σ 1 i.toNatClampNeg) :: st)) : wx κ (gGM D ad cy b) A nL σ pc lv (.int i :: .ref (ad 1) :: st) :=
  x_iald (G := (gGM D ad cy b)) (k0 := 1) C (by show 1 < 14; decide) rfl rfl h hdg hp k
theorem gMs_1 (C : gC κ cc own (c0 :: gBig) nL (gGM D ad cy b) A rmo) (ev : σ1 = gst σ 1 i.toNatClampNeg x) (h : inb i 528 = true) (hdg : decode cc pc = .ok (.iastore, 1)) (hp : pc + 1 = pc') (k : wx κ (gGM D ad cy b) A nL σ1 pc' lv st) : wx κ (gGM D ad cy b) A nL σ pc lv (.int x :: .int i :: .ref (ad 1) :: st) :=
  x_iast (G := (gGM D ad cy b)) (k0 := 1) C ev (by show 1 < 14; decide) (fun _ => rfl) rfl h hdg hp k
theorem gMa_2 (C : gC κ cc own (c0 :: gBig) nL (gGM D ad cy b) A rmo) (h : inb i 80 = true) (hdg : decode cc pc = .ok (.iaload, 1)) (hp : pc + 1 = pc') (k : wx κ (gGM D ad cy b) A nL σ pc' lv (.int (σ 2 i.toNatClampNeg) :: st)) : wx κ (gGM D ad cy b) A nL σ pc lv (.int i :: .ref (ad 2) :: st) :=
  x_iald (G := (gGM D ad cy b)) (k0 := 2) C (by show 2 < 14; decide) rfl rfl h hdg hp k
theorem gMs_2 (C : gC κ cc own (c0 :: gBig) nL (gGM D ad cy b) A rmo) (ev : σ1 = gst σ 2 i.toNatClampNeg x) (h : inb i 80 = true) (hdg : decode cc pc = .ok (.iastore, 1)) (hp : pc + 1 = pc') (k : wx κ (gGM D ad cy b) A nL σ1 pc' lv st) : wx κ (gGM D ad cy b) A nL σ pc lv (.int x :: .int i :: .ref (ad 2) :: st) :=
  x_iast (G := (gGM D ad cy b)) (k0 := 2) C ev (by show 2 < 14; decide) (fun _ => rfl) rfl h hdg hp k
theorem gMa_3 (C : gC κ cc own (c0 :: gBig) nL (gGM D ad cy b) A rmo) (h : inb i 24 = true) (hdg : decode cc pc = .ok (.iaload, 1)) (hp : pc + 1 = pc') (k : wx κ (gGM D ad cy b) A nL σ pc' lv (.int (σ 3 i.toNatClampNeg) :: st)) : wx κ (gGM D ad cy b) A nL σ pc lv (.int i :: .ref (ad 3) :: st) :=
  x_iald (G := (gGM D ad cy b)) (k0 := 3) C (by show 3 < 14; decide) rfl rfl h hdg hp k
theorem gMs_3 (C : gC κ cc own (c0 :: gBig) nL (gGM D ad cy b) A rmo) (ev : σ1 = gst σ 3 i.toNatClampNeg x) (h : inb i 24 = true) (hdg : decode cc pc = .ok (.iastore, 1)) (hp : pc + 1 = pc') (k : wx κ (gGM D ad cy b) A nL σ1 pc' lv st) : wx κ (gGM D ad cy b) A nL σ pc lv (.int x :: .int i :: .ref (ad 3) :: st) :=
  x_iast (G := (gGM D ad cy b)) (k0 := 3) C ev (by show 3 < 14; decide) (fun _ => rfl) rfl h hdg hp k
theorem gMa_4 (C : gC κ cc own (c0 :: gBig) nL (gGM D ad cy b) A rmo) (h : inb i 96 = true) (hdg : decode cc pc = .ok (.iaload, 1)) (hp : pc + 1 = pc') (k : wx κ (gGM D ad cy b) A nL σ pc' lv (.int (σ 4 i.toNatClampNeg) :: st)) : wx κ (gGM D ad cy b) A nL σ pc lv (.int i :: .ref (ad 4) :: st) :=
  x_iald (G := (gGM D ad cy b)) (k0 := 4) C (by show 4 < 14; decide) rfl rfl h hdg hp k
theorem gMs_4 (C : gC κ cc own (c0 :: gBig) nL (gGM D ad cy b) A rmo) (ev : σ1 = gst σ 4 i.toNatClampNeg x) (h : inb i 96 = true) (hdg : decode cc pc = .ok (.iastore, 1)) (hp : pc + 1 = pc') (k : wx κ (gGM D ad cy b) A nL σ1 pc' lv st) : wx κ (gGM D ad cy b) A nL σ pc lv (.int x :: .int i :: .ref (ad 4) :: st) :=
  x_iast (G := (gGM D ad cy b)) (k0 := 4) C ev (by show 4 < 14; decide) (fun _ => rfl) rfl h hdg hp k
theorem gMa_5 (C : gC κ cc own (c0 :: gBig) nL (gGM D ad cy b) A rmo) (h : inb i 4 = true) (hdg : decode cc pc = .ok (.iaload, 1)) (hp : pc + 1 = pc') (k : wx κ (gGM D ad cy b) A nL σ pc' lv (.int (σ 5 i.toNatClampNeg) :: st)) : wx κ (gGM D ad cy b) A nL σ pc lv (.int i :: .ref (ad 5) :: st) :=
  x_iald (G := (gGM D ad cy b)) (k0 := 5) C (by show 5 < 14; decide) rfl rfl h hdg hp k
theorem gMs_5 (C : gC κ cc own (c0 :: gBig) nL (gGM D ad cy b) A rmo) (ev : σ1 = gst σ 5 i.toNatClampNeg x) (h : inb i 4 = true) (hdg : decode cc pc = .ok (.iastore, 1)) (hp : pc + 1 = pc') (k : wx κ (gGM D ad cy b) A nL σ1 pc' lv st) : wx κ (gGM D ad cy b) A nL σ pc lv (.int x :: .int i :: .ref (ad 5) :: st) :=
  x_iast (G := (gGM D ad cy b)) (k0 := 5) C ev (by show 5 < 14; decide) (fun _ => rfl) rfl h hdg hp k
theorem gMa_6 (C : gC κ cc own (c0 :: gBig) nL (gGM D ad cy b) A rmo) (h : inb i 4 = true) (hdg : decode cc pc = .ok (.iaload, 1)) (hp : pc + 1 = pc') (k : wx κ (gGM D ad cy b) A nL σ pc' lv (.int (σ 6 i.toNatClampNeg) :: st)) : wx κ (gGM D ad cy b) A nL σ pc lv (.int i :: .ref (ad 6) :: st) :=
  x_iald (G := (gGM D ad cy b)) (k0 := 6) C (by show 6 < 14; decide) rfl rfl h hdg hp k
theorem gMs_6 (C : gC κ cc own (c0 :: gBig) nL (gGM D ad cy b) A rmo) (ev : σ1 = gst σ 6 i.toNatClampNeg x) (h : inb i 4 = true) (hdg : decode cc pc = .ok (.iastore, 1)) (hp : pc + 1 = pc') (k : wx κ (gGM D ad cy b) A nL σ1 pc' lv st) : wx κ (gGM D ad cy b) A nL σ pc lv (.int x :: .int i :: .ref (ad 6) :: st) :=
  x_iast (G := (gGM D ad cy b)) (k0 := 6) C ev (by show 6 < 14; decide) (fun _ => rfl) rfl h hdg hp k
theorem gMa_7 (C : gC κ cc own (c0 :: gBig) nL (gGM D ad cy b) A rmo) (h : inb i 24 = true) (hdg : decode cc pc = .ok (.iaload, 1)) (hp : pc + 1 = pc') (k : wx κ (gGM D ad cy b) A nL σ pc' lv (.int (σ 7 i.toNatClampNeg) :: st)) : wx κ (gGM D ad cy b) A nL σ pc lv (.int i :: .ref (ad 7) :: st) :=
  x_iald (G := (gGM D ad cy b)) (k0 := 7) C (by show 7 < 14; decide) rfl rfl h hdg hp k
theorem gMs_7 (C : gC κ cc own (c0 :: gBig) nL (gGM D ad cy b) A rmo) (ev : σ1 = gst σ 7 i.toNatClampNeg x) (h : inb i 24 = true) (hdg : decode cc pc = .ok (.iastore, 1)) (hp : pc + 1 = pc') (k : wx κ (gGM D ad cy b) A nL σ1 pc' lv st) : wx κ (gGM D ad cy b) A nL σ pc lv (.int x :: .int i :: .ref (ad 7) :: st) :=
  x_iast (G := (gGM D ad cy b)) (k0 := 7) C ev (by show 7 < 14; decide) (fun _ => rfl) rfl h hdg hp k
theorem gMa_8 (C : gC κ cc own (c0 :: gBig) nL (gGM D ad cy b) A rmo) (h : inb i 96 = true) (hdg : decode cc pc = .ok (.baload, 1)) (hp : pc + 1 = pc') (k : wx κ (gGM D ad cy b) A nL σ pc' lv (.int (σ 8 i.toNatClampNeg) :: st)) : wx κ (gGM D ad cy b) A nL σ pc lv (.int i :: .ref (ad 8) :: st) :=
  x_zald (G := (gGM D ad cy b)) (k0 := 8) C (by show 8 < 14; decide) rfl rfl h hdg hp k
theorem gMs_8 (C : gC κ cc own (c0 :: gBig) nL (gGM D ad cy b) A rmo) (ev : σ1 = gst σ 8 i.toNatClampNeg x) (hx : vp_nar .boolean x = x) (h : inb i 96 = true) (hdg : decode cc pc = .ok (.bastore, 1)) (hp : pc + 1 = pc') (k : wx κ (gGM D ad cy b) A nL σ1 pc' lv st) : wx κ (gGM D ad cy b) A nL σ pc lv (.int x :: .int i :: .ref (ad 8) :: st) :=
  x_zast (G := (gGM D ad cy b)) (k0 := 8) C ev hx (by show 8 < 14; decide) (fun _ => rfl) rfl h hdg hp k
theorem gMa_9 (C : gC κ cc own (c0 :: gBig) nL (gGM D ad cy b) A rmo) (h : inb i 5856 = true) (hdg : decode cc pc = .ok (.baload, 1)) (hp : pc + 1 = pc') (k : wx κ (gGM D ad cy b) A nL σ pc' lv (.int (σ 9 i.toNatClampNeg) :: st)) : wx κ (gGM D ad cy b) A nL σ pc lv (.int i :: .ref (ad 9) :: st) :=
  x_zald (G := (gGM D ad cy b)) (k0 := 9) C (by show 9 < 14; decide) rfl rfl h hdg hp k
theorem gMs_9 (C : gC κ cc own (c0 :: gBig) nL (gGM D ad cy b) A rmo) (ev : σ1 = gst σ 9 i.toNatClampNeg x) (hx : vp_nar .boolean x = x) (h : inb i 5856 = true) (hdg : decode cc pc = .ok (.bastore, 1)) (hp : pc + 1 = pc') (k : wx κ (gGM D ad cy b) A nL σ1 pc' lv st) : wx κ (gGM D ad cy b) A nL σ pc lv (.int x :: .int i :: .ref (ad 9) :: st) :=
  x_zast (G := (gGM D ad cy b)) (k0 := 9) C ev hx (by show 9 < 14; decide) (fun _ => rfl) rfl h hdg hp k
theorem gMa_10 (C : gC κ cc own (c0 :: gBig) nL (gGM D ad cy b) A rmo) (h : inb i 15872 = true) (hdg : decode cc pc = .ok (.iaload, 1)) (hp : pc + 1 = pc') (k : wx κ (gGM D ad cy b) A nL σ pc' lv (.int (σ 10 i.toNatClampNeg) :: st)) : wx κ (gGM D ad cy b) A nL σ pc lv (.int i :: .ref (ad 10) :: st) :=
  x_iald (G := (gGM D ad cy b)) (k0 := 10) C (by show 10 < 14; decide) rfl rfl h hdg hp k
theorem gMs_10 (C : gC κ cc own (c0 :: gBig) nL (gGM D ad cy b) A rmo) (ev : σ1 = gst σ 10 i.toNatClampNeg x) (h : inb i 15872 = true) (hdg : decode cc pc = .ok (.iastore, 1)) (hp : pc + 1 = pc') (k : wx κ (gGM D ad cy b) A nL σ1 pc' lv st) : wx κ (gGM D ad cy b) A nL σ pc lv (.int x :: .int i :: .ref (ad 10) :: st) :=
  x_iast (G := (gGM D ad cy b)) (k0 := 10) C ev (by show 10 < 14; decide) (fun _ => rfl) rfl h hdg hp k
theorem gMa_11 (C : gC κ cc own (c0 :: gBig) nL (gGM D ad cy b) A rmo) (h : inb i 61 = true) (hdg : decode cc pc = .ok (.iaload, 1)) (hp : pc + 1 = pc') (k : wx κ (gGM D ad cy b) A nL σ pc' lv (.int (σ 11 i.toNatClampNeg) :: st)) : wx κ (gGM D ad cy b) A nL σ pc lv (.int i :: .ref (ad 11) :: st) :=
  x_iald (G := (gGM D ad cy b)) (k0 := 11) C (by show 11 < 14; decide) rfl rfl h hdg hp k
theorem gMs_11 (C : gC κ cc own (c0 :: gBig) nL (gGM D ad cy b) A rmo) (ev : σ1 = gst σ 11 i.toNatClampNeg x) (h : inb i 61 = true) (hdg : decode cc pc = .ok (.iastore, 1)) (hp : pc + 1 = pc') (k : wx κ (gGM D ad cy b) A nL σ1 pc' lv st) : wx κ (gGM D ad cy b) A nL σ pc lv (.int x :: .int i :: .ref (ad 11) :: st) :=
  x_iast (G := (gGM D ad cy b)) (k0 := 11) C ev (by show 11 < 14; decide) (fun _ => rfl) rfl h hdg hp k
theorem gMa_12 (C : gC κ cc own (c0 :: gBig) nL (gGM D ad cy b) A rmo) (h : inb i 256 = true) (hdg : decode cc pc = .ok (.iaload, 1)) (hp : pc + 1 = pc') (k : wx κ (gGM D ad cy b) A nL σ pc' lv (.int (σ 12 i.toNatClampNeg) :: st)) : wx κ (gGM D ad cy b) A nL σ pc lv (.int i :: .ref (ad 12) :: st) :=
  x_iald (G := (gGM D ad cy b)) (k0 := 12) C (by show 12 < 14; decide) rfl rfl h hdg hp k
theorem gMs_12 (C : gC κ cc own (c0 :: gBig) nL (gGM D ad cy b) A rmo) (ev : σ1 = gst σ 12 i.toNatClampNeg x) (h : inb i 256 = true) (hdg : decode cc pc = .ok (.iastore, 1)) (hp : pc + 1 = pc') (k : wx κ (gGM D ad cy b) A nL σ1 pc' lv st) : wx κ (gGM D ad cy b) A nL σ pc lv (.int x :: .int i :: .ref (ad 12) :: st) :=
  x_iast (G := (gGM D ad cy b)) (k0 := 12) C ev (by show 12 < 14; decide) (fun _ => rfl) rfl h hdg hp k
theorem gMa_13 (C : gC κ cc own (c0 :: gBig) nL (gGM D ad cy b) A rmo) (h : inb i 8 = true) (hdg : decode cc pc = .ok (.iaload, 1)) (hp : pc + 1 = pc') (k : wx κ (gGM D ad cy b) A nL σ pc' lv (.int (σ 13 i.toNatClampNeg) :: st)) : wx κ (gGM D ad cy b) A nL σ pc lv (.int i :: .ref (ad 13) :: st) :=
  x_iald (G := (gGM D ad cy b)) (k0 := 13) C (by show 13 < 14; decide) rfl rfl h hdg hp k
theorem gMs_13 (C : gC κ cc own (c0 :: gBig) nL (gGM D ad cy b) A rmo) (ev : σ1 = gst σ 13 i.toNatClampNeg x) (h : inb i 8 = true) (hdg : decode cc pc = .ok (.iastore, 1)) (hp : pc + 1 = pc') (k : wx κ (gGM D ad cy b) A nL σ1 pc' lv st) : wx κ (gGM D ad cy b) A nL σ pc lv (.int x :: .int i :: .ref (ad 13) :: st) :=
  x_iast (G := (gGM D ad cy b)) (k0 := 13) C ev (by show 13 < 14; decide) (fun _ => rfl) rfl h hdg hp k
theorem gXa_rown (C : gC κ cc own (c0 :: gBig) nL (gGX D ad cy b) A rmo) {q : Nat} (hq : q < 12) (h : inb i 12 = true) (hdg : decode cc pc = .ok (.iaload, 1)) (hp : pc + 1 = pc') (k : wx κ (gGX D ad cy b) A nL σ pc' lv (.int (σ (13 + q) i.toNatClampNeg) :: st)) : wx κ (gGX D ad cy b) A nL σ pc lv (.int i :: .ref (ad (13 + q)) :: st) :=
  x_iald (G := (gGX D ad cy b)) (k0 := 13 + q) C (gXlt_rown hq) (gXe_rown hq) rfl h hdg hp k
theorem gXs_rown (C : gC κ cc own (c0 :: gBig) nL (gGX D ad cy b) A rmo) {q : Nat} (hq : q < 12) (ev : σ1 = gst σ (13 + q) i.toNatClampNeg x) (h : inb i 12 = true) (hdg : decode cc pc = .ok (.iastore, 1)) (hp : pc + 1 = pc') (k : wx κ (gGX D ad cy b) A nL σ1 pc' lv st) : wx κ (gGX D ad cy b) A nL σ pc lv (.int x :: .int i :: .ref (ad (13 + q)) :: st) :=
  x_iast (G := (gGX D ad cy b)) (k0 := 13 + q) C ev (gXlt_rown hq) (fun _ => gXe_rown hq) rfl h hdg hp k
theorem gXa_rowk (C : gC κ cc own (c0 :: gBig) nL (gGX D ad cy b) A rmo) {q : Nat} (hq : q < 12) (h : inb i 12 = true) (hdg : decode cc pc = .ok (.iaload, 1)) (hp : pc + 1 = pc') (k : wx κ (gGX D ad cy b) A nL σ pc' lv (.int (σ (37 + q) i.toNatClampNeg) :: st)) : wx κ (gGX D ad cy b) A nL σ pc lv (.int i :: .ref (ad (37 + q)) :: st) :=
  x_iald (G := (gGX D ad cy b)) (k0 := 37 + q) C (gXlt_rowk hq) (gXe_rowk hq) rfl h hdg hp k
theorem gXs_rowk (C : gC κ cc own (c0 :: gBig) nL (gGX D ad cy b) A rmo) {q : Nat} (hq : q < 12) (ev : σ1 = gst σ (37 + q) i.toNatClampNeg x) (h : inb i 12 = true) (hdg : decode cc pc = .ok (.iastore, 1)) (hp : pc + 1 = pc') (k : wx κ (gGX D ad cy b) A nL σ1 pc' lv st) : wx κ (gGX D ad cy b) A nL σ pc lv (.int x :: .int i :: .ref (ad (37 + q)) :: st) :=
  x_iast (G := (gGX D ad cy b)) (k0 := 37 + q) C ev (gXlt_rowk hq) (fun _ => gXe_rowk hq) rfl h hdg hp k
theorem gXa_foot (C : gC κ cc own (c0 :: gBig) nL (gGX D ad cy b) A rmo) {q : Nat} (hq : q < 12) (h : inb i 24 = true) (hdg : decode cc pc = .ok (.iaload, 1)) (hp : pc + 1 = pc') (k : wx κ (gGX D ad cy b) A nL σ pc' lv (.int (σ (63 + q) i.toNatClampNeg) :: st)) : wx κ (gGX D ad cy b) A nL σ pc lv (.int i :: .ref (ad (63 + q)) :: st) :=
  x_iald (G := (gGX D ad cy b)) (k0 := 63 + q) C (gXlt_foot hq) (gXe_foot hq) rfl h hdg hp k
theorem gXs_foot (C : gC κ cc own (c0 :: gBig) nL (gGX D ad cy b) A rmo) {q : Nat} (hq : q < 12) (ev : σ1 = gst σ (63 + q) i.toNatClampNeg x) (h : inb i 24 = true) (hdg : decode cc pc = .ok (.iastore, 1)) (hp : pc + 1 = pc') (k : wx κ (gGX D ad cy b) A nL σ1 pc' lv st) : wx κ (gGX D ad cy b) A nL σ pc lv (.int x :: .int i :: .ref (ad (63 + q)) :: st) :=
  x_iast (G := (gGX D ad cy b)) (k0 := 63 + q) C ev (gXlt_foot hq) (fun _ => gXe_foot hq) rfl h hdg hp k
theorem gXa_at (C : gC κ cc own (c0 :: gBig) nL (gGX D ad cy b) A rmo) {q : Nat} (hq : q < 61) (h : inb i 12 = true) (hdg : decode cc pc = .ok (.iaload, 1)) (hp : pc + 1 = pc') (k : wx κ (gGX D ad cy b) A nL σ pc' lv (.int (σ (75 + q) i.toNatClampNeg) :: st)) : wx κ (gGX D ad cy b) A nL σ pc lv (.int i :: .ref (ad (75 + q)) :: st) :=
  x_iald (G := (gGX D ad cy b)) (k0 := 75 + q) C (gXlt_at hq) (gXe_at hq) rfl h hdg hp k
theorem gXs_at (C : gC κ cc own (c0 :: gBig) nL (gGX D ad cy b) A rmo) {q : Nat} (hq : q < 61) (ev : σ1 = gst σ (75 + q) i.toNatClampNeg x) (h : inb i 12 = true) (hdg : decode cc pc = .ok (.iastore, 1)) (hp : pc + 1 = pc') (k : wx κ (gGX D ad cy b) A nL σ1 pc' lv st) : wx κ (gGX D ad cy b) A nL σ pc lv (.int x :: .int i :: .ref (ad (75 + q)) :: st) :=
  x_iast (G := (gGX D ad cy b)) (k0 := 75 + q) C ev (gXlt_at hq) (fun _ => gXe_at hq) rfl h hdg hp k
theorem gXa_few (C : gC κ cc own (c0 :: gBig) nL (gGX D ad cy b) A rmo) {q : Nat} (hq : q < 62) (h : inb i 256 = true) (hdg : decode cc pc = .ok (.iaload, 1)) (hp : pc + 1 = pc') (k : wx κ (gGX D ad cy b) A nL σ pc' lv (.int (σ (139 + q) i.toNatClampNeg) :: st)) : wx κ (gGX D ad cy b) A nL σ pc lv (.int i :: .ref (ad (139 + q)) :: st) :=
  x_iald (G := (gGX D ad cy b)) (k0 := 139 + q) C (gXlt_few hq) (gXe_few hq) rfl h hdg hp k
theorem gXs_few (C : gC κ cc own (c0 :: gBig) nL (gGX D ad cy b) A rmo) {q : Nat} (hq : q < 62) (ev : σ1 = gst σ (139 + q) i.toNatClampNeg x) (h : inb i 256 = true) (hdg : decode cc pc = .ok (.iastore, 1)) (hp : pc + 1 = pc') (k : wx κ (gGX D ad cy b) A nL σ1 pc' lv st) : wx κ (gGX D ad cy b) A nL σ pc lv (.int x :: .int i :: .ref (ad (139 + q)) :: st) :=
  x_iast (G := (gGX D ad cy b)) (k0 := 139 + q) C ev (gXlt_few hq) (fun _ => gXe_few hq) rfl h hdg hp k
theorem gXa_ite (C : gC κ cc own (c0 :: gBig) nL (gGX D ad cy b) A rmo) {q : Nat} (hq : q < 4) (h : inb i 24 = true) (hdg : decode cc pc = .ok (.iaload, 1)) (hp : pc + 1 = pc') (k : wx κ (gGX D ad cy b) A nL σ pc' lv (.int (σ (209 + q) i.toNatClampNeg) :: st)) : wx κ (gGX D ad cy b) A nL σ pc lv (.int i :: .ref (ad (209 + q)) :: st) :=
  x_iald (G := (gGX D ad cy b)) (k0 := 209 + q) C (gXlt_ite hq) (gXe_ite hq) rfl h hdg hp k
theorem gXs_ite (C : gC κ cc own (c0 :: gBig) nL (gGX D ad cy b) A rmo) {q : Nat} (hq : q < 4) (ev : σ1 = gst σ (209 + q) i.toNatClampNeg x) (h : inb i 24 = true) (hdg : decode cc pc = .ok (.iastore, 1)) (hp : pc + 1 = pc') (k : wx κ (gGX D ad cy b) A nL σ1 pc' lv st) : wx κ (gGX D ad cy b) A nL σ pc lv (.int x :: .int i :: .ref (ad (209 + q)) :: st) :=
  x_iast (G := (gGX D ad cy b)) (k0 := 209 + q) C ev (gXlt_ite hq) (fun _ => gXe_ite hq) rfl h hdg hp k
theorem gXo_5 (C : gC κ cc own (c0 :: gBig) nL (gGX D ad cy b) A rmo) (h : inb i 12 = true) (hdg : decode cc pc = .ok (.aaload, 1)) (hp : pc + 1 = pc') (k : wx κ (gGX D ad cy b) A nL σ pc' lv (.ref (ad (13 + i.toNatClampNeg)) :: st)) : wx κ (gGX D ad cy b) A nL σ pc lv (.int i :: .ref (ad 5) :: st) :=
  x_aald (G := (gGX D ad cy b)) (k0 := 5) (t0 := 3) (k1 := 13 + i.toNatClampNeg) C (by show 5 < 213; decide) rfl rfl rfl h (if_pos (inb_lt h)) hdg hp k
theorem gXo_29 (C : gC κ cc own (c0 :: gBig) nL (gGX D ad cy b) A rmo) (h : inb i 12 = true) (hdg : decode cc pc = .ok (.aaload, 1)) (hp : pc + 1 = pc') (k : wx κ (gGX D ad cy b) A nL σ pc' lv (.ref (ad (37 + i.toNatClampNeg)) :: st)) : wx κ (gGX D ad cy b) A nL σ pc lv (.int i :: .ref (ad 29) :: st) :=
  x_aald (G := (gGX D ad cy b)) (k0 := 29) (t0 := 3) (k1 := 37 + i.toNatClampNeg) C (by show 29 < 213; decide) rfl rfl rfl h (if_pos (inb_lt h)) hdg hp k
theorem gXo_57 (C : gC κ cc own (c0 :: gBig) nL (gGX D ad cy b) A rmo) (h : inb i 12 = true) (hdg : decode cc pc = .ok (.aaload, 1)) (hp : pc + 1 = pc') (k : wx κ (gGX D ad cy b) A nL σ pc' lv (.ref (ad (63 + i.toNatClampNeg)) :: st)) : wx κ (gGX D ad cy b) A nL σ pc lv (.int i :: .ref (ad 57) :: st) :=
  x_aald (G := (gGX D ad cy b)) (k0 := 57) (t0 := 3) (k1 := 63 + i.toNatClampNeg) C (by show 57 < 213; decide) rfl rfl rfl h (if_pos (inb_lt h)) hdg hp k
theorem gXo_58 (C : gC κ cc own (c0 :: gBig) nL (gGX D ad cy b) A rmo) (h : inb i 61 = true) (hdg : decode cc pc = .ok (.aaload, 1)) (hp : pc + 1 = pc') (k : wx κ (gGX D ad cy b) A nL σ pc' lv (.ref (ad (75 + i.toNatClampNeg)) :: st)) : wx κ (gGX D ad cy b) A nL σ pc lv (.int i :: .ref (ad 58) :: st) :=
  x_aald (G := (gGX D ad cy b)) (k0 := 58) (t0 := 3) (k1 := 75 + i.toNatClampNeg) C (by show 58 < 213; decide) rfl rfl rfl h (if_pos (inb_lt h)) hdg hp k
theorem gXo_138 (C : gC κ cc own (c0 :: gBig) nL (gGX D ad cy b) A rmo) (h : inb i 62 = true) (hdg : decode cc pc = .ok (.aaload, 1)) (hp : pc + 1 = pc') (k : wx κ (gGX D ad cy b) A nL σ pc' lv (.ref (ad (139 + i.toNatClampNeg)) :: st)) : wx κ (gGX D ad cy b) A nL σ pc lv (.int i :: .ref (ad 138) :: st) :=
  x_aald (G := (gGX D ad cy b)) (k0 := 138) (t0 := 3) (k1 := 139 + i.toNatClampNeg) C (by show 138 < 213; decide) rfl rfl rfl h (if_pos (inb_lt h)) hdg hp k
theorem gXo_204 (C : gC κ cc own (c0 :: gBig) nL (gGX D ad cy b) A rmo) (h : inb i 4 = true) (hdg : decode cc pc = .ok (.aaload, 1)) (hp : pc + 1 = pc') (k : wx κ (gGX D ad cy b) A nL σ pc' lv (.ref (ad (205 + i.toNatClampNeg)) :: st)) : wx κ (gGX D ad cy b) A nL σ pc lv (.int i :: .ref (ad 204) :: st) :=
  x_aald (G := (gGX D ad cy b)) (k0 := 204) (t0 := 2) (k1 := 205 + i.toNatClampNeg) C (by show 204 < 213; decide) rfl rfl rfl h (if_pos (inb_lt h)) hdg hp k
theorem gXg_she_there (C : gC κ cc own (c0 :: gBig) nL (gGX D ad cy b) A rmo) {q : Nat} (hq : q < 4) (hlink : Cond.fieldLink own index RX2 "there" "Z" ∈ gBig) (hdg : decode cc pc = .ok (.getfield index, 3)) (hp : pc + 3 = pc') (k : wx κ (gGX D ad cy b) A nL σ pc' lv (.int (σ (205 + q) 0) :: st)) : wx κ (gGX D ad cy b) A nL σ pc lv (.ref (ad (205 + q)) :: st) :=
  x_get (G := (gGX D ad cy b)) (k0 := 205 + q) (ci := 2) (j := 0) (N := 4) (Cn := RX2) (T := TX2) C (gXlt_she hq) (gXe_she hq) rfl (fun w h => gBc (inB2 w h)) (by decide) rfl (gBc hlink) hdg hp k
theorem gXp_she_there (C : gC κ cc own (c0 :: gBig) nL (gGX D ad cy b) A rmo) {q : Nat} (hq : q < 4) (ev : σ1 = gst σ (205 + q) 0 x) (hz : narrow .boolean (.int x) = .int x) (hz2 : fits .boolean (.int x) = true) (hlink : Cond.fieldLink own index RX2 "there" "Z" ∈ gBig) (hdg : decode cc pc = .ok (.putfield index, 3)) (hp : pc + 3 = pc') (k : wx κ (gGX D ad cy b) A nL σ1 pc' lv st) : wx κ (gGX D ad cy b) A nL σ pc lv (.int x :: .ref (ad (205 + q)) :: st) :=
  x_put (G := (gGX D ad cy b)) (k0 := 205 + q) (ci := 2) (j := 0) (N := 4) (Cn := RX2) (T := TX2) C ev (gXlt_she hq) (gXe_she hq) (gXe_she hq) rfl (fun w h => gBc (inB2 w h)) tyX2 tyX2_ok nmX2 (by decide) rfl (tyX2_ok 0 (by decide)) hz hz2 (by show 0 < 4; decide) (gBc hlink) hdg hp k
theorem gXg_she_lane (C : gC κ cc own (c0 :: gBig) nL (gGX D ad cy b) A rmo) {q : Nat} (hq : q < 4) (hlink : Cond.fieldLink own index RX2 "lane" "I" ∈ gBig) (hdg : decode cc pc = .ok (.getfield index, 3)) (hp : pc + 3 = pc') (k : wx κ (gGX D ad cy b) A nL σ pc' lv (.int (σ (205 + q) 1) :: st)) : wx κ (gGX D ad cy b) A nL σ pc lv (.ref (ad (205 + q)) :: st) :=
  x_get (G := (gGX D ad cy b)) (k0 := 205 + q) (ci := 2) (j := 1) (N := 4) (Cn := RX2) (T := TX2) C (gXlt_she hq) (gXe_she hq) rfl (fun w h => gBc (inB2 w h)) (by decide) rfl (gBc hlink) hdg hp k
theorem gXp_she_lane (C : gC κ cc own (c0 :: gBig) nL (gGX D ad cy b) A rmo) {q : Nat} (hq : q < 4) (ev : σ1 = gst σ (205 + q) 1 x) (hlink : Cond.fieldLink own index RX2 "lane" "I" ∈ gBig) (hdg : decode cc pc = .ok (.putfield index, 3)) (hp : pc + 3 = pc') (k : wx κ (gGX D ad cy b) A nL σ1 pc' lv st) : wx κ (gGX D ad cy b) A nL σ pc lv (.int x :: .ref (ad (205 + q)) :: st) :=
  x_put (G := (gGX D ad cy b)) (k0 := 205 + q) (ci := 2) (j := 1) (N := 4) (Cn := RX2) (T := TX2) C ev (gXlt_she hq) (gXe_she hq) (gXe_she hq) rfl (fun w h => gBc (inB2 w h)) tyX2 tyX2_ok nmX2 (by decide) rfl (tyX2_ok 1 (by decide)) rfl rfl (by show 1 < 4; decide) (gBc hlink) hdg hp k
theorem gXg_she_length (C : gC κ cc own (c0 :: gBig) nL (gGX D ad cy b) A rmo) {q : Nat} (hq : q < 4) (hlink : Cond.fieldLink own index RX2 "length" "I" ∈ gBig) (hdg : decode cc pc = .ok (.getfield index, 3)) (hp : pc + 3 = pc') (k : wx κ (gGX D ad cy b) A nL σ pc' lv (.int (σ (205 + q) 2) :: st)) : wx κ (gGX D ad cy b) A nL σ pc lv (.ref (ad (205 + q)) :: st) :=
  x_get (G := (gGX D ad cy b)) (k0 := 205 + q) (ci := 2) (j := 2) (N := 4) (Cn := RX2) (T := TX2) C (gXlt_she hq) (gXe_she hq) rfl (fun w h => gBc (inB2 w h)) (by decide) rfl (gBc hlink) hdg hp k
theorem gXp_she_length (C : gC κ cc own (c0 :: gBig) nL (gGX D ad cy b) A rmo) {q : Nat} (hq : q < 4) (ev : σ1 = gst σ (205 + q) 2 x) (hlink : Cond.fieldLink own index RX2 "length" "I" ∈ gBig) (hdg : decode cc pc = .ok (.putfield index, 3)) (hp : pc + 3 = pc') (k : wx κ (gGX D ad cy b) A nL σ1 pc' lv st) : wx κ (gGX D ad cy b) A nL σ pc lv (.int x :: .ref (ad (205 + q)) :: st) :=
  x_put (G := (gGX D ad cy b)) (k0 := 205 + q) (ci := 2) (j := 2) (N := 4) (Cn := RX2) (T := TX2) C ev (gXlt_she hq) (gXe_she hq) (gXe_she hq) rfl (fun w h => gBc (inB2 w h)) tyX2 tyX2_ok nmX2 (by decide) rfl (tyX2_ok 2 (by decide)) rfl rfl (by show 2 < 4; decide) (gBc hlink) hdg hp k
theorem gXg_she_items (C : gC κ cc own (c0 :: gBig) nL (gGX D ad cy b) A rmo) {q : Nat} (hq : q < 4) (hlink : Cond.fieldLink own index RX2 "items" "[I" ∈ gBig) (hdg : decode cc pc = .ok (.getfield index, 3)) (hp : pc + 3 = pc') (k : wx κ (gGX D ad cy b) A nL σ pc' lv (.ref (ad (209 + q)) :: st)) : wx κ (gGX D ad cy b) A nL σ pc lv (.ref (ad (205 + q)) :: st) :=
  x_get (G := (gGX D ad cy b)) (k0 := 205 + q) (ci := 2) (j := 3) (N := 4) (Cn := RX2) (T := TX2) C (gXlt_she hq) (gXe_she hq) rfl (fun w h => gBc (inB2 w h)) (by decide) rfl (gBc hlink) hdg hp k
end GR
end
section
def gFU : Nat := 100000
def m_X6_within (a0 : Int32) (a1 : Int32) (a2 : Int32) (σ : gMem) : Option (Int32) :=
if a0 < a1 then (
some 0) else (
if a2 < a0 then (
some 0) else (
some 1))
def m_X1_addPlace (a0 : Int32) (a1 : Int32) (σ : gMem) : Option (Int32 × gMem) :=
gck (inb (σ 1 0) 12) (
gnm (gst σ 2 (σ 1 0).toNatClampNeg a0) fun s2 =>
gck (inb (s2 1 0) 12) (
gnm (gst s2 3 (s2 1 0).toNatClampNeg a1) fun s4 =>
gck (inb (s4 1 0) 12) (
gnm (gst s4 4 (s4 1 0).toNatClampNeg 0) fun s6 =>
gnm (gst s6 1 0 ((s6 1 0) + 1)) fun s7 =>
some (s6 1 0, s7))))
def m_X6_place (a0 : Int32) (σ : gMem) : Option (Int32 × gMem) :=
gb1 (m_X6_within a0 (-20) 60 σ) fun r2 =>
if r2 = 0 then (
some ((-1), σ)) else (
if (σ 1 0) < 12 then (
gb2 (m_X1_addPlace a0 0 σ) fun r5 s4 =>
some (r5, s4)) else (
some ((-3), σ)))
def m_X1_hasPlace (a0 : Int32) (σ : gMem) : Option (Int32) :=
gb1 (m_X6_within a0 0 ((σ 1 0) - 1) σ) fun r2 =>
gck (izb r2) (some r2)
def m_X6_changed_2 (a1 : Int32) (a2 : Int32) (σ : gMem) : Option (Int32 × gMem) :=
gck (inb a1 12) (
gnm (σ 2 a1.toNatClampNeg) fun x3_2 =>
gck (inb a1 12) (
gnm (gst σ 2 a1.toNatClampNeg a2) fun s4 =>
some (x3_2, s4)))
def m_X6_changed_3 (a1 : Int32) (a2 : Int32) (σ : gMem) : Option (Int32 × gMem) :=
gck (inb a1 12) (
gnm (σ 3 a1.toNatClampNeg) fun x3_2 =>
gck (inb a1 12) (
gnm (gst σ 3 a1.toNatClampNeg a2) fun s4 =>
some (x3_2, s4)))
def b_X1_postsBeside_4 (a0 : Int32) (σ : gMem) (rc : Int32 → Int32 → Option (Int32)) (x2_1 : Int32) (x3_2 : Int32) : Option (Int32) :=
if (σ 1 0) ≤ x3_2 then (
some x2_1) else (
if x3_2 = a0 then (
gnm (x3_2 + 1) fun x3_4 =>
rc x2_1 x3_4) else (
gck (inb x3_2 12) (
if (σ 3 x3_2.toNatClampNeg) ≤ 0 then (
gnm (x3_2 + 1) fun x3_6 =>
rc x2_1 x3_6) else (
gnm (x2_1 + 1) fun x2_7 =>
gnm (x3_2 + 1) fun x3_8 =>
rc x2_7 x3_8))))
def m_X1_postsBeside_4 (a0 : Int32) (σ : gMem) : Nat → Int32 → Int32 → Option (Int32)
  | 0 => fun _ _ => none
  | n + 1 => b_X1_postsBeside_4 a0 σ (m_X1_postsBeside_4 a0 σ n)
def m_X1_postsBeside (a0 : Int32) (σ : gMem) : Option (Int32) :=
gb1 (m_X1_postsBeside_4 a0 σ gFU 0 0) fun x2_3 =>
some x2_3
def m_X6_makeSplices (a0 : Int32) (a1 : Int32) (σ : gMem) : Option (Int32 × gMem) :=
gb1 (m_X6_within a1 0 20 σ) fun r2 =>
if r2 = 0 then (
some ((-100001), σ)) else (
if a1 ≤ 0 then (
gb2 (m_X6_changed_3 a0 a1 σ) fun r5 s4 =>
some (r5, s4)) else (
gb1 (m_X1_postsBeside a0 σ) fun r7 =>
if r7 < 3 then (
gb2 (m_X6_changed_3 a0 a1 σ) fun r10 s9 =>
some (r10, s9)) else (
some ((-100003), σ))))
def m_X6_changed_4 (a1 : Int32) (a2 : Int32) (σ : gMem) : Option (Int32 × gMem) :=
gck (inb a1 12) (
gnm (σ 4 a1.toNatClampNeg) fun x3_2 =>
gck (inb a1 12) (
gnm (gst σ 4 a1.toNatClampNeg a2) fun s4 =>
some (x3_2, s4)))
def m_X6_make (a0 : Int32) (a1 : Int32) (a2 : Int32) (σ : gMem) : Option (Int32 × gMem) :=
gb1 (m_X1_hasPlace a0 σ) fun r2 =>
if r2 = 0 then (
some ((-100001), σ)) else (
if a1 = 0 then (
gb1 (m_X6_within a2 (-20) 60 σ) fun r4 =>
if r4 = 0 then (
some ((-100001), σ)) else (
gb2 (m_X6_changed_2 a0 a2 σ) fun r7 s6 =>
some (r7, s6))) else if a1 = 1 then (
gb2 (m_X6_makeSplices a0 a2 σ) fun r11 s10 =>
some (r11, s10)) else if a1 = 2 then (
gb1 (m_X6_within a2 (-5) 5 σ) fun r14 =>
if r14 = 0 then (
some ((-100001), σ)) else (
gb2 (m_X6_changed_4 a0 a2 σ) fun r17 s16 =>
some (r17, s16))) else (
some ((-100001), σ)))
def m_X1_join (a0 : Int32) (a1 : Int32) (a2 : Int32) (σ : gMem) : Option (gMem) :=
gck (inb a0 12) (
gck (inb a1 12) (
gnm (gst σ (13 + a0.toNatClampNeg) a1.toNatClampNeg a2) fun s3 =>
gck (inb a1 12) (
gck (inb a0 12) (
gnm (gst s3 (13 + a1.toNatClampNeg) a0.toNatClampNeg a2) fun s6 =>
some s6))))
def m_X6_path (a0 : Int32) (a1 : Int32) (a2 : Int32) (σ : gMem) : Option (Int32 × gMem) :=
gb1 (m_X1_hasPlace a0 σ) fun r2 =>
if r2 = 0 then (
some ((-1), σ)) else (
gb1 (m_X1_hasPlace a1 σ) fun r4 =>
if r4 = 0 then (
some ((-1), σ)) else (
if a0 = a1 then (
some ((-1), σ)) else (
gb1 (m_X6_within a2 0 60 σ) fun r6 =>
if r6 = 0 then (
some ((-1), σ)) else (
gck (inb a0 12) (
gck (inb a1 12) (
gnm (σ (13 + a0.toNatClampNeg) a1.toNatClampNeg) fun x4_9 =>
gb1 (m_X1_join a0 a1 a2 σ) fun s11 =>
some (x4_9, s11)))))))
def m_X6_isHour (a0 : Int32) (σ : gMem) : Option (Int32) :=
gb1 (m_X6_within a0 0 23 σ) fun r2 =>
gck (izb r2) (some r2)
def m_X6_changed_6 (a1 : Int32) (a2 : Int32) (σ : gMem) : Option (Int32 × gMem) :=
gck (inb a1 24) (
gnm (σ 6 a1.toNatClampNeg) fun x3_2 =>
gck (inb a1 24) (
gnm (gst σ 6 a1.toNatClampNeg a2) fun s4 =>
some (x3_2, s4)))
def m_X6_tide (a0 : Int32) (a1 : Int32) (σ : gMem) : Option (Int32 × gMem) :=
gb1 (m_X6_isHour a0 σ) fun r2 =>
if r2 = 0 then (
some ((-100001), σ)) else (
gb1 (m_X6_within a1 (-20) 20 σ) fun r4 =>
if r4 = 0 then (
some ((-100001), σ)) else (
gb2 (m_X6_changed_6 a0 a1 σ) fun r7 s6 =>
some (r7, s6)))
def m_X6_set (a0 : Int32) (a1 : Int32) (σ : gMem) : Option (Int32 × gMem) :=
if a0 = 0 then (
gb1 (m_X6_within a1 0 40 σ) fun r6 =>
if r6 = 0 then (
if a0 = 1 then (
gb1 (m_X6_within a1 0 60 σ) fun r8 =>
if r8 = 0 then (
some ((-1), σ)) else (
gnm (σ 1 7) fun x3_9 =>
gnm (gst σ 1 7 a1) fun s10 =>
some (x3_9, s10))) else (
some ((-1), σ))) else (
gnm (σ 1 6) fun x3_11 =>
gnm (gst σ 1 6 a1) fun s12 =>
some (x3_11, s12))) else (
if a0 = 1 then (
gb1 (m_X6_within a1 0 60 σ) fun r2 =>
if r2 = 0 then (
some ((-1), σ)) else (
gnm (σ 1 7) fun x3_3 =>
gnm (gst σ 1 7 a1) fun s4 =>
some (x3_3, s4))) else (
some ((-1), σ)))
def m_X1_addPerson (a0 : Int32) (a1 : Int32) (a2 : Int32) (σ : gMem) : Option (Int32 × gMem) :=
gck (inb (σ 1 8) 8) (
gnm (gst σ 7 (σ 1 8).toNatClampNeg a0) fun s2 =>
gck (inb (s2 1 8) 8) (
gnm (gst s2 8 (s2 1 8).toNatClampNeg a1) fun s4 =>
gck (inb (s4 1 8) 8) (
gnm (gst s4 9 (s4 1 8).toNatClampNeg a2) fun s6 =>
gnm (gst s6 1 8 ((s6 1 8) + 1)) fun s7 =>
some (s6 1 8, s7))))
def m_X6_person (a0 : Int32) (a1 : Int32) (a2 : Int32) (σ : gMem) : Option (Int32 × gMem) :=
gb1 (m_X6_within a0 0 3 σ) fun r2 =>
if r2 = 0 then (
some ((-1), σ)) else (
gb1 (m_X6_within a1 0 60 σ) fun r4 =>
if r4 = 0 then (
some ((-1), σ)) else (
gb1 (m_X1_hasPlace a2 σ) fun r6 =>
if r6 = 0 then (
some ((-1), σ)) else (
if (σ 1 8) < 8 then (
gb2 (m_X1_addPerson a0 a1 a2 σ) fun r9 s8 =>
some (r9, s8)) else (
some ((-3), σ)))))
def m_X1_hasPerson (a0 : Int32) (σ : gMem) : Option (Int32) :=
gb1 (m_X6_within a0 0 ((σ 1 8) - 1) σ) fun r2 =>
gck (izb r2) (some r2)
def m_X1_lengthByKind (a0 : Int32) (a1 : Int32) (a2 : Int32) (σ : gMem) : Option (Int32) :=
if a0 = 2 then (
some (gmax 0 (a1 - 2))) else (
if a0 = 3 then (
some (a1 + a2)) else (
some a1))
def m_X1_lengthOf (a0 : Int32) (σ : gMem) : Option (Int32) :=
gck (inb a0 8) (
gck (inb a0 8) (
gb1 (m_X1_lengthByKind (σ 7 a0.toNatClampNeg) (σ 8 a0.toNatClampNeg) (σ 1 16) σ) fun r4 =>
some r4))
def m_X6_of (a0 : Int32) (a1 : Int32) (σ : gMem) : Option (Int32) :=
gb1 (m_X1_hasPerson a0 σ) fun r2 =>
if r2 = 0 then (
some (-1)) else (
if a1 = 0 then (
gck (inb a0 8) (
some (σ 7 a0.toNatClampNeg))) else if a1 = 1 then (
gck (inb a0 8) (
some (σ 8 a0.toNatClampNeg))) else if a1 = 2 then (
gb1 (m_X1_lengthOf a0 σ) fun r8 =>
some r8) else if a1 = 3 then (
gck (inb a0 8) (
some (σ 9 a0.toNatClampNeg))) else (
some (-1)))
def m_X6_byteOf (a0 : Int64) (a1 : Int32) (σ : gMem) : Option (Int32) :=
some (((a0 >>> ((8 * a1).toInt64 &&& 63)) &&& 255).toInt32)
def m_X3_append (a0 : Int32) (σ : gMem) : Option (gMem) :=
if 80 ≤ (σ 49 0) then (
some σ) else (
gck (inb (σ 49 0) 80) (
gnm (gst σ 50 (σ 49 0).toNatClampNeg a0) fun s2 =>
gnm (gst s2 49 0 ((s2 49 0) + 1)) fun s3 =>
some s3))
def b_X6_type_15 (a0 : Int64) (a1 : Int32) (σ : gMem) (rc : Int32 → Option (Nat)) (x4_3 : Int32) : Option (Nat) :=
if a1 ≤ x4_3 then (
some 1) else (
gb1 (m_X6_byteOf a0 x4_3 σ) fun r6 =>
gb1 (m_X6_within r6 32 126 σ) fun r8 =>
if r8 = 0 then (
some 0) else (
gnm (x4_3 + 1) fun x4_9 =>
rc x4_9))
def m_X6_type_15 (a0 : Int64) (a1 : Int32) (σ : gMem) : Nat → Int32 → Option (Nat)
  | 0 => fun _ => none
  | n + 1 => b_X6_type_15 a0 a1 σ (m_X6_type_15 a0 a1 σ n)
def b_X6_type_67 (a0 : Int64) (rc : Int32 → gMem → Option (gMem)) (x4_12 : Int32) (s13 : gMem) : Option (gMem) :=
if x4_12 < 0 then (
some s13) else (
gb1 (m_X6_byteOf a0 x4_12 s13) fun r16 =>
gb1 (m_X3_append r16 s13) fun s18 =>
gnm (x4_12 + (-1)) fun x4_19 =>
rc x4_19 s18)
def m_X6_type_67 (a0 : Int64) : Nat → Int32 → gMem → Option (gMem)
  | 0 => fun _ _ => none
  | n + 1 => b_X6_type_67 a0 (m_X6_type_67 a0 n)
def m_X6_type (a0 : Int64) (a1 : Int32) (σ : gMem) : Option (Int32 × gMem) :=
gb1 (m_X6_within a1 1 8 σ) fun r2 =>
if r2 = 0 then (
some ((-1), σ)) else (
gb1 (m_X6_type_15 a0 a1 σ gFU 0) fun t4 =>
if t4 = 0 then (
some ((-1), σ)) else (
if (σ 49 0) ≤ (80 - a1) then (
gnm (a1 - 1) fun x4_11 =>
gb1 (m_X6_type_67 a0 gFU x4_11 σ) fun s14 =>
some (s14 49 0, s14)) else (
some ((-3), σ))))
def m_X3_begin  (σ : gMem) : Option (gMem) :=
gnm (gst σ 49 2 0) fun s1 =>
gnm (gst s1 49 5 0) fun s2 =>
gnm (gst s2 49 4 0) fun s3 =>
gnm (gst s3 49 3 (-1)) fun s4 =>
some s4
def b_X3_peek_0 (rc : gMem → Option (gMem)) (s1 : gMem) : Option (gMem) :=
if (s1 49 0) ≤ (s1 49 2) then (
some s1) else (
gck (inb (s1 49 2) 80) (
if (s1 50 (s1 49 2).toNatClampNeg) = 32 then (
gnm (gst s1 49 2 ((s1 49 2) + 1)) fun s4 =>
rc s4) else (
some s1)))
def m_X3_peek_0 : Nat → gMem → Option (gMem)
  | 0 => fun _ => none
  | n + 1 => b_X3_peek_0 (m_X3_peek_0 n)
def m_X3_peek  (σ : gMem) : Option (Int32 × gMem) :=
gb1 (m_X3_peek_0 gFU σ) fun s2 =>
if (s2 49 0) ≤ (s2 49 2) then (
some ((-1), s2)) else (
gck (inb (s2 49 2) 80) (
some (s2 50 (s2 49 2).toNatClampNeg, s2)))
def m_X3_faultAt (a0 : Int32) (σ : gMem) : Option (gMem) :=
if 0 ≤ (σ 49 3) then (
some σ) else (
gnm (gst σ 49 3 a0) fun s1 =>
some s1)
def b_X3_readNumber_32 (rc : Int32 → gMem → Option (Int32 × gMem)) (x4_7 : Int32) (s8 : gMem) : Option (Int32 × gMem) :=
if (s8 49 0) ≤ (s8 49 2) then (
some (x4_7, s8)) else (
gck (inb (s8 49 2) 80) (
gb1 (m_X6_within (s8 50 (s8 49 2).toNatClampNeg) 48 57 s8) fun r13 =>
if r13 = 0 then (
some (x4_7, s8)) else (
gck (inb (s8 49 2) 80) (
gnm (gmin 100 (((x4_7 * 10) + (s8 50 (s8 49 2).toNatClampNeg)) - 48)) fun x4_15 =>
gnm (gst s8 49 2 ((s8 49 2) + 1)) fun s16 =>
rc x4_15 s16))))
def m_X3_readNumber_32 : Nat → Int32 → gMem → Option (Int32 × gMem)
  | 0 => fun _ _ => none
  | n + 1 => b_X3_readNumber_32 (m_X3_readNumber_32 n)
def m_X3_readNumber (a0 : Int32) (a1 : Int32) (σ : gMem) : Option (Int32 × gMem) :=
gb2 (m_X3_peek σ) fun r3 s2 =>
gb1 (m_X6_within r3 48 57 s2) fun r5 =>
if r5 = 0 then (
gb1 (m_X3_faultAt (s2 49 2) s2) fun s23 =>
some (a0, s23)) else (
gnm (s2 49 2) fun x3_6 =>
gb2 (m_X3_readNumber_32 gFU 0 s2) fun x4_9 s10 =>
gb1 (m_X6_within x4_9 a0 a1 s10) fun r19 =>
if r19 = 0 then (
gb1 (m_X3_faultAt x3_6 s10) fun s21 =>
some (a0, s21)) else (
some (x4_9, s10)))
def m_X3_readDepth  (σ : gMem) : Option (Int32 × gMem) :=
gb2 (m_X3_peek σ) fun r3 s2 =>
if r3 = 45 then (
gnm (gst s2 49 2 ((s2 49 2) + 1)) fun s4 =>
gb2 (m_X3_readNumber 0 20 s4) fun r7 s6 =>
some (-r7, s6)) else (
gb2 (m_X3_readNumber 0 60 s2) fun r10 s9 =>
some (r10, s9))
def m_X3_readPlace  (σ : gMem) : Option (gMem) :=
gb2 (m_X3_readDepth σ) fun r3 s2 =>
gck (inb (σ 49 5) 8) (
gnm (gst s2 51 (σ 49 5).toNatClampNeg r3) fun s5 =>
gck (inb (s5 49 5) 8) (
gnm (gst s5 53 (s5 49 5).toNatClampNeg 0) fun s7 =>
gb2 (m_X3_peek s7) fun r10 s9 =>
if r10 = 112 then (
if 3 ≤ (s9 49 4) then (
some s9) else (
gnm (gst s9 49 2 ((s9 49 2) + 1)) fun s11 =>
gnm (gst s11 49 4 ((s11 49 4) + 1)) fun s12 =>
gb2 (m_X3_readNumber 1 20 s12) fun r15 s14 =>
gck (inb (s12 49 5) 8) (
gnm (gst s14 53 (s12 49 5).toNatClampNeg r15) fun s17 =>
some s17))) else (
some s9)))
def m_X3_goesOn (a0 : Int32) (σ : gMem) : Option (Int32 × gMem) :=
gb2 (m_X3_peek σ) fun r3 s2 =>
if 0 ≤ (s2 49 3) then (
some (0, s2)) else (
if 0 ≤ r3 then (
if r3 = a0 then (
if (s2 49 5) < 8 then (
gnm (gst s2 49 2 ((s2 49 2) + 1)) fun s6 =>
some (1, s6)) else (
gb1 (m_X3_faultAt (s2 49 2) s2) fun s8 =>
some (0, s8))) else (
gb1 (m_X3_faultAt (s2 49 2) s2) fun s5 =>
some (0, s5))) else (
some (0, s2)))
def m_X3_outcome  (σ : gMem) : Option (Int32) :=
if 0 ≤ (σ 49 3) then (
some ((-20) - (σ 49 3))) else (
some (σ 49 5))
def b_X3_readPlaces_6 (rc : Int32 → gMem → Option (gMem)) (x1_3 : Int32) (s4 : gMem) : Option (gMem) :=
if x1_3 = 0 then (
some s4) else (
if 8 ≤ (s4 49 5) then (
some s4) else (
gb1 (m_X3_readPlace s4) fun s7 =>
gnm (gst s7 49 5 ((s7 49 5) + 1)) fun s8 =>
gb2 (m_X3_goesOn 59 s8) fun r11 s10 =>
rc r11 s10))
def m_X3_readPlaces_6 : Nat → Int32 → gMem → Option (gMem)
  | 0 => fun _ _ => none
  | n + 1 => b_X3_readPlaces_6 (m_X3_readPlaces_6 n)
def m_X3_readPlaces  (σ : gMem) : Option (Int32 × gMem) :=
gb1 (m_X3_begin σ) fun s2 =>
gb1 (m_X3_readPlaces_6 gFU 1 s2) fun s5 =>
gb1 (m_X3_outcome s5) fun r14 =>
some (r14, s5)
def b_X1_settle_30 (x2_5 : Int32) (rc : Int32 → gMem → Option (gMem)) (x3_8 : Int32) (s9 : gMem) : Option (gMem) :=
if 12 ≤ x3_8 then (
some s9) else (
gck (inb x2_5 12) (
gck (inb x3_8 12) (
gnm (gst s9 (13 + x2_5.toNatClampNeg) x3_8.toNatClampNeg 0) fun s13 =>
gnm (x3_8 + 1) fun x3_14 =>
rc x3_14 s13)))
def m_X1_settle_30 (x2_5 : Int32) : Nat → Int32 → gMem → Option (gMem)
  | 0 => fun _ _ => none
  | n + 1 => b_X1_settle_30 x2_5 (m_X1_settle_30 x2_5 n)
def b_X1_settle_22 (rc : Int32 → gMem → Option (gMem)) (x2_5 : Int32) (s6 : gMem) : Option (gMem) :=
if 12 ≤ x2_5 then (
some s6) else (
gb1 (m_X1_settle_30 x2_5 gFU 0 s6) fun s10 =>
gnm (x2_5 + 1) fun x2_16 =>
rc x2_16 s10)
def m_X1_settle_22 : Nat → Int32 → gMem → Option (gMem)
  | 0 => fun _ _ => none
  | n + 1 => b_X1_settle_22 (m_X1_settle_22 n)
def b_X1_settle_59 (rc : Int32 → gMem → Option (gMem)) (x2_18 : Int32) (s19 : gMem) : Option (gMem) :=
if (s19 49 5) ≤ x2_18 then (
some s19) else (
gck (inb x2_18 8) (
gck (inb x2_18 8) (
gb2 (m_X1_addPlace (s19 51 x2_18.toNatClampNeg) (s19 53 x2_18.toNatClampNeg) s19) fun r25 s24 =>
gnm (x2_18 + 1) fun x2_26 =>
rc x2_26 s24)))
def m_X1_settle_59 : Nat → Int32 → gMem → Option (gMem)
  | 0 => fun _ _ => none
  | n + 1 => b_X1_settle_59 (m_X1_settle_59 n)
def m_X1_settle  (σ : gMem) : Option (gMem) :=
gnm (gst σ 1 0 0) fun s1 =>
gnm (gst s1 1 8 0) fun s2 =>
gnm (gst s2 1 12 0) fun s3 =>
gnm (gst s3 1 16 0) fun s4 =>
gb1 (m_X1_settle_22 gFU 0 s4) fun s7 =>
gb1 (m_X1_settle_59 gFU 0 s7) fun s20 =>
some s20
def m_X6_lagoon  (σ : gMem) : Option (Int32 × gMem) :=
gb2 (m_X3_readPlaces σ) fun r3 s2 =>
if r3 ≤ 0 then (
gnm (gst s2 49 0 0) fun s4 =>
some (r3, s4)) else (
gb1 (m_X1_settle s2) fun s6 =>
gnm (gst s6 49 0 0) fun s7 =>
some (r3, s7))
def m_X3_readLetter (a0 : Int32) (a1 : Int32) (σ : gMem) : Option (Int32 × gMem) :=
gb2 (m_X3_peek σ) fun r3 s2 =>
gnm (r3 - 97) fun x3_4 =>
gb1 (m_X6_within x3_4 0 (a0 - 1) s2) fun r6 =>
if r6 = 0 then (
gb1 (m_X3_faultAt (s2 49 2) s2) fun s8 =>
some (0, s8)) else (
if x3_4 = a1 then (
gb1 (m_X3_faultAt (s2 49 2) s2) fun s11 =>
some (0, s11)) else (
gnm (gst s2 49 2 ((s2 49 2) + 1)) fun s9 =>
some (x3_4, s9)))
def m_X3_readPath (a0 : Int32) (σ : gMem) : Option (gMem) :=
gb2 (m_X3_readLetter a0 (-1) σ) fun r3 s2 =>
gck (inb (σ 49 5) 8) (
gnm (gst s2 51 (σ 49 5).toNatClampNeg r3) fun s5 =>
gck (inb (s5 49 5) 8) (
gb2 (m_X3_readLetter a0 (s5 51 (s5 49 5).toNatClampNeg) s5) fun r9 s8 =>
gck (inb (s5 49 5) 8) (
gnm (gst s8 52 (s5 49 5).toNatClampNeg r9) fun s11 =>
gb2 (m_X3_readNumber 1 60 s11) fun r14 s13 =>
gck (inb (s11 49 5) 8) (
gnm (gst s13 53 (s11 49 5).toNatClampNeg r14) fun s16 =>
some s16))))
def b_X3_readPaths_6 (a0 : Int32) (rc : Int32 → gMem → Option (gMem)) (x2_3 : Int32) (s4 : gMem) : Option (gMem) :=
if x2_3 = 0 then (
some s4) else (
if 8 ≤ (s4 49 5) then (
some s4) else (
gb1 (m_X3_readPath a0 s4) fun s7 =>
gnm (gst s7 49 5 ((s7 49 5) + 1)) fun s8 =>
gb2 (m_X3_goesOn 44 s8) fun r11 s10 =>
rc r11 s10))
def m_X3_readPaths_6 (a0 : Int32) : Nat → Int32 → gMem → Option (gMem)
  | 0 => fun _ _ => none
  | n + 1 => b_X3_readPaths_6 a0 (m_X3_readPaths_6 a0 n)
def m_X3_readPaths (a0 : Int32) (σ : gMem) : Option (Int32 × gMem) :=
gb1 (m_X3_begin σ) fun s2 =>
gb1 (m_X3_readPaths_6 a0 gFU 1 s2) fun s5 =>
gb1 (m_X3_outcome s5) fun r14 =>
some (r14, s5)
def b_X1_joinAll_2 (rc : Int32 → gMem → Option (gMem)) (x2_1 : Int32) (s2 : gMem) : Option (gMem) :=
if (s2 49 5) ≤ x2_1 then (
some s2) else (
gck (inb x2_1 8) (
gck (inb x2_1 8) (
gck (inb x2_1 8) (
gb1 (m_X1_join (s2 51 x2_1.toNatClampNeg) (s2 52 x2_1.toNatClampNeg) (s2 53 x2_1.toNatClampNeg) s2) fun s8 =>
gnm (x2_1 + 1) fun x2_9 =>
rc x2_9 s8))))
def m_X1_joinAll_2 : Nat → Int32 → gMem → Option (gMem)
  | 0 => fun _ _ => none
  | n + 1 => b_X1_joinAll_2 (m_X1_joinAll_2 n)
def m_X1_joinAll  (σ : gMem) : Option (gMem) :=
gb1 (m_X1_joinAll_2 gFU 0 σ) fun s3 =>
some s3
def m_X6_paths  (σ : gMem) : Option (Int32 × gMem) :=
gb2 (m_X3_readPaths (σ 1 0) σ) fun r3 s2 =>
if r3 ≤ 0 then (
gnm (gst s2 49 0 0) fun s4 =>
some (r3, s4)) else (
gb1 (m_X1_joinAll s2) fun s6 =>
gnm (gst s6 49 0 0) fun s7 =>
some (r3, s7))
def b_X1_countPaths_14 (x2_2 : Int32) (σ : gMem) (rc : Int32 → Int32 → Option (Int32)) (x1_4 : Int32) (x3_5 : Int32) : Option (Int32) :=
if x2_2 ≤ x3_5 then (
some x1_4) else (
gck (inb x2_2 12) (
gck (inb x3_5 12) (
if (σ (13 + x2_2.toNatClampNeg) x3_5.toNatClampNeg) ≤ 0 then (
gnm (x3_5 + 1) fun x3_9 =>
rc x1_4 x3_9) else (
gnm (x1_4 + 1) fun x1_10 =>
gnm (x3_5 + 1) fun x3_11 =>
rc x1_10 x3_11))))
def m_X1_countPaths_14 (x2_2 : Int32) (σ : gMem) : Nat → Int32 → Int32 → Option (Int32)
  | 0 => fun _ _ => none
  | n + 1 => b_X1_countPaths_14 x2_2 σ (m_X1_countPaths_14 x2_2 σ n)
def b_X1_countPaths_4 (σ : gMem) (rc : Int32 → Int32 → Option (Int32)) (x1_1 : Int32) (x2_2 : Int32) : Option (Int32) :=
if (σ 1 0) ≤ x2_2 then (
some x1_1) else (
gb1 (m_X1_countPaths_14 x2_2 σ gFU x1_1 0) fun x1_6 =>
gnm (x2_2 + 1) fun x2_13 =>
rc x1_6 x2_13)
def m_X1_countPaths_4 (σ : gMem) : Nat → Int32 → Int32 → Option (Int32)
  | 0 => fun _ _ => none
  | n + 1 => b_X1_countPaths_4 σ (m_X1_countPaths_4 σ n)
def m_X1_countPaths  (σ : gMem) : Option (Int32) :=
gb1 (m_X1_countPaths_4 σ gFU 0 0) fun x1_3 =>
some x1_3
def m_X6_count (a0 : Int32) (σ : gMem) : Option (Int32) :=
if a0 = 0 then (
some (σ 1 0)) else if a0 = 1 then (
gb1 (m_X1_countPaths σ) fun r3 =>
some r3) else if a0 = 2 then (
some (σ 1 8)) else if a0 = 3 then (
some (σ 1 12)) else if a0 = 4 then (
some (σ 1 16)) else (
some (-1))
def m_X1_waterOver (a0 : Int32) (a1 : Int32) (a2 : Int32) (σ : gMem) : Option (Int32) :=
gck (inb a1 24) (
some (gmax 0 ((a0 + (σ 6 a1.toNatClampNeg)) + a2)))
def m_X1_waterAt (a0 : Int32) (a1 : Int32) (σ : gMem) : Option (Int32) :=
gck (inb a0 12) (
gb1 (m_X1_waterOver (σ 2 a0.toNatClampNeg) a1 (σ 1 6) σ) fun r3 =>
some r3)
def m_X6_water (a0 : Int32) (a1 : Int32) (σ : gMem) : Option (Int32) :=
gb1 (m_X1_hasPlace a0 σ) fun r2 =>
if r2 = 0 then (
some (-1)) else (
gb1 (m_X6_isHour a1 σ) fun r4 =>
if r4 = 0 then (
some (-1)) else (
gb1 (m_X1_waterAt a0 a1 σ) fun r6 =>
some r6))
def m_X1_fits (a0 : Int32) (a1 : Int32) (σ : gMem) : Option (Int32) :=
if a0 < a1 then (
some 0) else (
if (σ 1 7) < (a0 - a1) then (
some 0) else (
some 1))
def m_X1_bears (a0 : Int32) (a1 : Int32) (a2 : Int32) (a3 : Int32) (σ : gMem) : Option (Int32) :=
if a0 = 1 then (
gb1 (m_X1_fits (a1 / 2) a3 σ) fun r7 =>
if r7 = 0 then (
gb1 (m_X1_lengthByKind a0 a1 a2 σ) fun r9 =>
gb1 (m_X1_fits r9 a3 σ) fun r11 =>
gck (izb r11) (some r11)) else (
some 1)) else (
gb1 (m_X1_lengthByKind a0 a1 a2 σ) fun r2 =>
gb1 (m_X1_fits r2 a3 σ) fun r4 =>
gck (izb r4) (some r4))
def m_X1_standsAt (a0 : Int32) (a1 : Int32) (a2 : Int32) (σ : gMem) : Option (Int32) :=
gck (inb a0 8) (
gck (inb a0 8) (
gb1 (m_X1_waterAt a1 a2 σ) fun r4 =>
gb1 (m_X1_bears (σ 7 a0.toNatClampNeg) (σ 8 a0.toNatClampNeg) (σ 1 16) r4 σ) fun r6 =>
gck (izb r6) (some r6)))
def m_X6_stands (a0 : Int32) (a1 : Int32) (a2 : Int32) (σ : gMem) : Option (Int32) :=
gb1 (m_X1_hasPerson a0 σ) fun r2 =>
if r2 = 0 then (
some (-1)) else (
gb1 (m_X1_hasPlace a1 σ) fun r4 =>
if r4 = 0 then (
some (-1)) else (
gb1 (m_X6_isHour a2 σ) fun r6 =>
if r6 = 0 then (
some (-1)) else (
gb1 (m_X1_standsAt a0 a1 a2 σ) fun r8 =>
if r8 = 0 then (
some 0) else (
some 1))))
def b_X6_hours_29 (a0 : Int32) (a1 : Int32) (σ : gMem) (rc : Int32 → Int32 → Option (Int32)) (x3_5 : Int32) (x4_6 : Int32) : Option (Int32) :=
if 24 ≤ x4_6 then (
some x3_5) else (
gb1 (m_X1_standsAt a0 a1 x4_6 σ) fun r9 =>
if r9 = 0 then (
gnm (x4_6 + 1) fun x4_10 =>
rc x3_5 x4_10) else (
gnm (x3_5 ||| ((1 : Int32) <<< (x4_6 &&& 31))) fun x3_11 =>
gnm (x4_6 + 1) fun x4_12 =>
rc x3_11 x4_12))
def m_X6_hours_29 (a0 : Int32) (a1 : Int32) (σ : gMem) : Nat → Int32 → Int32 → Option (Int32)
  | 0 => fun _ _ => none
  | n + 1 => b_X6_hours_29 a0 a1 σ (m_X6_hours_29 a0 a1 σ n)
def m_X6_hours (a0 : Int32) (a1 : Int32) (σ : gMem) : Option (Int32) :=
gb1 (m_X1_hasPerson a0 σ) fun r2 =>
if r2 = 0 then (
some (-1)) else (
gb1 (m_X1_hasPlace a1 σ) fun r4 =>
if r4 = 0 then (
some (-1)) else (
gb1 (m_X6_hours_29 a0 a1 σ gFU 0 0) fun x3_7 =>
some x3_7))
def m_X1_depthIn (a0 : Int32) (a1 : Int32) (σ : gMem) : Option (Int32) :=
gck (inb a0 12) (
gck (inb a0 12) (
some (gmin 60 (gmax (-20) ((σ 2 a0.toNatClampNeg) - (a1 * (σ 4 a0.toNatClampNeg)))))))
def b_X1_age_2 (a0 : Int32) (rc : Int32 → gMem → Option (gMem)) (x2_1 : Int32) (s2 : gMem) : Option (gMem) :=
if (s2 1 0) ≤ x2_1 then (
some s2) else (
gb1 (m_X1_depthIn x2_1 a0 s2) fun r5 =>
gck (inb x2_1 12) (
gnm (gst s2 2 x2_1.toNatClampNeg r5) fun s7 =>
gnm (x2_1 + 1) fun x2_8 =>
rc x2_8 s7))
def m_X1_age_2 (a0 : Int32) : Nat → Int32 → gMem → Option (gMem)
  | 0 => fun _ _ => none
  | n + 1 => b_X1_age_2 a0 (m_X1_age_2 a0 n)
def m_X1_age (a0 : Int32) (σ : gMem) : Option (gMem) :=
gb1 (m_X1_age_2 a0 gFU 0 σ) fun s3 =>
gnm (gst s3 1 16 ((s3 1 16) + a0)) fun s10 =>
some s10
def m_X6_years (a0 : Int32) (σ : gMem) : Option (Int32 × gMem) :=
gb1 (m_X6_within a0 1 30 σ) fun r2 =>
if r2 = 0 then (
some ((-1), σ)) else (
if (σ 1 16) ≤ (999 - a0) then (
gb1 (m_X1_age a0 σ) fun s4 =>
some (s4 1 16, s4)) else (
some ((-3), σ)))
def m_X6_isMinute (a0 : Int32) (σ : gMem) : Option (Int32) :=
gb1 (m_X6_within a0 0 1439 σ) fun r2 =>
gck (izb r2) (some r2)
def b_X5_listPosts_66 (x2_4 : Int32) (x3_14 : Int32) (rc : Int32 → gMem → Option (gMem)) (x4_15 : Int32) (s16 : gMem) : Option (gMem) :=
if x3_14 ≤ x4_15 then (
some s16) else (
gck (inb x4_15 8) (
gck (inb x2_4 12) (
gck (inb (x3_14 + x4_15) 8) (
gnm (gst s16 56 (x3_14 + x4_15).toNatClampNeg ((s16 56 x4_15.toNatClampNeg) + (s16 3 x2_4.toNatClampNeg))) fun s21 =>
gnm (x4_15 + 1) fun x4_22 =>
rc x4_22 s21))))
def m_X5_listPosts_66 (x2_4 : Int32) (x3_14 : Int32) : Nat → Int32 → gMem → Option (gMem)
  | 0 => fun _ _ => none
  | n + 1 => b_X5_listPosts_66 x2_4 x3_14 (m_X5_listPosts_66 x2_4 x3_14 n)
def b_X5_listPosts_14 (rc : Int32 → gMem → Option (gMem)) (x2_4 : Int32) (s5 : gMem) : Option (gMem) :=
if (s5 54 0) ≤ x2_4 then (
some s5) else (
gck (inb x2_4 12) (
gnm (gst s5 55 x2_4.toNatClampNeg (-1)) fun s8 =>
gck (inb x2_4 12) (
if (s8 3 x2_4.toNatClampNeg) ≤ 0 then (
gnm (x2_4 + 1) fun x2_10 =>
rc x2_10 s8) else (
if 3 ≤ (s8 54 3) then (
gnm (x2_4 + 1) fun x2_11 =>
rc x2_11 s8) else (
gck (inb x2_4 12) (
gnm (gst s8 55 x2_4.toNatClampNeg (s8 54 3)) fun s13 =>
gnm ((1 : Int32) <<< ((s13 54 3) &&& 31)) fun x3_14 =>
gb1 (m_X5_listPosts_66 x2_4 x3_14 gFU 0 s13) fun s17 =>
gnm (gst s17 54 3 ((s17 54 3) + 1)) fun s24 =>
gnm (x2_4 + 1) fun x2_25 =>
rc x2_25 s24))))))
def m_X5_listPosts_14 : Nat → Int32 → gMem → Option (gMem)
  | 0 => fun _ _ => none
  | n + 1 => b_X5_listPosts_14 (m_X5_listPosts_14 n)
def m_X5_listPosts  (σ : gMem) : Option (gMem) :=
gnm (gst σ 54 3 0) fun s1 =>
gck (inb 0 8) (
gnm (gst s1 56 (0 : Int32).toNatClampNeg 0) fun s3 =>
gb1 (m_X5_listPosts_14 gFU 0 s3) fun s6 =>
some s6)
def b_X5_listEdges_17 (x2_2 : Int32) (rc : Int32 → gMem → Option (gMem)) (x3_5 : Int32) (s6 : gMem) : Option (gMem) :=
if x2_2 ≤ x3_5 then (
some s6) else (
gck (inb x2_2 12) (
gck (inb x3_5 12) (
if (s6 (13 + x2_2.toNatClampNeg) x3_5.toNatClampNeg) ≤ 0 then (
gnm (x3_5 + 1) fun x3_10 =>
rc x3_10 s6) else (
gck (inb (s6 54 9) 144) (
gnm (gst s6 60 (s6 54 9).toNatClampNeg x2_2) fun s12 =>
gck (inb (s12 54 9) 144) (
gnm (gst s12 61 (s12 54 9).toNatClampNeg x3_5) fun s14 =>
gck (inb x2_2 12) (
gck (inb x3_5 12) (
gck (inb (s14 54 9) 144) (
gnm (gst s14 62 (s14 54 9).toNatClampNeg (s14 (13 + x2_2.toNatClampNeg) x3_5.toNatClampNeg)) fun s18 =>
gnm (gst s18 54 9 ((s18 54 9) + 1)) fun s19 =>
gnm (x3_5 + 1) fun x3_20 =>
rc x3_20 s19)))))))))
def m_X5_listEdges_17 (x2_2 : Int32) : Nat → Int32 → gMem → Option (gMem)
  | 0 => fun _ _ => none
  | n + 1 => b_X5_listEdges_17 x2_2 (m_X5_listEdges_17 x2_2 n)
def b_X5_listEdges_7 (rc : Int32 → gMem → Option (gMem)) (x2_2 : Int32) (s3 : gMem) : Option (gMem) :=
if (s3 54 0) ≤ x2_2 then (
some s3) else (
gb1 (m_X5_listEdges_17 x2_2 gFU 0 s3) fun s7 =>
gnm (x2_2 + 1) fun x2_22 =>
rc x2_22 s7)
def m_X5_listEdges_7 : Nat → Int32 → gMem → Option (gMem)
  | 0 => fun _ _ => none
  | n + 1 => b_X5_listEdges_7 (m_X5_listEdges_7 n)
def m_X5_listEdges  (σ : gMem) : Option (gMem) :=
gnm (gst σ 54 9 0) fun s1 =>
gb1 (m_X5_listEdges_7 gFU 0 s1) fun s4 =>
some s4
def b_X5_footingIn_6 (a1 : Int32) (a2 : Int32) (σ : gMem) (rc : Int32 → Int32 → Option (Int32)) (x4_1 : Int32) (x5_2 : Int32) : Option (Int32) :=
if ((1 : Int32) <<< ((σ 54 3) &&& 31)) ≤ x5_2 then (
some x4_1) else (
gck (inb a1 8) (
gck (inb x5_2 8) (
gnm ((σ 8 a1.toNatClampNeg) + (σ 56 x5_2.toNatClampNeg)) fun x6_6 =>
gck (inb a1 8) (
gb1 (m_X1_bears (σ 7 a1.toNatClampNeg) x6_6 (σ 1 16) a2 σ) fun r9 =>
if r9 = 0 then (
gnm (x5_2 + 1) fun x5_10 =>
rc x4_1 x5_10) else (
gnm (x4_1 ||| ((1 : Int32) <<< (x5_2 &&& 31))) fun x4_11 =>
gnm (x5_2 + 1) fun x5_12 =>
rc x4_11 x5_12)))))
def m_X5_footingIn_6 (a1 : Int32) (a2 : Int32) (σ : gMem) : Nat → Int32 → Int32 → Option (Int32)
  | 0 => fun _ _ => none
  | n + 1 => b_X5_footingIn_6 a1 a2 σ (m_X5_footingIn_6 a1 a2 σ n)
def m_X5_footingIn (a1 : Int32) (a2 : Int32) (σ : gMem) : Option (Int32) :=
gb1 (m_X5_footingIn_6 a1 a2 σ gFU 0 0) fun x4_3 =>
some x4_3
def b_X5_prepare_48 (a1 : Int32) (x4_9 : Int32) (rc : Int32 → gMem → Option (gMem)) (x5_12 : Int32) (s13 : gMem) : Option (gMem) :=
if 24 ≤ x5_12 then (
some s13) else (
gck (inb x4_9 12) (
gb1 (m_X1_waterAt x4_9 x5_12 s13) fun r17 =>
gb1 (m_X5_footingIn a1 r17 s13) fun r19 =>
gck (inb x5_12 24) (
gnm (gst s13 (63 + x4_9.toNatClampNeg) x5_12.toNatClampNeg r19) fun s21 =>
gnm (x5_12 + 1) fun x5_22 =>
rc x5_22 s21)))
def m_X5_prepare_48 (a1 : Int32) (x4_9 : Int32) : Nat → Int32 → gMem → Option (gMem)
  | 0 => fun _ _ => none
  | n + 1 => b_X5_prepare_48 a1 x4_9 (m_X5_prepare_48 a1 x4_9 n)
def b_X5_prepare_36 (a1 : Int32) (rc : Int32 → gMem → Option (gMem)) (x4_9 : Int32) (s10 : gMem) : Option (gMem) :=
if (s10 54 0) ≤ x4_9 then (
some s10) else (
gb1 (m_X5_prepare_48 a1 x4_9 gFU 0 s10) fun s14 =>
gnm (x4_9 + 1) fun x4_24 =>
rc x4_24 s14)
def m_X5_prepare_36 (a1 : Int32) : Nat → Int32 → gMem → Option (gMem)
  | 0 => fun _ _ => none
  | n + 1 => b_X5_prepare_36 a1 (m_X5_prepare_36 a1 n)
def m_X5_prepare (a1 : Int32) (a2 : Int32) (σ : gMem) : Option (gMem) :=
gnm (gst σ 54 0 (σ 1 0)) fun s1 =>
gck (inb a1 8) (
gnm (gst s1 54 1 (s1 9 a1.toNatClampNeg)) fun s3 =>
gnm (gst s3 54 2 a2) fun s4 =>
gb1 (m_X5_listPosts s4) fun s6 =>
gb1 (m_X5_listEdges s6) fun s8 =>
gb1 (m_X5_prepare_36 a1 gFU 0 s8) fun s11 =>
some s11)
def m_X5_hourOf (a0 : Int32) (σ : gMem) : Option (Int32) :=
some (grem (((σ 54 2) + a0) / 60) 24)
def m_X5_walkAlong (a0 : Int32) (a1 : Int32) (a2 : Int32) (a3 : Int32) (σ : gMem) : Option (gMem) :=
gb1 (m_X5_hourOf a2 σ) fun r2 =>
gck (inb a0 12) (
gck (inb r2 24) (
gck (inb a1 12) (
gck (inb r2 24) (
gck (inb a0 12) (
gck (inb a3 24) (
gck (inb a1 12) (
gck (inb a3 24) (
gnm ((((σ (63 + a0.toNatClampNeg) r2.toNatClampNeg) &&& (σ (63 + a1.toNatClampNeg) r2.toNatClampNeg)) &&& (σ (63 + a0.toNatClampNeg) a3.toNatClampNeg)) &&& (σ (63 + a1.toNatClampNeg) a3.toNatClampNeg)) fun x6_11 =>
gck (inb (grem a2 61) 61) (
gck (inb a0 12) (
gck (inb a1 12) (
gck (inb a0 12) (
gnm (gst σ 59 a0.toNatClampNeg ((σ 59 a0.toNatClampNeg) ||| ((σ (75 + (grem a2 61).toNatClampNeg) a1.toNatClampNeg) &&& x6_11))) fun s16 =>
gck (inb a1 12) (
gck (inb a0 12) (
gck (inb a1 12) (
gnm (gst s16 59 a1.toNatClampNeg ((s16 59 a1.toNatClampNeg) ||| ((s16 (75 + (grem a2 61).toNatClampNeg) a0.toNatClampNeg) &&& x6_11))) fun s20 =>
some s20)))))))))))))))
def b_X5_arrive_2 (rc : Int32 → gMem → Option (gMem)) (x3_1 : Int32) (s2 : gMem) : Option (gMem) :=
if (s2 54 0) ≤ x3_1 then (
some s2) else (
gck (inb x3_1 12) (
gnm (gst s2 59 x3_1.toNatClampNeg 0) fun s5 =>
gnm (x3_1 + 1) fun x3_6 =>
rc x3_6 s5))
def m_X5_arrive_2 : Nat → Int32 → gMem → Option (gMem)
  | 0 => fun _ _ => none
  | n + 1 => b_X5_arrive_2 (m_X5_arrive_2 n)
def b_X5_arrive_51 (a0 : Int32) (a1 : Int32) (rc : Int32 → gMem → Option (gMem)) (x3_13 : Int32) (s14 : gMem) : Option (gMem) :=
if (s14 54 9) ≤ x3_13 then (
some s14) else (
gck (inb x3_13 144) (
if a0 < (s14 62 x3_13.toNatClampNeg) then (
gnm (x3_13 + 1) fun x3_17 =>
rc x3_17 s14) else (
gck (inb x3_13 144) (
gck (inb x3_13 144) (
gck (inb x3_13 144) (
gb1 (m_X5_walkAlong (s14 60 x3_13.toNatClampNeg) (s14 61 x3_13.toNatClampNeg) (a0 - (s14 62 x3_13.toNatClampNeg)) a1 s14) fun s22 =>
gnm (x3_13 + 1) fun x3_23 =>
rc x3_23 s22))))))
def m_X5_arrive_51 (a0 : Int32) (a1 : Int32) : Nat → Int32 → gMem → Option (gMem)
  | 0 => fun _ _ => none
  | n + 1 => b_X5_arrive_51 a0 a1 (m_X5_arrive_51 a0 a1 n)
def m_X5_arrive (a0 : Int32) (a1 : Int32) (σ : gMem) : Option (gMem) :=
gb1 (m_X5_arrive_2 gFU 0 σ) fun s3 =>
gb1 ((if a0 = 0 then (
gck (inb (s3 54 1) 12) (
gck (inb a1 24) (
gck (inb (s3 54 1) 12) (
gnm (gst s3 59 (s3 54 1).toNatClampNeg (1 &&& (s3 (63 + (s3 54 1).toNatClampNeg) a1.toNatClampNeg))) fun s12 =>
some s12)))) else (
some s3)) : Option (gMem)) fun s8 =>
gb1 (m_X5_arrive_51 a0 a1 gFU 0 s8) fun s15 =>
some s15
def m_X5_withSplice (a0 : Int32) (a1 : Int32) (σ : gMem) : Option (Int32) :=
gck (inb a0 12) (
gnm (σ 55 a0.toNatClampNeg) fun x3_2 =>
gb1 (m_X6_within x3_2 0 2 σ) fun r4 =>
if r4 = 0 then (
some 0) else (
gck (inb x3_2 3) (
some ((a1 &&& (gLk x3_2.toNatClampNeg)) <<< (((1 : Int32) <<< (x3_2 &&& 31)) &&& 31)))))
def b_X5_step_28 (a0 : Int32) (r2 : Int32) (rc : Int32 → Int32 → gMem → Option (Int32 × gMem)) (x4_6 : Int32) (x5_7 : Int32) (s8 : gMem) : Option (Int32 × gMem) :=
if (s8 54 0) ≤ x5_7 then (
some (x4_6, s8)) else (
gb1 ((if a0 ≤ 0 then (
some 0) else (
gck (inb (grem (a0 - 1) 61) 61) (
gck (inb x5_7 12) (
some (s8 (75 + (grem (a0 - 1) 61).toNatClampNeg) x5_7.toNatClampNeg))))) : Option (Int32)) fun w11 =>
gck (inb x5_7 12) (
gck (inb x5_7 12) (
gb1 (m_X5_withSplice x5_7 (s8 59 x5_7.toNatClampNeg) s8) fun r17 =>
gck (inb x5_7 12) (
gck (inb r2 24) (
gck (inb x5_7 12) (
gnm (gst s8 (75 + (grem a0 61).toNatClampNeg) x5_7.toNatClampNeg (((w11 ||| (s8 59 x5_7.toNatClampNeg)) ||| r17) &&& (s8 (63 + x5_7.toNatClampNeg) r2.toNatClampNeg))) fun s21 =>
gck (inb x5_7 12) (
if (s21 (75 + (grem a0 61).toNatClampNeg) x5_7.toNatClampNeg) = 0 then (
gnm (x4_6 ||| 0) fun x4_23 =>
gnm (x5_7 + 1) fun x5_24 =>
rc x4_23 x5_24 s21) else (
gnm (x4_6 ||| 1) fun x4_25 =>
gnm (x5_7 + 1) fun x5_26 =>
rc x4_25 x5_26 s21))))))))
def m_X5_step_28 (a0 : Int32) (r2 : Int32) : Nat → Int32 → Int32 → gMem → Option (Int32 × gMem)
  | 0 => fun _ _ _ => none
  | n + 1 => b_X5_step_28 a0 r2 (m_X5_step_28 a0 r2 n)
def m_X5_step (a0 : Int32) (σ : gMem) : Option (Int32 × gMem) :=
gb1 (m_X5_hourOf a0 σ) fun r2 =>
gb1 (m_X5_arrive a0 r2 σ) fun s4 =>
gck (inb (grem a0 61) 61) (
gb2 (m_X5_step_28 a0 r2 gFU 0 0 s4) fun x4_9 s10 =>
gck (izb x4_9) (some (x4_9, s10)))
def m_X6_holds (a0 : Int32) (a1 : Int32) (σ : gMem) : Option (Int32) :=
if ((a0 >>> (a1 &&& 31)) &&& 1) = 0 then (
some 0) else (
some 1)
def m_J6_bitCount_0f7a4 (a0 : Int32) (σ : gMem) : Option (Int32) :=
gnm (a0 - ((gus a0 1) &&& 1431655765)) fun x0_1 =>
gnm ((x0_1 &&& 858993459) + ((gus x0_1 2) &&& 858993459)) fun x0_2 =>
gnm ((x0_2 + (gus x0_2 4)) &&& 252645135) fun x0_3 =>
gnm (x0_3 + (gus x0_3 8)) fun x0_4 =>
gnm (x0_4 + (gus x0_4 16)) fun x0_5 =>
some (x0_5 &&& 63)
def b_X5_fewestTaken_4 (a0 : Int32) (σ : gMem) (rc : Int32 → Int32 → Option (Int32)) (x2_1 : Int32) (x3_2 : Int32) : Option (Int32) :=
if 8 ≤ x3_2 then (
some x2_1) else (
gb1 (m_X6_holds a0 x3_2 σ) fun r5 =>
if r5 = 0 then (
gnm (x3_2 + 1) fun x3_6 =>
rc x2_1 x3_6) else (
gb1 (m_J6_bitCount_0f7a4 x3_2 σ) fun r8 =>
gnm (gmin x2_1 r8) fun x2_9 =>
gnm (x3_2 + 1) fun x3_10 =>
rc x2_9 x3_10))
def m_X5_fewestTaken_4 (a0 : Int32) (σ : gMem) : Nat → Int32 → Int32 → Option (Int32)
  | 0 => fun _ _ => none
  | n + 1 => b_X5_fewestTaken_4 a0 σ (m_X5_fewestTaken_4 a0 σ n)
def m_X5_fewestTaken (a0 : Int32) (σ : gMem) : Option (Int32) :=
gb1 (m_X5_fewestTaken_4 a0 σ gFU 4 0) fun x2_3 =>
some x2_3
def b_X5_lightest_4 (a0 : Int32) (rc : Int32 → Int32 → gMem → Option (Int32 × gMem)) (x2_1 : Int32) (x3_2 : Int32) (s3 : gMem) : Option (Int32 × gMem) :=
if 600 < x3_2 then (
some (x2_1, s3)) else (
if x2_1 ≤ 0 then (
some (x2_1, s3)) else (
gb2 (m_X5_step x3_2 s3) fun r8 s7 =>
if r8 = 0 then (
some (x2_1, s7)) else (
gck (inb (grem x3_2 61) 61) (
gck (inb a0 12) (
gb1 (m_X5_fewestTaken (s7 (75 + (grem x3_2 61).toNatClampNeg) a0.toNatClampNeg) s7) fun r12 =>
gnm (gmin x2_1 r12) fun x2_13 =>
gnm (x3_2 + 1) fun x3_14 =>
rc x2_13 x3_14 s7)))))
def m_X5_lightest_4 (a0 : Int32) : Nat → Int32 → Int32 → gMem → Option (Int32 × gMem)
  | 0 => fun _ _ _ => none
  | n + 1 => b_X5_lightest_4 a0 (m_X5_lightest_4 a0 n)
def m_X5_lightest (a0 : Int32) (σ : gMem) : Option (Int32 × gMem) :=
gb2 (m_X5_lightest_4 a0 gFU 4 0 σ) fun x2_4 s5 =>
if x2_4 ≤ 3 then (
some (x2_4, s5)) else (
some ((-4), s5))
def b_X5_soonest_2 (a0 : Int32) (rc : Int32 → gMem → Option (Nat × Int32 × gMem)) (x2_1 : Int32) (s2 : gMem) : Option (Nat × Int32 × gMem) :=
if 600 < x2_1 then (
some (1, x2_1, s2)) else (
gb2 (m_X5_step x2_1 s2) fun r8 s7 =>
if r8 = 0 then (
some (1, x2_1, s7)) else (
gck (inb (grem x2_1 61) 61) (
gck (inb a0 12) (
if (s7 (75 + (grem x2_1 61).toNatClampNeg) a0.toNatClampNeg) = 0 then (
gnm (x2_1 + 1) fun x2_11 =>
rc x2_11 s7) else (
some (0, x2_1, s7))))))
def m_X5_soonest_2 (a0 : Int32) : Nat → Int32 → gMem → Option (Nat × Int32 × gMem)
  | 0 => fun _ _ => none
  | n + 1 => b_X5_soonest_2 a0 (m_X5_soonest_2 a0 n)
def m_X5_soonest (a0 : Int32) (σ : gMem) : Option (Int32 × gMem) :=
gb3 (m_X5_soonest_2 a0 gFU 0 σ) fun t5 x2_3 s4 =>
if t5 = 0 then (
some (x2_3, s4)) else (
some ((-4), s4))
def m_X6_way (a0 : Int32) (a1 : Int32) (a2 : Int32) (a3 : Int32) (σ : gMem) : Option (Int32 × gMem) :=
gb1 (m_X1_hasPerson a0 σ) fun r2 =>
if r2 = 0 then (
some ((-1), σ)) else (
gb1 (m_X1_hasPlace a1 σ) fun r4 =>
if r4 = 0 then (
some ((-1), σ)) else (
gb1 (m_X6_isMinute a2 σ) fun r6 =>
if r6 = 0 then (
some ((-1), σ)) else (
gb1 (m_X6_within a3 0 1 σ) fun r8 =>
if r8 = 0 then (
some ((-1), σ)) else (
gb1 (m_X5_prepare a0 a2 σ) fun s10 =>
if a3 = 0 then (
gb2 (m_X5_soonest a1 s10) fun r16 s15 =>
some (r16, s15)) else (
gb2 (m_X5_lightest a1 s10) fun r13 s12 =>
some (r13, s12))))))
def m_X1_hasPeople (a0 : Int32) (σ : gMem) : Option (Int32) :=
gb1 (m_X6_within a0 1 (((1 : Int32) <<< ((σ 1 8) &&& 31)) - 1) σ) fun r2 =>
gck (izb r2) (some r2)
def b_X6_race_56 (a0 : Int32) (a1 : Int32) (a2 : Int32) (rc : Int32 → Int32 → Int32 → Int32 → gMem → Option (Int32 × Int32 × gMem)) (x5_9 : Int32) (x6_10 : Int32) (x7_11 : Int32) (x8_12 : Int32) (s13 : gMem) : Option (Int32 × Int32 × gMem) :=
if (s13 1 8) ≤ x8_12 then (
some (x5_9, x7_11, s13)) else (
gb1 (m_X6_holds a0 x8_12 s13) fun r18 =>
if r18 = 0 then (
gnm (x8_12 + 1) fun x8_28 =>
rc x5_9 x6_10 x7_11 x8_28 s13) else (
gb1 (m_X5_prepare x8_12 a2 s13) fun s20 =>
gb2 (m_X5_soonest a1 s20) fun r23 s22 =>
if r23 = (-4) then (
gnm (x8_12 + 1) fun x8_27 =>
rc x5_9 x6_10 x7_11 x8_27 s22) else (
gnm (x7_11 + 1) fun x7_24 =>
if x6_10 ≤ r23 then (
gnm (x8_12 + 1) fun x8_25 =>
rc x5_9 x6_10 x7_24 x8_25 s22) else (
gnm (x8_12 + 1) fun x8_26 =>
rc x8_12 r23 x7_24 x8_26 s22))))
def m_X6_race_56 (a0 : Int32) (a1 : Int32) (a2 : Int32) : Nat → Int32 → Int32 → Int32 → Int32 → gMem → Option (Int32 × Int32 × gMem)
  | 0 => fun _ _ _ _ _ => none
  | n + 1 => b_X6_race_56 a0 a1 a2 (m_X6_race_56 a0 a1 a2 n)
def m_X6_race (a0 : Int32) (a1 : Int32) (a2 : Int32) (a3 : Int32) (σ : gMem) : Option (Int32 × gMem) :=
gb1 (m_X1_hasPeople a0 σ) fun r2 =>
if r2 = 0 then (
some ((-1), σ)) else (
gb1 (m_X1_hasPlace a1 σ) fun r4 =>
if r4 = 0 then (
some ((-1), σ)) else (
gb1 (m_X6_isMinute a2 σ) fun r6 =>
if r6 = 0 then (
some ((-1), σ)) else (
gb1 (m_X6_within a3 0 1 σ) fun r8 =>
if r8 = 0 then (
some ((-1), σ)) else (
gb3 (m_X6_race_56 a0 a1 a2 gFU (-4) 601 0 0 σ) fun x5_14 x7_15 s16 =>
if a3 = 0 then (
some (x5_14, s16)) else (
some (x7_15, s16))))))
def m_X1_addNeed (a0 : Int32) (a1 : Int32) (a2 : Int32) (σ : gMem) : Option (Int32 × gMem) :=
gck (inb (σ 1 12) 10) (
gnm (gst σ 10 (σ 1 12).toNatClampNeg a0) fun s2 =>
gck (inb (s2 1 12) 10) (
gnm (gst s2 11 (s2 1 12).toNatClampNeg a1) fun s4 =>
gck (inb (s4 1 12) 10) (
gnm (gst s4 12 (s4 1 12).toNatClampNeg a2) fun s6 =>
gnm (gst s6 1 12 ((s6 1 12) + 1)) fun s7 =>
some (s6 1 12, s7))))
def m_X6_need (a0 : Int32) (a1 : Int32) (a2 : Int32) (σ : gMem) : Option (Int32 × gMem) :=
gb1 (m_X1_hasPerson a0 σ) fun r2 =>
if r2 = 0 then (
some ((-1), σ)) else (
gb1 (m_X1_hasPlace a1 σ) fun r4 =>
if r4 = 0 then (
some ((-1), σ)) else (
gb1 (m_X6_isHour a2 σ) fun r6 =>
if r6 = 0 then (
some ((-1), σ)) else (
if (σ 1 12) < 10 then (
gb2 (m_X1_addNeed a0 a1 a2 σ) fun r9 s8 =>
some (r9, s8)) else (
some ((-3), σ)))))
def m_X1_isMet (a0 : Int32) (a1 : Int32) (σ : gMem) : Option (Int32) :=
gck (inb a0 10) (
gck (inb a0 10) (
gb1 (m_X1_waterAt (σ 11 a0.toNatClampNeg) (σ 12 a0.toNatClampNeg) σ) fun r4 =>
gck (inb a0 10) (
gck (inb (σ 10 a0.toNatClampNeg) 8) (
gb1 (m_X1_bears (σ 7 (σ 10 a0.toNatClampNeg).toNatClampNeg) a1 (σ 1 16) r4 σ) fun r8 =>
gck (izb r8) (some r8)))))
def b_X6_met_4 (σ : gMem) (rc : Int32 → Int32 → Option (Int32)) (x1_1 : Int32) (x2_2 : Int32) : Option (Int32) :=
if (σ 1 12) ≤ x2_2 then (
some x1_1) else (
gck (inb x2_2 10) (
gck (inb (σ 10 x2_2.toNatClampNeg) 8) (
gb1 (m_X1_isMet x2_2 (σ 8 (σ 10 x2_2.toNatClampNeg).toNatClampNeg) σ) fun r7 =>
if r7 = 0 then (
gnm (x2_2 + 1) fun x2_8 =>
rc x1_1 x2_8) else (
gnm (x1_1 ||| ((1 : Int32) <<< (x2_2 &&& 31))) fun x1_9 =>
gnm (x2_2 + 1) fun x2_10 =>
rc x1_9 x2_10))))
def m_X6_met_4 (σ : gMem) : Nat → Int32 → Int32 → Option (Int32)
  | 0 => fun _ _ => none
  | n + 1 => b_X6_met_4 σ (m_X6_met_4 σ n)
def m_X6_met  (σ : gMem) : Option (Int32) :=
gb1 (m_X6_met_4 σ gFU 0 0) fun x1_3 =>
some x1_3
def b_X4_suitedBy_8 (a1 : Int32) (σ : gMem) (rc : Int32 → Int32 → Option (Int32)) (x3_2 : Int32) (x4_3 : Int32) : Option (Int32) :=
if (σ 1 12) ≤ x4_3 then (
some x3_2) else (
gb1 (m_X1_isMet x4_3 a1 σ) fun r6 =>
if r6 = 0 then (
gck (inb x4_3 10) (
gnm (x3_2 &&& (((1 : Int32) <<< ((σ 10 x4_3.toNatClampNeg) &&& 31)) ^^^ (-1))) fun x3_9 =>
gnm (x4_3 + 1) fun x4_10 =>
rc x3_9 x4_10)) else (
gnm (x4_3 + 1) fun x4_7 =>
rc x3_2 x4_7))
def m_X4_suitedBy_8 (a1 : Int32) (σ : gMem) : Nat → Int32 → Int32 → Option (Int32)
  | 0 => fun _ _ => none
  | n + 1 => b_X4_suitedBy_8 a1 σ (m_X4_suitedBy_8 a1 σ n)
def m_X4_suitedBy (a1 : Int32) (σ : gMem) : Option (Int32) :=
gnm (σ 136 0) fun x3_1 =>
gb1 (m_X4_suitedBy_8 a1 σ gFU x3_1 0) fun x3_4 =>
some x3_4
def b_X4_weighWith_11 (a0 : Int32) (rc : Int32 → gMem → Option (gMem)) (x3_2 : Int32) (s3 : gMem) : Option (gMem) :=
if (s3 136 0) < x3_2 then (
some s3) else (
gck (inb a0 62) (
gck (inb x3_2 256) (
gck (inb a0 61) (
gck (inb (x3_2 &&& ((s3 137 a0.toNatClampNeg) ^^^ (-1))) 256) (
gck (inb x3_2 256) (
gnm (gst s3 (139 + a0.toNatClampNeg) x3_2.toNatClampNeg (gmin (s3 (139 + (a0 + 1).toNatClampNeg) x3_2.toNatClampNeg) (1 + (s3 (139 + (a0 + 1).toNatClampNeg) (x3_2 &&& ((s3 137 a0.toNatClampNeg) ^^^ (-1))).toNatClampNeg)))) fun s10 =>
gnm (x3_2 + 1) fun x3_11 =>
rc x3_11 s10))))))
def m_X4_weighWith_11 (a0 : Int32) : Nat → Int32 → gMem → Option (gMem)
  | 0 => fun _ _ => none
  | n + 1 => b_X4_weighWith_11 a0 (m_X4_weighWith_11 a0 n)
def m_X4_weighWith (a0 : Int32) (σ : gMem) : Option (gMem) :=
gck (inb (a0 + 1) 62) (
gb1 (m_X4_weighWith_11 a0 gFU 0 σ) fun s4 =>
some s4)
def b_X4_weigh_7 (rc : Int32 → gMem → Option (gMem)) (x2_2 : Int32) (s3 : gMem) : Option (gMem) :=
if (s3 1 12) ≤ x2_2 then (
some s3) else (
gck (inb x2_2 10) (
gnm (gst s3 136 0 ((s3 136 0) ||| ((1 : Int32) <<< ((s3 10 x2_2.toNatClampNeg) &&& 31)))) fun s6 =>
gnm (x2_2 + 1) fun x2_7 =>
rc x2_7 s6))
def m_X4_weigh_7 : Nat → Int32 → gMem → Option (gMem)
  | 0 => fun _ _ => none
  | n + 1 => b_X4_weigh_7 (m_X4_weigh_7 n)
def b_X4_weigh_40 (rc : Int32 → gMem → Option (gMem)) (x2_9 : Int32) (s10 : gMem) : Option (gMem) :=
if 256 ≤ x2_9 then (
some s10) else (
gck (inb 61 62) (
if x2_9 = 0 then (
gck (inb x2_9 256) (
gnm (gst s10 (139 + (61 : Int32).toNatClampNeg) x2_9.toNatClampNeg 0) fun s17 =>
gnm (x2_9 + 1) fun x2_18 =>
rc x2_18 s17)) else (
gck (inb x2_9 256) (
gnm (gst s10 (139 + (61 : Int32).toNatClampNeg) x2_9.toNatClampNeg 100) fun s14 =>
gnm (x2_9 + 1) fun x2_15 =>
rc x2_15 s14))))
def m_X4_weigh_40 : Nat → Int32 → gMem → Option (gMem)
  | 0 => fun _ _ => none
  | n + 1 => b_X4_weigh_40 (m_X4_weigh_40 n)
def b_X4_weigh_75 (rc : Int32 → gMem → Option (gMem)) (x2_20 : Int32) (s21 : gMem) : Option (gMem) :=
if x2_20 < 0 then (
some s21) else (
gb1 (m_X4_suitedBy x2_20 s21) fun r24 =>
gck (inb x2_20 61) (
gnm (gst s21 137 x2_20.toNatClampNeg r24) fun s26 =>
gb1 (m_X4_weighWith x2_20 s26) fun s28 =>
gnm (x2_20 + (-1)) fun x2_29 =>
rc x2_29 s28))
def m_X4_weigh_75 : Nat → Int32 → gMem → Option (gMem)
  | 0 => fun _ _ => none
  | n + 1 => b_X4_weigh_75 (m_X4_weigh_75 n)
def m_X4_weigh  (σ : gMem) : Option (gMem) :=
gnm (gst σ 136 0 0) fun s1 =>
gb1 (m_X4_weigh_7 gFU 0 s1) fun s4 =>
gb1 (m_X4_weigh_40 gFU 0 s4) fun s11 =>
gb1 (m_X4_weigh_75 gFU 60 s11) fun s22 =>
some s22
def m_X4_fewestLengths  (σ : gMem) : Option (Int32) :=
gck (inb 0 62) (
gck (inb (σ 136 0) 256) (
if 100 ≤ (σ (139 + (0 : Int32).toNatClampNeg) (σ 136 0).toNatClampNeg) then (
some (-4)) else (
gck (inb 0 62) (
gck (inb (σ 136 0) 256) (
some (σ (139 + (0 : Int32).toNatClampNeg) (σ 136 0).toNatClampNeg))))))
def b_X4_chosen_21 (a0 : Int32) (σ : gMem) (rc : Int32 → Int32 → Int32 → Option (Nat × Int32)) (x2_4 : Int32) (x3_5 : Int32) (x4_6 : Int32) : Option (Nat × Int32) :=
if 60 < x4_6 then (
some (1, x4_6)) else (
gck (inb x4_6 61) (
gnm (x2_4 &&& ((σ 137 x4_6.toNatClampNeg) ^^^ (-1))) fun x5_10 =>
gck (inb x4_6 62) (
gck (inb x2_4 256) (
gck (inb (x4_6 + 1) 62) (
gck (inb x5_10 256) (
if (σ (139 + x4_6.toNatClampNeg) x2_4.toNatClampNeg) = (1 + (σ (139 + (x4_6 + 1).toNatClampNeg) x5_10.toNatClampNeg)) then (
if x3_5 = a0 then (
some (0, x4_6)) else (
gnm (x3_5 + 1) fun x3_16 =>
gnm (x4_6 + 1) fun x4_17 =>
rc x5_10 x3_16 x4_17)) else (
gnm (x4_6 + 1) fun x4_15 =>
rc x2_4 x3_5 x4_15)))))))
def m_X4_chosen_21 (a0 : Int32) (σ : gMem) : Nat → Int32 → Int32 → Int32 → Option (Nat × Int32)
  | 0 => fun _ _ _ => none
  | n + 1 => b_X4_chosen_21 a0 σ (m_X4_chosen_21 a0 σ n)
def m_X4_chosen (a0 : Int32) (σ : gMem) : Option (Int32) :=
gb1 (m_X4_fewestLengths σ) fun r2 =>
if a0 < r2 then (
gnm (σ 136 0) fun x2_3 =>
gb2 (m_X4_chosen_21 a0 σ gFU x2_3 0 0) fun t8 x4_7 =>
if t8 = 0 then (
some x4_7) else (
some (-4))) else (
some (-4))
def m_X6_lengths (a0 : Int32) (σ : gMem) : Option (Int32 × gMem) :=
if (-1) ≤ a0 then (
if (σ 1 12) = 0 then (
some ((-2), σ)) else (
gb1 (m_X4_weigh σ) fun s2 =>
if a0 = (-1) then (
gb1 (m_X4_fewestLengths s2) fun r6 =>
some (r6, s2)) else (
gb1 (m_X4_chosen a0 s2) fun r4 =>
some (r4, s2)))) else (
some ((-1), σ))
def b_X1_countStanding_5 (a0 : Int32) (a1 : Int32) (σ : gMem) (rc : Int32 → Int32 → Option (Int32)) (x3_1 : Int32) (x4_2 : Int32) : Option (Int32) :=
if (σ 1 8) ≤ x4_2 then (
some x3_1) else (
gb1 (m_X1_standsAt x4_2 a0 a1 σ) fun r5 =>
if r5 = 0 then (
gnm (x4_2 + 1) fun x4_6 =>
rc x3_1 x4_6) else (
gnm (x3_1 + 1) fun x3_7 =>
gnm (x4_2 + 1) fun x4_8 =>
rc x3_7 x4_8))
def m_X1_countStanding_5 (a0 : Int32) (a1 : Int32) (σ : gMem) : Nat → Int32 → Int32 → Option (Int32)
  | 0 => fun _ _ => none
  | n + 1 => b_X1_countStanding_5 a0 a1 σ (m_X1_countStanding_5 a0 a1 σ n)
def m_X1_countStanding (a0 : Int32) (a1 : Int32) (σ : gMem) : Option (Int32) :=
gb1 (m_X1_countStanding_5 a0 a1 σ gFU 0 0) fun x3_3 =>
some x3_3
def b_X6_meeting_34 (x5_6 : Int32) (σ : gMem) (rc : Int32 → Int32 → Int32 → Int32 → Option (Int32 × Int32 × Int32)) (x2_10 : Int32) (x3_11 : Int32) (x4_12 : Int32) (x6_13 : Int32) : Option (Int32 × Int32 × Int32) :=
if (σ 1 0) ≤ x6_13 then (
some (x2_10, x3_11, x4_12)) else (
gck (inb x6_13 12) (
if 0 ≤ (σ 2 x6_13.toNatClampNeg) then (
if (-4) ≤ x4_12 then (
gnm (x6_13 + 1) fun x6_18 =>
rc x2_10 x3_11 x4_12 x6_18) else (
gnm (x6_13 + 1) fun x6_19 =>
rc x6_13 x5_6 (-4) x6_19)) else (
gb1 (m_X1_countStanding x6_13 x5_6 σ) fun r21 =>
if r21 ≤ x4_12 then (
gnm (x6_13 + 1) fun x6_22 =>
rc x2_10 x3_11 x4_12 x6_22) else (
gnm (x6_13 + 1) fun x6_23 =>
rc x6_13 x5_6 r21 x6_23))))
def m_X6_meeting_34 (x5_6 : Int32) (σ : gMem) : Nat → Int32 → Int32 → Int32 → Int32 → Option (Int32 × Int32 × Int32)
  | 0 => fun _ _ _ _ => none
  | n + 1 => b_X6_meeting_34 x5_6 σ (m_X6_meeting_34 x5_6 σ n)
def b_X6_meeting_24 (σ : gMem) (rc : Int32 → Int32 → Int32 → Int32 → Option (Int32 × Int32 × Int32)) (x2_3 : Int32) (x3_4 : Int32) (x4_5 : Int32) (x5_6 : Int32) : Option (Int32 × Int32 × Int32) :=
if 24 ≤ x5_6 then (
some (x2_3, x3_4, x4_5)) else (
gb3 (m_X6_meeting_34 x5_6 σ gFU x2_3 x3_4 x4_5 0) fun x2_14 x3_15 x4_16 =>
gnm (x5_6 + 1) fun x5_25 =>
rc x2_14 x3_15 x4_16 x5_25)
def m_X6_meeting_24 (σ : gMem) : Nat → Int32 → Int32 → Int32 → Int32 → Option (Int32 × Int32 × Int32)
  | 0 => fun _ _ _ _ => none
  | n + 1 => b_X6_meeting_24 σ (m_X6_meeting_24 σ n)
def m_X6_meeting (a0 : Int32) (σ : gMem) : Option (Int32) :=
gb1 (m_X6_within a0 0 2 σ) fun r2 =>
if r2 = 0 then (
some (-1)) else (
gb3 (m_X6_meeting_24 σ gFU (-4) (-4) (-4) 0) fun x2_7 x3_8 x4_9 =>
if a0 = 0 then (
some x2_7) else (
if a0 = 1 then (
some x3_8) else (
some x4_9)))
def b_X1_shortestOf_4 (a0 : Int32) (σ : gMem) (rc : Int32 → Int32 → Option (Int32)) (x2_1 : Int32) (x3_2 : Int32) : Option (Int32) :=
if (σ 1 8) ≤ x3_2 then (
some x2_1) else (
gb1 (m_X6_holds a0 x3_2 σ) fun r5 =>
if r5 = 0 then (
gnm (x3_2 + 1) fun x3_6 =>
rc x2_1 x3_6) else (
if x2_1 < 0 then (
gnm (x3_2 + 1) fun x3_7 =>
rc x3_2 x3_7) else (
gb1 (m_X1_lengthOf x3_2 σ) fun r9 =>
gb1 (m_X1_lengthOf x2_1 σ) fun r11 =>
if r11 ≤ r9 then (
gnm (x3_2 + 1) fun x3_12 =>
rc x2_1 x3_12) else (
gnm (x3_2 + 1) fun x3_13 =>
rc x3_2 x3_13))))
def m_X1_shortestOf_4 (a0 : Int32) (σ : gMem) : Nat → Int32 → Int32 → Option (Int32)
  | 0 => fun _ _ => none
  | n + 1 => b_X1_shortestOf_4 a0 σ (m_X1_shortestOf_4 a0 σ n)
def m_X1_shortestOf (a0 : Int32) (σ : gMem) : Option (Int32) :=
gb1 (m_X1_shortestOf_4 a0 σ gFU (-1) 0) fun x2_3 =>
some (gmax 0 x2_3)
def b_X6_pairs_29 (a0 : Int32) (σ : gMem) (rc : Int32 → Int32 → Int32 → Option (Nat × Int32)) (x2_4 : Int32) (x3_5 : Int32) (x4_6 : Int32) : Option (Nat × Int32) :=
if 8 ≤ x4_6 then (
some (1, x2_4)) else (
if x3_5 = 0 then (
some (1, x2_4)) else (
gb1 (m_X1_shortestOf x3_5 σ) fun r10 =>
gnm (x3_5 &&& (((1 : Int32) <<< (r10 &&& 31)) ^^^ (-1))) fun x3_11 =>
if x3_11 = 0 then (
some (0, x2_4)) else (
gb1 (m_X1_shortestOf x3_11 σ) fun r13 =>
gb1 (m_X1_lengthOf r13 σ) fun r15 =>
gb1 (m_X1_lengthOf r10 σ) fun r17 =>
if a0 < (r15 - r17) then (
gnm (x4_6 + 1) fun x4_18 =>
rc x2_4 x3_11 x4_18) else (
gnm (x2_4 + 1) fun x2_19 =>
gnm (x3_11 &&& (((1 : Int32) <<< (r13 &&& 31)) ^^^ (-1))) fun x3_20 =>
gnm (x4_6 + 1) fun x4_21 =>
rc x2_19 x3_20 x4_21))))
def m_X6_pairs_29 (a0 : Int32) (σ : gMem) : Nat → Int32 → Int32 → Int32 → Option (Nat × Int32)
  | 0 => fun _ _ _ => none
  | n + 1 => b_X6_pairs_29 a0 σ (m_X6_pairs_29 a0 σ n)
def m_X6_pairs (a0 : Int32) (σ : gMem) : Option (Int32) :=
gb1 (m_X6_within a0 0 60 σ) fun r2 =>
if r2 = 0 then (
some (-1)) else (
gnm (((1 : Int32) <<< ((σ 1 8) &&& 31)) - 1) fun x3_3 =>
gb2 (m_X6_pairs_29 a0 σ gFU 0 x3_3 0) fun t8 x2_7 =>
if t8 = 0 then (
some x2_7) else (
some x2_7))
def b_X1_drownsWith_16 (a0 : Int32) (a1 : Int32) (a2 : Int32) (x4_3 : Int32) (σ : gMem) (rc : Int32 → Option (Nat)) (x5_4 : Int32) : Option (Nat) :=
if 24 ≤ x5_4 then (
some 1) else (
gck (inb a0 8) (
gb1 (m_X1_waterOver x4_3 x5_4 a2 σ) fun r8 =>
gb1 (m_X1_bears (σ 7 a0.toNatClampNeg) a1 (σ 1 16) r8 σ) fun r10 =>
if r10 = 0 then (
some 0) else (
gnm (x5_4 + 1) fun x5_11 =>
rc x5_11)))
def m_X1_drownsWith_16 (a0 : Int32) (a1 : Int32) (a2 : Int32) (x4_3 : Int32) (σ : gMem) : Nat → Int32 → Option (Nat)
  | 0 => fun _ => none
  | n + 1 => b_X1_drownsWith_16 a0 a1 a2 x4_3 σ (m_X1_drownsWith_16 a0 a1 a2 x4_3 σ n)
def m_X1_drownsWith (a0 : Int32) (a1 : Int32) (a2 : Int32) (σ : gMem) : Option (Int32) :=
gck (inb a0 8) (
gck (inb (σ 9 a0.toNatClampNeg) 12) (
gnm (σ 2 (σ 9 a0.toNatClampNeg).toNatClampNeg) fun x4_3 =>
gb1 (m_X1_drownsWith_16 a0 a1 a2 x4_3 σ gFU 0) fun t5 =>
if t5 = 0 then (
some 1) else (
some 0)))
def m_X0_drownedBehind (a0 : Int32) (a1 : Int32) (σ : gMem) : Option (Int32) :=
gb1 (m_J6_bitCount_0f7a4 a0 σ) fun r2 =>
gnm (gmin r2 7) fun x3_3 =>
gck (inb x3_3 8) (
gck (inb (a0 ||| ((1 : Int32) <<< (a1 &&& 31))) 256) (
some ((((σ 202 x3_3.toNatClampNeg) >>> (a1 &&& 31)) &&& 1) + (σ 203 (a0 ||| ((1 : Int32) <<< (a1 &&& 31))).toNatClampNeg))))
def b_X0_firstBest_4 (a0 : Int32) (σ : gMem) (rc : Int32 → Int32 → Option (Int32)) (x2_1 : Int32) (x3_2 : Int32) : Option (Int32) :=
if (σ 201 0) ≤ x3_2 then (
some x2_1) else (
gb1 (m_X6_holds a0 x3_2 σ) fun r5 =>
if r5 = 0 then (
if x2_1 < 0 then (
gnm (x3_2 + 1) fun x3_6 =>
rc x3_2 x3_6) else (
gb1 (m_X0_drownedBehind a0 x3_2 σ) fun r8 =>
gb1 (m_X0_drownedBehind a0 x2_1 σ) fun r10 =>
if r10 ≤ r8 then (
gnm (x3_2 + 1) fun x3_11 =>
rc x2_1 x3_11) else (
gnm (x3_2 + 1) fun x3_12 =>
rc x3_2 x3_12))) else (
gnm (x3_2 + 1) fun x3_13 =>
rc x2_1 x3_13))
def m_X0_firstBest_4 (a0 : Int32) (σ : gMem) : Nat → Int32 → Int32 → Option (Int32)
  | 0 => fun _ _ => none
  | n + 1 => b_X0_firstBest_4 a0 σ (m_X0_firstBest_4 a0 σ n)
def m_X0_firstBest (a0 : Int32) (σ : gMem) : Option (Int32) :=
gb1 (m_X0_firstBest_4 a0 σ gFU (-1) 0) fun x2_3 =>
some (gmax 0 x2_3)
def b_X0_weigh_28 (a1 : Int32) (x3_2 : Int32) (rc : Int32 → gMem → Option (gMem)) (x4_7 : Int32) (s8 : gMem) : Option (gMem) :=
if (s8 201 0) ≤ x4_7 then (
some s8) else (
gck (inb x4_7 8) (
gb1 (m_X1_drownsWith x3_2 (s8 8 x4_7.toNatClampNeg) a1 s8) fun r12 =>
if r12 = 0 then (
gnm (x4_7 + 1) fun x4_13 =>
rc x4_13 s8) else (
gck (inb x3_2 8) (
gck (inb x3_2 8) (
gnm (gst s8 202 x3_2.toNatClampNeg ((s8 202 x3_2.toNatClampNeg) ||| ((1 : Int32) <<< (x4_7 &&& 31)))) fun s16 =>
gnm (x4_7 + 1) fun x4_17 =>
rc x4_17 s16)))))
def m_X0_weigh_28 (a1 : Int32) (x3_2 : Int32) : Nat → Int32 → gMem → Option (gMem)
  | 0 => fun _ _ => none
  | n + 1 => b_X0_weigh_28 a1 x3_2 (m_X0_weigh_28 a1 x3_2 n)
def b_X0_weigh_10 (a1 : Int32) (rc : Int32 → gMem → Option (gMem)) (x3_2 : Int32) (s3 : gMem) : Option (gMem) :=
if (s3 201 0) ≤ x3_2 then (
some s3) else (
gck (inb x3_2 8) (
gnm (gst s3 202 x3_2.toNatClampNeg 0) fun s6 =>
gb1 (m_X0_weigh_28 a1 x3_2 gFU 0 s6) fun s9 =>
gnm (x3_2 + 1) fun x3_19 =>
rc x3_19 s9))
def m_X0_weigh_10 (a1 : Int32) : Nat → Int32 → gMem → Option (gMem)
  | 0 => fun _ _ => none
  | n + 1 => b_X0_weigh_10 a1 (m_X0_weigh_10 a1 n)
def b_X0_weigh_99 (rc : Int32 → gMem → Option (gMem)) (x4_25 : Int32) (s26 : gMem) : Option (gMem) :=
if x4_25 < 0 then (
some s26) else (
gb1 (m_X0_firstBest x4_25 s26) fun r29 =>
gb1 (m_X0_drownedBehind x4_25 r29 s26) fun r31 =>
gck (inb x4_25 256) (
gnm (gst s26 203 x4_25.toNatClampNeg r31) fun s33 =>
gnm (x4_25 + (-1)) fun x4_34 =>
rc x4_34 s33))
def m_X0_weigh_99 : Nat → Int32 → gMem → Option (gMem)
  | 0 => fun _ _ => none
  | n + 1 => b_X0_weigh_99 (m_X0_weigh_99 n)
def m_X0_weigh (a1 : Int32) (σ : gMem) : Option (gMem) :=
gnm (gst σ 201 0 (σ 1 8)) fun s1 =>
gb1 (m_X0_weigh_10 a1 gFU 0 s1) fun s4 =>
gnm (((1 : Int32) <<< ((s4 201 0) &&& 31)) - 1) fun x3_21 =>
gck (inb x3_21 256) (
gnm (gst s4 203 x3_21.toNatClampNeg 0) fun s23 =>
gnm (x3_21 - 1) fun x4_24 =>
gb1 (m_X0_weigh_99 gFU x4_24 s23) fun s27 =>
some s27)
def b_X0_lengthGivenTo_4 (a0 : Int32) (σ : gMem) (rc : Int32 → Int32 → Option (Int32)) (x2_1 : Int32) (x3_2 : Int32) : Option (Int32) :=
if a0 ≤ x3_2 then (
some x2_1) else (
gb1 (m_X0_firstBest x2_1 σ) fun r5 =>
gnm (x2_1 ||| ((1 : Int32) <<< (r5 &&& 31))) fun x2_6 =>
gnm (x3_2 + 1) fun x3_7 =>
rc x2_6 x3_7)
def m_X0_lengthGivenTo_4 (a0 : Int32) (σ : gMem) : Nat → Int32 → Int32 → Option (Int32)
  | 0 => fun _ _ => none
  | n + 1 => b_X0_lengthGivenTo_4 a0 σ (m_X0_lengthGivenTo_4 a0 σ n)
def m_X0_lengthGivenTo (a0 : Int32) (σ : gMem) : Option (Int32) :=
gb1 (m_X0_lengthGivenTo_4 a0 σ gFU 0 0) fun x2_3 =>
gb1 (m_X0_firstBest x2_3 σ) fun r10 =>
some r10
def m_X0_fewestDrowned  (σ : gMem) : Option (Int32) :=
gck (inb 0 256) (
some (σ 203 (0 : Int32).toNatClampNeg))
def b_X0_drownedAsTheyAre_4 (σ : gMem) (rc : Int32 → Int32 → Option (Int32)) (x1_1 : Int32) (x2_2 : Int32) : Option (Int32) :=
if (σ 201 0) ≤ x2_2 then (
some x1_1) else (
gck (inb x2_2 8) (
gb1 (m_X6_holds (σ 202 x2_2.toNatClampNeg) x2_2 σ) fun r6 =>
if r6 = 0 then (
gnm (x2_2 + 1) fun x2_7 =>
rc x1_1 x2_7) else (
gnm (x1_1 ||| ((1 : Int32) <<< (x2_2 &&& 31))) fun x1_8 =>
gnm (x2_2 + 1) fun x2_9 =>
rc x1_8 x2_9)))
def m_X0_drownedAsTheyAre_4 (σ : gMem) : Nat → Int32 → Int32 → Option (Int32)
  | 0 => fun _ _ => none
  | n + 1 => b_X0_drownedAsTheyAre_4 σ (m_X0_drownedAsTheyAre_4 σ n)
def m_X0_drownedAsTheyAre  (σ : gMem) : Option (Int32) :=
gb1 (m_X0_drownedAsTheyAre_4 σ gFU 0 0) fun x1_3 =>
some x1_3
def m_X6_flood (a0 : Int32) (a1 : Int32) (σ : gMem) : Option (Int32 × gMem) :=
gb1 (m_X6_within a0 0 40 σ) fun r2 =>
if r2 = 0 then (
some ((-1), σ)) else (
gb1 (m_X6_within a1 (-2) ((σ 1 8) - 1) σ) fun r4 =>
if r4 = 0 then (
some ((-1), σ)) else (
gb1 (m_X0_weigh a0 σ) fun s6 =>
if a1 = (-1) then (
gb1 (m_X0_drownedAsTheyAre s6) fun r12 =>
some (r12, s6)) else (
if a1 = (-2) then (
gb1 (m_X0_fewestDrowned s6) fun r10 =>
some (r10, s6)) else (
gb1 (m_X0_lengthGivenTo a1 s6) fun r8 =>
some (r8, s6)))))
def b_X6_carried_40 (a0 : Int32) (a1 : Int32) (a2 : Int32) (σ : gMem) (rc : Int32 → Int32 → Int32 → Option (Int32 × Int32)) (x4_7 : Int32) (x5_8 : Int32) (x6_9 : Int32) : Option (Int32 × Int32) :=
if (σ 1 8) ≤ x6_9 then (
some (x4_7, x5_8)) else (
gb1 (m_X6_holds a0 x6_9 σ) fun r13 =>
if r13 = 0 then (
gnm (x6_9 + 1) fun x6_20 =>
rc x4_7 x5_8 x6_20) else (
gb1 (m_X1_standsAt x6_9 a1 a2 σ) fun r15 =>
if r15 = 0 then (
gnm (x5_8 + 1) fun x5_16 =>
gnm (x6_9 + 1) fun x6_17 =>
rc x4_7 x5_16 x6_17) else (
gnm (x4_7 + 1) fun x4_18 =>
gnm (x6_9 + 1) fun x6_19 =>
rc x4_18 x5_8 x6_19)))
def m_X6_carried_40 (a0 : Int32) (a1 : Int32) (a2 : Int32) (σ : gMem) : Nat → Int32 → Int32 → Int32 → Option (Int32 × Int32)
  | 0 => fun _ _ _ => none
  | n + 1 => b_X6_carried_40 a0 a1 a2 σ (m_X6_carried_40 a0 a1 a2 σ n)
def b_X6_carried_99 (x4_10 : Int32) (x5_11 : Int32) (rc : Int32 → Int32 → Option (Int32)) (x6_22 : Int32) (x7_23 : Int32) : Option (Int32) :=
if x5_11 ≤ x7_23 then (
some x6_22) else (
gnm (x6_22 * (gmax 0 (x4_10 - x7_23))) fun x6_25 =>
gnm (x7_23 + 1) fun x7_26 =>
rc x6_25 x7_26)
def m_X6_carried_99 (x4_10 : Int32) (x5_11 : Int32) : Nat → Int32 → Int32 → Option (Int32)
  | 0 => fun _ _ => none
  | n + 1 => b_X6_carried_99 x4_10 x5_11 (m_X6_carried_99 x4_10 x5_11 n)
def m_X6_carried (a0 : Int32) (a1 : Int32) (a2 : Int32) (σ : gMem) : Option (Int32) :=
gb1 (m_X1_hasPeople a0 σ) fun r2 =>
if r2 = 0 then (
some (-1)) else (
gb1 (m_X1_hasPlace a1 σ) fun r4 =>
if r4 = 0 then (
some (-1)) else (
gb1 (m_X6_isHour a2 σ) fun r6 =>
if r6 = 0 then (
some (-1)) else (
gb2 (m_X6_carried_40 a0 a1 a2 σ gFU 0 0 0) fun x4_10 x5_11 =>
gb1 (m_X6_carried_99 x4_10 x5_11 gFU 1 0) fun x6_24 =>
some x6_24)))
def m_X1_standsAtHomeIn (a0 : Int32) (a1 : Int32) (a2 : Int32) (σ : gMem) : Option (Int32) :=
gck (inb a0 8) (
gb1 (m_X1_depthIn (σ 9 a0.toNatClampNeg) a2 σ) fun r3 =>
gb1 (m_X1_waterOver r3 a1 (σ 1 6) σ) fun r5 =>
gck (inb a0 8) (
gck (inb a0 8) (
gb1 (m_X1_bears (σ 7 a0.toNatClampNeg) (σ 8 a0.toNatClampNeg) ((σ 1 16) + a2) r5 σ) fun r9 =>
gck (izb r9) (some r9))))
def b_X6_wrong_24 (a0 : Int32) (a1 : Int32) (σ : gMem) (rc : Int32 → Int32 → Option (Int32)) (x3_5 : Int32) (x4_6 : Int32) : Option (Int32) :=
if (σ 1 8) ≤ x4_6 then (
some x3_5) else (
gb1 (m_X1_standsAtHomeIn x4_6 a1 0 σ) fun r9 =>
if r9 = 0 then (
gnm (x4_6 + 1) fun x4_10 =>
rc x3_5 x4_10) else (
gb1 (m_X1_standsAtHomeIn x4_6 a1 a0 σ) fun r12 =>
if r12 = 0 then (
gnm (x3_5 ||| ((1 : Int32) <<< (x4_6 &&& 31))) fun x3_14 =>
gnm (x4_6 + 1) fun x4_15 =>
rc x3_14 x4_15) else (
gnm (x4_6 + 1) fun x4_13 =>
rc x3_5 x4_13)))
def m_X6_wrong_24 (a0 : Int32) (a1 : Int32) (σ : gMem) : Nat → Int32 → Int32 → Option (Int32)
  | 0 => fun _ _ => none
  | n + 1 => b_X6_wrong_24 a0 a1 σ (m_X6_wrong_24 a0 a1 σ n)
def m_X6_wrong (a0 : Int32) (a1 : Int32) (σ : gMem) : Option (Int32) :=
gb1 (m_X6_within a0 1 30 σ) fun r2 =>
if r2 = 0 then (
some (-1)) else (
gb1 (m_X6_isHour a1 σ) fun r4 =>
if r4 = 0 then (
some (-1)) else (
gb1 (m_X6_wrong_24 a0 a1 σ gFU 0 0) fun x3_7 =>
some x3_7))
def m_X6_clear  (σ : gMem) : Option (Int32 × gMem) :=
gnm (σ 1 8) fun x1_1 =>
gnm (gst σ 1 8 0) fun s2 =>
gnm (gst s2 1 12 0) fun s3 =>
some (x1_1, s3)
def b_X1_become_b_200 (rc : Int32 → gMem → Option (gMem)) (x2_27 : Int32) (s28 : gMem) : Option (gMem) :=
if 12 ≤ x2_27 then (
some s28) else (
gck (inb x2_27 12) (
gck (inb x2_27 12) (
gck (gcok 12 12 0 0 12) (
gnm (gcpy s28 (13 + x2_27.toNatClampNeg) (37 + x2_27.toNatClampNeg) 0 0 12) fun s33 =>
gnm (x2_27 + 1) fun x2_34 =>
rc x2_34 s33))))
def m_X1_become_b_200 : Nat → Int32 → gMem → Option (gMem)
  | 0 => fun _ _ => none
  | n + 1 => b_X1_become_b_200 (m_X1_become_b_200 n)
def m_X1_become_b  (σ : gMem) : Option (gMem) :=
gnm (gst σ 25 0 (σ 1 0)) fun s1 =>
gnm (gst s1 25 6 (s1 1 6)) fun s2 =>
gnm (gst s2 25 7 (s2 1 7)) fun s3 =>
gnm (gst s3 25 8 (s3 1 8)) fun s4 =>
gnm (gst s4 25 12 (s4 1 12)) fun s5 =>
gnm (gst s5 25 16 (s5 1 16)) fun s6 =>
gck (gcok 12 12 0 0 12) (
gnm (gcpy s6 2 26 0 0 12) fun s8 =>
gck (gcok 12 12 0 0 12) (
gnm (gcpy s8 3 27 0 0 12) fun s10 =>
gck (gcok 12 12 0 0 12) (
gnm (gcpy s10 4 28 0 0 12) fun s12 =>
gck (gcok 24 24 0 0 24) (
gnm (gcpy s12 6 30 0 0 24) fun s14 =>
gck (gcok 8 8 0 0 8) (
gnm (gcpy s14 7 31 0 0 8) fun s16 =>
gck (gcok 8 8 0 0 8) (
gnm (gcpy s16 8 32 0 0 8) fun s18 =>
gck (gcok 8 8 0 0 8) (
gnm (gcpy s18 9 33 0 0 8) fun s20 =>
gck (gcok 10 10 0 0 10) (
gnm (gcpy s20 10 34 0 0 10) fun s22 =>
gck (gcok 10 10 0 0 10) (
gnm (gcpy s22 11 35 0 0 10) fun s24 =>
gck (gcok 10 10 0 0 10) (
gnm (gcpy s24 12 36 0 0 10) fun s26 =>
gb1 (m_X1_become_b_200 gFU 0 s26) fun s29 =>
some s29))))))))))
def m_X6_image  (σ : gMem) : Option (Int32 × gMem) :=
gb1 (m_X1_become_b σ) fun s2 =>
gnm (gst s2 0 2 1) fun s3 =>
some (1, s3)
def b_X1_become_a_200 (rc : Int32 → gMem → Option (gMem)) (x2_27 : Int32) (s28 : gMem) : Option (gMem) :=
if 12 ≤ x2_27 then (
some s28) else (
gck (inb x2_27 12) (
gck (inb x2_27 12) (
gck (gcok 12 12 0 0 12) (
gnm (gcpy s28 (37 + x2_27.toNatClampNeg) (13 + x2_27.toNatClampNeg) 0 0 12) fun s33 =>
gnm (x2_27 + 1) fun x2_34 =>
rc x2_34 s33))))
def m_X1_become_a_200 : Nat → Int32 → gMem → Option (gMem)
  | 0 => fun _ _ => none
  | n + 1 => b_X1_become_a_200 (m_X1_become_a_200 n)
def m_X1_become_a  (σ : gMem) : Option (gMem) :=
gnm (gst σ 1 0 (σ 25 0)) fun s1 =>
gnm (gst s1 1 6 (s1 25 6)) fun s2 =>
gnm (gst s2 1 7 (s2 25 7)) fun s3 =>
gnm (gst s3 1 8 (s3 25 8)) fun s4 =>
gnm (gst s4 1 12 (s4 25 12)) fun s5 =>
gnm (gst s5 1 16 (s5 25 16)) fun s6 =>
gck (gcok 12 12 0 0 12) (
gnm (gcpy s6 26 2 0 0 12) fun s8 =>
gck (gcok 12 12 0 0 12) (
gnm (gcpy s8 27 3 0 0 12) fun s10 =>
gck (gcok 12 12 0 0 12) (
gnm (gcpy s10 28 4 0 0 12) fun s12 =>
gck (gcok 24 24 0 0 24) (
gnm (gcpy s12 30 6 0 0 24) fun s14 =>
gck (gcok 8 8 0 0 8) (
gnm (gcpy s14 31 7 0 0 8) fun s16 =>
gck (gcok 8 8 0 0 8) (
gnm (gcpy s16 32 8 0 0 8) fun s18 =>
gck (gcok 8 8 0 0 8) (
gnm (gcpy s18 33 9 0 0 8) fun s20 =>
gck (gcok 10 10 0 0 10) (
gnm (gcpy s20 34 10 0 0 10) fun s22 =>
gck (gcok 10 10 0 0 10) (
gnm (gcpy s22 35 11 0 0 10) fun s24 =>
gck (gcok 10 10 0 0 10) (
gnm (gcpy s24 36 12 0 0 10) fun s26 =>
gb1 (m_X1_become_a_200 gFU 0 s26) fun s29 =>
some s29))))))))))
def m_X6_restore  (σ : gMem) : Option (Int32 × gMem) :=
if (σ 0 2) = 0 then (
some ((-4), σ)) else (
gb1 (m_X1_become_a σ) fun s2 =>
some (1, s2))
def m_X6_isSheet (a0 : Int32) (σ : gMem) : Option (Int32) :=
gb1 (m_X6_within a0 0 3 σ) fun r2 =>
gck (izb r2) (some r2)
def m_X6_isLane (a0 : Int32) (σ : gMem) : Option (Int32) :=
gb1 (m_X6_within a0 0 2 σ) fun r2 =>
gck (izb r2) (some r2)
def m_X6_refusal (a0 : Int32) (a1 : Int32) (σ : gMem) : Option (Int32) :=
gb1 (m_X6_isSheet a0 σ) fun r2 =>
if r2 = 0 then (
some (-1)) else (
gb1 (m_X6_isLane a1 σ) fun r4 =>
if r4 = 0 then (
some (-1)) else (
gck (inb a0 4) (
if (σ (205 + a0.toNatClampNeg) 0) = 0 then (
some (-11)) else (
gck (inb a0 4) (
if (σ (205 + a0.toNatClampNeg) 1) = a1 then (
some 0) else (
some (-12)))))))
def b_X6_tides_37 (a0 : Int32) (σ : gMem) (rc : Int32 → Option (Nat)) (x5_4 : Int32) : Option (Nat) :=
if 24 ≤ x5_4 then (
some 1) else (
gck (inb x5_4 24) (
gb1 (m_X6_within (σ (209 + a0.toNatClampNeg) x5_4.toNatClampNeg) (-20) 20 σ) fun r8 =>
if r8 = 0 then (
some 0) else (
gnm (x5_4 + 1) fun x5_9 =>
rc x5_9)))
def m_X6_tides_37 (a0 : Int32) (σ : gMem) : Nat → Int32 → Option (Nat)
  | 0 => fun _ => none
  | n + 1 => b_X6_tides_37 a0 σ (m_X6_tides_37 a0 σ n)
def m_X6_tides (a0 : Int32) (a1 : Int32) (σ : gMem) : Option (Int32 × gMem) :=
gb1 (m_X6_refusal a0 a1 σ) fun r2 =>
if r2 = 0 then (
gck (inb a0 4) (
if 24 ≤ (σ (205 + a0.toNatClampNeg) 2) then (
gb1 (m_X6_tides_37 a0 σ gFU 0) fun t5 =>
if t5 = 0 then (
some ((-2), σ)) else (
gck (gcok 24 24 0 0 24) (
gnm (gcpy σ (209 + a0.toNatClampNeg) 6 0 0 24) fun s12 =>
some (1, s12)))) else (
some ((-13), σ)))) else (
some (r2, σ))
def b_X2_hold_17 (i : Nat) (rc : Int32 → gMem → Option (gMem)) (x3_4 : Int32) (s5 : gMem) : Option (gMem) :=
if 24 ≤ x3_4 then (
some s5) else (
gck (inb x3_4 24) (
gnm (gst s5 (209 + i) x3_4.toNatClampNeg 0) fun s8 =>
gnm (x3_4 + 1) fun x3_9 =>
rc x3_9 s8))
def m_X2_hold_17 (i : Nat) : Nat → Int32 → gMem → Option (gMem)
  | 0 => fun _ _ => none
  | n + 1 => b_X2_hold_17 i (m_X2_hold_17 i n)
def m_X2_hold (i : Nat) (a0 : Int32) (a1 : Int32) (σ : gMem) : Option (gMem) :=
gnm (gst σ (205 + i) 0 1) fun s1 =>
gnm (gst s1 (205 + i) 1 a0) fun s2 =>
gnm (gst s2 (205 + i) 2 a1) fun s3 =>
gb1 (m_X2_hold_17 i gFU 0 s3) fun s6 =>
some s6
def m_X6_sheet (a0 : Int32) (a1 : Int32) (a2 : Int32) (σ : gMem) : Option (Int32 × gMem) :=
gb1 (m_X6_isSheet a0 σ) fun r2 =>
if r2 = 0 then (
some ((-1), σ)) else (
gb1 (m_X6_isLane a1 σ) fun r4 =>
if r4 = 0 then (
some ((-1), σ)) else (
if a2 ≤ 24 then (
if 0 ≤ a2 then (
gck (inb a0 4) (
gb1 (m_X2_hold a0.toNatClampNeg a1 a2 σ) fun s7 =>
some (a2, s7))) else (
some ((-14), σ))) else (
some ((-1), σ))))
def m_X6_drop (a0 : Int32) (σ : gMem) : Option (Int32 × gMem) :=
gb1 (m_X6_isSheet a0 σ) fun r2 =>
if r2 = 0 then (
some ((-1), σ)) else (
gck (inb a0 4) (
if (σ (205 + a0.toNatClampNeg) 0) = 0 then (
some ((-11), σ)) else (
gnm (gst σ (205 + a0.toNatClampNeg) 0 0) fun s4 =>
some (s4 (205 + a0.toNatClampNeg) 2, s4))))
def m_X2_put (i : Nat) (a0 : Int32) (a1 : Int32) (σ : gMem) : Option (gMem) :=
if (σ (205 + i) 1) = 0 then (
gck (inb a0 24) (
gnm (gst σ (209 + i) a0.toNatClampNeg a1.toInt8.toInt32) fun s6 =>
some s6)) else (
if (σ (205 + i) 1) = 1 then (
gck (inb a0 24) (
gnm (gst σ (209 + i) a0.toNatClampNeg a1.toInt16.toInt32) fun s4 =>
some s4)) else (
gck (inb a0 24) (
gnm (gst σ (209 + i) a0.toNatClampNeg a1) fun s2 =>
some s2)))
def m_X6_item (a0 : Int32) (a1 : Int32) (a2 : Int32) (a3 : Int32) (σ : gMem) : Option (Int32 × gMem) :=
gb1 (m_X6_refusal a0 a1 σ) fun r2 =>
if r2 = 0 then (
gck (inb a0 4) (
gb1 (m_X6_within a2 0 ((σ (205 + a0.toNatClampNeg) 2) - 1) σ) fun r5 =>
if r5 = 0 then (
some ((-13), σ)) else (
gb1 (m_X2_put a0.toNatClampNeg a2 a3 σ) fun s7 =>
some (1, s7)))) else (
some (r2, σ))
def m_X2_hasRange (i : Nat) (a0 : Int32) (a1 : Int32) (σ : gMem) : Option (Int32) :=
gb1 (m_X6_within a0 0 (σ (205 + i) 2) σ) fun r2 =>
if r2 = 0 then (
some 0) else (
if ((σ (205 + i) 2) - a0) < a1 then (
some 0) else (
some 1))
def m_X6_copy (a0 : Int32) (a1 : Int32) (a2 : Int32) (a3 : Int32) (a4 : Int32) (σ : gMem) : Option (Int32 × gMem) :=
gb1 (m_X6_isSheet a0 σ) fun r2 =>
if r2 = 0 then (
some ((-1), σ)) else (
gb1 (m_X6_isSheet a2 σ) fun r4 =>
if r4 = 0 then (
some ((-1), σ)) else (
gck (inb a0 4) (
gck (inb a2 4) (
if (σ (205 + a0.toNatClampNeg) 0) = 0 then (
some ((-11), σ)) else (
if (σ (205 + a2.toNatClampNeg) 0) = 0 then (
some ((-11), σ)) else (
if (σ (205 + a0.toNatClampNeg) 1) = (σ (205 + a2.toNatClampNeg) 1) then (
if a4 < 0 then (
some ((-13), σ)) else (
gb1 (m_X2_hasRange a0.toNatClampNeg a1 a4 σ) fun r8 =>
if r8 = 0 then (
some ((-13), σ)) else (
gb1 (m_X2_hasRange a2.toNatClampNeg a3 a4 σ) fun r10 =>
if r10 = 0 then (
some ((-13), σ)) else (
gck (gcok 24 24 a1 a3 a4) (
gnm (gcpy σ (209 + a0.toNatClampNeg) (209 + a2.toNatClampNeg) a1 a3 a4) fun s12 =>
some (a4, s12)))))) else (
some ((-12), σ))))))))
def m_X7_in (a0 : Int64) (a1 : Int64) (a2 : Int64) (σ : gMem) : Option (Int32) :=
if (lg_cmp a0 a1) < 0 then (
some 0) else (
if 0 < (lg_cmp a0 a2) then (
some 0) else (
some 1))
def m_X7_put (a0 : Int32) (a1 : Int32) (σ : gMem) : Option (gMem) :=
gck (inb 62 528) (
gnm (σ 1 (62 : Int32).toNatClampNeg) fun x3_2 =>
gck (inb (0 + x3_2) 528) (
gnm (gst σ 1 (0 + x3_2).toNatClampNeg a0) fun s4 =>
gck (inb (12 + x3_2) 528) (
gnm (gst s4 1 (12 + x3_2).toNatClampNeg a1) fun s6 =>
gck (inb (24 + x3_2) 528) (
gnm (gst s6 1 (24 + x3_2).toNatClampNeg 0) fun s8 =>
gck (inb 62 528) (
gck (inb 62 528) (
gnm (gst s8 1 (62 : Int32).toNatClampNeg ((s8 1 (62 : Int32).toNatClampNeg) + 1)) fun s11 =>
some s11))))))
def m_X7_place (a0 : Int32) (σ : gMem) : Option (Int32 × gMem) :=
gb1 (m_X7_in a0.toInt64 (-20) 60 σ) fun r2 =>
if r2 = 0 then (
some ((-1), σ)) else (
gck (inb 62 528) (
if (σ 1 (62 : Int32).toNatClampNeg) = 12 then (
some ((-3), σ)) else (
gb1 (m_X7_put a0 0 σ) fun s5 =>
gck (inb 62 528) (
some ((s5 1 (62 : Int32).toNatClampNeg) - 1, s5)))))
def m_X7_isPlace (a0 : Int32) (σ : gMem) : Option (Int32) :=
gck (inb 62 528) (
gb1 (m_X7_in a0.toInt64 0 (((σ 1 (62 : Int32).toNatClampNeg) - 1).toInt64) σ) fun r3 =>
gck (izb r3) (some r3))
def b_X7_posts_4 (a0 : Int32) (σ : gMem) (rc : Int32 → Int32 → Option (Int32)) (x2_1 : Int32) (x3_2 : Int32) : Option (Int32) :=
gck (inb 62 528) (
if (σ 1 (62 : Int32).toNatClampNeg) ≤ x3_2 then (
some x2_1) else (
if x3_2 = a0 then (
gnm (x2_1 + 0) fun x2_5 =>
gnm (x3_2 + 1) fun x3_6 =>
rc x2_5 x3_6) else (
gck (inb (12 + x3_2) 528) (
if (σ 1 (12 + x3_2).toNatClampNeg) ≤ 0 then (
gnm (x2_1 + 0) fun x2_8 =>
gnm (x3_2 + 1) fun x3_9 =>
rc x2_8 x3_9) else (
gnm (x2_1 + 1) fun x2_10 =>
gnm (x3_2 + 1) fun x3_11 =>
rc x2_10 x3_11)))))
def m_X7_posts_4 (a0 : Int32) (σ : gMem) : Nat → Int32 → Int32 → Option (Int32)
  | 0 => fun _ _ => none
  | n + 1 => b_X7_posts_4 a0 σ (m_X7_posts_4 a0 σ n)
def m_X7_posts (a0 : Int32) (σ : gMem) : Option (Int32) :=
gb1 (m_X7_posts_4 a0 σ gFU 0 0) fun x2_3 =>
some x2_3
def m_X7_make (a0 : Int32) (a1 : Int32) (a2 : Int32) (σ : gMem) : Option (Int32 × gMem) :=
gb1 ((if a1 = 0 then (
gb1 (m_X7_in a2.toInt64 (-20) 60 σ) fun r7 =>
some r7) else (
if a1 = 1 then (
gb1 (m_X7_in a2.toInt64 0 20 σ) fun r5 =>
some r5) else (
if a1 = 2 then (
gb1 (m_X7_in a2.toInt64 (-5) 5 σ) fun r3 =>
if r3 = 0 then (
some 0) else (
some 1)) else (
some 0)))) : Option (Int32)) fun w1 =>
gb1 (m_X7_isPlace a0 σ) fun r9 =>
if r9 = 0 then (
some ((-100001), σ)) else (
if w1 = 0 then (
some ((-100001), σ)) else (
if a1 = 1 then (
if a2 ≤ 0 then (
gck (inb ((12 * a1) + a0) 528) (
gnm (σ 1 ((12 * a1) + a0).toNatClampNeg) fun x5_15 =>
gck (inb ((12 * a1) + a0) 528) (
gnm (gst σ 1 ((12 * a1) + a0).toNatClampNeg a2) fun s17 =>
some (x5_15, s17)))) else (
gb1 (m_X7_posts a0 σ) fun r19 =>
if r19 = 3 then (
some ((-100003), σ)) else (
gck (inb ((12 * a1) + a0) 528) (
gnm (σ 1 ((12 * a1) + a0).toNatClampNeg) fun x5_21 =>
gck (inb ((12 * a1) + a0) 528) (
gnm (gst σ 1 ((12 * a1) + a0).toNatClampNeg a2) fun s23 =>
some (x5_21, s23)))))) else (
gck (inb ((12 * a1) + a0) 528) (
gnm (σ 1 ((12 * a1) + a0).toNatClampNeg) fun x5_11 =>
gck (inb ((12 * a1) + a0) 528) (
gnm (gst σ 1 ((12 * a1) + a0).toNatClampNeg a2) fun s13 =>
some (x5_11, s13))))))
def m_X7_pathOf (a0 : Int32) (a1 : Int32) (σ : gMem) : Option (Int32) :=
gck (inb ((120 + (12 * a0)) + a1) 528) (
some (σ 1 ((120 + (12 * a0)) + a1).toNatClampNeg))
def m_X7_join (a0 : Int32) (a1 : Int32) (a2 : Int32) (σ : gMem) : Option (gMem) :=
gck (inb ((120 + (12 * a0)) + a1) 528) (
gnm (gst σ 1 ((120 + (12 * a0)) + a1).toNatClampNeg a2) fun s2 =>
gck (inb ((120 + (12 * a1)) + a0) 528) (
gnm (gst s2 1 ((120 + (12 * a1)) + a0).toNatClampNeg a2) fun s4 =>
some s4))
def m_X7_path (a0 : Int32) (a1 : Int32) (a2 : Int32) (σ : gMem) : Option (Int32 × gMem) :=
gb1 (m_X7_isPlace a0 σ) fun r2 =>
if r2 = 0 then (
some ((-1), σ)) else (
gb1 (m_X7_isPlace a1 σ) fun r4 =>
if r4 = 0 then (
some ((-1), σ)) else (
if a0 = a1 then (
some ((-1), σ)) else (
gb1 (m_X7_in a2.toInt64 0 60 σ) fun r6 =>
if r6 = 0 then (
some ((-1), σ)) else (
gb1 (m_X7_pathOf a0 a1 σ) fun r8 =>
gb1 (m_X7_join a0 a1 a2 σ) fun s10 =>
some (r8, s10)))))
def m_X7_isHour (a0 : Int32) (σ : gMem) : Option (Int32) :=
gb1 (m_X7_in a0.toInt64 0 23 σ) fun r2 =>
gck (izb r2) (some r2)
def m_X7_tide (a0 : Int32) (a1 : Int32) (σ : gMem) : Option (Int32 × gMem) :=
gb1 (m_X7_isHour a0 σ) fun r2 =>
if r2 = 0 then (
some ((-100001), σ)) else (
gb1 (m_X7_in a1.toInt64 (-20) 20 σ) fun r4 =>
if r4 = 0 then (
some ((-100001), σ)) else (
gck (inb (36 + a0) 528) (
gnm (σ 1 (36 + a0).toNatClampNeg) fun x3_6 =>
gck (inb (36 + a0) 528) (
gnm (gst σ 1 (36 + a0).toNatClampNeg a1) fun s8 =>
some (x3_6, s8)))))
def m_X7_set (a0 : Int32) (a1 : Int32) (σ : gMem) : Option (Int32 × gMem) :=
gb1 (m_X7_in a0.toInt64 0 1 σ) fun r2 =>
if r2 = 0 then (
some ((-1), σ)) else (
gb1 ((if a0 = 0 then (
some 40) else (
some 60)) : Option (Int32)) fun w3 =>
gb1 (m_X7_in a1.toInt64 0 w3 σ) fun r5 =>
if r5 = 0 then (
some ((-1), σ)) else (
gck (inb (60 + a0) 528) (
gnm (σ 1 (60 + a0).toNatClampNeg) fun x3_7 =>
gck (inb (60 + a0) 528) (
gnm (gst σ 1 (60 + a0).toNatClampNeg a1) fun s9 =>
some (x3_7, s9)))))
def m_X7_person (a0 : Int32) (a1 : Int32) (a2 : Int32) (σ : gMem) : Option (Int32 × gMem) :=
gb1 (m_X7_in a0.toInt64 0 3 σ) fun r2 =>
if r2 = 0 then (
some ((-1), σ)) else (
gb1 (m_X7_in a1.toInt64 0 60 σ) fun r4 =>
if r4 = 0 then (
some ((-1), σ)) else (
gb1 (m_X7_isPlace a2 σ) fun r6 =>
if r6 = 0 then (
some ((-1), σ)) else (
gck (inb 63 528) (
if (σ 1 (63 : Int32).toNatClampNeg) = 8 then (
some ((-3), σ)) else (
gck (inb 63 528) (
gnm (σ 1 (63 : Int32).toNatClampNeg) fun x4_9 =>
gck (inb (66 + x4_9) 528) (
gnm (gst σ 1 (66 + x4_9).toNatClampNeg a0) fun s11 =>
gck (inb (74 + x4_9) 528) (
gnm (gst s11 1 (74 + x4_9).toNatClampNeg a1) fun s13 =>
gck (inb (82 + x4_9) 528) (
gnm (gst s13 1 (82 + x4_9).toNatClampNeg a2) fun s15 =>
gck (inb 63 528) (
gck (inb 63 528) (
gnm (gst s15 1 (63 : Int32).toNatClampNeg ((s15 1 (63 : Int32).toNatClampNeg) + 1)) fun s18 =>
some (x4_9, s18))))))))))))
def m_X7_isPerson (a0 : Int32) (σ : gMem) : Option (Int32) :=
gck (inb 63 528) (
gb1 (m_X7_in a0.toInt64 0 (((σ 1 (63 : Int32).toNatClampNeg) - 1).toInt64) σ) fun r3 =>
gck (izb r3) (some r3))
def m_X7_byKind (a0 : Int32) (a1 : Int32) (a2 : Int32) (σ : gMem) : Option (Int32) :=
if a0 = 2 then (
if a1 ≤ 2 then (
some 0) else (
some (a1 - 2))) else (
if a0 = 3 then (
some (a1 + a2)) else (
some a1))
def m_X7_of (a0 : Int32) (a1 : Int32) (σ : gMem) : Option (Int32) :=
gb1 (m_X7_isPerson a0 σ) fun r2 =>
if r2 = 0 then (
some (-1)) else (
gb1 (m_X7_in a1.toInt64 0 3 σ) fun r4 =>
if r4 = 0 then (
some (-1)) else (
if a1 = 2 then (
gck (inb (66 + a0) 528) (
gck (inb (74 + a0) 528) (
gck (inb 65 528) (
gb1 (m_X7_byKind (σ 1 (66 + a0).toNatClampNeg) (σ 1 (74 + a0).toNatClampNeg) (σ 1 (65 : Int32).toNatClampNeg) σ) fun r12 =>
some r12)))) else (
if a1 = 0 then (
gck (inb (66 + a0) 528) (
some (σ 1 (66 + a0).toNatClampNeg))) else (
if a1 = 1 then (
gck (inb (74 + a0) 528) (
some (σ 1 (74 + a0).toNatClampNeg))) else (
gck (inb (82 + a0) 528) (
some (σ 1 (82 + a0).toNatClampNeg)))))))
def b_X7_type_17 (a0 : Int64) (a1 : Int32) (σ : gMem) (rc : Int32 → Option (Nat)) (x4_3 : Int32) : Option (Nat) :=
if a1 ≤ x4_3 then (
some 1) else (
gb1 (m_X7_in ((a0 >>> ((8 * x4_3).toInt64 &&& 63)) &&& 255) 32 126 σ) fun r6 =>
if r6 = 0 then (
some 0) else (
gnm (x4_3 + 1) fun x4_7 =>
rc x4_7))
def m_X7_type_17 (a0 : Int64) (a1 : Int32) (σ : gMem) : Nat → Int32 → Option (Nat)
  | 0 => fun _ => none
  | n + 1 => b_X7_type_17 a0 a1 σ (m_X7_type_17 a0 a1 σ n)
def b_X7_type_73 (a0 : Int64) (rc : Int32 → gMem → Option (gMem)) (x4_10 : Int32) (s11 : gMem) : Option (gMem) :=
if x4_10 < 0 then (
some s11) else (
gck (inb (s11 0 3) 80) (
gnm (gst s11 2 (s11 0 3).toNatClampNeg (((a0 >>> ((8 * x4_10).toInt64 &&& 63)) &&& 255).toInt32)) fun s14 =>
gnm (gst s14 0 3 ((s14 0 3) + 1)) fun s15 =>
gnm (x4_10 + (-1)) fun x4_16 =>
rc x4_16 s15))
def m_X7_type_73 (a0 : Int64) : Nat → Int32 → gMem → Option (gMem)
  | 0 => fun _ _ => none
  | n + 1 => b_X7_type_73 a0 (m_X7_type_73 a0 n)
def m_X7_type (a0 : Int64) (a1 : Int32) (σ : gMem) : Option (Int32 × gMem) :=
gb1 (m_X7_in a1.toInt64 1 8 σ) fun r2 =>
if r2 = 0 then (
some ((-1), σ)) else (
gb1 (m_X7_type_17 a0 a1 σ gFU 0) fun t4 =>
if t4 = 0 then (
some ((-1), σ)) else (
if ((σ 0 3) + a1) ≤ 80 then (
gnm (a1 - 1) fun x4_9 =>
gb1 (m_X7_type_73 a0 gFU x4_9 σ) fun s12 =>
some (s12 0 3, s12)) else (
some ((-3), σ))))
def m_X7_begin  (σ : gMem) : Option (gMem) :=
gnm (gst σ 0 4 0) fun s1 =>
gnm (gst s1 0 5 (-1)) fun s2 =>
some s2
def b_X7_next_0 (rc : gMem → Option (gMem)) (s1 : gMem) : Option (gMem) :=
if (s1 0 3) ≤ (s1 0 4) then (
some s1) else (
gck (inb (s1 0 4) 80) (
if (s1 2 (s1 0 4).toNatClampNeg) = 32 then (
gnm (gst s1 0 4 ((s1 0 4) + 1)) fun s4 =>
rc s4) else (
some s1)))
def m_X7_next_0 : Nat → gMem → Option (gMem)
  | 0 => fun _ => none
  | n + 1 => b_X7_next_0 (m_X7_next_0 n)
def m_X7_next  (σ : gMem) : Option (Int32 × gMem) :=
gb1 (m_X7_next_0 gFU σ) fun s2 =>
if (s2 0 3) ≤ (s2 0 4) then (
some (0, s2)) else (
gck (inb (s2 0 4) 80) (
some (s2 2 (s2 0 4).toNatClampNeg, s2)))
def m_X7_takes (a0 : Int32) (σ : gMem) : Option (Int32 × gMem) :=
gb2 (m_X7_next σ) fun r3 s2 =>
gb1 ((if r3 = a0 then (
some 1) else (
some 0)) : Option (Int32)) fun w4 =>
if w4 = 0 then (
gnm (gst s2 0 4 ((s2 0 4) + 0)) fun s5 =>
gck (izb w4) (some (w4, s5))) else (
gnm (gst s2 0 4 ((s2 0 4) + 1)) fun s7 =>
gck (izb w4) (some (w4, s7)))
def m_X7_cannot (a0 : Int32) (σ : gMem) : Option (gMem) :=
if 0 ≤ (σ 0 5) then (
gnm (gst σ 0 5 (σ 0 5)) fun s1 =>
some s1) else (
gnm (gst σ 0 5 a0) fun s2 =>
some s2)
def b_X7_number_37 (rc : Int32 → gMem → Option (Int32 × gMem)) (x6_7 : Int32) (s8 : gMem) : Option (Int32 × gMem) :=
if (s8 0 3) ≤ (s8 0 4) then (
some (x6_7, s8)) else (
gck (inb (s8 0 4) 80) (
gb1 (m_X7_in ((s8 2 (s8 0 4).toNatClampNeg).toInt64) 48 57 s8) fun r13 =>
if r13 = 0 then (
some (x6_7, s8)) else (
if x6_7 ≤ 999 then (
gck (inb (s8 0 4) 80) (
gnm (((10 * x6_7) + (s8 2 (s8 0 4).toNatClampNeg)) - 48) fun x6_15 =>
gnm (gst s8 0 4 ((s8 0 4) + 1)) fun s16 =>
rc x6_15 s16)) else (
gnm (gst s8 0 4 ((s8 0 4) + 1)) fun s17 =>
rc x6_7 s17))))
def m_X7_number_37 : Nat → Int32 → gMem → Option (Int32 × gMem)
  | 0 => fun _ _ => none
  | n + 1 => b_X7_number_37 (m_X7_number_37 n)
def m_X7_number (a0 : Int32) (a1 : Int32) (a2 : Int32) (σ : gMem) : Option (gMem) :=
gb2 (m_X7_next σ) fun r3 s2 =>
gnm (s2 0 4) fun x5_4 =>
gb1 (m_X7_in r3.toInt64 48 57 s2) fun r6 =>
if r6 = 0 then (
gb1 (m_X7_cannot x5_4 s2) fun s27 =>
some s27) else (
gb2 (m_X7_number_37 gFU 0 s2) fun x6_9 s10 =>
gb1 ((if a2 = 0 then (
some x6_9) else (
some (-x6_9))) : Option (Int32)) fun w19 =>
gnm (gst s10 0 6 w19) fun s20 =>
gb1 (m_X7_in ((s20 0 6).toInt64) a0.toInt64 a1.toInt64 s20) fun r22 =>
if r22 = 0 then (
gb1 (m_X7_cannot x5_4 s20) fun s24 =>
some s24) else (
some s20))
def m_X7_fails  (σ : gMem) : Option (Int32 × gMem) :=
gnm (gst σ 0 3 0) fun s1 =>
some ((-20) - (s1 0 5), s1)
def b_X7_lagoon_10 (rc : Int32 → Int32 → Int32 → gMem → Option (Int32 × gMem)) (x1_3 : Int32) (x2_4 : Int32) (x3_5 : Int32) (s6 : gMem) : Option (Int32 × gMem) :=
if x3_5 = 0 then (
some (x1_3, s6)) else (
if 0 ≤ (s6 0 5) then (
some (x1_3, s6)) else (
gb2 (m_X7_takes 45 s6) fun r11 s10 =>
gb1 (m_X7_number (-20) 60 r11 s10) fun s13 =>
gck (inb (2 * x1_3) 24) (
gnm (gst s13 3 (2 * x1_3).toNatClampNeg (s13 0 6)) fun s15 =>
gck (inb ((2 * x1_3) + 1) 24) (
gnm (gst s15 3 ((2 * x1_3) + 1).toNatClampNeg 0) fun s17 =>
gb2 ((if 0 ≤ (s17 0 5) then (
some (x2_4, s17)) else (
gb2 (m_X7_next s17) fun r22 s21 =>
if r22 = 112 then (
if 3 ≤ x2_4 then (
some (x2_4, s21)) else (
gnm (gst s21 0 4 ((s21 0 4) + 1)) fun s23 =>
gnm (x2_4 + 1) fun x2_24 =>
gb1 (m_X7_number 1 20 0 s23) fun s26 =>
gck (inb ((2 * x1_3) + 1) 24) (
gnm (gst s26 3 ((2 * x1_3) + 1).toNatClampNeg (s26 0 6)) fun s28 =>
some (x2_24, s28)))) else (
some (x2_4, s21)))) : Option (Int32 × gMem)) fun x2_18 s19 =>
gnm (x1_3 + 1) fun x1_29 =>
if 0 ≤ (s19 0 5) then (
gnm (gst s19 0 4 ((s19 0 4) + 0)) fun s30 =>
rc x1_29 x2_18 0 s30) else (
if 8 ≤ x1_29 then (
gnm (gst s19 0 4 ((s19 0 4) + 0)) fun s31 =>
rc x1_29 x2_18 0 s31) else (
gb2 (m_X7_next s19) fun r34 s33 =>
if r34 = 59 then (
gnm (gst s33 0 4 ((s33 0 4) + 1)) fun s36 =>
rc x1_29 x2_18 1 s36) else (
gnm (gst s33 0 4 ((s33 0 4) + 0)) fun s35 =>
rc x1_29 x2_18 0 s35)))))))
def m_X7_lagoon_10 : Nat → Int32 → Int32 → Int32 → gMem → Option (Int32 × gMem)
  | 0 => fun _ _ _ _ => none
  | n + 1 => b_X7_lagoon_10 (m_X7_lagoon_10 n)
def b_X7_lagoon_244 (rc : Int32 → gMem → Option (gMem)) (x4_54 : Int32) (s55 : gMem) : Option (gMem) :=
if 144 ≤ x4_54 then (
some s55) else (
gck (inb (120 + x4_54) 528) (
gnm (gst s55 1 (120 + x4_54).toNatClampNeg 0) fun s58 =>
gnm (x4_54 + 1) fun x4_59 =>
rc x4_59 s58))
def m_X7_lagoon_244 : Nat → Int32 → gMem → Option (gMem)
  | 0 => fun _ _ => none
  | n + 1 => b_X7_lagoon_244 (m_X7_lagoon_244 n)
def b_X7_lagoon_272 (x1_7 : Int32) (rc : Int32 → gMem → Option (gMem)) (x4_61 : Int32) (s62 : gMem) : Option (gMem) :=
if x1_7 ≤ x4_61 then (
some s62) else (
gck (inb (2 * x4_61) 24) (
gck (inb ((2 * x4_61) + 1) 24) (
gb1 (m_X7_put (s62 3 (2 * x4_61).toNatClampNeg) (s62 3 ((2 * x4_61) + 1).toNatClampNeg) s62) fun s67 =>
gnm (x4_61 + 1) fun x4_68 =>
rc x4_68 s67)))
def m_X7_lagoon_272 (x1_7 : Int32) : Nat → Int32 → gMem → Option (gMem)
  | 0 => fun _ _ => none
  | n + 1 => b_X7_lagoon_272 x1_7 (m_X7_lagoon_272 x1_7 n)
def m_X7_lagoon  (σ : gMem) : Option (Int32 × gMem) :=
gb1 (m_X7_begin σ) fun s2 =>
gb2 (m_X7_lagoon_10 gFU 0 0 1 s2) fun x1_7 s8 =>
gb1 ((if 0 ≤ (s8 0 5) then (
some s8) else (
gb2 (m_X7_next s8) fun r42 s41 =>
if r42 = 0 then (
some s41) else (
gb1 (m_X7_cannot (s41 0 4) s41) fun s44 =>
some s44))) : Option (gMem)) fun s39 =>
if (s39 0 5) < 0 then (
gnm (gst s39 0 3 0) fun s45 =>
gck (inb 62 528) (
gnm (gst s45 1 (62 : Int32).toNatClampNeg 0) fun s47 =>
gck (inb 63 528) (
gnm (gst s47 1 (63 : Int32).toNatClampNeg 0) fun s49 =>
gck (inb 64 528) (
gnm (gst s49 1 (64 : Int32).toNatClampNeg 0) fun s51 =>
gck (inb 65 528) (
gnm (gst s51 1 (65 : Int32).toNatClampNeg 0) fun s53 =>
gb1 (m_X7_lagoon_244 gFU 0 s53) fun s56 =>
gb1 (m_X7_lagoon_272 x1_7 gFU 0 s56) fun s63 =>
some (x1_7, s63)))))) else (
gb2 (m_X7_fails s39) fun r72 s71 =>
some (r72, s71))
def m_X7_letter (a0 : Int32) (σ : gMem) : Option (Int32 × gMem) :=
gb2 (m_X7_next σ) fun r3 s2 =>
gnm (r3 - 97) fun x2_4 =>
gb1 (m_X7_isPlace x2_4 s2) fun r6 =>
if r6 = 0 then (
gb1 (m_X7_cannot (s2 0 4) s2) fun s8 =>
some (0, s8)) else (
if x2_4 = a0 then (
gb1 (m_X7_cannot (s2 0 4) s2) fun s11 =>
some (0, s11)) else (
gnm (gst s2 0 4 ((s2 0 4) + 1)) fun s9 =>
some (x2_4, s9)))
def b_X7_paths_8 (rc : Int32 → Int32 → gMem → Option (Int32 × gMem)) (x1_3 : Int32) (x2_4 : Int32) (s5 : gMem) : Option (Int32 × gMem) :=
if x2_4 = 0 then (
some (x1_3, s5)) else (
if 0 ≤ (s5 0 5) then (
some (x1_3, s5)) else (
gb2 (m_X7_letter (-1) s5) fun r10 s9 =>
gb2 ((if 0 ≤ (s9 0 5) then (
some (0, s9)) else (
gb2 (m_X7_letter r10 s9) fun r15 s14 =>
some (r15, s14))) : Option (Int32 × gMem)) fun w11 s12 =>
gb1 ((if 0 ≤ (s12 0 5) then (
some s12) else (
gb1 (m_X7_number 1 60 0 s12) fun s18 =>
some s18)) : Option (gMem)) fun s16 =>
gck (inb (3 * x1_3) 24) (
gnm (gst s16 3 (3 * x1_3).toNatClampNeg r10) fun s20 =>
gck (inb ((3 * x1_3) + 1) 24) (
gnm (gst s20 3 ((3 * x1_3) + 1).toNatClampNeg w11) fun s22 =>
gck (inb ((3 * x1_3) + 2) 24) (
gnm (gst s22 3 ((3 * x1_3) + 2).toNatClampNeg (s22 0 6)) fun s24 =>
gnm (x1_3 + 1) fun x1_25 =>
if 0 ≤ (s24 0 5) then (
gnm (gst s24 0 4 ((s24 0 4) + 0)) fun s26 =>
rc x1_25 0 s26) else (
if 8 ≤ x1_25 then (
gnm (gst s24 0 4 ((s24 0 4) + 0)) fun s27 =>
rc x1_25 0 s27) else (
gb2 (m_X7_next s24) fun r30 s29 =>
if r30 = 44 then (
gnm (gst s29 0 4 ((s29 0 4) + 1)) fun s32 =>
rc x1_25 1 s32) else (
gnm (gst s29 0 4 ((s29 0 4) + 0)) fun s31 =>
rc x1_25 0 s31))))))))
def m_X7_paths_8 : Nat → Int32 → Int32 → gMem → Option (Int32 × gMem)
  | 0 => fun _ _ _ => none
  | n + 1 => b_X7_paths_8 (m_X7_paths_8 n)
def b_X7_paths_186 (x1_6 : Int32) (rc : Int32 → gMem → Option (gMem)) (x3_43 : Int32) (s44 : gMem) : Option (gMem) :=
if x1_6 ≤ x3_43 then (
some s44) else (
gck (inb (3 * x3_43) 24) (
gck (inb ((3 * x3_43) + 1) 24) (
gck (inb ((3 * x3_43) + 2) 24) (
gb1 (m_X7_join (s44 3 (3 * x3_43).toNatClampNeg) (s44 3 ((3 * x3_43) + 1).toNatClampNeg) (s44 3 ((3 * x3_43) + 2).toNatClampNeg) s44) fun s50 =>
gnm (x3_43 + 1) fun x3_51 =>
rc x3_51 s50))))
def m_X7_paths_186 (x1_6 : Int32) : Nat → Int32 → gMem → Option (gMem)
  | 0 => fun _ _ => none
  | n + 1 => b_X7_paths_186 x1_6 (m_X7_paths_186 x1_6 n)
def m_X7_paths  (σ : gMem) : Option (Int32 × gMem) :=
gb1 (m_X7_begin σ) fun s2 =>
gb2 (m_X7_paths_8 gFU 0 1 s2) fun x1_6 s7 =>
gb1 ((if 0 ≤ (s7 0 5) then (
some s7) else (
gb2 (m_X7_next s7) fun r39 s38 =>
if r39 = 0 then (
some s38) else (
gb1 (m_X7_cannot (s38 0 4) s38) fun s41 =>
some s41))) : Option (gMem)) fun s36 =>
if (s36 0 5) < 0 then (
gnm (gst s36 0 3 0) fun s42 =>
gb1 (m_X7_paths_186 x1_6 gFU 0 s42) fun s45 =>
some (x1_6, s45)) else (
gb2 (m_X7_fails s36) fun r55 s54 =>
some (r55, s54))
def b_X7_count_32 (x3_8 : Int32) (σ : gMem) (rc : Int32 → Int32 → Option (Int32)) (x2_10 : Int32) (x4_11 : Int32) : Option (Int32) :=
if x3_8 ≤ x4_11 then (
some x2_10) else (
gb1 (m_X7_pathOf x3_8 x4_11 σ) fun r14 =>
if r14 ≤ 0 then (
gnm (x2_10 + 0) fun x2_15 =>
gnm (x4_11 + 1) fun x4_16 =>
rc x2_15 x4_16) else (
gnm (x2_10 + 1) fun x2_17 =>
gnm (x4_11 + 1) fun x4_18 =>
rc x2_17 x4_18))
def m_X7_count_32 (x3_8 : Int32) (σ : gMem) : Nat → Int32 → Int32 → Option (Int32)
  | 0 => fun _ _ => none
  | n + 1 => b_X7_count_32 x3_8 σ (m_X7_count_32 x3_8 σ n)
def b_X7_count_23 (σ : gMem) (rc : Int32 → Int32 → Option (Int32)) (x2_7 : Int32) (x3_8 : Int32) : Option (Int32) :=
if 12 ≤ x3_8 then (
some x2_7) else (
gb1 (m_X7_count_32 x3_8 σ gFU x2_7 0) fun x2_12 =>
gnm (x3_8 + 1) fun x3_20 =>
rc x2_12 x3_20)
def m_X7_count_23 (σ : gMem) : Nat → Int32 → Int32 → Option (Int32)
  | 0 => fun _ _ => none
  | n + 1 => b_X7_count_23 σ (m_X7_count_23 σ n)
def m_X7_count (a0 : Int32) (σ : gMem) : Option (Int32) :=
gb1 (m_X7_in a0.toInt64 0 4 σ) fun r2 =>
if r2 = 0 then (
some (-1)) else (
if a0 = 1 then (
gb1 (m_X7_count_23 σ gFU 0 0) fun x2_9 =>
some x2_9) else (
if a0 = 0 then (
gck (inb 62 528) (
some (σ 1 (62 : Int32).toNatClampNeg))) else (
if a0 = 2 then (
gck (inb 63 528) (
some (σ 1 (63 : Int32).toNatClampNeg))) else (
if a0 = 3 then (
gck (inb 64 528) (
some (σ 1 (64 : Int32).toNatClampNeg))) else (
gck (inb 65 528) (
some (σ 1 (65 : Int32).toNatClampNeg)))))))
def m_X7_waterBy (a0 : Int32) (a1 : Int32) (a2 : Int32) (σ : gMem) : Option (Int32) :=
gck (inb (36 + a1) 528) (
gnm ((a0 + (σ 1 (36 + a1).toNatClampNeg)) + a2) fun x4_2 =>
if 0 ≤ x4_2 then (
some x4_2) else (
some 0))
def m_X7_water (a0 : Int32) (a1 : Int32) (σ : gMem) : Option (Int32) :=
gb1 (m_X7_isPlace a0 σ) fun r2 =>
if r2 = 0 then (
some (-1)) else (
gb1 (m_X7_isHour a1 σ) fun r4 =>
if r4 = 0 then (
some (-1)) else (
gck (inb (0 + a0) 528) (
gck (inb 60 528) (
gb1 (m_X7_waterBy (σ 1 (0 + a0).toNatClampNeg) a1 (σ 1 (60 : Int32).toNatClampNeg) σ) fun r8 =>
some r8))))
def m_X7_reaches (a0 : Int32) (a1 : Int32) (σ : gMem) : Option (Int32) :=
if a0 < a1 then (
some 0) else (
gck (inb 61 528) (
if (σ 1 (61 : Int32).toNatClampNeg) < (a0 - a1) then (
some 0) else (
some 1)))
def m_X7_standsBy (a0 : Int32) (a1 : Int32) (a2 : Int32) (a3 : Int32) (σ : gMem) : Option (Int32) :=
gb1 (m_X7_byKind a0 a1 a2 σ) fun r2 =>
gb1 (m_X7_reaches r2 a3 σ) fun r4 =>
if r4 = 0 then (
if a0 = 1 then (
gb1 (m_X7_reaches (a1 / 2) a3 σ) fun r6 =>
if r6 = 0 then (
some 0) else (
some 1)) else (
some 0)) else (
some 1)
def m_X7_would (a0 : Int32) (a1 : Int32) (a2 : Int32) (a3 : Int32) (σ : gMem) : Option (Int32) :=
gck (inb (66 + a0) 528) (
gck (inb 65 528) (
gck (inb (0 + a2) 528) (
gck (inb 60 528) (
gb1 (m_X7_waterBy (σ 1 (0 + a2).toNatClampNeg) a3 (σ 1 (60 : Int32).toNatClampNeg) σ) fun r6 =>
gb1 (m_X7_standsBy (σ 1 (66 + a0).toNatClampNeg) a1 (σ 1 (65 : Int32).toNatClampNeg) r6 σ) fun r8 =>
gck (izb r8) (some r8)))))
def m_X7_does (a0 : Int32) (a1 : Int32) (a2 : Int32) (σ : gMem) : Option (Int32) :=
gck (inb (74 + a0) 528) (
gb1 (m_X7_would a0 (σ 1 (74 + a0).toNatClampNeg) a1 a2 σ) fun r3 =>
gck (izb r3) (some r3))
def m_X7_stands (a0 : Int32) (a1 : Int32) (a2 : Int32) (σ : gMem) : Option (Int32) :=
gb1 (m_X7_isPerson a0 σ) fun r2 =>
if r2 = 0 then (
some (-1)) else (
gb1 (m_X7_isPlace a1 σ) fun r4 =>
if r4 = 0 then (
some (-1)) else (
gb1 (m_X7_isHour a2 σ) fun r6 =>
if r6 = 0 then (
some (-1)) else (
gb1 (m_X7_does a0 a1 a2 σ) fun r8 =>
if r8 = 0 then (
some 0) else (
some 1))))
def b_X7_hours_23 (a0 : Int32) (a1 : Int32) (σ : gMem) (rc : Int32 → Int32 → Option (Int32)) (x3_5 : Int32) (x4_6 : Int32) : Option (Int32) :=
if 24 ≤ x4_6 then (
some x3_5) else (
gb1 (m_X7_does a0 a1 x4_6 σ) fun r9 =>
if r9 = 0 then (
gnm (x3_5 ||| 0) fun x3_10 =>
gnm (x4_6 + 1) fun x4_11 =>
rc x3_10 x4_11) else (
gnm (x3_5 ||| ((1 : Int32) <<< (x4_6 &&& 31))) fun x3_12 =>
gnm (x4_6 + 1) fun x4_13 =>
rc x3_12 x4_13))
def m_X7_hours_23 (a0 : Int32) (a1 : Int32) (σ : gMem) : Nat → Int32 → Int32 → Option (Int32)
  | 0 => fun _ _ => none
  | n + 1 => b_X7_hours_23 a0 a1 σ (m_X7_hours_23 a0 a1 σ n)
def m_X7_hours (a0 : Int32) (a1 : Int32) (σ : gMem) : Option (Int32) :=
gb1 (m_X7_isPerson a0 σ) fun r2 =>
if r2 = 0 then (
some (-1)) else (
gb1 (m_X7_isPlace a1 σ) fun r4 =>
if r4 = 0 then (
some (-1)) else (
gb1 (m_X7_hours_23 a0 a1 σ gFU 0 0) fun x3_7 =>
some x3_7))
def m_X7_silted (a0 : Int32) (a1 : Int32) (σ : gMem) : Option (Int32) :=
gnm (a0 - a1) fun x2_1 =>
if (-20) ≤ x2_1 then (
if x2_1 ≤ 60 then (
some x2_1) else (
some 60)) else (
some (-20))
def b_X7_years_41 (rc : Int32 → gMem → Option (gMem)) (x3_7 : Int32) (s8 : gMem) : Option (gMem) :=
gck (inb 62 528) (
if (s8 1 (62 : Int32).toNatClampNeg) ≤ x3_7 then (
some s8) else (
gck (inb (0 + x3_7) 528) (
gck (inb (24 + x3_7) 528) (
gb1 (m_X7_silted (s8 1 (0 + x3_7).toNatClampNeg) (s8 1 (24 + x3_7).toNatClampNeg) s8) fun r14 =>
gck (inb (0 + x3_7) 528) (
gnm (gst s8 1 (0 + x3_7).toNatClampNeg r14) fun s16 =>
gnm (x3_7 + 1) fun x3_17 =>
rc x3_17 s16)))))
def m_X7_years_41 : Nat → Int32 → gMem → Option (gMem)
  | 0 => fun _ _ => none
  | n + 1 => b_X7_years_41 (m_X7_years_41 n)
def b_X7_years_34 (a0 : Int32) (rc : Int32 → gMem → Option (gMem)) (x2_4 : Int32) (s5 : gMem) : Option (gMem) :=
if a0 ≤ x2_4 then (
some s5) else (
gb1 (m_X7_years_41 gFU 0 s5) fun s9 =>
gnm (x2_4 + 1) fun x2_19 =>
rc x2_19 s9)
def m_X7_years_34 (a0 : Int32) : Nat → Int32 → gMem → Option (gMem)
  | 0 => fun _ _ => none
  | n + 1 => b_X7_years_34 a0 (m_X7_years_34 a0 n)
def m_X7_years (a0 : Int32) (σ : gMem) : Option (Int32 × gMem) :=
gb1 (m_X7_in a0.toInt64 1 30 σ) fun r2 =>
if r2 = 0 then (
some ((-1), σ)) else (
gck (inb 65 528) (
if ((σ 1 (65 : Int32).toNatClampNeg) + a0) ≤ 999 then (
gb1 (m_X7_years_34 a0 gFU 0 σ) fun s6 =>
gck (inb 65 528) (
gck (inb 65 528) (
gnm (gst s6 1 (65 : Int32).toNatClampNeg ((s6 1 (65 : Int32).toNatClampNeg) + a0)) fun s23 =>
gck (inb 65 528) (
some (s23 1 (65 : Int32).toNatClampNeg, s23))))) else (
some ((-3), σ))))
def m_X7_hourOf (a0 : Int32) (σ : gMem) : Option (Int32) :=
some (grem (a0 / 60) 24)
def b_X7_postOf_18 (a0 : Int32) (σ : gMem) (rc : Int32 → Int32 → Option (Int32)) (x2_2 : Int32) (x3_3 : Int32) : Option (Int32) :=
if a0 ≤ x3_3 then (
some x2_2) else (
gck (inb (12 + x3_3) 528) (
if (σ 1 (12 + x3_3).toNatClampNeg) ≤ 0 then (
gnm (x2_2 + 0) fun x2_6 =>
gnm (x3_3 + 1) fun x3_7 =>
rc x2_6 x3_7) else (
gnm (x2_2 + 1) fun x2_8 =>
gnm (x3_3 + 1) fun x3_9 =>
rc x2_8 x3_9)))
def m_X7_postOf_18 (a0 : Int32) (σ : gMem) : Nat → Int32 → Int32 → Option (Int32)
  | 0 => fun _ _ => none
  | n + 1 => b_X7_postOf_18 a0 σ (m_X7_postOf_18 a0 σ n)
def m_X7_postOf (a0 : Int32) (σ : gMem) : Option (Int32) :=
gck (inb (12 + a0) 528) (
if (σ 1 (12 + a0).toNatClampNeg) = 0 then (
some (-1)) else (
gb1 (m_X7_postOf_18 a0 σ gFU 0 0) fun x2_4 =>
some x2_4))
def b_X7_lengthWith_13 (a1 : Int32) (σ : gMem) (rc : Int32 → Int32 → Option (Int32)) (x3_3 : Int32) (x4_4 : Int32) : Option (Int32) :=
gck (inb 62 528) (
if (σ 1 (62 : Int32).toNatClampNeg) ≤ x4_4 then (
some x3_3) else (
gb1 (m_X7_postOf x4_4 σ) fun r8 =>
if r8 < 0 then (
gnm (x3_3 + 0) fun x3_9 =>
gnm (x4_4 + 1) fun x4_10 =>
rc x3_9 x4_10) else (
if ((a1 >>> (r8 &&& 31)) &&& 1) = 1 then (
gck (inb (12 + x4_4) 528) (
gnm (x3_3 + (σ 1 (12 + x4_4).toNatClampNeg)) fun x3_14 =>
gnm (x4_4 + 1) fun x4_15 =>
rc x3_14 x4_15)) else (
gnm (x3_3 + 0) fun x3_11 =>
gnm (x4_4 + 1) fun x4_12 =>
rc x3_11 x4_12))))
def m_X7_lengthWith_13 (a1 : Int32) (σ : gMem) : Nat → Int32 → Int32 → Option (Int32)
  | 0 => fun _ _ => none
  | n + 1 => b_X7_lengthWith_13 a1 σ (m_X7_lengthWith_13 a1 σ n)
def m_X7_lengthWith (a0 : Int32) (a1 : Int32) (σ : gMem) : Option (Int32) :=
gck (inb (74 + a0) 528) (
gnm (σ 1 (74 + a0).toNatClampNeg) fun x3_2 =>
gb1 (m_X7_lengthWith_13 a1 σ gFU x3_2 0) fun x3_5 =>
some x3_5)
def m_X7_arrives (a0 : Int32) (a1 : Int32) (a2 : Int32) (a3 : Int32) (σ : gMem) : Option (gMem) :=
gck (inb ((8 * a1) + a2) 96) (
gnm (gst σ 8 ((8 * a1) + a2).toNatClampNeg 1) fun s2 =>
gb1 (m_X7_postOf a1 s2) fun r4 =>
if r4 < 0 then (
some s2) else (
if ((a2 >>> (r4 &&& 31)) &&& 1) = 1 then (
some s2) else (
gnm (a2 ||| ((1 : Int32) <<< (r4 &&& 31))) fun x6_5 =>
gb1 (m_X7_lengthWith a0 x6_5 s2) fun r7 =>
gb1 (m_X7_hourOf a3 s2) fun r9 =>
gb1 (m_X7_would a0 r7 a1 r9 s2) fun r11 =>
if r11 = 0 then (
some s2) else (
gck (inb ((8 * a1) + x6_5) 96) (
gnm (gst s2 8 ((8 * a1) + x6_5).toNatClampNeg 1) fun s13 =>
some s13)))))
def b_X7_bits_4 (a0 : Int32) (rc : Int32 → Int32 → Option (Int32)) (x1_1 : Int32) (x2_2 : Int32) : Option (Int32) :=
if 24 ≤ x2_2 then (
some x1_1) else (
gnm (x1_1 + ((a0 >>> (x2_2 &&& 31)) &&& 1)) fun x1_4 =>
gnm (x2_2 + 1) fun x2_5 =>
rc x1_4 x2_5)
def m_X7_bits_4 (a0 : Int32) : Nat → Int32 → Int32 → Option (Int32)
  | 0 => fun _ _ => none
  | n + 1 => b_X7_bits_4 a0 (m_X7_bits_4 a0 n)
def m_X7_bits (a0 : Int32) (σ : gMem) : Option (Int32) :=
gb1 (m_X7_bits_4 a0 gFU 0 0) fun x1_3 =>
some x1_3
def b_X7_look_2 (a0 : Int32) (a1 : Int32) (rc : Int32 → gMem → Option (gMem)) (x3_1 : Int32) (s2 : gMem) : Option (gMem) :=
if 8 ≤ x3_1 then (
some s2) else (
gck (inb ((8 * a0) + x3_1) 96) (
if (s2 8 ((8 * a0) + x3_1).toNatClampNeg) = 0 then (
gnm (x3_1 + 1) fun x3_5 =>
rc x3_5 s2) else (
gb1 ((if 0 ≤ (s2 0 14) then (
some (s2 0 14)) else (
some a1)) : Option (Int32)) fun w6 =>
gnm (gst s2 0 14 w6) fun s7 =>
if (s7 0 15) < 0 then (
gb1 (m_X7_bits x3_1 s7) fun r9 =>
gnm (gst s7 0 15 r9) fun s10 =>
gnm (x3_1 + 1) fun x3_11 =>
rc x3_11 s10) else (
gb1 (m_X7_bits x3_1 s7) fun r13 =>
if (s7 0 15) ≤ r13 then (
gnm (gst s7 0 15 (s7 0 15)) fun s14 =>
gnm (x3_1 + 1) fun x3_15 =>
rc x3_15 s14) else (
gb1 (m_X7_bits x3_1 s7) fun r17 =>
gnm (gst s7 0 15 r17) fun s18 =>
gnm (x3_1 + 1) fun x3_19 =>
rc x3_19 s18)))))
def m_X7_look_2 (a0 : Int32) (a1 : Int32) : Nat → Int32 → gMem → Option (gMem)
  | 0 => fun _ _ => none
  | n + 1 => b_X7_look_2 a0 a1 (m_X7_look_2 a0 a1 n)
def m_X7_look (a0 : Int32) (a1 : Int32) (σ : gMem) : Option (gMem) :=
gb1 (m_X7_look_2 a0 a1 gFU 0 σ) fun s3 =>
some s3
def b_X7_lasts_4 (a0 : Int32) (a1 : Int32) (a2 : Int32) (a4 : Int32) (σ : gMem) (rc : Int32 → Option (Nat)) (x6_1 : Int32) : Option (Nat) :=
if a4 < x6_1 then (
some 1) else (
gb1 (m_X7_hourOf x6_1 σ) fun r4 =>
gb1 (m_X7_would a0 a1 a2 r4 σ) fun r6 =>
if r6 = 0 then (
some 0) else (
gnm (x6_1 + (60 - (grem x6_1 60))) fun x6_7 =>
rc x6_7))
def m_X7_lasts_4 (a0 : Int32) (a1 : Int32) (a2 : Int32) (a4 : Int32) (σ : gMem) : Nat → Int32 → Option (Nat)
  | 0 => fun _ => none
  | n + 1 => b_X7_lasts_4 a0 a1 a2 a4 σ (m_X7_lasts_4 a0 a1 a2 a4 σ n)
def m_X7_lasts (a0 : Int32) (a1 : Int32) (a2 : Int32) (a3 : Int32) (a4 : Int32) (σ : gMem) : Option (Int32) :=
gb1 (m_X7_lasts_4 a0 a1 a2 a4 σ gFU a3) fun t2 =>
if t2 = 0 then (
some 0) else (
some 1)
def b_X7_leaves_11 (a0 : Int32) (a1 : Int32) (a2 : Int32) (a3 : Int32) (a4 : Int32) (r2 : Int32) (rc : Int32 → gMem → Option (gMem)) (x7_3 : Int32) (s4 : gMem) : Option (gMem) :=
gck (inb 62 528) (
if (s4 1 (62 : Int32).toNatClampNeg) ≤ x7_3 then (
some s4) else (
gb1 (m_X7_pathOf a1 x7_3 s4) fun r8 =>
if r8 ≤ 0 then (
gnm (x7_3 + 1) fun x7_9 =>
rc x7_9 s4) else (
if 600 < (a3 + r8) then (
gnm (x7_3 + 1) fun x7_10 =>
rc x7_10 s4) else (
gb1 (m_X7_lasts a0 r2 a1 a4 (a4 + r8) s4) fun r12 =>
if r12 = 0 then (
gnm (x7_3 + 1) fun x7_13 =>
rc x7_13 s4) else (
gb1 (m_X7_lasts a0 r2 x7_3 a4 (a4 + r8) s4) fun r15 =>
if r15 = 0 then (
gnm (x7_3 + 1) fun x7_16 =>
rc x7_16 s4) else (
gck (inb (((96 * (grem (a3 + r8) 61)) + (8 * x7_3)) + a2) 5856) (
gnm (gst s4 9 (((96 * (grem (a3 + r8) 61)) + (8 * x7_3)) + a2).toNatClampNeg 1) fun s18 =>
gnm (x7_3 + 1) fun x7_19 =>
rc x7_19 s18)))))))
def m_X7_leaves_11 (a0 : Int32) (a1 : Int32) (a2 : Int32) (a3 : Int32) (a4 : Int32) (r2 : Int32) : Nat → Int32 → gMem → Option (gMem)
  | 0 => fun _ _ => none
  | n + 1 => b_X7_leaves_11 a0 a1 a2 a3 a4 r2 (m_X7_leaves_11 a0 a1 a2 a3 a4 r2 n)
def m_X7_leaves (a0 : Int32) (a1 : Int32) (a2 : Int32) (a3 : Int32) (a4 : Int32) (σ : gMem) : Option (gMem) :=
gb1 (m_X7_lengthWith a0 a2 σ) fun r2 =>
gb1 (m_X7_leaves_11 a0 a1 a2 a3 a4 r2 gFU 0 σ) fun s5 =>
some s5
def b_X7_go_15 (rc : Int32 → gMem → Option (gMem)) (x4_3 : Int32) (s4 : gMem) : Option (gMem) :=
if 96 ≤ x4_3 then (
some s4) else (
gck (inb x4_3 96) (
gnm (gst s4 8 x4_3.toNatClampNeg 0) fun s7 =>
gnm (x4_3 + 1) fun x4_8 =>
rc x4_8 s7))
def m_X7_go_15 : Nat → Int32 → gMem → Option (gMem)
  | 0 => fun _ _ => none
  | n + 1 => b_X7_go_15 (m_X7_go_15 n)
def b_X7_go_39 (rc : Int32 → gMem → Option (gMem)) (x4_10 : Int32) (s11 : gMem) : Option (gMem) :=
if 5856 ≤ x4_10 then (
some s11) else (
gck (inb x4_10 5856) (
gnm (gst s11 9 x4_10.toNatClampNeg 0) fun s14 =>
gnm (x4_10 + 1) fun x4_15 =>
rc x4_15 s14))
def m_X7_go_39 : Nat → Int32 → gMem → Option (gMem)
  | 0 => fun _ _ => none
  | n + 1 => b_X7_go_39 (m_X7_go_39 n)
def b_X7_go_120 (a0 : Int32) (x5_29 : Int32) (rc : Int32 → gMem → Option (gMem)) (x6_30 : Int32) (s31 : gMem) : Option (gMem) :=
if 96 ≤ x6_30 then (
some s31) else (
gck (inb x6_30 96) (
if (s31 8 x6_30.toNatClampNeg) = 0 then (
gck (inb x6_30 96) (
gnm (gst s31 8 x6_30.toNatClampNeg 0) fun s35 =>
gnm (x6_30 + 1) fun x6_36 =>
rc x6_36 s35)) else (
gb1 (m_X7_lengthWith a0 (x6_30 &&& 7) s31) fun r38 =>
gb1 (m_X7_hourOf x5_29 s31) fun r40 =>
gb1 (m_X7_would a0 r38 (x6_30 >>> (3 &&& 31)) r40 s31) fun r42 =>
if r42 = 0 then (
gck (inb x6_30 96) (
gnm (gst s31 8 x6_30.toNatClampNeg 0) fun s44 =>
gnm (x6_30 + 1) fun x6_45 =>
rc x6_45 s44)) else (
gck (inb x6_30 96) (
gnm (gst s31 8 x6_30.toNatClampNeg 1) fun s47 =>
gnm (x6_30 + 1) fun x6_48 =>
rc x6_48 s47)))))
def m_X7_go_120 (a0 : Int32) (x5_29 : Int32) : Nat → Int32 → gMem → Option (gMem)
  | 0 => fun _ _ => none
  | n + 1 => b_X7_go_120 a0 x5_29 (m_X7_go_120 a0 x5_29 n)
def b_X7_go_185 (a0 : Int32) (x4_26 : Int32) (x5_29 : Int32) (rc : Int32 → gMem → Option (gMem)) (x6_50 : Int32) (s51 : gMem) : Option (gMem) :=
if 96 ≤ x6_50 then (
some s51) else (
gnm ((96 * (grem x4_26 61)) + x6_50) fun x7_53 =>
gck (inb x7_53 5856) (
if (s51 9 x7_53.toNatClampNeg) = 0 then (
gnm (x6_50 + 1) fun x6_55 =>
rc x6_55 s51) else (
gb1 (m_X7_arrives a0 (x6_50 >>> (3 &&& 31)) (x6_50 &&& 7) x5_29 s51) fun s57 =>
gck (inb x7_53 5856) (
gnm (gst s57 9 x7_53.toNatClampNeg 0) fun s59 =>
gnm (x6_50 + 1) fun x6_60 =>
rc x6_60 s59))))
def m_X7_go_185 (a0 : Int32) (x4_26 : Int32) (x5_29 : Int32) : Nat → Int32 → gMem → Option (gMem)
  | 0 => fun _ _ => none
  | n + 1 => b_X7_go_185 a0 x4_26 x5_29 (m_X7_go_185 a0 x4_26 x5_29 n)
def b_X7_go_255 (a0 : Int32) (x4_26 : Int32) (x5_29 : Int32) (rc : Int32 → gMem → Option (gMem)) (x6_64 : Int32) (s65 : gMem) : Option (gMem) :=
if 96 ≤ x6_64 then (
some s65) else (
gck (inb x6_64 96) (
if (s65 8 x6_64.toNatClampNeg) = 0 then (
gnm (x6_64 + 1) fun x6_68 =>
rc x6_68 s65) else (
gb1 (m_X7_leaves a0 (x6_64 >>> (3 &&& 31)) (x6_64 &&& 7) x4_26 x5_29 s65) fun s70 =>
gnm (x6_64 + 1) fun x6_71 =>
rc x6_71 s70)))
def m_X7_go_255 (a0 : Int32) (x4_26 : Int32) (x5_29 : Int32) : Nat → Int32 → gMem → Option (gMem)
  | 0 => fun _ _ => none
  | n + 1 => b_X7_go_255 a0 x4_26 x5_29 (m_X7_go_255 a0 x4_26 x5_29 n)
def b_X7_go_103 (a0 : Int32) (a1 : Int32) (a2 : Int32) (rc : Int32 → gMem → Option (gMem)) (x4_26 : Int32) (s27 : gMem) : Option (gMem) :=
if 600 < x4_26 then (
some s27) else (
gnm (a2 + x4_26) fun x5_29 =>
gb1 (m_X7_go_120 a0 x5_29 gFU 0 s27) fun s32 =>
gb1 (m_X7_go_185 a0 x4_26 x5_29 gFU 0 s32) fun s52 =>
gb1 (m_X7_look a1 x4_26 s52) fun s63 =>
gb1 (m_X7_go_255 a0 x4_26 x5_29 gFU 0 s63) fun s66 =>
gnm (x4_26 + 1) fun x4_73 =>
rc x4_73 s66)
def m_X7_go_103 (a0 : Int32) (a1 : Int32) (a2 : Int32) : Nat → Int32 → gMem → Option (gMem)
  | 0 => fun _ _ => none
  | n + 1 => b_X7_go_103 a0 a1 a2 (m_X7_go_103 a0 a1 a2 n)
def m_X7_go (a0 : Int32) (a1 : Int32) (a2 : Int32) (σ : gMem) : Option (gMem) :=
gnm (gst σ 0 14 (-4)) fun s1 =>
gnm (gst s1 0 15 (-4)) fun s2 =>
gb1 (m_X7_go_15 gFU 0 s2) fun s5 =>
gb1 (m_X7_go_39 gFU 0 s5) fun s12 =>
gck (inb (82 + a0) 528) (
gb1 (m_X7_hourOf a2 s12) fun r19 =>
gb1 (m_X7_does a0 (s12 1 (82 + a0).toNatClampNeg) r19 s12) fun r21 =>
gb1 ((if r21 = 0 then (
some s12) else (
gck (inb (82 + a0) 528) (
gck (inb (8 * (s12 1 (82 + a0).toNatClampNeg)) 5856) (
gnm (gst s12 9 (8 * (s12 1 (82 + a0).toNatClampNeg)).toNatClampNeg 1) fun s25 =>
some s25)))) : Option (gMem)) fun s22 =>
gb1 (m_X7_go_103 a0 a1 a2 gFU 0 s22) fun s28 =>
some s28)
def m_X7_way (a0 : Int32) (a1 : Int32) (a2 : Int32) (a3 : Int32) (σ : gMem) : Option (Int32 × gMem) :=
gb1 (m_X7_isPerson a0 σ) fun r2 =>
if r2 = 0 then (
some ((-1), σ)) else (
gb1 (m_X7_isPlace a1 σ) fun r4 =>
if r4 = 0 then (
some ((-1), σ)) else (
gb1 (m_X7_in a2.toInt64 0 1439 σ) fun r6 =>
if r6 = 0 then (
some ((-1), σ)) else (
gb1 (m_X7_in a3.toInt64 0 1 σ) fun r8 =>
if r8 = 0 then (
some ((-1), σ)) else (
gb1 (m_X7_go a0 a1 a2 σ) fun s10 =>
if a3 = 0 then (
some (s10 0 14, s10)) else (
some (s10 0 15, s10))))))
def m_X7_isSet (a0 : Int32) (σ : gMem) : Option (Int32) :=
gck (inb 63 528) (
gb1 (m_X7_in a0.toInt64 1 ((((1 : Int32) <<< ((σ 1 (63 : Int32).toNatClampNeg) &&& 31)) - 1).toInt64) σ) fun r3 =>
gck (izb r3) (some r3))
def b_X7_race_56 (a0 : Int32) (a1 : Int32) (a2 : Int32) (rc : Int32 → Int32 → Int32 → Int32 → gMem → Option (Int32 × Int32 × gMem)) (x5_9 : Int32) (x6_10 : Int32) (x7_11 : Int32) (x8_12 : Int32) (s13 : gMem) : Option (Int32 × Int32 × gMem) :=
gck (inb 63 528) (
if (s13 1 (63 : Int32).toNatClampNeg) ≤ x8_12 then (
some (x5_9, x7_11, s13)) else (
if ((a0 >>> (x8_12 &&& 31)) &&& 1) = 1 then (
gb1 (m_X7_go x8_12 a1 a2 s13) fun s20 =>
gb1 ((if (s20 0 14) < 0 then (
some 0) else (
some 1)) : Option (Int32)) fun w21 =>
gnm (x7_11 + w21) fun x7_22 =>
if (s20 0 14) < 0 then (
gnm (x8_12 + 1) fun x8_23 =>
rc x5_9 x6_10 x7_22 x8_23 s20) else (
if x6_10 ≤ (s20 0 14) then (
gnm (x8_12 + 1) fun x8_24 =>
rc x5_9 x6_10 x7_22 x8_24 s20) else (
gnm (s20 0 14) fun x6_25 =>
gnm (x8_12 + 1) fun x8_26 =>
rc x8_12 x6_25 x7_22 x8_26 s20))) else (
gnm (x8_12 + 1) fun x8_18 =>
rc x5_9 x6_10 x7_11 x8_18 s13)))
def m_X7_race_56 (a0 : Int32) (a1 : Int32) (a2 : Int32) : Nat → Int32 → Int32 → Int32 → Int32 → gMem → Option (Int32 × Int32 × gMem)
  | 0 => fun _ _ _ _ _ => none
  | n + 1 => b_X7_race_56 a0 a1 a2 (m_X7_race_56 a0 a1 a2 n)
def m_X7_race (a0 : Int32) (a1 : Int32) (a2 : Int32) (a3 : Int32) (σ : gMem) : Option (Int32 × gMem) :=
gb1 (m_X7_isSet a0 σ) fun r2 =>
if r2 = 0 then (
some ((-1), σ)) else (
gb1 (m_X7_isPlace a1 σ) fun r4 =>
if r4 = 0 then (
some ((-1), σ)) else (
gb1 (m_X7_in a2.toInt64 0 1439 σ) fun r6 =>
if r6 = 0 then (
some ((-1), σ)) else (
gb1 (m_X7_in a3.toInt64 0 1 σ) fun r8 =>
if r8 = 0 then (
some ((-1), σ)) else (
gb3 (m_X7_race_56 a0 a1 a2 gFU (-4) 601 0 0 σ) fun x5_14 x7_15 s16 =>
if a3 = 0 then (
some (x5_14, s16)) else (
some (x7_15, s16))))))
def m_X7_need (a0 : Int32) (a1 : Int32) (a2 : Int32) (σ : gMem) : Option (Int32 × gMem) :=
gb1 (m_X7_isPerson a0 σ) fun r2 =>
if r2 = 0 then (
some ((-1), σ)) else (
gb1 (m_X7_isPlace a1 σ) fun r4 =>
if r4 = 0 then (
some ((-1), σ)) else (
gb1 (m_X7_isHour a2 σ) fun r6 =>
if r6 = 0 then (
some ((-1), σ)) else (
gck (inb 64 528) (
if (σ 1 (64 : Int32).toNatClampNeg) = 10 then (
some ((-3), σ)) else (
gck (inb 64 528) (
gnm (σ 1 (64 : Int32).toNatClampNeg) fun x4_9 =>
gck (inb (90 + x4_9) 528) (
gnm (gst σ 1 (90 + x4_9).toNatClampNeg a0) fun s11 =>
gck (inb (100 + x4_9) 528) (
gnm (gst s11 1 (100 + x4_9).toNatClampNeg a1) fun s13 =>
gck (inb (110 + x4_9) 528) (
gnm (gst s13 1 (110 + x4_9).toNatClampNeg a2) fun s15 =>
gck (inb 64 528) (
gck (inb 64 528) (
gnm (gst s15 1 (64 : Int32).toNatClampNeg ((s15 1 (64 : Int32).toNatClampNeg) + 1)) fun s18 =>
some (x4_9, s18))))))))))))
def b_X7_met_4 (σ : gMem) (rc : Int32 → Int32 → Option (Int32)) (x1_1 : Int32) (x2_2 : Int32) : Option (Int32) :=
gck (inb 64 528) (
if (σ 1 (64 : Int32).toNatClampNeg) ≤ x2_2 then (
some x1_1) else (
gck (inb (90 + x2_2) 528) (
gck (inb (100 + x2_2) 528) (
gck (inb (110 + x2_2) 528) (
gb1 (m_X7_does (σ 1 (90 + x2_2).toNatClampNeg) (σ 1 (100 + x2_2).toNatClampNeg) (σ 1 (110 + x2_2).toNatClampNeg) σ) fun r9 =>
if r9 = 0 then (
gnm (x1_1 ||| 0) fun x1_10 =>
gnm (x2_2 + 1) fun x2_11 =>
rc x1_10 x2_11) else (
gnm (x1_1 ||| ((1 : Int32) <<< (x2_2 &&& 31))) fun x1_12 =>
gnm (x2_2 + 1) fun x2_13 =>
rc x1_12 x2_13))))))
def m_X7_met_4 (σ : gMem) : Nat → Int32 → Int32 → Option (Int32)
  | 0 => fun _ _ => none
  | n + 1 => b_X7_met_4 σ (m_X7_met_4 σ n)
def m_X7_met  (σ : gMem) : Option (Int32) :=
gb1 (m_X7_met_4 σ gFU 0 0) fun x1_3 =>
some x1_3
def b_X7_needy_4 (σ : gMem) (rc : Int32 → Int32 → Option (Int32)) (x1_1 : Int32) (x2_2 : Int32) : Option (Int32) :=
gck (inb 64 528) (
if (σ 1 (64 : Int32).toNatClampNeg) ≤ x2_2 then (
some x1_1) else (
gck (inb (90 + x2_2) 528) (
gnm (x1_1 ||| ((1 : Int32) <<< ((σ 1 (90 + x2_2).toNatClampNeg) &&& 31))) fun x1_6 =>
gnm (x2_2 + 1) fun x2_7 =>
rc x1_6 x2_7)))
def m_X7_needy_4 (σ : gMem) : Nat → Int32 → Int32 → Option (Int32)
  | 0 => fun _ _ => none
  | n + 1 => b_X7_needy_4 σ (m_X7_needy_4 σ n)
def m_X7_needy  (σ : gMem) : Option (Int32) :=
gb1 (m_X7_needy_4 σ gFU 0 0) fun x1_3 =>
some x1_3
def b_X7_doesFor_7 (a0 : Int32) (σ : gMem) (rc : Int32 → Int32 → Option (Int32)) (x2_3 : Int32) (x3_4 : Int32) : Option (Int32) :=
gck (inb 64 528) (
if (σ 1 (64 : Int32).toNatClampNeg) ≤ x3_4 then (
some x2_3) else (
gck (inb (90 + x3_4) 528) (
gck (inb (100 + x3_4) 528) (
gck (inb (110 + x3_4) 528) (
gb1 (m_X7_would (σ 1 (90 + x3_4).toNatClampNeg) a0 (σ 1 (100 + x3_4).toNatClampNeg) (σ 1 (110 + x3_4).toNatClampNeg) σ) fun r11 =>
if r11 = 0 then (
gck (inb (90 + x3_4) 528) (
gnm (x2_3 &&& (((1 : Int32) <<< ((σ 1 (90 + x3_4).toNatClampNeg) &&& 31)) ^^^ (-1))) fun x2_14 =>
gnm (x3_4 + 1) fun x3_15 =>
rc x2_14 x3_15)) else (
gnm (x3_4 + 1) fun x3_12 =>
rc x2_3 x3_12))))))
def m_X7_doesFor_7 (a0 : Int32) (σ : gMem) : Nat → Int32 → Int32 → Option (Int32)
  | 0 => fun _ _ => none
  | n + 1 => b_X7_doesFor_7 a0 σ (m_X7_doesFor_7 a0 σ n)
def m_X7_doesFor (a0 : Int32) (σ : gMem) : Option (Int32) :=
gb1 (m_X7_needy σ) fun r2 =>
gb1 (m_X7_doesFor_7 a0 σ gFU r2 0) fun x2_5 =>
some x2_5
def b_X7_fewest_2 (rc : Int32 → gMem → Option (gMem)) (x1_1 : Int32) (s2 : gMem) : Option (gMem) :=
if 256 ≤ x1_1 then (
some s2) else (
if x1_1 = 0 then (
gck (inb (15616 + x1_1) 15872) (
gnm (gst s2 10 (15616 + x1_1).toNatClampNeg 0) fun s8 =>
gnm (x1_1 + 1) fun x1_9 =>
rc x1_9 s8)) else (
gck (inb (15616 + x1_1) 15872) (
gnm (gst s2 10 (15616 + x1_1).toNatClampNeg 99) fun s5 =>
gnm (x1_1 + 1) fun x1_6 =>
rc x1_6 s5)))
def m_X7_fewest_2 : Nat → Int32 → gMem → Option (gMem)
  | 0 => fun _ _ => none
  | n + 1 => b_X7_fewest_2 (m_X7_fewest_2 n)
def b_X7_fewest_55 (x1_11 : Int32) (rc : Int32 → gMem → Option (gMem)) (x2_18 : Int32) (s19 : gMem) : Option (gMem) :=
if 256 ≤ x2_18 then (
some s19) else (
gck (inb x1_11 61) (
gck (inb ((256 * (x1_11 + 1)) + (x2_18 &&& ((s19 11 x1_11.toNatClampNeg) ^^^ (-1)))) 15872) (
gnm (1 + (s19 10 ((256 * (x1_11 + 1)) + (x2_18 &&& ((s19 11 x1_11.toNatClampNeg) ^^^ (-1)))).toNatClampNeg)) fun x3_23 =>
gck (inb ((256 * (x1_11 + 1)) + x2_18) 15872) (
gnm (s19 10 ((256 * (x1_11 + 1)) + x2_18).toNatClampNeg) fun x4_25 =>
if x4_25 ≤ x3_23 then (
gck (inb ((256 * x1_11) + x2_18) 15872) (
gnm (gst s19 10 ((256 * x1_11) + x2_18).toNatClampNeg x4_25) fun s27 =>
gnm (x2_18 + 1) fun x2_28 =>
rc x2_28 s27)) else (
gck (inb ((256 * x1_11) + x2_18) 15872) (
gnm (gst s19 10 ((256 * x1_11) + x2_18).toNatClampNeg x3_23) fun s30 =>
gnm (x2_18 + 1) fun x2_31 =>
rc x2_31 s30))))))
def m_X7_fewest_55 (x1_11 : Int32) : Nat → Int32 → gMem → Option (gMem)
  | 0 => fun _ _ => none
  | n + 1 => b_X7_fewest_55 x1_11 (m_X7_fewest_55 x1_11 n)
def b_X7_fewest_38 (rc : Int32 → gMem → Option (gMem)) (x1_11 : Int32) (s12 : gMem) : Option (gMem) :=
if x1_11 < 0 then (
some s12) else (
gb1 (m_X7_doesFor x1_11 s12) fun r15 =>
gck (inb x1_11 61) (
gnm (gst s12 11 x1_11.toNatClampNeg r15) fun s17 =>
gb1 (m_X7_fewest_55 x1_11 gFU 0 s17) fun s20 =>
gnm (x1_11 + (-1)) fun x1_33 =>
rc x1_33 s20))
def m_X7_fewest_38 : Nat → Int32 → gMem → Option (gMem)
  | 0 => fun _ _ => none
  | n + 1 => b_X7_fewest_38 (m_X7_fewest_38 n)
def m_X7_fewest  (σ : gMem) : Option (gMem) :=
gb1 (m_X7_fewest_2 gFU 0 σ) fun s3 =>
gb1 (m_X7_fewest_38 gFU 60 s3) fun s13 =>
some s13
def b_X7_lengths_73 (a0 : Int32) (s3 : gMem) (rc : Int32 → Int32 → Int32 → Option (Nat × Int32)) (x2_8 : Int32) (x4_9 : Int32) (x5_10 : Int32) : Option (Nat × Int32) :=
if 60 < x5_10 then (
some (1, x5_10)) else (
gck (inb ((256 * x5_10) + x2_8) 15872) (
gck (inb x5_10 61) (
gck (inb ((256 * (x5_10 + 1)) + (x2_8 &&& ((s3 11 x5_10.toNatClampNeg) ^^^ (-1)))) 15872) (
if (s3 10 ((256 * x5_10) + x2_8).toNatClampNeg) = (1 + (s3 10 ((256 * (x5_10 + 1)) + (x2_8 &&& ((s3 11 x5_10.toNatClampNeg) ^^^ (-1)))).toNatClampNeg)) then (
gnm (x4_9 + 1) fun x4_17 =>
gck (inb x5_10 61) (
gnm (x2_8 &&& ((s3 11 x5_10.toNatClampNeg) ^^^ (-1))) fun x2_19 =>
if x4_17 = a0 then (
some (0, x5_10)) else (
gnm (x5_10 + 1) fun x5_20 =>
rc x2_19 x4_17 x5_20))) else (
gnm (x5_10 + 1) fun x5_16 =>
rc x2_8 x4_9 x5_16)))))
def m_X7_lengths_73 (a0 : Int32) (s3 : gMem) : Nat → Int32 → Int32 → Int32 → Option (Nat × Int32)
  | 0 => fun _ _ _ => none
  | n + 1 => b_X7_lengths_73 a0 s3 (m_X7_lengths_73 a0 s3 n)
def m_X7_lengths (a0 : Int32) (σ : gMem) : Option (Int32 × gMem) :=
if (-1) ≤ a0 then (
gck (inb 64 528) (
if (σ 1 (64 : Int32).toNatClampNeg) = 0 then (
some ((-2), σ)) else (
gb1 (m_X7_fewest σ) fun s3 =>
gb1 (m_X7_needy s3) fun r5 =>
gck (inb r5 15872) (
gnm (s3 10 r5.toNatClampNeg) fun x3_7 =>
if x3_7 ≤ 60 then (
if a0 = (-1) then (
if a0 = (-1) then (
some (x3_7, s3)) else (
some ((-4), s3))) else (
if a0 < x3_7 then (
gb2 (m_X7_lengths_73 a0 s3 gFU r5 (-1) 0) fun t12 x5_11 =>
if t12 = 0 then (
some (x5_11, s3)) else (
some ((-4), s3))) else (
if a0 = (-1) then (
some (x3_7, s3)) else (
some ((-4), s3))))) else (
some ((-4), s3)))))) else (
some ((-1), σ))
def b_X7_meeting_54 (x5_6 : Int32) (x6_13 : Int32) (σ : gMem) (rc : Int32 → Int32 → Option (Int32)) (x7_18 : Int32) (x8_19 : Int32) : Option (Int32) :=
gck (inb 63 528) (
if (σ 1 (63 : Int32).toNatClampNeg) ≤ x8_19 then (
some x7_18) else (
gb1 (m_X7_does x8_19 x6_13 x5_6 σ) fun r23 =>
if r23 = 0 then (
gnm (x7_18 + 0) fun x7_24 =>
gnm (x8_19 + 1) fun x8_25 =>
rc x7_24 x8_25) else (
gnm (x7_18 + 1) fun x7_26 =>
gnm (x8_19 + 1) fun x8_27 =>
rc x7_26 x8_27)))
def m_X7_meeting_54 (x5_6 : Int32) (x6_13 : Int32) (σ : gMem) : Nat → Int32 → Int32 → Option (Int32)
  | 0 => fun _ _ => none
  | n + 1 => b_X7_meeting_54 x5_6 x6_13 σ (m_X7_meeting_54 x5_6 x6_13 σ n)
def b_X7_meeting_36 (x5_6 : Int32) (σ : gMem) (rc : Int32 → Int32 → Int32 → Int32 → Option (Int32 × Int32 × Int32)) (x2_10 : Int32) (x3_11 : Int32) (x4_12 : Int32) (x6_13 : Int32) : Option (Int32 × Int32 × Int32) :=
gck (inb 62 528) (
if (σ 1 (62 : Int32).toNatClampNeg) ≤ x6_13 then (
some (x2_10, x3_11, x4_12)) else (
gb1 (m_X7_meeting_54 x5_6 x6_13 σ gFU 0 0) fun x7_20 =>
gck (inb (0 + x6_13) 528) (
if 0 ≤ (σ 1 (0 + x6_13).toNatClampNeg) then (
gnm (x6_13 + 1) fun x6_30 =>
rc x2_10 x3_11 x4_12 x6_30) else (
if x7_20 ≤ x4_12 then (
gnm (x6_13 + 1) fun x6_31 =>
rc x2_10 x3_11 x4_12 x6_31) else (
gnm (x6_13 + 1) fun x6_32 =>
rc x6_13 x5_6 x7_20 x6_32)))))
def m_X7_meeting_36 (x5_6 : Int32) (σ : gMem) : Nat → Int32 → Int32 → Int32 → Int32 → Option (Int32 × Int32 × Int32)
  | 0 => fun _ _ _ _ => none
  | n + 1 => b_X7_meeting_36 x5_6 σ (m_X7_meeting_36 x5_6 σ n)
def b_X7_meeting_26 (σ : gMem) (rc : Int32 → Int32 → Int32 → Int32 → Option (Int32 × Int32 × Int32)) (x2_3 : Int32) (x3_4 : Int32) (x4_5 : Int32) (x5_6 : Int32) : Option (Int32 × Int32 × Int32) :=
if 24 ≤ x5_6 then (
some (x2_3, x3_4, x4_5)) else (
gb3 (m_X7_meeting_36 x5_6 σ gFU x2_3 x3_4 x4_5 0) fun x2_14 x3_15 x4_16 =>
gnm (x5_6 + 1) fun x5_34 =>
rc x2_14 x3_15 x4_16 x5_34)
def m_X7_meeting_26 (σ : gMem) : Nat → Int32 → Int32 → Int32 → Int32 → Option (Int32 × Int32 × Int32)
  | 0 => fun _ _ _ _ => none
  | n + 1 => b_X7_meeting_26 σ (m_X7_meeting_26 σ n)
def m_X7_meeting (a0 : Int32) (σ : gMem) : Option (Int32) :=
gb1 (m_X7_in a0.toInt64 0 2 σ) fun r2 =>
if r2 = 0 then (
some (-1)) else (
gb3 (m_X7_meeting_26 σ gFU (-4) (-4) (-1) 0) fun x2_7 x3_8 x4_9 =>
if 0 ≤ x4_9 then (
if a0 = 0 then (
some x2_7) else (
if a0 = 1 then (
some x3_8) else (
some x4_9))) else (
some (-4)))
def b_X7_pairs_56 (a0 : Int32) (x3_5 : Int32) (x4_10 : Int32) (rc : Int32 → gMem → Option (gMem)) (x5_14 : Int32) (s15 : gMem) : Option (gMem) :=
if x4_10 ≤ x5_14 then (
some s15) else (
gnm (((1 : Int32) <<< (x4_10 &&& 31)) ||| ((1 : Int32) <<< (x5_14 &&& 31))) fun x6_17 =>
gb1 (m_X7_of x4_10 2 s15) fun r19 =>
gb1 (m_X7_of x5_14 2 s15) fun r21 =>
gnm (r19 - r21) fun x7_22 =>
if (x3_5 &&& x6_17) = x6_17 then (
if a0 < x7_22 then (
gnm (x5_14 + 1) fun x5_24 =>
rc x5_24 s15) else (
if a0 < (-x7_22) then (
gnm (x5_14 + 1) fun x5_25 =>
rc x5_25 s15) else (
gck (inb (x3_5 &&& (x6_17 ^^^ (-1))) 256) (
gck (inb x3_5 256) (
if ((s15 12 (x3_5 &&& (x6_17 ^^^ (-1))).toNatClampNeg) + 1) ≤ (s15 12 x3_5.toNatClampNeg) then (
gnm (x5_14 + 1) fun x5_28 =>
rc x5_28 s15) else (
gck (inb (x3_5 &&& (x6_17 ^^^ (-1))) 256) (
gck (inb x3_5 256) (
gnm (gst s15 12 x3_5.toNatClampNeg ((s15 12 (x3_5 &&& (x6_17 ^^^ (-1))).toNatClampNeg) + 1)) fun s31 =>
gnm (x5_14 + 1) fun x5_32 =>
rc x5_32 s31)))))))) else (
gnm (x5_14 + 1) fun x5_23 =>
rc x5_23 s15))
def m_X7_pairs_56 (a0 : Int32) (x3_5 : Int32) (x4_10 : Int32) : Nat → Int32 → gMem → Option (gMem)
  | 0 => fun _ _ => none
  | n + 1 => b_X7_pairs_56 a0 x3_5 x4_10 (m_X7_pairs_56 a0 x3_5 x4_10 n)
def b_X7_pairs_41 (a0 : Int32) (x3_5 : Int32) (rc : Int32 → gMem → Option (gMem)) (x4_10 : Int32) (s11 : gMem) : Option (gMem) :=
gck (inb 63 528) (
if (s11 1 (63 : Int32).toNatClampNeg) ≤ x4_10 then (
some s11) else (
gb1 (m_X7_pairs_56 a0 x3_5 x4_10 gFU 0 s11) fun s16 =>
gnm (x4_10 + 1) fun x4_34 =>
rc x4_34 s16))
def m_X7_pairs_41 (a0 : Int32) (x3_5 : Int32) : Nat → Int32 → gMem → Option (gMem)
  | 0 => fun _ _ => none
  | n + 1 => b_X7_pairs_41 a0 x3_5 (m_X7_pairs_41 a0 x3_5 n)
def b_X7_pairs_169 (x3_5 : Int32) (rc : Int32 → gMem → Option (gMem)) (x4_36 : Int32) (s37 : gMem) : Option (gMem) :=
gck (inb 63 528) (
if (s37 1 (63 : Int32).toNatClampNeg) ≤ x4_36 then (
some s37) else (
if ((x3_5 >>> (x4_36 &&& 31)) &&& 1) = 1 then (
gck (inb (x3_5 &&& (((1 : Int32) <<< (x4_36 &&& 31)) ^^^ (-1))) 256) (
gck (inb x3_5 256) (
if (s37 12 (x3_5 &&& (((1 : Int32) <<< (x4_36 &&& 31)) ^^^ (-1))).toNatClampNeg) ≤ (s37 12 x3_5.toNatClampNeg) then (
gnm (x4_36 + 1) fun x4_43 =>
rc x4_43 s37) else (
gck (inb (x3_5 &&& (((1 : Int32) <<< (x4_36 &&& 31)) ^^^ (-1))) 256) (
gck (inb x3_5 256) (
gnm (gst s37 12 x3_5.toNatClampNeg (s37 12 (x3_5 &&& (((1 : Int32) <<< (x4_36 &&& 31)) ^^^ (-1))).toNatClampNeg)) fun s46 =>
gnm (x4_36 + 1) fun x4_47 =>
rc x4_47 s46)))))) else (
gnm (x4_36 + 1) fun x4_40 =>
rc x4_40 s37)))
def m_X7_pairs_169 (x3_5 : Int32) : Nat → Int32 → gMem → Option (gMem)
  | 0 => fun _ _ => none
  | n + 1 => b_X7_pairs_169 x3_5 (m_X7_pairs_169 x3_5 n)
def b_X7_pairs_26 (a0 : Int32) (x2_4 : Int32) (rc : Int32 → gMem → Option (gMem)) (x3_5 : Int32) (s6 : gMem) : Option (gMem) :=
if x2_4 ≤ x3_5 then (
some s6) else (
gck (inb x3_5 256) (
gnm (gst s6 12 x3_5.toNatClampNeg 0) fun s9 =>
gb1 (m_X7_pairs_41 a0 x3_5 gFU 0 s9) fun s12 =>
gb1 (m_X7_pairs_169 x3_5 gFU 0 s12) fun s38 =>
gnm (x3_5 + 1) fun x3_49 =>
rc x3_49 s38))
def m_X7_pairs_26 (a0 : Int32) (x2_4 : Int32) : Nat → Int32 → gMem → Option (gMem)
  | 0 => fun _ _ => none
  | n + 1 => b_X7_pairs_26 a0 x2_4 (m_X7_pairs_26 a0 x2_4 n)
def m_X7_pairs (a0 : Int32) (σ : gMem) : Option (Int32 × gMem) :=
gb1 (m_X7_in a0.toInt64 0 60 σ) fun r2 =>
if r2 = 0 then (
some ((-1), σ)) else (
gck (inb 63 528) (
gnm ((1 : Int32) <<< ((σ 1 (63 : Int32).toNatClampNeg) &&& 31)) fun x2_4 =>
gb1 (m_X7_pairs_26 a0 x2_4 gFU 0 σ) fun s7 =>
gck (inb (x2_4 - 1) 256) (
some (s7 12 (x2_4 - 1).toNatClampNeg, s7))))
def b_X7_isDry_3 (a0 : Int32) (a1 : Int32) (a2 : Int32) (σ : gMem) (rc : Int32 → Option (Nat)) (x4_1 : Int32) : Option (Nat) :=
if 24 ≤ x4_1 then (
some 1) else (
gck (inb (66 + a0) 528) (
gck (inb 65 528) (
gck (inb (82 + a0) 528) (
gck (inb (0 + (σ 1 (82 + a0).toNatClampNeg)) 528) (
gb1 (m_X7_waterBy (σ 1 (0 + (σ 1 (82 + a0).toNatClampNeg)).toNatClampNeg) x4_1 a2 σ) fun r8 =>
gb1 (m_X7_standsBy (σ 1 (66 + a0).toNatClampNeg) a1 (σ 1 (65 : Int32).toNatClampNeg) r8 σ) fun r10 =>
if r10 = 0 then (
some 0) else (
gnm (x4_1 + 1) fun x4_11 =>
rc x4_11))))))
def m_X7_isDry_3 (a0 : Int32) (a1 : Int32) (a2 : Int32) (σ : gMem) : Nat → Int32 → Option (Nat)
  | 0 => fun _ => none
  | n + 1 => b_X7_isDry_3 a0 a1 a2 σ (m_X7_isDry_3 a0 a1 a2 σ n)
def m_X7_isDry (a0 : Int32) (a1 : Int32) (a2 : Int32) (σ : gMem) : Option (Int32) :=
gb1 (m_X7_isDry_3 a0 a1 a2 σ gFU 0) fun t2 =>
if t2 = 0 then (
some 0) else (
some 1)
def m_X7_dry (a0 : Int32) (a1 : Int32) (a2 : Int32) (σ : gMem) : Option (Int32) :=
gck (inb (74 + a1) 528) (
gb1 (m_X7_isDry a0 (σ 1 (74 + a1).toNatClampNeg) a2 σ) fun r3 =>
if r3 = 0 then (
some 0) else (
some 1))
def b_X7_share_43 (a0 : Int32) (x2_2 : Int32) (x3_3 : Int32) (x4_11 : Int32) (rc : Int32 → gMem → Option (gMem)) (x5_12 : Int32) (s13 : gMem) : Option (gMem) :=
if x2_2 ≤ x5_12 then (
some s13) else (
if ((x3_3 >>> (x5_12 &&& 31)) &&& 1) = 1 then (
gck (inb (x3_3 &&& (((1 : Int32) <<< (x5_12 &&& 31)) ^^^ (-1))) 256) (
gb1 (m_X7_dry x4_11 x5_12 a0 s13) fun r18 =>
gnm ((s13 12 (x3_3 &&& (((1 : Int32) <<< (x5_12 &&& 31)) ^^^ (-1))).toNatClampNeg) + r18) fun x6_19 =>
gck (inb x3_3 256) (
if x6_19 ≤ (s13 12 x3_3.toNatClampNeg) then (
gck (inb x3_3 256) (
gck (inb x3_3 256) (
gnm (gst s13 12 x3_3.toNatClampNeg (s13 12 x3_3.toNatClampNeg)) fun s23 =>
gnm (x5_12 + 1) fun x5_24 =>
rc x5_24 s23))) else (
gck (inb x3_3 256) (
gnm (gst s13 12 x3_3.toNatClampNeg x6_19) fun s26 =>
gnm (x5_12 + 1) fun x5_27 =>
rc x5_27 s26))))) else (
gnm (x5_12 + 1) fun x5_15 =>
rc x5_15 s13))
def m_X7_share_43 (a0 : Int32) (x2_2 : Int32) (x3_3 : Int32) (x4_11 : Int32) : Nat → Int32 → gMem → Option (gMem)
  | 0 => fun _ _ => none
  | n + 1 => b_X7_share_43 a0 x2_2 x3_3 x4_11 (m_X7_share_43 a0 x2_2 x3_3 x4_11 n)
def b_X7_share_10 (a0 : Int32) (x2_2 : Int32) (rc : Int32 → gMem → Option (gMem)) (x3_3 : Int32) (s4 : gMem) : Option (gMem) :=
if ((1 : Int32) <<< (x2_2 &&& 31)) ≤ x3_3 then (
some s4) else (
gb1 ((if x3_3 = 0 then (
some 0) else (
some (-1))) : Option (Int32)) fun w6 =>
gck (inb x3_3 256) (
gnm (gst s4 12 x3_3.toNatClampNeg w6) fun s8 =>
gb1 (m_X7_bits x3_3 s8) fun r10 =>
gnm (x2_2 - r10) fun x4_11 =>
gb1 (m_X7_share_43 a0 x2_2 x3_3 x4_11 gFU 0 s8) fun s14 =>
gnm (x3_3 + 1) fun x3_29 =>
rc x3_29 s14))
def m_X7_share_10 (a0 : Int32) (x2_2 : Int32) : Nat → Int32 → gMem → Option (gMem)
  | 0 => fun _ _ => none
  | n + 1 => b_X7_share_10 a0 x2_2 (m_X7_share_10 a0 x2_2 n)
def b_X7_share_142 (a0 : Int32) (x3_33 : Int32) (x4_34 : Int32) (s35 : gMem) (rc : Int32 → Option (Int32)) (x5_37 : Int32) : Option (Int32) :=
if ((x3_33 >>> (x5_37 &&& 31)) &&& 1) = 0 then (
gnm (x5_37 + 1) fun x5_39 =>
rc x5_39) else (
gck (inb (x3_33 &&& (((1 : Int32) <<< (x5_37 &&& 31)) ^^^ (-1))) 256) (
gb1 (m_X7_dry x4_34 x5_37 a0 s35) fun r42 =>
gck (inb x3_33 256) (
if ((s35 12 (x3_33 &&& (((1 : Int32) <<< (x5_37 &&& 31)) ^^^ (-1))).toNatClampNeg) + r42) = (s35 12 x3_33.toNatClampNeg) then (
some x5_37) else (
gnm (x5_37 + 1) fun x5_44 =>
rc x5_44))))
def m_X7_share_142 (a0 : Int32) (x3_33 : Int32) (x4_34 : Int32) (s35 : gMem) : Nat → Int32 → Option (Int32)
  | 0 => fun _ => none
  | n + 1 => b_X7_share_142 a0 x3_33 x4_34 s35 (m_X7_share_142 a0 x3_33 x4_34 s35 n)
def b_X7_share_133 (a0 : Int32) (x2_2 : Int32) (rc : Int32 → Int32 → gMem → Option (gMem)) (x3_33 : Int32) (x4_34 : Int32) (s35 : gMem) : Option (gMem) :=
if x2_2 ≤ x4_34 then (
some s35) else (
gb1 (m_X7_share_142 a0 x3_33 x4_34 s35 gFU 0) fun x5_38 =>
gck (inb x4_34 8) (
gnm (gst s35 13 x4_34.toNatClampNeg x5_38) fun s47 =>
gnm (x3_33 &&& (((1 : Int32) <<< (x5_38 &&& 31)) ^^^ (-1))) fun x3_48 =>
gnm (x4_34 + 1) fun x4_49 =>
rc x3_48 x4_49 s47))
def m_X7_share_133 (a0 : Int32) (x2_2 : Int32) : Nat → Int32 → Int32 → gMem → Option (gMem)
  | 0 => fun _ _ _ => none
  | n + 1 => b_X7_share_133 a0 x2_2 (m_X7_share_133 a0 x2_2 n)
def m_X7_share (a0 : Int32) (σ : gMem) : Option (gMem) :=
gck (inb 63 528) (
gnm (σ 1 (63 : Int32).toNatClampNeg) fun x2_2 =>
gb1 (m_X7_share_10 a0 x2_2 gFU 0 σ) fun s5 =>
gnm (((1 : Int32) <<< (x2_2 &&& 31)) - 1) fun x3_32 =>
gb1 (m_X7_share_133 a0 x2_2 gFU x3_32 0 s5) fun s36 =>
some s36)
def b_X7_flood_45 (a0 : Int32) (σ : gMem) (rc : Int32 → Int32 → Option (Int32)) (x3_12 : Int32) (x4_13 : Int32) : Option (Int32) :=
gck (inb 63 528) (
if (σ 1 (63 : Int32).toNatClampNeg) ≤ x4_13 then (
some x3_12) else (
gb1 (m_X7_dry x4_13 x4_13 a0 σ) fun r17 =>
gnm (x3_12 ||| ((1 - r17) <<< (x4_13 &&& 31))) fun x3_18 =>
gnm (x4_13 + 1) fun x4_19 =>
rc x3_18 x4_19))
def m_X7_flood_45 (a0 : Int32) (σ : gMem) : Nat → Int32 → Int32 → Option (Int32)
  | 0 => fun _ _ => none
  | n + 1 => b_X7_flood_45 a0 σ (m_X7_flood_45 a0 σ n)
def m_X7_flood (a0 : Int32) (a1 : Int32) (σ : gMem) : Option (Int32 × gMem) :=
gb1 (m_X7_in a0.toInt64 0 40 σ) fun r2 =>
if r2 = 0 then (
some ((-1), σ)) else (
gck (inb 63 528) (
gb1 (m_X7_in a1.toInt64 (-2) (((σ 1 (63 : Int32).toNatClampNeg) - 1).toInt64) σ) fun r5 =>
if r5 = 0 then (
some ((-1), σ)) else (
if a1 = (-1) then (
gb1 (m_X7_flood_45 a0 σ gFU 0 0) fun x3_14 =>
some (x3_14, σ)) else (
gb1 (m_X7_share a0 σ) fun s7 =>
if a1 = (-2) then (
gck (inb 63 528) (
gck (inb 63 528) (
gck (inb (((1 : Int32) <<< ((s7 1 (63 : Int32).toNatClampNeg) &&& 31)) - 1) 256) (
some ((s7 1 (63 : Int32).toNatClampNeg) - (s7 12 (((1 : Int32) <<< ((s7 1 (63 : Int32).toNatClampNeg) &&& 31)) - 1).toNatClampNeg), s7))))) else (
gck (inb a1 8) (
some (s7 13 a1.toNatClampNeg, s7)))))))
def b_X7_carried_34 (a0 : Int32) (a1 : Int32) (a2 : Int32) (σ : gMem) (rc : Int32 → Int32 → Int32 → Option (Int32 × Int32)) (x4_7 : Int32) (x5_8 : Int32) (x6_9 : Int32) : Option (Int32 × Int32) :=
gck (inb 63 528) (
if (σ 1 (63 : Int32).toNatClampNeg) ≤ x6_9 then (
some (x4_7, x5_8)) else (
gnm ((a0 >>> (x6_9 &&& 31)) &&& 1) fun x7_13 =>
gb1 (m_X7_does x6_9 a1 a2 σ) fun r15 =>
gb1 ((if r15 = 0 then (
some 0) else (
some x7_13)) : Option (Int32)) fun w16 =>
gnm (x4_7 + w16) fun x4_17 =>
gb1 (m_X7_does x6_9 a1 a2 σ) fun r19 =>
if r19 = 0 then (
gnm (x5_8 + x7_13) fun x5_20 =>
gnm (x6_9 + 1) fun x6_21 =>
rc x4_17 x5_20 x6_21) else (
gnm (x5_8 + 0) fun x5_22 =>
gnm (x6_9 + 1) fun x6_23 =>
rc x4_17 x5_22 x6_23)))
def m_X7_carried_34 (a0 : Int32) (a1 : Int32) (a2 : Int32) (σ : gMem) : Nat → Int32 → Int32 → Int32 → Option (Int32 × Int32)
  | 0 => fun _ _ _ => none
  | n + 1 => b_X7_carried_34 a0 a1 a2 σ (m_X7_carried_34 a0 a1 a2 σ n)
def b_X7_carried_110 (x4_10 : Int32) (x5_11 : Int32) (rc : Int32 → Int32 → Option (Int32)) (x6_26 : Int32) (x7_27 : Int32) : Option (Int32) :=
if x5_11 ≤ x7_27 then (
some x6_26) else (
if x4_10 ≤ x7_27 then (
gnm (x6_26 * 0) fun x6_29 =>
gnm (x7_27 + 1) fun x7_30 =>
rc x6_29 x7_30) else (
gnm (x6_26 * (x4_10 - x7_27)) fun x6_31 =>
gnm (x7_27 + 1) fun x7_32 =>
rc x6_31 x7_32))
def m_X7_carried_110 (x4_10 : Int32) (x5_11 : Int32) : Nat → Int32 → Int32 → Option (Int32)
  | 0 => fun _ _ => none
  | n + 1 => b_X7_carried_110 x4_10 x5_11 (m_X7_carried_110 x4_10 x5_11 n)
def m_X7_carried (a0 : Int32) (a1 : Int32) (a2 : Int32) (σ : gMem) : Option (Int32) :=
gb1 (m_X7_isSet a0 σ) fun r2 =>
if r2 = 0 then (
some (-1)) else (
gb1 (m_X7_isPlace a1 σ) fun r4 =>
if r4 = 0 then (
some (-1)) else (
gb1 (m_X7_isHour a2 σ) fun r6 =>
if r6 = 0 then (
some (-1)) else (
gb2 (m_X7_carried_34 a0 a1 a2 σ gFU 0 0 0) fun x4_10 x5_11 =>
gb1 (m_X7_carried_110 x4_10 x5_11 gFU 1 0) fun x6_28 =>
some x6_28)))
def b_X7_wrong_64 (a0 : Int32) (x5_10 : Int32) (σ : gMem) (rc : Int32 → Int32 → Option (Int32)) (x6_13 : Int32) (x7_14 : Int32) : Option (Int32) :=
if a0 ≤ x7_14 then (
some x6_13) else (
gck (inb (24 + x5_10) 528) (
gb1 (m_X7_silted x6_13 (σ 1 (24 + x5_10).toNatClampNeg) σ) fun r18 =>
gnm (x7_14 + 1) fun x7_19 =>
rc r18 x7_19))
def m_X7_wrong_64 (a0 : Int32) (x5_10 : Int32) (σ : gMem) : Nat → Int32 → Int32 → Option (Int32)
  | 0 => fun _ _ => none
  | n + 1 => b_X7_wrong_64 a0 x5_10 σ (m_X7_wrong_64 a0 x5_10 σ n)
def b_X7_wrong_26 (a0 : Int32) (a1 : Int32) (σ : gMem) (rc : Int32 → Int32 → Option (Int32)) (x3_5 : Int32) (x4_6 : Int32) : Option (Int32) :=
gck (inb 63 528) (
if (σ 1 (63 : Int32).toNatClampNeg) ≤ x4_6 then (
some x3_5) else (
gck (inb (82 + x4_6) 528) (
gnm (σ 1 (82 + x4_6).toNatClampNeg) fun x5_10 =>
gck (inb (0 + x5_10) 528) (
gnm (σ 1 (0 + x5_10).toNatClampNeg) fun x6_12 =>
gb1 (m_X7_wrong_64 a0 x5_10 σ gFU x6_12 0) fun x6_15 =>
gck (inb (66 + x4_6) 528) (
gck (inb (74 + x4_6) 528) (
gck (inb 65 528) (
gck (inb 60 528) (
gb1 (m_X7_waterBy x6_15 a1 (σ 1 (60 : Int32).toNatClampNeg) σ) fun r26 =>
gb1 (m_X7_standsBy (σ 1 (66 + x4_6).toNatClampNeg) (σ 1 (74 + x4_6).toNatClampNeg) ((σ 1 (65 : Int32).toNatClampNeg) + a0) r26 σ) fun r28 =>
gb1 (m_X7_does x4_6 x5_10 a1 σ) fun r30 =>
if r30 = 0 then (
gnm (x3_5 ||| 0) fun x3_31 =>
gnm (x4_6 + 1) fun x4_32 =>
rc x3_31 x4_32) else (
if r28 = 0 then (
gnm (x3_5 ||| ((1 : Int32) <<< (x4_6 &&& 31))) fun x3_35 =>
gnm (x4_6 + 1) fun x4_36 =>
rc x3_35 x4_36) else (
gnm (x3_5 ||| 0) fun x3_33 =>
gnm (x4_6 + 1) fun x4_34 =>
rc x3_33 x4_34))))))))))
def m_X7_wrong_26 (a0 : Int32) (a1 : Int32) (σ : gMem) : Nat → Int32 → Int32 → Option (Int32)
  | 0 => fun _ _ => none
  | n + 1 => b_X7_wrong_26 a0 a1 σ (m_X7_wrong_26 a0 a1 σ n)
def m_X7_wrong (a0 : Int32) (a1 : Int32) (σ : gMem) : Option (Int32) :=
gb1 (m_X7_in a0.toInt64 1 30 σ) fun r2 =>
if r2 = 0 then (
some (-1)) else (
gb1 (m_X7_isHour a1 σ) fun r4 =>
if r4 = 0 then (
some (-1)) else (
gb1 (m_X7_wrong_26 a0 a1 σ gFU 0 0) fun x3_7 =>
some x3_7))
def m_X7_clear  (σ : gMem) : Option (Int32 × gMem) :=
gck (inb 63 528) (
gnm (σ 1 (63 : Int32).toNatClampNeg) fun x1_2 =>
gck (inb 63 528) (
gnm (gst σ 1 (63 : Int32).toNatClampNeg 0) fun s4 =>
gck (inb 64 528) (
gnm (gst s4 1 (64 : Int32).toNatClampNeg 0) fun s6 =>
some (x1_2, s6))))
def b_X7_image_2 (rc : Int32 → gMem → Option (gMem)) (x1_1 : Int32) (s2 : gMem) : Option (gMem) :=
if 264 ≤ x1_1 then (
some s2) else (
gck (inb x1_1 528) (
gck (inb (264 + x1_1) 528) (
gnm (gst s2 1 (264 + x1_1).toNatClampNeg (s2 1 x1_1.toNatClampNeg)) fun s6 =>
gnm (x1_1 + 1) fun x1_7 =>
rc x1_7 s6)))
def m_X7_image_2 : Nat → Int32 → gMem → Option (gMem)
  | 0 => fun _ _ => none
  | n + 1 => b_X7_image_2 (m_X7_image_2 n)
def m_X7_image  (σ : gMem) : Option (Int32 × gMem) :=
gb1 (m_X7_image_2 gFU 0 σ) fun s3 =>
gnm (gst s3 0 1 1) fun s9 =>
some (1, s9)
def b_X7_restore_12 (rc : Int32 → gMem → Option (gMem)) (x1_1 : Int32) (s2 : gMem) : Option (gMem) :=
if 264 ≤ x1_1 then (
some s2) else (
gck (inb (264 + x1_1) 528) (
gck (inb x1_1 528) (
gnm (gst s2 1 x1_1.toNatClampNeg (s2 1 (264 + x1_1).toNatClampNeg)) fun s6 =>
gnm (x1_1 + 1) fun x1_7 =>
rc x1_7 s6)))
def m_X7_restore_12 : Nat → Int32 → gMem → Option (gMem)
  | 0 => fun _ _ => none
  | n + 1 => b_X7_restore_12 (m_X7_restore_12 n)
def m_X7_restore  (σ : gMem) : Option (Int32 × gMem) :=
if (σ 0 1) = 0 then (
some ((-4), σ)) else (
gb1 (m_X7_restore_12 gFU 0 σ) fun s3 =>
some (1, s3))
def m_X7_isSheet (a0 : Int32) (σ : gMem) : Option (Int32) :=
gb1 (m_X7_in a0.toInt64 0 3 σ) fun r2 =>
gck (izb r2) (some r2)
def m_X7_isLane (a0 : Int32) (σ : gMem) : Option (Int32) :=
gb1 (m_X7_in a0.toInt64 0 2 σ) fun r2 =>
gck (izb r2) (some r2)
def b_X7_tides_68 (a0 : Int32) (σ : gMem) (rc : Int32 → Option (Nat)) (x3_9 : Int32) : Option (Nat) :=
if 24 ≤ x3_9 then (
some 1) else (
gck (inb ((24 * a0) + x3_9) 96) (
gb1 (m_X7_in ((σ 4 ((24 * a0) + x3_9).toNatClampNeg).toInt64) (-20) 20 σ) fun r13 =>
if r13 = 0 then (
some 0) else (
gnm (x3_9 + 1) fun x3_14 =>
rc x3_14)))
def m_X7_tides_68 (a0 : Int32) (σ : gMem) : Nat → Int32 → Option (Nat)
  | 0 => fun _ => none
  | n + 1 => b_X7_tides_68 a0 σ (m_X7_tides_68 a0 σ n)
def b_X7_tides_109 (a0 : Int32) (rc : Int32 → gMem → Option (gMem)) (x3_16 : Int32) (s17 : gMem) : Option (gMem) :=
if 24 ≤ x3_16 then (
some s17) else (
gck (inb ((24 * a0) + x3_16) 96) (
gck (inb (36 + x3_16) 528) (
gnm (gst s17 1 (36 + x3_16).toNatClampNeg (s17 4 ((24 * a0) + x3_16).toNatClampNeg)) fun s21 =>
gnm (x3_16 + 1) fun x3_22 =>
rc x3_22 s21)))
def m_X7_tides_109 (a0 : Int32) : Nat → Int32 → gMem → Option (gMem)
  | 0 => fun _ _ => none
  | n + 1 => b_X7_tides_109 a0 (m_X7_tides_109 a0 n)
def m_X7_tides (a0 : Int32) (a1 : Int32) (σ : gMem) : Option (Int32 × gMem) :=
gb1 (m_X7_isSheet a0 σ) fun r2 =>
if r2 = 0 then (
some ((-1), σ)) else (
gb1 (m_X7_isLane a1 σ) fun r4 =>
if r4 = 0 then (
some ((-1), σ)) else (
gck (inb a0 4) (
if (σ 5 a0.toNatClampNeg) < 0 then (
gck (inb a0 4) (
if 0 ≤ (σ 5 a0.toNatClampNeg) then (
some ((-12), σ)) else (
some ((-11), σ)))) else (
gck (inb a0 4) (
if (σ 5 a0.toNatClampNeg) = a1 then (
gck (inb a0 4) (
if 24 ≤ (σ 6 a0.toNatClampNeg) then (
gb1 (m_X7_tides_68 a0 σ gFU 0) fun t10 =>
if t10 = 0 then (
some ((-2), σ)) else (
gb1 (m_X7_tides_109 a0 gFU 0 σ) fun s18 =>
some (1, s18))) else (
some ((-13), σ)))) else (
gck (inb a0 4) (
if 0 ≤ (σ 5 a0.toNatClampNeg) then (
some ((-12), σ)) else (
some ((-11), σ)))))))))
def b_X7_sheet_46 (a0 : Int32) (a2 : Int32) (rc : Int32 → gMem → Option (gMem)) (x4_9 : Int32) (s10 : gMem) : Option (gMem) :=
if a2 ≤ x4_9 then (
some s10) else (
gck (inb ((24 * a0) + x4_9) 96) (
gnm (gst s10 4 ((24 * a0) + x4_9).toNatClampNeg 0) fun s13 =>
gnm (x4_9 + 1) fun x4_14 =>
rc x4_14 s13))
def m_X7_sheet_46 (a0 : Int32) (a2 : Int32) : Nat → Int32 → gMem → Option (gMem)
  | 0 => fun _ _ => none
  | n + 1 => b_X7_sheet_46 a0 a2 (m_X7_sheet_46 a0 a2 n)
def m_X7_sheet (a0 : Int32) (a1 : Int32) (a2 : Int32) (σ : gMem) : Option (Int32 × gMem) :=
gb1 (m_X7_isSheet a0 σ) fun r2 =>
if r2 = 0 then (
some ((-1), σ)) else (
gb1 (m_X7_isLane a1 σ) fun r4 =>
if r4 = 0 then (
some ((-1), σ)) else (
if a2 ≤ 24 then (
if 0 ≤ a2 then (
gck (inb a0 4) (
gnm (gst σ 5 a0.toNatClampNeg a1) fun s6 =>
gck (inb a0 4) (
gnm (gst s6 6 a0.toNatClampNeg a2) fun s8 =>
gb1 (m_X7_sheet_46 a0 a2 gFU 0 s8) fun s11 =>
some (a2, s11)))) else (
some ((-14), σ))) else (
some ((-1), σ))))
def m_X7_drop (a0 : Int32) (σ : gMem) : Option (Int32 × gMem) :=
gb1 (m_X7_isSheet a0 σ) fun r2 =>
if r2 = 0 then (
some ((-1), σ)) else (
gck (inb a0 4) (
if 0 ≤ (σ 5 a0.toNatClampNeg) then (
gck (inb a0 4) (
gnm (gst σ 5 a0.toNatClampNeg (-1)) fun s5 =>
gck (inb a0 4) (
some (s5 6 a0.toNatClampNeg, s5)))) else (
some ((-11), σ))))
def m_X7_item (a0 : Int32) (a1 : Int32) (a2 : Int32) (a3 : Int32) (σ : gMem) : Option (Int32 × gMem) :=
gb1 (m_X7_isSheet a0 σ) fun r2 =>
if r2 = 0 then (
some ((-1), σ)) else (
gb1 (m_X7_isLane a1 σ) fun r4 =>
if r4 = 0 then (
some ((-1), σ)) else (
gck (inb a0 4) (
if (σ 5 a0.toNatClampNeg) < 0 then (
gck (inb a0 4) (
if 0 ≤ (σ 5 a0.toNatClampNeg) then (
some ((-12), σ)) else (
some ((-11), σ)))) else (
gck (inb a0 4) (
if (σ 5 a0.toNatClampNeg) = a1 then (
gck (inb a0 4) (
gb1 (m_X7_in a2.toInt64 0 (((σ 6 a0.toNatClampNeg) - 1).toInt64) σ) fun r10 =>
if r10 = 0 then (
some ((-13), σ)) else (
if a1 = 0 then (
gck (inb ((24 * a0) + a2) 96) (
gnm (gst σ 4 ((24 * a0) + a2).toNatClampNeg a3.toInt8.toInt32) fun s16 =>
some (1, s16))) else (
if a1 = 1 then (
gck (inb ((24 * a0) + a2) 96) (
gnm (gst σ 4 ((24 * a0) + a2).toNatClampNeg a3.toInt16.toInt32) fun s14 =>
some (1, s14))) else (
gck (inb ((24 * a0) + a2) 96) (
gnm (gst σ 4 ((24 * a0) + a2).toNatClampNeg a3) fun s12 =>
some (1, s12))))))) else (
gck (inb a0 4) (
if 0 ≤ (σ 5 a0.toNatClampNeg) then (
some ((-12), σ)) else (
some ((-11), σ)))))))))
def b_X7_copy_110 (a0 : Int32) (a1 : Int32) (a4 : Int32) (rc : Int32 → gMem → Option (gMem)) (x6_11 : Int32) (s12 : gMem) : Option (gMem) :=
if a4 ≤ x6_11 then (
some s12) else (
gck (inb (((24 * a0) + a1) + x6_11) 96) (
gck (inb x6_11 24) (
gnm (gst s12 7 x6_11.toNatClampNeg (s12 4 (((24 * a0) + a1) + x6_11).toNatClampNeg)) fun s16 =>
gnm (x6_11 + 1) fun x6_17 =>
rc x6_17 s16)))
def m_X7_copy_110 (a0 : Int32) (a1 : Int32) (a4 : Int32) : Nat → Int32 → gMem → Option (gMem)
  | 0 => fun _ _ => none
  | n + 1 => b_X7_copy_110 a0 a1 a4 (m_X7_copy_110 a0 a1 a4 n)
def b_X7_copy_147 (a2 : Int32) (a3 : Int32) (a4 : Int32) (rc : Int32 → gMem → Option (gMem)) (x6_19 : Int32) (s20 : gMem) : Option (gMem) :=
if a4 ≤ x6_19 then (
some s20) else (
gck (inb x6_19 24) (
gck (inb (((24 * a2) + a3) + x6_19) 96) (
gnm (gst s20 4 (((24 * a2) + a3) + x6_19).toNatClampNeg (s20 7 x6_19.toNatClampNeg)) fun s24 =>
gnm (x6_19 + 1) fun x6_25 =>
rc x6_25 s24)))
def m_X7_copy_147 (a2 : Int32) (a3 : Int32) (a4 : Int32) : Nat → Int32 → gMem → Option (gMem)
  | 0 => fun _ _ => none
  | n + 1 => b_X7_copy_147 a2 a3 a4 (m_X7_copy_147 a2 a3 a4 n)
def m_X7_copy (a0 : Int32) (a1 : Int32) (a2 : Int32) (a3 : Int32) (a4 : Int32) (σ : gMem) : Option (Int32 × gMem) :=
gb1 (m_X7_isSheet a0 σ) fun r2 =>
if r2 = 0 then (
some ((-1), σ)) else (
gb1 (m_X7_isSheet a2 σ) fun r4 =>
if r4 = 0 then (
some ((-1), σ)) else (
gck (inb a0 4) (
if (σ 5 a0.toNatClampNeg) < 0 then (
some ((-11), σ)) else (
gck (inb a2 4) (
if 0 ≤ (σ 5 a2.toNatClampNeg) then (
gck (inb a0 4) (
gck (inb a2 4) (
if (σ 5 a0.toNatClampNeg) = (σ 5 a2.toNatClampNeg) then (
if a1 < 0 then (
some ((-13), σ)) else (
if a3 < 0 then (
some ((-13), σ)) else (
if a4 < 0 then (
some ((-13), σ)) else (
gck (inb a0 4) (
if 0 < (lg_cmp (a1.toInt64 + a4.toInt64) ((σ 6 a0.toNatClampNeg).toInt64)) then (
some ((-13), σ)) else (
gck (inb a2 4) (
if (lg_cmp (a3.toInt64 + a4.toInt64) ((σ 6 a2.toNatClampNeg).toInt64)) ≤ 0 then (
gb1 (m_X7_copy_110 a0 a1 a4 gFU 0 σ) fun s13 =>
gb1 (m_X7_copy_147 a2 a3 a4 gFU 0 s13) fun s21 =>
some (a4, s21)) else (
some ((-13), σ))))))))) else (
some ((-12), σ))))) else (
some ((-11), σ)))))))
end
section
theorem dX1_init_0 : decode cX1_init 0 = .ok (.aload_n 0, 1) := by decide +kernel
theorem dX1_init_1 : decode cX1_init 1 = .ok (.invokespecial 3, 3) := by decide +kernel
theorem dX1_init_4 : decode cX1_init 4 = .ok (.aload_n 0, 1) := by decide +kernel
theorem dX1_init_5 : decode cX1_init 5 = .ok (.bipush 12, 2) := by decide +kernel
theorem dX1_init_7 : decode cX1_init 7 = .ok (.newarray .int, 2) := by decide +kernel
theorem dX1_init_9 : decode cX1_init 9 = .ok (.putfield 9, 3) := by decide +kernel
theorem dX1_init_12 : decode cX1_init 12 = .ok (.aload_n 0, 1) := by decide +kernel
theorem dX1_init_13 : decode cX1_init 13 = .ok (.bipush 12, 2) := by decide +kernel
theorem dX1_init_15 : decode cX1_init 15 = .ok (.newarray .int, 2) := by decide +kernel
theorem dX1_init_17 : decode cX1_init 17 = .ok (.putfield 15, 3) := by decide +kernel
theorem dX1_init_20 : decode cX1_init 20 = .ok (.aload_n 0, 1) := by decide +kernel
theorem dX1_init_21 : decode cX1_init 21 = .ok (.bipush 12, 2) := by decide +kernel
theorem dX1_init_23 : decode cX1_init 23 = .ok (.newarray .int, 2) := by decide +kernel
theorem dX1_init_25 : decode cX1_init 25 = .ok (.putfield 18, 3) := by decide +kernel
theorem dX1_init_28 : decode cX1_init 28 = .ok (.aload_n 0, 1) := by decide +kernel
theorem dX1_init_29 : decode cX1_init 29 = .ok (.bipush 12, 2) := by decide +kernel
theorem dX1_init_31 : decode cX1_init 31 = .ok (.bipush 12, 2) := by decide +kernel
theorem dX1_init_33 : decode cX1_init 33 = .ok (.multianewarray 21 2, 4) := by decide +kernel
theorem dX1_init_37 : decode cX1_init 37 = .ok (.putfield 23, 3) := by decide +kernel
theorem dX1_init_40 : decode cX1_init 40 = .ok (.aload_n 0, 1) := by decide +kernel
theorem dX1_init_41 : decode cX1_init 41 = .ok (.bipush 24, 2) := by decide +kernel
theorem dX1_init_43 : decode cX1_init 43 = .ok (.newarray .int, 2) := by decide +kernel
theorem dX1_init_45 : decode cX1_init 45 = .ok (.putfield 26, 3) := by decide +kernel
theorem dX1_init_48 : decode cX1_init 48 = .ok (.aload_n 0, 1) := by decide +kernel
theorem dX1_init_49 : decode cX1_init 49 = .ok (.bipush 20, 2) := by decide +kernel
theorem dX1_init_51 : decode cX1_init 51 = .ok (.putfield 29, 3) := by decide +kernel
theorem dX1_init_54 : decode cX1_init 54 = .ok (.aload_n 0, 1) := by decide +kernel
theorem dX1_init_55 : decode cX1_init 55 = .ok (.bipush 8, 2) := by decide +kernel
theorem dX1_init_57 : decode cX1_init 57 = .ok (.newarray .int, 2) := by decide +kernel
theorem dX1_init_59 : decode cX1_init 59 = .ok (.putfield 33, 3) := by decide +kernel
theorem dX1_init_62 : decode cX1_init 62 = .ok (.aload_n 0, 1) := by decide +kernel
theorem dX1_init_63 : decode cX1_init 63 = .ok (.bipush 8, 2) := by decide +kernel
theorem dX1_init_65 : decode cX1_init 65 = .ok (.newarray .int, 2) := by decide +kernel
theorem dX1_init_67 : decode cX1_init 67 = .ok (.putfield 36, 3) := by decide +kernel
theorem dX1_init_70 : decode cX1_init 70 = .ok (.aload_n 0, 1) := by decide +kernel
theorem dX1_init_71 : decode cX1_init 71 = .ok (.bipush 8, 2) := by decide +kernel
theorem dX1_init_73 : decode cX1_init 73 = .ok (.newarray .int, 2) := by decide +kernel
theorem dX1_init_75 : decode cX1_init 75 = .ok (.putfield 39, 3) := by decide +kernel
theorem dX1_init_78 : decode cX1_init 78 = .ok (.aload_n 0, 1) := by decide +kernel
theorem dX1_init_79 : decode cX1_init 79 = .ok (.bipush 10, 2) := by decide +kernel
theorem dX1_init_81 : decode cX1_init 81 = .ok (.newarray .int, 2) := by decide +kernel
theorem dX1_init_83 : decode cX1_init 83 = .ok (.putfield 42, 3) := by decide +kernel
theorem dX1_init_86 : decode cX1_init 86 = .ok (.aload_n 0, 1) := by decide +kernel
theorem dX1_init_87 : decode cX1_init 87 = .ok (.bipush 10, 2) := by decide +kernel
theorem dX1_init_89 : decode cX1_init 89 = .ok (.newarray .int, 2) := by decide +kernel
theorem dX1_init_91 : decode cX1_init 91 = .ok (.putfield 45, 3) := by decide +kernel
theorem dX1_init_94 : decode cX1_init 94 = .ok (.aload_n 0, 1) := by decide +kernel
theorem dX1_init_95 : decode cX1_init 95 = .ok (.bipush 10, 2) := by decide +kernel
theorem dX1_init_97 : decode cX1_init 97 = .ok (.newarray .int, 2) := by decide +kernel
theorem dX1_init_99 : decode cX1_init 99 = .ok (.putfield 48, 3) := by decide +kernel
theorem dX1_init_102 : decode cX1_init 102 = .ok (.return_, 1) := by decide +kernel
theorem dX1_become_0 : decode cX1_become 0 = .ok (.aload_n 0, 1) := by decide +kernel
theorem dX1_become_1 : decode cX1_become 1 = .ok (.aload_n 1, 1) := by decide +kernel
theorem dX1_become_2 : decode cX1_become 2 = .ok (.getfield 51, 3) := by decide +kernel
theorem dX1_become_5 : decode cX1_become 5 = .ok (.putfield 51, 3) := by decide +kernel
theorem dX1_become_8 : decode cX1_become 8 = .ok (.aload_n 0, 1) := by decide +kernel
theorem dX1_become_9 : decode cX1_become 9 = .ok (.aload_n 1, 1) := by decide +kernel
theorem dX1_become_10 : decode cX1_become 10 = .ok (.getfield 54, 3) := by decide +kernel
theorem dX1_become_13 : decode cX1_become 13 = .ok (.putfield 54, 3) := by decide +kernel
theorem dX1_become_16 : decode cX1_become 16 = .ok (.aload_n 0, 1) := by decide +kernel
theorem dX1_become_17 : decode cX1_become 17 = .ok (.aload_n 1, 1) := by decide +kernel
theorem dX1_become_18 : decode cX1_become 18 = .ok (.getfield 29, 3) := by decide +kernel
theorem dX1_become_21 : decode cX1_become 21 = .ok (.putfield 29, 3) := by decide +kernel
theorem dX1_become_24 : decode cX1_become 24 = .ok (.aload_n 0, 1) := by decide +kernel
theorem dX1_become_25 : decode cX1_become 25 = .ok (.aload_n 1, 1) := by decide +kernel
theorem dX1_become_26 : decode cX1_become 26 = .ok (.getfield 57, 3) := by decide +kernel
theorem dX1_become_29 : decode cX1_become 29 = .ok (.putfield 57, 3) := by decide +kernel
theorem dX1_become_32 : decode cX1_become 32 = .ok (.aload_n 0, 1) := by decide +kernel
theorem dX1_become_33 : decode cX1_become 33 = .ok (.aload_n 1, 1) := by decide +kernel
theorem dX1_become_34 : decode cX1_become 34 = .ok (.getfield 60, 3) := by decide +kernel
theorem dX1_become_37 : decode cX1_become 37 = .ok (.putfield 60, 3) := by decide +kernel
theorem dX1_become_40 : decode cX1_become 40 = .ok (.aload_n 0, 1) := by decide +kernel
theorem dX1_become_41 : decode cX1_become 41 = .ok (.aload_n 1, 1) := by decide +kernel
theorem dX1_become_42 : decode cX1_become 42 = .ok (.getfield 63, 3) := by decide +kernel
theorem dX1_become_45 : decode cX1_become 45 = .ok (.putfield 63, 3) := by decide +kernel
theorem dX1_become_48 : decode cX1_become 48 = .ok (.aload_n 1, 1) := by decide +kernel
theorem dX1_become_49 : decode cX1_become 49 = .ok (.getfield 9, 3) := by decide +kernel
theorem dX1_become_52 : decode cX1_become 52 = .ok (.iconst 0, 1) := by decide +kernel
theorem dX1_become_53 : decode cX1_become 53 = .ok (.aload_n 0, 1) := by decide +kernel
theorem dX1_become_54 : decode cX1_become 54 = .ok (.getfield 9, 3) := by decide +kernel
theorem dX1_become_57 : decode cX1_become 57 = .ok (.iconst 0, 1) := by decide +kernel
theorem dX1_become_58 : decode cX1_become 58 = .ok (.bipush 12, 2) := by decide +kernel
theorem dX1_become_60 : decode cX1_become 60 = .ok (.invokestatic 66, 3) := by decide +kernel
theorem dX1_become_63 : decode cX1_become 63 = .ok (.aload_n 1, 1) := by decide +kernel
theorem dX1_become_64 : decode cX1_become 64 = .ok (.getfield 15, 3) := by decide +kernel
theorem dX1_become_67 : decode cX1_become 67 = .ok (.iconst 0, 1) := by decide +kernel
theorem dX1_become_68 : decode cX1_become 68 = .ok (.aload_n 0, 1) := by decide +kernel
theorem dX1_become_69 : decode cX1_become 69 = .ok (.getfield 15, 3) := by decide +kernel
theorem dX1_become_72 : decode cX1_become 72 = .ok (.iconst 0, 1) := by decide +kernel
theorem dX1_become_73 : decode cX1_become 73 = .ok (.bipush 12, 2) := by decide +kernel
theorem dX1_become_75 : decode cX1_become 75 = .ok (.invokestatic 66, 3) := by decide +kernel
theorem dX1_become_78 : decode cX1_become 78 = .ok (.aload_n 1, 1) := by decide +kernel
theorem dX1_become_79 : decode cX1_become 79 = .ok (.getfield 18, 3) := by decide +kernel
theorem dX1_become_82 : decode cX1_become 82 = .ok (.iconst 0, 1) := by decide +kernel
theorem dX1_become_83 : decode cX1_become 83 = .ok (.aload_n 0, 1) := by decide +kernel
theorem dX1_become_84 : decode cX1_become 84 = .ok (.getfield 18, 3) := by decide +kernel
theorem dX1_become_87 : decode cX1_become 87 = .ok (.iconst 0, 1) := by decide +kernel
theorem dX1_become_88 : decode cX1_become 88 = .ok (.bipush 12, 2) := by decide +kernel
theorem dX1_become_90 : decode cX1_become 90 = .ok (.invokestatic 66, 3) := by decide +kernel
theorem dX1_become_93 : decode cX1_become 93 = .ok (.aload_n 1, 1) := by decide +kernel
theorem dX1_become_94 : decode cX1_become 94 = .ok (.getfield 26, 3) := by decide +kernel
theorem dX1_become_97 : decode cX1_become 97 = .ok (.iconst 0, 1) := by decide +kernel
theorem dX1_become_98 : decode cX1_become 98 = .ok (.aload_n 0, 1) := by decide +kernel
theorem dX1_become_99 : decode cX1_become 99 = .ok (.getfield 26, 3) := by decide +kernel
theorem dX1_become_102 : decode cX1_become 102 = .ok (.iconst 0, 1) := by decide +kernel
theorem dX1_become_103 : decode cX1_become 103 = .ok (.bipush 24, 2) := by decide +kernel
theorem dX1_become_105 : decode cX1_become 105 = .ok (.invokestatic 66, 3) := by decide +kernel
theorem dX1_become_108 : decode cX1_become 108 = .ok (.aload_n 1, 1) := by decide +kernel
theorem dX1_become_109 : decode cX1_become 109 = .ok (.getfield 33, 3) := by decide +kernel
theorem dX1_become_112 : decode cX1_become 112 = .ok (.iconst 0, 1) := by decide +kernel
theorem dX1_become_113 : decode cX1_become 113 = .ok (.aload_n 0, 1) := by decide +kernel
theorem dX1_become_114 : decode cX1_become 114 = .ok (.getfield 33, 3) := by decide +kernel
theorem dX1_become_117 : decode cX1_become 117 = .ok (.iconst 0, 1) := by decide +kernel
theorem dX1_become_118 : decode cX1_become 118 = .ok (.bipush 8, 2) := by decide +kernel
theorem dX1_become_120 : decode cX1_become 120 = .ok (.invokestatic 66, 3) := by decide +kernel
theorem dX1_become_123 : decode cX1_become 123 = .ok (.aload_n 1, 1) := by decide +kernel
theorem dX1_become_124 : decode cX1_become 124 = .ok (.getfield 36, 3) := by decide +kernel
theorem dX1_become_127 : decode cX1_become 127 = .ok (.iconst 0, 1) := by decide +kernel
theorem dX1_become_128 : decode cX1_become 128 = .ok (.aload_n 0, 1) := by decide +kernel
theorem dX1_become_129 : decode cX1_become 129 = .ok (.getfield 36, 3) := by decide +kernel
theorem dX1_become_132 : decode cX1_become 132 = .ok (.iconst 0, 1) := by decide +kernel
theorem dX1_become_133 : decode cX1_become 133 = .ok (.bipush 8, 2) := by decide +kernel
theorem dX1_become_135 : decode cX1_become 135 = .ok (.invokestatic 66, 3) := by decide +kernel
theorem dX1_become_138 : decode cX1_become 138 = .ok (.aload_n 1, 1) := by decide +kernel
theorem dX1_become_139 : decode cX1_become 139 = .ok (.getfield 39, 3) := by decide +kernel
theorem dX1_become_142 : decode cX1_become 142 = .ok (.iconst 0, 1) := by decide +kernel
theorem dX1_become_143 : decode cX1_become 143 = .ok (.aload_n 0, 1) := by decide +kernel
theorem dX1_become_144 : decode cX1_become 144 = .ok (.getfield 39, 3) := by decide +kernel
theorem dX1_become_147 : decode cX1_become 147 = .ok (.iconst 0, 1) := by decide +kernel
theorem dX1_become_148 : decode cX1_become 148 = .ok (.bipush 8, 2) := by decide +kernel
theorem dX1_become_150 : decode cX1_become 150 = .ok (.invokestatic 66, 3) := by decide +kernel
theorem dX1_become_153 : decode cX1_become 153 = .ok (.aload_n 1, 1) := by decide +kernel
theorem dX1_become_154 : decode cX1_become 154 = .ok (.getfield 42, 3) := by decide +kernel
theorem dX1_become_157 : decode cX1_become 157 = .ok (.iconst 0, 1) := by decide +kernel
theorem dX1_become_158 : decode cX1_become 158 = .ok (.aload_n 0, 1) := by decide +kernel
theorem dX1_become_159 : decode cX1_become 159 = .ok (.getfield 42, 3) := by decide +kernel
theorem dX1_become_162 : decode cX1_become 162 = .ok (.iconst 0, 1) := by decide +kernel
theorem dX1_become_163 : decode cX1_become 163 = .ok (.bipush 10, 2) := by decide +kernel
theorem dX1_become_165 : decode cX1_become 165 = .ok (.invokestatic 66, 3) := by decide +kernel
theorem dX1_become_168 : decode cX1_become 168 = .ok (.aload_n 1, 1) := by decide +kernel
theorem dX1_become_169 : decode cX1_become 169 = .ok (.getfield 45, 3) := by decide +kernel
theorem dX1_become_172 : decode cX1_become 172 = .ok (.iconst 0, 1) := by decide +kernel
theorem dX1_become_173 : decode cX1_become 173 = .ok (.aload_n 0, 1) := by decide +kernel
theorem dX1_become_174 : decode cX1_become 174 = .ok (.getfield 45, 3) := by decide +kernel
theorem dX1_become_177 : decode cX1_become 177 = .ok (.iconst 0, 1) := by decide +kernel
theorem dX1_become_178 : decode cX1_become 178 = .ok (.bipush 10, 2) := by decide +kernel
theorem dX1_become_180 : decode cX1_become 180 = .ok (.invokestatic 66, 3) := by decide +kernel
theorem dX1_become_183 : decode cX1_become 183 = .ok (.aload_n 1, 1) := by decide +kernel
theorem dX1_become_184 : decode cX1_become 184 = .ok (.getfield 48, 3) := by decide +kernel
theorem dX1_become_187 : decode cX1_become 187 = .ok (.iconst 0, 1) := by decide +kernel
theorem dX1_become_188 : decode cX1_become 188 = .ok (.aload_n 0, 1) := by decide +kernel
theorem dX1_become_189 : decode cX1_become 189 = .ok (.getfield 48, 3) := by decide +kernel
theorem dX1_become_192 : decode cX1_become 192 = .ok (.iconst 0, 1) := by decide +kernel
theorem dX1_become_193 : decode cX1_become 193 = .ok (.bipush 10, 2) := by decide +kernel
theorem dX1_become_195 : decode cX1_become 195 = .ok (.invokestatic 66, 3) := by decide +kernel
theorem dX1_become_198 : decode cX1_become 198 = .ok (.iconst 0, 1) := by decide +kernel
theorem dX1_become_199 : decode cX1_become 199 = .ok (.istore_n 2, 1) := by decide +kernel
theorem dX1_become_200 : decode cX1_become 200 = .ok (.iload_n 2, 1) := by decide +kernel
theorem dX1_become_201 : decode cX1_become 201 = .ok (.bipush 12, 2) := by decide +kernel
theorem dX1_become_203 : decode cX1_become 203 = .ok (.if_icmp .ge 28, 3) := by decide +kernel
theorem dX1_become_206 : decode cX1_become 206 = .ok (.aload_n 1, 1) := by decide +kernel
theorem dX1_become_207 : decode cX1_become 207 = .ok (.getfield 23, 3) := by decide +kernel
theorem dX1_become_210 : decode cX1_become 210 = .ok (.iload_n 2, 1) := by decide +kernel
theorem dX1_become_211 : decode cX1_become 211 = .ok (.aaload, 1) := by decide +kernel
theorem dX1_become_212 : decode cX1_become 212 = .ok (.iconst 0, 1) := by decide +kernel
theorem dX1_become_213 : decode cX1_become 213 = .ok (.aload_n 0, 1) := by decide +kernel
theorem dX1_become_214 : decode cX1_become 214 = .ok (.getfield 23, 3) := by decide +kernel
theorem dX1_become_217 : decode cX1_become 217 = .ok (.iload_n 2, 1) := by decide +kernel
theorem dX1_become_218 : decode cX1_become 218 = .ok (.aaload, 1) := by decide +kernel
theorem dX1_become_219 : decode cX1_become 219 = .ok (.iconst 0, 1) := by decide +kernel
theorem dX1_become_220 : decode cX1_become 220 = .ok (.bipush 12, 2) := by decide +kernel
theorem dX1_become_222 : decode cX1_become 222 = .ok (.invokestatic 66, 3) := by decide +kernel
theorem dX1_become_225 : decode cX1_become 225 = .ok (.iinc 2 1, 3) := by decide +kernel
theorem dX1_become_228 : decode cX1_become 228 = .ok (.goto (-28), 3) := by decide +kernel
theorem dX1_become_231 : decode cX1_become 231 = .ok (.return_, 1) := by decide +kernel
theorem dX1_hasPlace_0 : decode cX1_hasPlace 0 = .ok (.iload_n 1, 1) := by decide +kernel
theorem dX1_hasPlace_1 : decode cX1_hasPlace 1 = .ok (.iconst 0, 1) := by decide +kernel
theorem dX1_hasPlace_2 : decode cX1_hasPlace 2 = .ok (.aload_n 0, 1) := by decide +kernel
theorem dX1_hasPlace_3 : decode cX1_hasPlace 3 = .ok (.getfield 51, 3) := by decide +kernel
theorem dX1_hasPlace_6 : decode cX1_hasPlace 6 = .ok (.iconst 1, 1) := by decide +kernel
theorem dX1_hasPlace_7 : decode cX1_hasPlace 7 = .ok (.isub, 1) := by decide +kernel
theorem dX1_hasPlace_8 : decode cX1_hasPlace 8 = .ok (.invokestatic 72, 3) := by decide +kernel
theorem dX1_hasPlace_11 : decode cX1_hasPlace 11 = .ok (.ireturn, 1) := by decide +kernel
theorem dX1_hasPerson_0 : decode cX1_hasPerson 0 = .ok (.iload_n 1, 1) := by decide +kernel
theorem dX1_hasPerson_1 : decode cX1_hasPerson 1 = .ok (.iconst 0, 1) := by decide +kernel
theorem dX1_hasPerson_2 : decode cX1_hasPerson 2 = .ok (.aload_n 0, 1) := by decide +kernel
theorem dX1_hasPerson_3 : decode cX1_hasPerson 3 = .ok (.getfield 57, 3) := by decide +kernel
theorem dX1_hasPerson_6 : decode cX1_hasPerson 6 = .ok (.iconst 1, 1) := by decide +kernel
theorem dX1_hasPerson_7 : decode cX1_hasPerson 7 = .ok (.isub, 1) := by decide +kernel
theorem dX1_hasPerson_8 : decode cX1_hasPerson 8 = .ok (.invokestatic 72, 3) := by decide +kernel
theorem dX1_hasPerson_11 : decode cX1_hasPerson 11 = .ok (.ireturn, 1) := by decide +kernel
theorem dX1_hasPeople_0 : decode cX1_hasPeople 0 = .ok (.iload_n 1, 1) := by decide +kernel
theorem dX1_hasPeople_1 : decode cX1_hasPeople 1 = .ok (.iconst 1, 1) := by decide +kernel
theorem dX1_hasPeople_2 : decode cX1_hasPeople 2 = .ok (.iconst 1, 1) := by decide +kernel
theorem dX1_hasPeople_3 : decode cX1_hasPeople 3 = .ok (.aload_n 0, 1) := by decide +kernel
theorem dX1_hasPeople_4 : decode cX1_hasPeople 4 = .ok (.getfield 57, 3) := by decide +kernel
theorem dX1_hasPeople_7 : decode cX1_hasPeople 7 = .ok (.ishl, 1) := by decide +kernel
theorem dX1_hasPeople_8 : decode cX1_hasPeople 8 = .ok (.iconst 1, 1) := by decide +kernel
theorem dX1_hasPeople_9 : decode cX1_hasPeople 9 = .ok (.isub, 1) := by decide +kernel
theorem dX1_hasPeople_10 : decode cX1_hasPeople 10 = .ok (.invokestatic 72, 3) := by decide +kernel
theorem dX1_hasPeople_13 : decode cX1_hasPeople 13 = .ok (.ireturn, 1) := by decide +kernel
theorem dX1_addPlace_0 : decode cX1_addPlace 0 = .ok (.aload_n 0, 1) := by decide +kernel
theorem dX1_addPlace_1 : decode cX1_addPlace 1 = .ok (.getfield 9, 3) := by decide +kernel
theorem dX1_addPlace_4 : decode cX1_addPlace 4 = .ok (.aload_n 0, 1) := by decide +kernel
theorem dX1_addPlace_5 : decode cX1_addPlace 5 = .ok (.getfield 51, 3) := by decide +kernel
theorem dX1_addPlace_8 : decode cX1_addPlace 8 = .ok (.iload_n 1, 1) := by decide +kernel
theorem dX1_addPlace_9 : decode cX1_addPlace 9 = .ok (.iastore, 1) := by decide +kernel
theorem dX1_addPlace_10 : decode cX1_addPlace 10 = .ok (.aload_n 0, 1) := by decide +kernel
theorem dX1_addPlace_11 : decode cX1_addPlace 11 = .ok (.getfield 15, 3) := by decide +kernel
theorem dX1_addPlace_14 : decode cX1_addPlace 14 = .ok (.aload_n 0, 1) := by decide +kernel
theorem dX1_addPlace_15 : decode cX1_addPlace 15 = .ok (.getfield 51, 3) := by decide +kernel
theorem dX1_addPlace_18 : decode cX1_addPlace 18 = .ok (.iload_n 2, 1) := by decide +kernel
theorem dX1_addPlace_19 : decode cX1_addPlace 19 = .ok (.iastore, 1) := by decide +kernel
theorem dX1_addPlace_20 : decode cX1_addPlace 20 = .ok (.aload_n 0, 1) := by decide +kernel
theorem dX1_addPlace_21 : decode cX1_addPlace 21 = .ok (.getfield 18, 3) := by decide +kernel
theorem dX1_addPlace_24 : decode cX1_addPlace 24 = .ok (.aload_n 0, 1) := by decide +kernel
theorem dX1_addPlace_25 : decode cX1_addPlace 25 = .ok (.getfield 51, 3) := by decide +kernel
theorem dX1_addPlace_28 : decode cX1_addPlace 28 = .ok (.iconst 0, 1) := by decide +kernel
theorem dX1_addPlace_29 : decode cX1_addPlace 29 = .ok (.iastore, 1) := by decide +kernel
theorem dX1_addPlace_30 : decode cX1_addPlace 30 = .ok (.aload_n 0, 1) := by decide +kernel
theorem dX1_addPlace_31 : decode cX1_addPlace 31 = .ok (.dup, 1) := by decide +kernel
theorem dX1_addPlace_32 : decode cX1_addPlace 32 = .ok (.getfield 51, 3) := by decide +kernel
theorem dX1_addPlace_35 : decode cX1_addPlace 35 = .ok (.dup_x1, 1) := by decide +kernel
theorem dX1_addPlace_36 : decode cX1_addPlace 36 = .ok (.iconst 1, 1) := by decide +kernel
theorem dX1_addPlace_37 : decode cX1_addPlace 37 = .ok (.iadd, 1) := by decide +kernel
theorem dX1_addPlace_38 : decode cX1_addPlace 38 = .ok (.putfield 51, 3) := by decide +kernel
theorem dX1_addPlace_41 : decode cX1_addPlace 41 = .ok (.ireturn, 1) := by decide +kernel
theorem dX1_addPerson_0 : decode cX1_addPerson 0 = .ok (.aload_n 0, 1) := by decide +kernel
theorem dX1_addPerson_1 : decode cX1_addPerson 1 = .ok (.getfield 33, 3) := by decide +kernel
theorem dX1_addPerson_4 : decode cX1_addPerson 4 = .ok (.aload_n 0, 1) := by decide +kernel
theorem dX1_addPerson_5 : decode cX1_addPerson 5 = .ok (.getfield 57, 3) := by decide +kernel
theorem dX1_addPerson_8 : decode cX1_addPerson 8 = .ok (.iload_n 1, 1) := by decide +kernel
theorem dX1_addPerson_9 : decode cX1_addPerson 9 = .ok (.iastore, 1) := by decide +kernel
theorem dX1_addPerson_10 : decode cX1_addPerson 10 = .ok (.aload_n 0, 1) := by decide +kernel
theorem dX1_addPerson_11 : decode cX1_addPerson 11 = .ok (.getfield 36, 3) := by decide +kernel
theorem dX1_addPerson_14 : decode cX1_addPerson 14 = .ok (.aload_n 0, 1) := by decide +kernel
theorem dX1_addPerson_15 : decode cX1_addPerson 15 = .ok (.getfield 57, 3) := by decide +kernel
theorem dX1_addPerson_18 : decode cX1_addPerson 18 = .ok (.iload_n 2, 1) := by decide +kernel
theorem dX1_addPerson_19 : decode cX1_addPerson 19 = .ok (.iastore, 1) := by decide +kernel
theorem dX1_addPerson_20 : decode cX1_addPerson 20 = .ok (.aload_n 0, 1) := by decide +kernel
theorem dX1_addPerson_21 : decode cX1_addPerson 21 = .ok (.getfield 39, 3) := by decide +kernel
theorem dX1_addPerson_24 : decode cX1_addPerson 24 = .ok (.aload_n 0, 1) := by decide +kernel
theorem dX1_addPerson_25 : decode cX1_addPerson 25 = .ok (.getfield 57, 3) := by decide +kernel
theorem dX1_addPerson_28 : decode cX1_addPerson 28 = .ok (.iload_n 3, 1) := by decide +kernel
theorem dX1_addPerson_29 : decode cX1_addPerson 29 = .ok (.iastore, 1) := by decide +kernel
theorem dX1_addPerson_30 : decode cX1_addPerson 30 = .ok (.aload_n 0, 1) := by decide +kernel
theorem dX1_addPerson_31 : decode cX1_addPerson 31 = .ok (.dup, 1) := by decide +kernel
theorem dX1_addPerson_32 : decode cX1_addPerson 32 = .ok (.getfield 57, 3) := by decide +kernel
theorem dX1_addPerson_35 : decode cX1_addPerson 35 = .ok (.dup_x1, 1) := by decide +kernel
theorem dX1_addPerson_36 : decode cX1_addPerson 36 = .ok (.iconst 1, 1) := by decide +kernel
theorem dX1_addPerson_37 : decode cX1_addPerson 37 = .ok (.iadd, 1) := by decide +kernel
theorem dX1_addPerson_38 : decode cX1_addPerson 38 = .ok (.putfield 57, 3) := by decide +kernel
theorem dX1_addPerson_41 : decode cX1_addPerson 41 = .ok (.ireturn, 1) := by decide +kernel
theorem dX1_addNeed_0 : decode cX1_addNeed 0 = .ok (.aload_n 0, 1) := by decide +kernel
theorem dX1_addNeed_1 : decode cX1_addNeed 1 = .ok (.getfield 42, 3) := by decide +kernel
theorem dX1_addNeed_4 : decode cX1_addNeed 4 = .ok (.aload_n 0, 1) := by decide +kernel
theorem dX1_addNeed_5 : decode cX1_addNeed 5 = .ok (.getfield 60, 3) := by decide +kernel
theorem dX1_addNeed_8 : decode cX1_addNeed 8 = .ok (.iload_n 1, 1) := by decide +kernel
theorem dX1_addNeed_9 : decode cX1_addNeed 9 = .ok (.iastore, 1) := by decide +kernel
theorem dX1_addNeed_10 : decode cX1_addNeed 10 = .ok (.aload_n 0, 1) := by decide +kernel
theorem dX1_addNeed_11 : decode cX1_addNeed 11 = .ok (.getfield 45, 3) := by decide +kernel
theorem dX1_addNeed_14 : decode cX1_addNeed 14 = .ok (.aload_n 0, 1) := by decide +kernel
theorem dX1_addNeed_15 : decode cX1_addNeed 15 = .ok (.getfield 60, 3) := by decide +kernel
theorem dX1_addNeed_18 : decode cX1_addNeed 18 = .ok (.iload_n 2, 1) := by decide +kernel
theorem dX1_addNeed_19 : decode cX1_addNeed 19 = .ok (.iastore, 1) := by decide +kernel
theorem dX1_addNeed_20 : decode cX1_addNeed 20 = .ok (.aload_n 0, 1) := by decide +kernel
theorem dX1_addNeed_21 : decode cX1_addNeed 21 = .ok (.getfield 48, 3) := by decide +kernel
theorem dX1_addNeed_24 : decode cX1_addNeed 24 = .ok (.aload_n 0, 1) := by decide +kernel
theorem dX1_addNeed_25 : decode cX1_addNeed 25 = .ok (.getfield 60, 3) := by decide +kernel
theorem dX1_addNeed_28 : decode cX1_addNeed 28 = .ok (.iload_n 3, 1) := by decide +kernel
theorem dX1_addNeed_29 : decode cX1_addNeed 29 = .ok (.iastore, 1) := by decide +kernel
theorem dX1_addNeed_30 : decode cX1_addNeed 30 = .ok (.aload_n 0, 1) := by decide +kernel
theorem dX1_addNeed_31 : decode cX1_addNeed 31 = .ok (.dup, 1) := by decide +kernel
theorem dX1_addNeed_32 : decode cX1_addNeed 32 = .ok (.getfield 60, 3) := by decide +kernel
theorem dX1_addNeed_35 : decode cX1_addNeed 35 = .ok (.dup_x1, 1) := by decide +kernel
theorem dX1_addNeed_36 : decode cX1_addNeed 36 = .ok (.iconst 1, 1) := by decide +kernel
theorem dX1_addNeed_37 : decode cX1_addNeed 37 = .ok (.iadd, 1) := by decide +kernel
theorem dX1_addNeed_38 : decode cX1_addNeed 38 = .ok (.putfield 60, 3) := by decide +kernel
theorem dX1_addNeed_41 : decode cX1_addNeed 41 = .ok (.ireturn, 1) := by decide +kernel
theorem dX1_join_0 : decode cX1_join 0 = .ok (.aload_n 0, 1) := by decide +kernel
theorem dX1_join_1 : decode cX1_join 1 = .ok (.getfield 23, 3) := by decide +kernel
theorem dX1_join_4 : decode cX1_join 4 = .ok (.iload_n 1, 1) := by decide +kernel
theorem dX1_join_5 : decode cX1_join 5 = .ok (.aaload, 1) := by decide +kernel
theorem dX1_join_6 : decode cX1_join 6 = .ok (.iload_n 2, 1) := by decide +kernel
theorem dX1_join_7 : decode cX1_join 7 = .ok (.iload_n 3, 1) := by decide +kernel
theorem dX1_join_8 : decode cX1_join 8 = .ok (.iastore, 1) := by decide +kernel
theorem dX1_join_9 : decode cX1_join 9 = .ok (.aload_n 0, 1) := by decide +kernel
theorem dX1_join_10 : decode cX1_join 10 = .ok (.getfield 23, 3) := by decide +kernel
theorem dX1_join_13 : decode cX1_join 13 = .ok (.iload_n 2, 1) := by decide +kernel
theorem dX1_join_14 : decode cX1_join 14 = .ok (.aaload, 1) := by decide +kernel
theorem dX1_join_15 : decode cX1_join 15 = .ok (.iload_n 1, 1) := by decide +kernel
theorem dX1_join_16 : decode cX1_join 16 = .ok (.iload_n 3, 1) := by decide +kernel
theorem dX1_join_17 : decode cX1_join 17 = .ok (.iastore, 1) := by decide +kernel
theorem dX1_join_18 : decode cX1_join 18 = .ok (.return_, 1) := by decide +kernel
theorem dX1_countPaths_0 : decode cX1_countPaths 0 = .ok (.iconst 0, 1) := by decide +kernel
theorem dX1_countPaths_1 : decode cX1_countPaths 1 = .ok (.istore_n 1, 1) := by decide +kernel
theorem dX1_countPaths_2 : decode cX1_countPaths 2 = .ok (.iconst 0, 1) := by decide +kernel
theorem dX1_countPaths_3 : decode cX1_countPaths 3 = .ok (.istore_n 2, 1) := by decide +kernel
theorem dX1_countPaths_4 : decode cX1_countPaths 4 = .ok (.iload_n 2, 1) := by decide +kernel
theorem dX1_countPaths_5 : decode cX1_countPaths 5 = .ok (.aload_n 0, 1) := by decide +kernel
theorem dX1_countPaths_6 : decode cX1_countPaths 6 = .ok (.getfield 51, 3) := by decide +kernel
theorem dX1_countPaths_9 : decode cX1_countPaths 9 = .ok (.if_icmp .ge 36, 3) := by decide +kernel
theorem dX1_countPaths_12 : decode cX1_countPaths 12 = .ok (.iconst 0, 1) := by decide +kernel
theorem dX1_countPaths_13 : decode cX1_countPaths 13 = .ok (.istore_n 3, 1) := by decide +kernel
theorem dX1_countPaths_14 : decode cX1_countPaths 14 = .ok (.iload_n 3, 1) := by decide +kernel
theorem dX1_countPaths_15 : decode cX1_countPaths 15 = .ok (.iload_n 2, 1) := by decide +kernel
theorem dX1_countPaths_16 : decode cX1_countPaths 16 = .ok (.if_icmp .ge 23, 3) := by decide +kernel
theorem dX1_countPaths_19 : decode cX1_countPaths 19 = .ok (.aload_n 0, 1) := by decide +kernel
theorem dX1_countPaths_20 : decode cX1_countPaths 20 = .ok (.getfield 23, 3) := by decide +kernel
theorem dX1_countPaths_23 : decode cX1_countPaths 23 = .ok (.iload_n 2, 1) := by decide +kernel
theorem dX1_countPaths_24 : decode cX1_countPaths 24 = .ok (.aaload, 1) := by decide +kernel
theorem dX1_countPaths_25 : decode cX1_countPaths 25 = .ok (.iload_n 3, 1) := by decide +kernel
theorem dX1_countPaths_26 : decode cX1_countPaths 26 = .ok (.iaload, 1) := by decide +kernel
theorem dX1_countPaths_27 : decode cX1_countPaths 27 = .ok (.ifCond .le 6, 3) := by decide +kernel
theorem dX1_countPaths_30 : decode cX1_countPaths 30 = .ok (.iinc 1 1, 3) := by decide +kernel
theorem dX1_countPaths_33 : decode cX1_countPaths 33 = .ok (.iinc 3 1, 3) := by decide +kernel
theorem dX1_countPaths_36 : decode cX1_countPaths 36 = .ok (.goto (-22), 3) := by decide +kernel
theorem dX1_countPaths_39 : decode cX1_countPaths 39 = .ok (.iinc 2 1, 3) := by decide +kernel
theorem dX1_countPaths_42 : decode cX1_countPaths 42 = .ok (.goto (-38), 3) := by decide +kernel
theorem dX1_countPaths_45 : decode cX1_countPaths 45 = .ok (.iload_n 1, 1) := by decide +kernel
theorem dX1_countPaths_46 : decode cX1_countPaths 46 = .ok (.ireturn, 1) := by decide +kernel
theorem dX1_postsBeside_0 : decode cX1_postsBeside 0 = .ok (.iconst 0, 1) := by decide +kernel
theorem dX1_postsBeside_1 : decode cX1_postsBeside 1 = .ok (.istore_n 2, 1) := by decide +kernel
theorem dX1_postsBeside_2 : decode cX1_postsBeside 2 = .ok (.iconst 0, 1) := by decide +kernel
theorem dX1_postsBeside_3 : decode cX1_postsBeside 3 = .ok (.istore_n 3, 1) := by decide +kernel
theorem dX1_postsBeside_4 : decode cX1_postsBeside 4 = .ok (.iload_n 3, 1) := by decide +kernel
theorem dX1_postsBeside_5 : decode cX1_postsBeside 5 = .ok (.aload_n 0, 1) := by decide +kernel
theorem dX1_postsBeside_6 : decode cX1_postsBeside 6 = .ok (.getfield 51, 3) := by decide +kernel
theorem dX1_postsBeside_9 : decode cX1_postsBeside 9 = .ok (.if_icmp .ge 26, 3) := by decide +kernel
theorem dX1_postsBeside_12 : decode cX1_postsBeside 12 = .ok (.iload_n 3, 1) := by decide +kernel
theorem dX1_postsBeside_13 : decode cX1_postsBeside 13 = .ok (.iload_n 1, 1) := by decide +kernel
theorem dX1_postsBeside_14 : decode cX1_postsBeside 14 = .ok (.if_icmp .eq 15, 3) := by decide +kernel
theorem dX1_postsBeside_17 : decode cX1_postsBeside 17 = .ok (.aload_n 0, 1) := by decide +kernel
theorem dX1_postsBeside_18 : decode cX1_postsBeside 18 = .ok (.getfield 15, 3) := by decide +kernel
theorem dX1_postsBeside_21 : decode cX1_postsBeside 21 = .ok (.iload_n 3, 1) := by decide +kernel
theorem dX1_postsBeside_22 : decode cX1_postsBeside 22 = .ok (.iaload, 1) := by decide +kernel
theorem dX1_postsBeside_23 : decode cX1_postsBeside 23 = .ok (.ifCond .le 6, 3) := by decide +kernel
theorem dX1_postsBeside_26 : decode cX1_postsBeside 26 = .ok (.iinc 2 1, 3) := by decide +kernel
theorem dX1_postsBeside_29 : decode cX1_postsBeside 29 = .ok (.iinc 3 1, 3) := by decide +kernel
theorem dX1_postsBeside_32 : decode cX1_postsBeside 32 = .ok (.goto (-28), 3) := by decide +kernel
theorem dX1_postsBeside_35 : decode cX1_postsBeside 35 = .ok (.iload_n 2, 1) := by decide +kernel
theorem dX1_postsBeside_36 : decode cX1_postsBeside 36 = .ok (.ireturn, 1) := by decide +kernel
theorem dX1_settle_0 : decode cX1_settle 0 = .ok (.aload_n 0, 1) := by decide +kernel
theorem dX1_settle_1 : decode cX1_settle 1 = .ok (.iconst 0, 1) := by decide +kernel
theorem dX1_settle_2 : decode cX1_settle 2 = .ok (.putfield 51, 3) := by decide +kernel
theorem dX1_settle_5 : decode cX1_settle 5 = .ok (.aload_n 0, 1) := by decide +kernel
theorem dX1_settle_6 : decode cX1_settle 6 = .ok (.iconst 0, 1) := by decide +kernel
theorem dX1_settle_7 : decode cX1_settle 7 = .ok (.putfield 57, 3) := by decide +kernel
theorem dX1_settle_10 : decode cX1_settle 10 = .ok (.aload_n 0, 1) := by decide +kernel
theorem dX1_settle_11 : decode cX1_settle 11 = .ok (.iconst 0, 1) := by decide +kernel
theorem dX1_settle_12 : decode cX1_settle 12 = .ok (.putfield 60, 3) := by decide +kernel
theorem dX1_settle_15 : decode cX1_settle 15 = .ok (.aload_n 0, 1) := by decide +kernel
theorem dX1_settle_16 : decode cX1_settle 16 = .ok (.iconst 0, 1) := by decide +kernel
theorem dX1_settle_17 : decode cX1_settle 17 = .ok (.putfield 63, 3) := by decide +kernel
theorem dX1_settle_20 : decode cX1_settle 20 = .ok (.iconst 0, 1) := by decide +kernel
theorem dX1_settle_21 : decode cX1_settle 21 = .ok (.istore_n 2, 1) := by decide +kernel
theorem dX1_settle_22 : decode cX1_settle 22 = .ok (.iload_n 2, 1) := by decide +kernel
theorem dX1_settle_23 : decode cX1_settle 23 = .ok (.bipush 12, 2) := by decide +kernel
theorem dX1_settle_25 : decode cX1_settle 25 = .ok (.if_icmp .ge 32, 3) := by decide +kernel
theorem dX1_settle_28 : decode cX1_settle 28 = .ok (.iconst 0, 1) := by decide +kernel
theorem dX1_settle_29 : decode cX1_settle 29 = .ok (.istore_n 3, 1) := by decide +kernel
theorem dX1_settle_30 : decode cX1_settle 30 = .ok (.iload_n 3, 1) := by decide +kernel
theorem dX1_settle_31 : decode cX1_settle 31 = .ok (.bipush 12, 2) := by decide +kernel
theorem dX1_settle_33 : decode cX1_settle 33 = .ok (.if_icmp .ge 18, 3) := by decide +kernel
theorem dX1_settle_36 : decode cX1_settle 36 = .ok (.aload_n 0, 1) := by decide +kernel
theorem dX1_settle_37 : decode cX1_settle 37 = .ok (.getfield 23, 3) := by decide +kernel
theorem dX1_settle_40 : decode cX1_settle 40 = .ok (.iload_n 2, 1) := by decide +kernel
theorem dX1_settle_41 : decode cX1_settle 41 = .ok (.aaload, 1) := by decide +kernel
theorem dX1_settle_42 : decode cX1_settle 42 = .ok (.iload_n 3, 1) := by decide +kernel
theorem dX1_settle_43 : decode cX1_settle 43 = .ok (.iconst 0, 1) := by decide +kernel
theorem dX1_settle_44 : decode cX1_settle 44 = .ok (.iastore, 1) := by decide +kernel
theorem dX1_settle_45 : decode cX1_settle 45 = .ok (.iinc 3 1, 3) := by decide +kernel
theorem dX1_settle_48 : decode cX1_settle 48 = .ok (.goto (-18), 3) := by decide +kernel
theorem dX1_settle_51 : decode cX1_settle 51 = .ok (.iinc 2 1, 3) := by decide +kernel
theorem dX1_settle_54 : decode cX1_settle 54 = .ok (.goto (-32), 3) := by decide +kernel
theorem dX1_settle_57 : decode cX1_settle 57 = .ok (.iconst 0, 1) := by decide +kernel
theorem dX1_settle_58 : decode cX1_settle 58 = .ok (.istore_n 2, 1) := by decide +kernel
theorem dX1_settle_59 : decode cX1_settle 59 = .ok (.iload_n 2, 1) := by decide +kernel
theorem dX1_settle_60 : decode cX1_settle 60 = .ok (.aload_n 1, 1) := by decide +kernel
theorem dX1_settle_61 : decode cX1_settle 61 = .ok (.getfield 76, 3) := by decide +kernel
theorem dX1_settle_64 : decode cX1_settle 64 = .ok (.if_icmp .ge 26, 3) := by decide +kernel
theorem dX1_settle_67 : decode cX1_settle 67 = .ok (.aload_n 0, 1) := by decide +kernel
theorem dX1_settle_68 : decode cX1_settle 68 = .ok (.aload_n 1, 1) := by decide +kernel
theorem dX1_settle_69 : decode cX1_settle 69 = .ok (.getfield 81, 3) := by decide +kernel
theorem dX1_settle_72 : decode cX1_settle 72 = .ok (.iload_n 2, 1) := by decide +kernel
theorem dX1_settle_73 : decode cX1_settle 73 = .ok (.iaload, 1) := by decide +kernel
theorem dX1_settle_74 : decode cX1_settle 74 = .ok (.aload_n 1, 1) := by decide +kernel
theorem dX1_settle_75 : decode cX1_settle 75 = .ok (.getfield 84, 3) := by decide +kernel
theorem dX1_settle_78 : decode cX1_settle 78 = .ok (.iload_n 2, 1) := by decide +kernel
theorem dX1_settle_79 : decode cX1_settle 79 = .ok (.iaload, 1) := by decide +kernel
theorem dX1_settle_80 : decode cX1_settle 80 = .ok (.invokevirtual 87, 3) := by decide +kernel
theorem dX1_settle_83 : decode cX1_settle 83 = .ok (.pop, 1) := by decide +kernel
theorem dX1_settle_84 : decode cX1_settle 84 = .ok (.iinc 2 1, 3) := by decide +kernel
theorem dX1_settle_87 : decode cX1_settle 87 = .ok (.goto (-28), 3) := by decide +kernel
theorem dX1_settle_90 : decode cX1_settle 90 = .ok (.return_, 1) := by decide +kernel
theorem dX1_joinAll_0 : decode cX1_joinAll 0 = .ok (.iconst 0, 1) := by decide +kernel
theorem dX1_joinAll_1 : decode cX1_joinAll 1 = .ok (.istore_n 2, 1) := by decide +kernel
theorem dX1_joinAll_2 : decode cX1_joinAll 2 = .ok (.iload_n 2, 1) := by decide +kernel
theorem dX1_joinAll_3 : decode cX1_joinAll 3 = .ok (.aload_n 1, 1) := by decide +kernel
theorem dX1_joinAll_4 : decode cX1_joinAll 4 = .ok (.getfield 76, 3) := by decide +kernel
theorem dX1_joinAll_7 : decode cX1_joinAll 7 = .ok (.if_icmp .ge 31, 3) := by decide +kernel
theorem dX1_joinAll_10 : decode cX1_joinAll 10 = .ok (.aload_n 0, 1) := by decide +kernel
theorem dX1_joinAll_11 : decode cX1_joinAll 11 = .ok (.aload_n 1, 1) := by decide +kernel
theorem dX1_joinAll_12 : decode cX1_joinAll 12 = .ok (.getfield 81, 3) := by decide +kernel
theorem dX1_joinAll_15 : decode cX1_joinAll 15 = .ok (.iload_n 2, 1) := by decide +kernel
theorem dX1_joinAll_16 : decode cX1_joinAll 16 = .ok (.iaload, 1) := by decide +kernel
theorem dX1_joinAll_17 : decode cX1_joinAll 17 = .ok (.aload_n 1, 1) := by decide +kernel
theorem dX1_joinAll_18 : decode cX1_joinAll 18 = .ok (.getfield 91, 3) := by decide +kernel
theorem dX1_joinAll_21 : decode cX1_joinAll 21 = .ok (.iload_n 2, 1) := by decide +kernel
theorem dX1_joinAll_22 : decode cX1_joinAll 22 = .ok (.iaload, 1) := by decide +kernel
theorem dX1_joinAll_23 : decode cX1_joinAll 23 = .ok (.aload_n 1, 1) := by decide +kernel
theorem dX1_joinAll_24 : decode cX1_joinAll 24 = .ok (.getfield 84, 3) := by decide +kernel
theorem dX1_joinAll_27 : decode cX1_joinAll 27 = .ok (.iload_n 2, 1) := by decide +kernel
theorem dX1_joinAll_28 : decode cX1_joinAll 28 = .ok (.iaload, 1) := by decide +kernel
theorem dX1_joinAll_29 : decode cX1_joinAll 29 = .ok (.invokevirtual 94, 3) := by decide +kernel
theorem dX1_joinAll_32 : decode cX1_joinAll 32 = .ok (.iinc 2 1, 3) := by decide +kernel
theorem dX1_joinAll_35 : decode cX1_joinAll 35 = .ok (.goto (-33), 3) := by decide +kernel
theorem dX1_joinAll_38 : decode cX1_joinAll 38 = .ok (.return_, 1) := by decide +kernel
theorem dX1_age_0 : decode cX1_age 0 = .ok (.iconst 0, 1) := by decide +kernel
theorem dX1_age_1 : decode cX1_age 1 = .ok (.istore_n 2, 1) := by decide +kernel
theorem dX1_age_2 : decode cX1_age 2 = .ok (.iload_n 2, 1) := by decide +kernel
theorem dX1_age_3 : decode cX1_age 3 = .ok (.aload_n 0, 1) := by decide +kernel
theorem dX1_age_4 : decode cX1_age 4 = .ok (.getfield 51, 3) := by decide +kernel
theorem dX1_age_7 : decode cX1_age 7 = .ok (.if_icmp .ge 21, 3) := by decide +kernel
theorem dX1_age_10 : decode cX1_age 10 = .ok (.aload_n 0, 1) := by decide +kernel
theorem dX1_age_11 : decode cX1_age 11 = .ok (.getfield 9, 3) := by decide +kernel
theorem dX1_age_14 : decode cX1_age 14 = .ok (.iload_n 2, 1) := by decide +kernel
theorem dX1_age_15 : decode cX1_age 15 = .ok (.aload_n 0, 1) := by decide +kernel
theorem dX1_age_16 : decode cX1_age 16 = .ok (.iload_n 2, 1) := by decide +kernel
theorem dX1_age_17 : decode cX1_age 17 = .ok (.iload_n 1, 1) := by decide +kernel
theorem dX1_age_18 : decode cX1_age 18 = .ok (.invokevirtual 98, 3) := by decide +kernel
theorem dX1_age_21 : decode cX1_age 21 = .ok (.iastore, 1) := by decide +kernel
theorem dX1_age_22 : decode cX1_age 22 = .ok (.iinc 2 1, 3) := by decide +kernel
theorem dX1_age_25 : decode cX1_age 25 = .ok (.goto (-23), 3) := by decide +kernel
theorem dX1_age_28 : decode cX1_age 28 = .ok (.aload_n 0, 1) := by decide +kernel
theorem dX1_age_29 : decode cX1_age 29 = .ok (.dup, 1) := by decide +kernel
theorem dX1_age_30 : decode cX1_age 30 = .ok (.getfield 63, 3) := by decide +kernel
theorem dX1_age_33 : decode cX1_age 33 = .ok (.iload_n 1, 1) := by decide +kernel
theorem dX1_age_34 : decode cX1_age 34 = .ok (.iadd, 1) := by decide +kernel
theorem dX1_age_35 : decode cX1_age 35 = .ok (.putfield 63, 3) := by decide +kernel
theorem dX1_age_38 : decode cX1_age 38 = .ok (.return_, 1) := by decide +kernel
theorem dX1_depthIn_0 : decode cX1_depthIn 0 = .ok (.bipush 60, 2) := by decide +kernel
theorem dX1_depthIn_2 : decode cX1_depthIn 2 = .ok (.bipush (-20), 2) := by decide +kernel
theorem dX1_depthIn_4 : decode cX1_depthIn 4 = .ok (.aload_n 0, 1) := by decide +kernel
theorem dX1_depthIn_5 : decode cX1_depthIn 5 = .ok (.getfield 9, 3) := by decide +kernel
theorem dX1_depthIn_8 : decode cX1_depthIn 8 = .ok (.iload_n 1, 1) := by decide +kernel
theorem dX1_depthIn_9 : decode cX1_depthIn 9 = .ok (.iaload, 1) := by decide +kernel
theorem dX1_depthIn_10 : decode cX1_depthIn 10 = .ok (.iload_n 2, 1) := by decide +kernel
theorem dX1_depthIn_11 : decode cX1_depthIn 11 = .ok (.aload_n 0, 1) := by decide +kernel
theorem dX1_depthIn_12 : decode cX1_depthIn 12 = .ok (.getfield 18, 3) := by decide +kernel
theorem dX1_depthIn_15 : decode cX1_depthIn 15 = .ok (.iload_n 1, 1) := by decide +kernel
theorem dX1_depthIn_16 : decode cX1_depthIn 16 = .ok (.iaload, 1) := by decide +kernel
theorem dX1_depthIn_17 : decode cX1_depthIn 17 = .ok (.imul, 1) := by decide +kernel
theorem dX1_depthIn_18 : decode cX1_depthIn 18 = .ok (.isub, 1) := by decide +kernel
theorem dX1_depthIn_19 : decode cX1_depthIn 19 = .ok (.invokestatic 101, 3) := by decide +kernel
theorem dX1_depthIn_22 : decode cX1_depthIn 22 = .ok (.invokestatic 106, 3) := by decide +kernel
theorem dX1_depthIn_25 : decode cX1_depthIn 25 = .ok (.ireturn, 1) := by decide +kernel
theorem dX1_waterAt_0 : decode cX1_waterAt 0 = .ok (.aload_n 0, 1) := by decide +kernel
theorem dX1_waterAt_1 : decode cX1_waterAt 1 = .ok (.aload_n 0, 1) := by decide +kernel
theorem dX1_waterAt_2 : decode cX1_waterAt 2 = .ok (.getfield 9, 3) := by decide +kernel
theorem dX1_waterAt_5 : decode cX1_waterAt 5 = .ok (.iload_n 1, 1) := by decide +kernel
theorem dX1_waterAt_6 : decode cX1_waterAt 6 = .ok (.iaload, 1) := by decide +kernel
theorem dX1_waterAt_7 : decode cX1_waterAt 7 = .ok (.iload_n 2, 1) := by decide +kernel
theorem dX1_waterAt_8 : decode cX1_waterAt 8 = .ok (.aload_n 0, 1) := by decide +kernel
theorem dX1_waterAt_9 : decode cX1_waterAt 9 = .ok (.getfield 54, 3) := by decide +kernel
theorem dX1_waterAt_12 : decode cX1_waterAt 12 = .ok (.invokevirtual 109, 3) := by decide +kernel
theorem dX1_waterAt_15 : decode cX1_waterAt 15 = .ok (.ireturn, 1) := by decide +kernel
theorem dX1_waterOver_0 : decode cX1_waterOver 0 = .ok (.iconst 0, 1) := by decide +kernel
theorem dX1_waterOver_1 : decode cX1_waterOver 1 = .ok (.iload_n 1, 1) := by decide +kernel
theorem dX1_waterOver_2 : decode cX1_waterOver 2 = .ok (.aload_n 0, 1) := by decide +kernel
theorem dX1_waterOver_3 : decode cX1_waterOver 3 = .ok (.getfield 26, 3) := by decide +kernel
theorem dX1_waterOver_6 : decode cX1_waterOver 6 = .ok (.iload_n 2, 1) := by decide +kernel
theorem dX1_waterOver_7 : decode cX1_waterOver 7 = .ok (.iaload, 1) := by decide +kernel
theorem dX1_waterOver_8 : decode cX1_waterOver 8 = .ok (.iadd, 1) := by decide +kernel
theorem dX1_waterOver_9 : decode cX1_waterOver 9 = .ok (.iload_n 3, 1) := by decide +kernel
theorem dX1_waterOver_10 : decode cX1_waterOver 10 = .ok (.iadd, 1) := by decide +kernel
theorem dX1_waterOver_11 : decode cX1_waterOver 11 = .ok (.invokestatic 101, 3) := by decide +kernel
theorem dX1_waterOver_14 : decode cX1_waterOver 14 = .ok (.ireturn, 1) := by decide +kernel
theorem dX1_lengthOf_0 : decode cX1_lengthOf 0 = .ok (.aload_n 0, 1) := by decide +kernel
theorem dX1_lengthOf_1 : decode cX1_lengthOf 1 = .ok (.aload_n 0, 1) := by decide +kernel
theorem dX1_lengthOf_2 : decode cX1_lengthOf 2 = .ok (.getfield 33, 3) := by decide +kernel
theorem dX1_lengthOf_5 : decode cX1_lengthOf 5 = .ok (.iload_n 1, 1) := by decide +kernel
theorem dX1_lengthOf_6 : decode cX1_lengthOf 6 = .ok (.iaload, 1) := by decide +kernel
theorem dX1_lengthOf_7 : decode cX1_lengthOf 7 = .ok (.aload_n 0, 1) := by decide +kernel
theorem dX1_lengthOf_8 : decode cX1_lengthOf 8 = .ok (.getfield 36, 3) := by decide +kernel
theorem dX1_lengthOf_11 : decode cX1_lengthOf 11 = .ok (.iload_n 1, 1) := by decide +kernel
theorem dX1_lengthOf_12 : decode cX1_lengthOf 12 = .ok (.iaload, 1) := by decide +kernel
theorem dX1_lengthOf_13 : decode cX1_lengthOf 13 = .ok (.aload_n 0, 1) := by decide +kernel
theorem dX1_lengthOf_14 : decode cX1_lengthOf 14 = .ok (.getfield 63, 3) := by decide +kernel
theorem dX1_lengthOf_17 : decode cX1_lengthOf 17 = .ok (.invokevirtual 113, 3) := by decide +kernel
theorem dX1_lengthOf_20 : decode cX1_lengthOf 20 = .ok (.ireturn, 1) := by decide +kernel
theorem dX1_lengthByKind_0 : decode cX1_lengthByKind 0 = .ok (.iload_n 1, 1) := by decide +kernel
theorem dX1_lengthByKind_1 : decode cX1_lengthByKind 1 = .ok (.iconst 2, 1) := by decide +kernel
theorem dX1_lengthByKind_2 : decode cX1_lengthByKind 2 = .ok (.if_icmp .ne 11, 3) := by decide +kernel
theorem dX1_lengthByKind_5 : decode cX1_lengthByKind 5 = .ok (.iconst 0, 1) := by decide +kernel
theorem dX1_lengthByKind_6 : decode cX1_lengthByKind 6 = .ok (.iload_n 2, 1) := by decide +kernel
theorem dX1_lengthByKind_7 : decode cX1_lengthByKind 7 = .ok (.iconst 2, 1) := by decide +kernel
theorem dX1_lengthByKind_8 : decode cX1_lengthByKind 8 = .ok (.isub, 1) := by decide +kernel
theorem dX1_lengthByKind_9 : decode cX1_lengthByKind 9 = .ok (.invokestatic 101, 3) := by decide +kernel
theorem dX1_lengthByKind_12 : decode cX1_lengthByKind 12 = .ok (.ireturn, 1) := by decide +kernel
theorem dX1_lengthByKind_13 : decode cX1_lengthByKind 13 = .ok (.iload_n 1, 1) := by decide +kernel
theorem dX1_lengthByKind_14 : decode cX1_lengthByKind 14 = .ok (.iconst 3, 1) := by decide +kernel
theorem dX1_lengthByKind_15 : decode cX1_lengthByKind 15 = .ok (.if_icmp .ne 9, 3) := by decide +kernel
theorem dX1_lengthByKind_18 : decode cX1_lengthByKind 18 = .ok (.iload_n 2, 1) := by decide +kernel
theorem dX1_lengthByKind_19 : decode cX1_lengthByKind 19 = .ok (.iload_n 3, 1) := by decide +kernel
theorem dX1_lengthByKind_20 : decode cX1_lengthByKind 20 = .ok (.iadd, 1) := by decide +kernel
theorem dX1_lengthByKind_21 : decode cX1_lengthByKind 21 = .ok (.goto 4, 3) := by decide +kernel
theorem dX1_lengthByKind_24 : decode cX1_lengthByKind 24 = .ok (.iload_n 2, 1) := by decide +kernel
theorem dX1_lengthByKind_25 : decode cX1_lengthByKind 25 = .ok (.ireturn, 1) := by decide +kernel
theorem dX1_fits_0 : decode cX1_fits 0 = .ok (.iload_n 2, 1) := by decide +kernel
theorem dX1_fits_1 : decode cX1_fits 1 = .ok (.iload_n 1, 1) := by decide +kernel
theorem dX1_fits_2 : decode cX1_fits 2 = .ok (.if_icmp .gt 17, 3) := by decide +kernel
theorem dX1_fits_5 : decode cX1_fits 5 = .ok (.iload_n 1, 1) := by decide +kernel
theorem dX1_fits_6 : decode cX1_fits 6 = .ok (.iload_n 2, 1) := by decide +kernel
theorem dX1_fits_7 : decode cX1_fits 7 = .ok (.isub, 1) := by decide +kernel
theorem dX1_fits_8 : decode cX1_fits 8 = .ok (.aload_n 0, 1) := by decide +kernel
theorem dX1_fits_9 : decode cX1_fits 9 = .ok (.getfield 29, 3) := by decide +kernel
theorem dX1_fits_12 : decode cX1_fits 12 = .ok (.if_icmp .gt 7, 3) := by decide +kernel
theorem dX1_fits_15 : decode cX1_fits 15 = .ok (.iconst 1, 1) := by decide +kernel
theorem dX1_fits_16 : decode cX1_fits 16 = .ok (.goto 4, 3) := by decide +kernel
theorem dX1_fits_19 : decode cX1_fits 19 = .ok (.iconst 0, 1) := by decide +kernel
theorem dX1_fits_20 : decode cX1_fits 20 = .ok (.ireturn, 1) := by decide +kernel
theorem dX1_bears_0 : decode cX1_bears 0 = .ok (.iload_n 1, 1) := by decide +kernel
theorem dX1_bears_1 : decode cX1_bears 1 = .ok (.iconst 1, 1) := by decide +kernel
theorem dX1_bears_2 : decode cX1_bears 2 = .ok (.if_icmp .ne 17, 3) := by decide +kernel
theorem dX1_bears_5 : decode cX1_bears 5 = .ok (.aload_n 0, 1) := by decide +kernel
theorem dX1_bears_6 : decode cX1_bears 6 = .ok (.iload_n 2, 1) := by decide +kernel
theorem dX1_bears_7 : decode cX1_bears 7 = .ok (.iconst 2, 1) := by decide +kernel
theorem dX1_bears_8 : decode cX1_bears 8 = .ok (.idiv, 1) := by decide +kernel
theorem dX1_bears_9 : decode cX1_bears 9 = .ok (.iload 4, 2) := by decide +kernel
theorem dX1_bears_11 : decode cX1_bears 11 = .ok (.invokevirtual 116, 3) := by decide +kernel
theorem dX1_bears_14 : decode cX1_bears 14 = .ok (.ifCond .eq 5, 3) := by decide +kernel
theorem dX1_bears_17 : decode cX1_bears 17 = .ok (.iconst 1, 1) := by decide +kernel
theorem dX1_bears_18 : decode cX1_bears 18 = .ok (.ireturn, 1) := by decide +kernel
theorem dX1_bears_19 : decode cX1_bears 19 = .ok (.aload_n 0, 1) := by decide +kernel
theorem dX1_bears_20 : decode cX1_bears 20 = .ok (.aload_n 0, 1) := by decide +kernel
theorem dX1_bears_21 : decode cX1_bears 21 = .ok (.iload_n 1, 1) := by decide +kernel
theorem dX1_bears_22 : decode cX1_bears 22 = .ok (.iload_n 2, 1) := by decide +kernel
theorem dX1_bears_23 : decode cX1_bears 23 = .ok (.iload_n 3, 1) := by decide +kernel
theorem dX1_bears_24 : decode cX1_bears 24 = .ok (.invokevirtual 113, 3) := by decide +kernel
theorem dX1_bears_27 : decode cX1_bears 27 = .ok (.iload 4, 2) := by decide +kernel
theorem dX1_bears_29 : decode cX1_bears 29 = .ok (.invokevirtual 116, 3) := by decide +kernel
theorem dX1_bears_32 : decode cX1_bears 32 = .ok (.ireturn, 1) := by decide +kernel
theorem dX1_standsAt_0 : decode cX1_standsAt 0 = .ok (.aload_n 0, 1) := by decide +kernel
theorem dX1_standsAt_1 : decode cX1_standsAt 1 = .ok (.aload_n 0, 1) := by decide +kernel
theorem dX1_standsAt_2 : decode cX1_standsAt 2 = .ok (.getfield 33, 3) := by decide +kernel
theorem dX1_standsAt_5 : decode cX1_standsAt 5 = .ok (.iload_n 1, 1) := by decide +kernel
theorem dX1_standsAt_6 : decode cX1_standsAt 6 = .ok (.iaload, 1) := by decide +kernel
theorem dX1_standsAt_7 : decode cX1_standsAt 7 = .ok (.aload_n 0, 1) := by decide +kernel
theorem dX1_standsAt_8 : decode cX1_standsAt 8 = .ok (.getfield 36, 3) := by decide +kernel
theorem dX1_standsAt_11 : decode cX1_standsAt 11 = .ok (.iload_n 1, 1) := by decide +kernel
theorem dX1_standsAt_12 : decode cX1_standsAt 12 = .ok (.iaload, 1) := by decide +kernel
theorem dX1_standsAt_13 : decode cX1_standsAt 13 = .ok (.aload_n 0, 1) := by decide +kernel
theorem dX1_standsAt_14 : decode cX1_standsAt 14 = .ok (.getfield 63, 3) := by decide +kernel
theorem dX1_standsAt_17 : decode cX1_standsAt 17 = .ok (.aload_n 0, 1) := by decide +kernel
theorem dX1_standsAt_18 : decode cX1_standsAt 18 = .ok (.iload_n 2, 1) := by decide +kernel
theorem dX1_standsAt_19 : decode cX1_standsAt 19 = .ok (.iload_n 3, 1) := by decide +kernel
theorem dX1_standsAt_20 : decode cX1_standsAt 20 = .ok (.invokevirtual 120, 3) := by decide +kernel
theorem dX1_standsAt_23 : decode cX1_standsAt 23 = .ok (.invokevirtual 123, 3) := by decide +kernel
theorem dX1_standsAt_26 : decode cX1_standsAt 26 = .ok (.ireturn, 1) := by decide +kernel
theorem dX1_standsAtHomeIn_0 : decode cX1_standsAtHomeIn 0 = .ok (.aload_n 0, 1) := by decide +kernel
theorem dX1_standsAtHomeIn_1 : decode cX1_standsAtHomeIn 1 = .ok (.aload_n 0, 1) := by decide +kernel
theorem dX1_standsAtHomeIn_2 : decode cX1_standsAtHomeIn 2 = .ok (.aload_n 0, 1) := by decide +kernel
theorem dX1_standsAtHomeIn_3 : decode cX1_standsAtHomeIn 3 = .ok (.getfield 39, 3) := by decide +kernel
theorem dX1_standsAtHomeIn_6 : decode cX1_standsAtHomeIn 6 = .ok (.iload_n 1, 1) := by decide +kernel
theorem dX1_standsAtHomeIn_7 : decode cX1_standsAtHomeIn 7 = .ok (.iaload, 1) := by decide +kernel
theorem dX1_standsAtHomeIn_8 : decode cX1_standsAtHomeIn 8 = .ok (.iload_n 3, 1) := by decide +kernel
theorem dX1_standsAtHomeIn_9 : decode cX1_standsAtHomeIn 9 = .ok (.invokevirtual 98, 3) := by decide +kernel
theorem dX1_standsAtHomeIn_12 : decode cX1_standsAtHomeIn 12 = .ok (.iload_n 2, 1) := by decide +kernel
theorem dX1_standsAtHomeIn_13 : decode cX1_standsAtHomeIn 13 = .ok (.aload_n 0, 1) := by decide +kernel
theorem dX1_standsAtHomeIn_14 : decode cX1_standsAtHomeIn 14 = .ok (.getfield 54, 3) := by decide +kernel
theorem dX1_standsAtHomeIn_17 : decode cX1_standsAtHomeIn 17 = .ok (.invokevirtual 109, 3) := by decide +kernel
theorem dX1_standsAtHomeIn_20 : decode cX1_standsAtHomeIn 20 = .ok (.istore 4, 2) := by decide +kernel
theorem dX1_standsAtHomeIn_22 : decode cX1_standsAtHomeIn 22 = .ok (.aload_n 0, 1) := by decide +kernel
theorem dX1_standsAtHomeIn_23 : decode cX1_standsAtHomeIn 23 = .ok (.aload_n 0, 1) := by decide +kernel
theorem dX1_standsAtHomeIn_24 : decode cX1_standsAtHomeIn 24 = .ok (.getfield 33, 3) := by decide +kernel
theorem dX1_standsAtHomeIn_27 : decode cX1_standsAtHomeIn 27 = .ok (.iload_n 1, 1) := by decide +kernel
theorem dX1_standsAtHomeIn_28 : decode cX1_standsAtHomeIn 28 = .ok (.iaload, 1) := by decide +kernel
theorem dX1_standsAtHomeIn_29 : decode cX1_standsAtHomeIn 29 = .ok (.aload_n 0, 1) := by decide +kernel
theorem dX1_standsAtHomeIn_30 : decode cX1_standsAtHomeIn 30 = .ok (.getfield 36, 3) := by decide +kernel
theorem dX1_standsAtHomeIn_33 : decode cX1_standsAtHomeIn 33 = .ok (.iload_n 1, 1) := by decide +kernel
theorem dX1_standsAtHomeIn_34 : decode cX1_standsAtHomeIn 34 = .ok (.iaload, 1) := by decide +kernel
theorem dX1_standsAtHomeIn_35 : decode cX1_standsAtHomeIn 35 = .ok (.aload_n 0, 1) := by decide +kernel
theorem dX1_standsAtHomeIn_36 : decode cX1_standsAtHomeIn 36 = .ok (.getfield 63, 3) := by decide +kernel
theorem dX1_standsAtHomeIn_39 : decode cX1_standsAtHomeIn 39 = .ok (.iload_n 3, 1) := by decide +kernel
theorem dX1_standsAtHomeIn_40 : decode cX1_standsAtHomeIn 40 = .ok (.iadd, 1) := by decide +kernel
theorem dX1_standsAtHomeIn_41 : decode cX1_standsAtHomeIn 41 = .ok (.iload 4, 2) := by decide +kernel
theorem dX1_standsAtHomeIn_43 : decode cX1_standsAtHomeIn 43 = .ok (.invokevirtual 123, 3) := by decide +kernel
theorem dX1_standsAtHomeIn_46 : decode cX1_standsAtHomeIn 46 = .ok (.ireturn, 1) := by decide +kernel
theorem dX1_isMet_0 : decode cX1_isMet 0 = .ok (.aload_n 0, 1) := by decide +kernel
theorem dX1_isMet_1 : decode cX1_isMet 1 = .ok (.aload_n 0, 1) := by decide +kernel
theorem dX1_isMet_2 : decode cX1_isMet 2 = .ok (.getfield 45, 3) := by decide +kernel
theorem dX1_isMet_5 : decode cX1_isMet 5 = .ok (.iload_n 1, 1) := by decide +kernel
theorem dX1_isMet_6 : decode cX1_isMet 6 = .ok (.iaload, 1) := by decide +kernel
theorem dX1_isMet_7 : decode cX1_isMet 7 = .ok (.aload_n 0, 1) := by decide +kernel
theorem dX1_isMet_8 : decode cX1_isMet 8 = .ok (.getfield 48, 3) := by decide +kernel
theorem dX1_isMet_11 : decode cX1_isMet 11 = .ok (.iload_n 1, 1) := by decide +kernel
theorem dX1_isMet_12 : decode cX1_isMet 12 = .ok (.iaload, 1) := by decide +kernel
theorem dX1_isMet_13 : decode cX1_isMet 13 = .ok (.invokevirtual 120, 3) := by decide +kernel
theorem dX1_isMet_16 : decode cX1_isMet 16 = .ok (.istore_n 3, 1) := by decide +kernel
theorem dX1_isMet_17 : decode cX1_isMet 17 = .ok (.aload_n 0, 1) := by decide +kernel
theorem dX1_isMet_18 : decode cX1_isMet 18 = .ok (.aload_n 0, 1) := by decide +kernel
theorem dX1_isMet_19 : decode cX1_isMet 19 = .ok (.getfield 33, 3) := by decide +kernel
theorem dX1_isMet_22 : decode cX1_isMet 22 = .ok (.aload_n 0, 1) := by decide +kernel
theorem dX1_isMet_23 : decode cX1_isMet 23 = .ok (.getfield 42, 3) := by decide +kernel
theorem dX1_isMet_26 : decode cX1_isMet 26 = .ok (.iload_n 1, 1) := by decide +kernel
theorem dX1_isMet_27 : decode cX1_isMet 27 = .ok (.iaload, 1) := by decide +kernel
theorem dX1_isMet_28 : decode cX1_isMet 28 = .ok (.iaload, 1) := by decide +kernel
theorem dX1_isMet_29 : decode cX1_isMet 29 = .ok (.iload_n 2, 1) := by decide +kernel
theorem dX1_isMet_30 : decode cX1_isMet 30 = .ok (.aload_n 0, 1) := by decide +kernel
theorem dX1_isMet_31 : decode cX1_isMet 31 = .ok (.getfield 63, 3) := by decide +kernel
theorem dX1_isMet_34 : decode cX1_isMet 34 = .ok (.iload_n 3, 1) := by decide +kernel
theorem dX1_isMet_35 : decode cX1_isMet 35 = .ok (.invokevirtual 123, 3) := by decide +kernel
theorem dX1_isMet_38 : decode cX1_isMet 38 = .ok (.ireturn, 1) := by decide +kernel
theorem dX1_drownsWith_0 : decode cX1_drownsWith 0 = .ok (.aload_n 0, 1) := by decide +kernel
theorem dX1_drownsWith_1 : decode cX1_drownsWith 1 = .ok (.getfield 9, 3) := by decide +kernel
theorem dX1_drownsWith_4 : decode cX1_drownsWith 4 = .ok (.aload_n 0, 1) := by decide +kernel
theorem dX1_drownsWith_5 : decode cX1_drownsWith 5 = .ok (.getfield 39, 3) := by decide +kernel
theorem dX1_drownsWith_8 : decode cX1_drownsWith 8 = .ok (.iload_n 1, 1) := by decide +kernel
theorem dX1_drownsWith_9 : decode cX1_drownsWith 9 = .ok (.iaload, 1) := by decide +kernel
theorem dX1_drownsWith_10 : decode cX1_drownsWith 10 = .ok (.iaload, 1) := by decide +kernel
theorem dX1_drownsWith_11 : decode cX1_drownsWith 11 = .ok (.istore 4, 2) := by decide +kernel
theorem dX1_drownsWith_13 : decode cX1_drownsWith 13 = .ok (.iconst 0, 1) := by decide +kernel
theorem dX1_drownsWith_14 : decode cX1_drownsWith 14 = .ok (.istore 5, 2) := by decide +kernel
theorem dX1_drownsWith_16 : decode cX1_drownsWith 16 = .ok (.iload 5, 2) := by decide +kernel
theorem dX1_drownsWith_18 : decode cX1_drownsWith 18 = .ok (.bipush 24, 2) := by decide +kernel
theorem dX1_drownsWith_20 : decode cX1_drownsWith 20 = .ok (.if_icmp .ge 38, 3) := by decide +kernel
theorem dX1_drownsWith_23 : decode cX1_drownsWith 23 = .ok (.aload_n 0, 1) := by decide +kernel
theorem dX1_drownsWith_24 : decode cX1_drownsWith 24 = .ok (.aload_n 0, 1) := by decide +kernel
theorem dX1_drownsWith_25 : decode cX1_drownsWith 25 = .ok (.getfield 33, 3) := by decide +kernel
theorem dX1_drownsWith_28 : decode cX1_drownsWith 28 = .ok (.iload_n 1, 1) := by decide +kernel
theorem dX1_drownsWith_29 : decode cX1_drownsWith 29 = .ok (.iaload, 1) := by decide +kernel
theorem dX1_drownsWith_30 : decode cX1_drownsWith 30 = .ok (.iload_n 2, 1) := by decide +kernel
theorem dX1_drownsWith_31 : decode cX1_drownsWith 31 = .ok (.aload_n 0, 1) := by decide +kernel
theorem dX1_drownsWith_32 : decode cX1_drownsWith 32 = .ok (.getfield 63, 3) := by decide +kernel
theorem dX1_drownsWith_35 : decode cX1_drownsWith 35 = .ok (.aload_n 0, 1) := by decide +kernel
theorem dX1_drownsWith_36 : decode cX1_drownsWith 36 = .ok (.iload 4, 2) := by decide +kernel
theorem dX1_drownsWith_38 : decode cX1_drownsWith 38 = .ok (.iload 5, 2) := by decide +kernel
theorem dX1_drownsWith_40 : decode cX1_drownsWith 40 = .ok (.iload_n 3, 1) := by decide +kernel
theorem dX1_drownsWith_41 : decode cX1_drownsWith 41 = .ok (.invokevirtual 109, 3) := by decide +kernel
theorem dX1_drownsWith_44 : decode cX1_drownsWith 44 = .ok (.invokevirtual 123, 3) := by decide +kernel
theorem dX1_drownsWith_47 : decode cX1_drownsWith 47 = .ok (.ifCond .ne 5, 3) := by decide +kernel
theorem dX1_drownsWith_50 : decode cX1_drownsWith 50 = .ok (.iconst 1, 1) := by decide +kernel
theorem dX1_drownsWith_51 : decode cX1_drownsWith 51 = .ok (.ireturn, 1) := by decide +kernel
theorem dX1_drownsWith_52 : decode cX1_drownsWith 52 = .ok (.iinc 5 1, 3) := by decide +kernel
theorem dX1_drownsWith_55 : decode cX1_drownsWith 55 = .ok (.goto (-39), 3) := by decide +kernel
theorem dX1_drownsWith_58 : decode cX1_drownsWith 58 = .ok (.iconst 0, 1) := by decide +kernel
theorem dX1_drownsWith_59 : decode cX1_drownsWith 59 = .ok (.ireturn, 1) := by decide +kernel
theorem dX1_countStanding_0 : decode cX1_countStanding 0 = .ok (.iconst 0, 1) := by decide +kernel
theorem dX1_countStanding_1 : decode cX1_countStanding 1 = .ok (.istore_n 3, 1) := by decide +kernel
theorem dX1_countStanding_2 : decode cX1_countStanding 2 = .ok (.iconst 0, 1) := by decide +kernel
theorem dX1_countStanding_3 : decode cX1_countStanding 3 = .ok (.istore 4, 2) := by decide +kernel
theorem dX1_countStanding_5 : decode cX1_countStanding 5 = .ok (.iload 4, 2) := by decide +kernel
theorem dX1_countStanding_7 : decode cX1_countStanding 7 = .ok (.aload_n 0, 1) := by decide +kernel
theorem dX1_countStanding_8 : decode cX1_countStanding 8 = .ok (.getfield 57, 3) := by decide +kernel
theorem dX1_countStanding_11 : decode cX1_countStanding 11 = .ok (.if_icmp .ge 23, 3) := by decide +kernel
theorem dX1_countStanding_14 : decode cX1_countStanding 14 = .ok (.aload_n 0, 1) := by decide +kernel
theorem dX1_countStanding_15 : decode cX1_countStanding 15 = .ok (.iload 4, 2) := by decide +kernel
theorem dX1_countStanding_17 : decode cX1_countStanding 17 = .ok (.iload_n 1, 1) := by decide +kernel
theorem dX1_countStanding_18 : decode cX1_countStanding 18 = .ok (.iload_n 2, 1) := by decide +kernel
theorem dX1_countStanding_19 : decode cX1_countStanding 19 = .ok (.invokevirtual 127, 3) := by decide +kernel
theorem dX1_countStanding_22 : decode cX1_countStanding 22 = .ok (.ifCond .eq 6, 3) := by decide +kernel
theorem dX1_countStanding_25 : decode cX1_countStanding 25 = .ok (.iinc 3 1, 3) := by decide +kernel
theorem dX1_countStanding_28 : decode cX1_countStanding 28 = .ok (.iinc 4 1, 3) := by decide +kernel
theorem dX1_countStanding_31 : decode cX1_countStanding 31 = .ok (.goto (-26), 3) := by decide +kernel
theorem dX1_countStanding_34 : decode cX1_countStanding 34 = .ok (.iload_n 3, 1) := by decide +kernel
theorem dX1_countStanding_35 : decode cX1_countStanding 35 = .ok (.ireturn, 1) := by decide +kernel
theorem dX1_shortestOf_0 : decode cX1_shortestOf 0 = .ok (.iconst (-1), 1) := by decide +kernel
theorem dX1_shortestOf_1 : decode cX1_shortestOf 1 = .ok (.istore_n 2, 1) := by decide +kernel
theorem dX1_shortestOf_2 : decode cX1_shortestOf 2 = .ok (.iconst 0, 1) := by decide +kernel
theorem dX1_shortestOf_3 : decode cX1_shortestOf 3 = .ok (.istore_n 3, 1) := by decide +kernel
theorem dX1_shortestOf_4 : decode cX1_shortestOf 4 = .ok (.iload_n 3, 1) := by decide +kernel
theorem dX1_shortestOf_5 : decode cX1_shortestOf 5 = .ok (.aload_n 0, 1) := by decide +kernel
theorem dX1_shortestOf_6 : decode cX1_shortestOf 6 = .ok (.getfield 57, 3) := by decide +kernel
theorem dX1_shortestOf_9 : decode cX1_shortestOf 9 = .ok (.if_icmp .ge 36, 3) := by decide +kernel
theorem dX1_shortestOf_12 : decode cX1_shortestOf 12 = .ok (.iload_n 1, 1) := by decide +kernel
theorem dX1_shortestOf_13 : decode cX1_shortestOf 13 = .ok (.iload_n 3, 1) := by decide +kernel
theorem dX1_shortestOf_14 : decode cX1_shortestOf 14 = .ok (.invokestatic 130, 3) := by decide +kernel
theorem dX1_shortestOf_17 : decode cX1_shortestOf 17 = .ok (.ifCond .eq 22, 3) := by decide +kernel
theorem dX1_shortestOf_20 : decode cX1_shortestOf 20 = .ok (.iload_n 2, 1) := by decide +kernel
theorem dX1_shortestOf_21 : decode cX1_shortestOf 21 = .ok (.ifCond .lt 16, 3) := by decide +kernel
theorem dX1_shortestOf_24 : decode cX1_shortestOf 24 = .ok (.aload_n 0, 1) := by decide +kernel
theorem dX1_shortestOf_25 : decode cX1_shortestOf 25 = .ok (.iload_n 3, 1) := by decide +kernel
theorem dX1_shortestOf_26 : decode cX1_shortestOf 26 = .ok (.invokevirtual 133, 3) := by decide +kernel
theorem dX1_shortestOf_29 : decode cX1_shortestOf 29 = .ok (.aload_n 0, 1) := by decide +kernel
theorem dX1_shortestOf_30 : decode cX1_shortestOf 30 = .ok (.iload_n 2, 1) := by decide +kernel
theorem dX1_shortestOf_31 : decode cX1_shortestOf 31 = .ok (.invokevirtual 133, 3) := by decide +kernel
theorem dX1_shortestOf_34 : decode cX1_shortestOf 34 = .ok (.if_icmp .ge 5, 3) := by decide +kernel
theorem dX1_shortestOf_37 : decode cX1_shortestOf 37 = .ok (.iload_n 3, 1) := by decide +kernel
theorem dX1_shortestOf_38 : decode cX1_shortestOf 38 = .ok (.istore_n 2, 1) := by decide +kernel
theorem dX1_shortestOf_39 : decode cX1_shortestOf 39 = .ok (.iinc 3 1, 3) := by decide +kernel
theorem dX1_shortestOf_42 : decode cX1_shortestOf 42 = .ok (.goto (-38), 3) := by decide +kernel
theorem dX1_shortestOf_45 : decode cX1_shortestOf 45 = .ok (.iconst 0, 1) := by decide +kernel
theorem dX1_shortestOf_46 : decode cX1_shortestOf 46 = .ok (.iload_n 2, 1) := by decide +kernel
theorem dX1_shortestOf_47 : decode cX1_shortestOf 47 = .ok (.invokestatic 101, 3) := by decide +kernel
theorem dX1_shortestOf_50 : decode cX1_shortestOf 50 = .ok (.ireturn, 1) := by decide +kernel
theorem dX3_init_0 : decode cX3_init 0 = .ok (.aload_n 0, 1) := by decide +kernel
theorem dX3_init_1 : decode cX3_init 1 = .ok (.invokespecial 3, 3) := by decide +kernel
theorem dX3_init_4 : decode cX3_init 4 = .ok (.aload_n 0, 1) := by decide +kernel
theorem dX3_init_5 : decode cX3_init 5 = .ok (.bipush 80, 2) := by decide +kernel
theorem dX3_init_7 : decode cX3_init 7 = .ok (.newarray .int, 2) := by decide +kernel
theorem dX3_init_9 : decode cX3_init 9 = .ok (.putfield 9, 3) := by decide +kernel
theorem dX3_init_12 : decode cX3_init 12 = .ok (.aload_n 0, 1) := by decide +kernel
theorem dX3_init_13 : decode cX3_init 13 = .ok (.bipush 8, 2) := by decide +kernel
theorem dX3_init_15 : decode cX3_init 15 = .ok (.newarray .int, 2) := by decide +kernel
theorem dX3_init_17 : decode cX3_init 17 = .ok (.putfield 15, 3) := by decide +kernel
theorem dX3_init_20 : decode cX3_init 20 = .ok (.aload_n 0, 1) := by decide +kernel
theorem dX3_init_21 : decode cX3_init 21 = .ok (.bipush 8, 2) := by decide +kernel
theorem dX3_init_23 : decode cX3_init 23 = .ok (.newarray .int, 2) := by decide +kernel
theorem dX3_init_25 : decode cX3_init 25 = .ok (.putfield 18, 3) := by decide +kernel
theorem dX3_init_28 : decode cX3_init 28 = .ok (.aload_n 0, 1) := by decide +kernel
theorem dX3_init_29 : decode cX3_init 29 = .ok (.bipush 8, 2) := by decide +kernel
theorem dX3_init_31 : decode cX3_init 31 = .ok (.newarray .int, 2) := by decide +kernel
theorem dX3_init_33 : decode cX3_init 33 = .ok (.putfield 21, 3) := by decide +kernel
theorem dX3_init_36 : decode cX3_init 36 = .ok (.return_, 1) := by decide +kernel
theorem dX3_append_0 : decode cX3_append 0 = .ok (.aload_n 0, 1) := by decide +kernel
theorem dX3_append_1 : decode cX3_append 1 = .ok (.getfield 24, 3) := by decide +kernel
theorem dX3_append_4 : decode cX3_append 4 = .ok (.bipush 80, 2) := by decide +kernel
theorem dX3_append_6 : decode cX3_append 6 = .ok (.if_icmp .ge 23, 3) := by decide +kernel
theorem dX3_append_9 : decode cX3_append 9 = .ok (.aload_n 0, 1) := by decide +kernel
theorem dX3_append_10 : decode cX3_append 10 = .ok (.getfield 9, 3) := by decide +kernel
theorem dX3_append_13 : decode cX3_append 13 = .ok (.aload_n 0, 1) := by decide +kernel
theorem dX3_append_14 : decode cX3_append 14 = .ok (.getfield 24, 3) := by decide +kernel
theorem dX3_append_17 : decode cX3_append 17 = .ok (.iload_n 1, 1) := by decide +kernel
theorem dX3_append_18 : decode cX3_append 18 = .ok (.iastore, 1) := by decide +kernel
theorem dX3_append_19 : decode cX3_append 19 = .ok (.aload_n 0, 1) := by decide +kernel
theorem dX3_append_20 : decode cX3_append 20 = .ok (.dup, 1) := by decide +kernel
theorem dX3_append_21 : decode cX3_append 21 = .ok (.getfield 24, 3) := by decide +kernel
theorem dX3_append_24 : decode cX3_append 24 = .ok (.iconst 1, 1) := by decide +kernel
theorem dX3_append_25 : decode cX3_append 25 = .ok (.iadd, 1) := by decide +kernel
theorem dX3_append_26 : decode cX3_append 26 = .ok (.putfield 24, 3) := by decide +kernel
theorem dX3_append_29 : decode cX3_append 29 = .ok (.return_, 1) := by decide +kernel
theorem dX3_readPlaces_0 : decode cX3_readPlaces 0 = .ok (.aload_n 0, 1) := by decide +kernel
theorem dX3_readPlaces_1 : decode cX3_readPlaces 1 = .ok (.invokevirtual 28, 3) := by decide +kernel
theorem dX3_readPlaces_4 : decode cX3_readPlaces 4 = .ok (.iconst 1, 1) := by decide +kernel
theorem dX3_readPlaces_5 : decode cX3_readPlaces 5 = .ok (.istore_n 1, 1) := by decide +kernel
theorem dX3_readPlaces_6 : decode cX3_readPlaces 6 = .ok (.iload_n 1, 1) := by decide +kernel
theorem dX3_readPlaces_7 : decode cX3_readPlaces 7 = .ok (.ifCond .eq 36, 3) := by decide +kernel
theorem dX3_readPlaces_10 : decode cX3_readPlaces 10 = .ok (.aload_n 0, 1) := by decide +kernel
theorem dX3_readPlaces_11 : decode cX3_readPlaces 11 = .ok (.getfield 31, 3) := by decide +kernel
theorem dX3_readPlaces_14 : decode cX3_readPlaces 14 = .ok (.bipush 8, 2) := by decide +kernel
theorem dX3_readPlaces_16 : decode cX3_readPlaces 16 = .ok (.if_icmp .ge 27, 3) := by decide +kernel
theorem dX3_readPlaces_19 : decode cX3_readPlaces 19 = .ok (.aload_n 0, 1) := by decide +kernel
theorem dX3_readPlaces_20 : decode cX3_readPlaces 20 = .ok (.invokevirtual 34, 3) := by decide +kernel
theorem dX3_readPlaces_23 : decode cX3_readPlaces 23 = .ok (.aload_n 0, 1) := by decide +kernel
theorem dX3_readPlaces_24 : decode cX3_readPlaces 24 = .ok (.dup, 1) := by decide +kernel
theorem dX3_readPlaces_25 : decode cX3_readPlaces 25 = .ok (.getfield 31, 3) := by decide +kernel
theorem dX3_readPlaces_28 : decode cX3_readPlaces 28 = .ok (.iconst 1, 1) := by decide +kernel
theorem dX3_readPlaces_29 : decode cX3_readPlaces 29 = .ok (.iadd, 1) := by decide +kernel
theorem dX3_readPlaces_30 : decode cX3_readPlaces 30 = .ok (.putfield 31, 3) := by decide +kernel
theorem dX3_readPlaces_33 : decode cX3_readPlaces 33 = .ok (.aload_n 0, 1) := by decide +kernel
theorem dX3_readPlaces_34 : decode cX3_readPlaces 34 = .ok (.bipush 59, 2) := by decide +kernel
theorem dX3_readPlaces_36 : decode cX3_readPlaces 36 = .ok (.invokevirtual 37, 3) := by decide +kernel
theorem dX3_readPlaces_39 : decode cX3_readPlaces 39 = .ok (.istore_n 1, 1) := by decide +kernel
theorem dX3_readPlaces_40 : decode cX3_readPlaces 40 = .ok (.goto (-34), 3) := by decide +kernel
theorem dX3_readPlaces_43 : decode cX3_readPlaces 43 = .ok (.aload_n 0, 1) := by decide +kernel
theorem dX3_readPlaces_44 : decode cX3_readPlaces 44 = .ok (.invokevirtual 41, 3) := by decide +kernel
theorem dX3_readPlaces_47 : decode cX3_readPlaces 47 = .ok (.ireturn, 1) := by decide +kernel
theorem dX3_readPaths_0 : decode cX3_readPaths 0 = .ok (.aload_n 0, 1) := by decide +kernel
theorem dX3_readPaths_1 : decode cX3_readPaths 1 = .ok (.invokevirtual 28, 3) := by decide +kernel
theorem dX3_readPaths_4 : decode cX3_readPaths 4 = .ok (.iconst 1, 1) := by decide +kernel
theorem dX3_readPaths_5 : decode cX3_readPaths 5 = .ok (.istore_n 2, 1) := by decide +kernel
theorem dX3_readPaths_6 : decode cX3_readPaths 6 = .ok (.iload_n 2, 1) := by decide +kernel
theorem dX3_readPaths_7 : decode cX3_readPaths 7 = .ok (.ifCond .eq 37, 3) := by decide +kernel
theorem dX3_readPaths_10 : decode cX3_readPaths 10 = .ok (.aload_n 0, 1) := by decide +kernel
theorem dX3_readPaths_11 : decode cX3_readPaths 11 = .ok (.getfield 31, 3) := by decide +kernel
theorem dX3_readPaths_14 : decode cX3_readPaths 14 = .ok (.bipush 8, 2) := by decide +kernel
theorem dX3_readPaths_16 : decode cX3_readPaths 16 = .ok (.if_icmp .ge 28, 3) := by decide +kernel
theorem dX3_readPaths_19 : decode cX3_readPaths 19 = .ok (.aload_n 0, 1) := by decide +kernel
theorem dX3_readPaths_20 : decode cX3_readPaths 20 = .ok (.iload_n 1, 1) := by decide +kernel
theorem dX3_readPaths_21 : decode cX3_readPaths 21 = .ok (.invokevirtual 45, 3) := by decide +kernel
theorem dX3_readPaths_24 : decode cX3_readPaths 24 = .ok (.aload_n 0, 1) := by decide +kernel
theorem dX3_readPaths_25 : decode cX3_readPaths 25 = .ok (.dup, 1) := by decide +kernel
theorem dX3_readPaths_26 : decode cX3_readPaths 26 = .ok (.getfield 31, 3) := by decide +kernel
theorem dX3_readPaths_29 : decode cX3_readPaths 29 = .ok (.iconst 1, 1) := by decide +kernel
theorem dX3_readPaths_30 : decode cX3_readPaths 30 = .ok (.iadd, 1) := by decide +kernel
theorem dX3_readPaths_31 : decode cX3_readPaths 31 = .ok (.putfield 31, 3) := by decide +kernel
theorem dX3_readPaths_34 : decode cX3_readPaths 34 = .ok (.aload_n 0, 1) := by decide +kernel
theorem dX3_readPaths_35 : decode cX3_readPaths 35 = .ok (.bipush 44, 2) := by decide +kernel
theorem dX3_readPaths_37 : decode cX3_readPaths 37 = .ok (.invokevirtual 37, 3) := by decide +kernel
theorem dX3_readPaths_40 : decode cX3_readPaths 40 = .ok (.istore_n 2, 1) := by decide +kernel
theorem dX3_readPaths_41 : decode cX3_readPaths 41 = .ok (.goto (-35), 3) := by decide +kernel
theorem dX3_readPaths_44 : decode cX3_readPaths 44 = .ok (.aload_n 0, 1) := by decide +kernel
theorem dX3_readPaths_45 : decode cX3_readPaths 45 = .ok (.invokevirtual 41, 3) := by decide +kernel
theorem dX3_readPaths_48 : decode cX3_readPaths 48 = .ok (.ireturn, 1) := by decide +kernel
theorem dX3_begin_0 : decode cX3_begin 0 = .ok (.aload_n 0, 1) := by decide +kernel
theorem dX3_begin_1 : decode cX3_begin 1 = .ok (.iconst 0, 1) := by decide +kernel
theorem dX3_begin_2 : decode cX3_begin 2 = .ok (.putfield 49, 3) := by decide +kernel
theorem dX3_begin_5 : decode cX3_begin 5 = .ok (.aload_n 0, 1) := by decide +kernel
theorem dX3_begin_6 : decode cX3_begin 6 = .ok (.iconst 0, 1) := by decide +kernel
theorem dX3_begin_7 : decode cX3_begin 7 = .ok (.putfield 31, 3) := by decide +kernel
theorem dX3_begin_10 : decode cX3_begin 10 = .ok (.aload_n 0, 1) := by decide +kernel
theorem dX3_begin_11 : decode cX3_begin 11 = .ok (.iconst 0, 1) := by decide +kernel
theorem dX3_begin_12 : decode cX3_begin 12 = .ok (.putfield 52, 3) := by decide +kernel
theorem dX3_begin_15 : decode cX3_begin 15 = .ok (.aload_n 0, 1) := by decide +kernel
theorem dX3_begin_16 : decode cX3_begin 16 = .ok (.iconst (-1), 1) := by decide +kernel
theorem dX3_begin_17 : decode cX3_begin 17 = .ok (.putfield 55, 3) := by decide +kernel
theorem dX3_begin_20 : decode cX3_begin 20 = .ok (.return_, 1) := by decide +kernel
theorem dX3_outcome_0 : decode cX3_outcome 0 = .ok (.aload_n 0, 1) := by decide +kernel
theorem dX3_outcome_1 : decode cX3_outcome 1 = .ok (.getfield 55, 3) := by decide +kernel
theorem dX3_outcome_4 : decode cX3_outcome 4 = .ok (.ifCond .ge 10, 3) := by decide +kernel
theorem dX3_outcome_7 : decode cX3_outcome 7 = .ok (.aload_n 0, 1) := by decide +kernel
theorem dX3_outcome_8 : decode cX3_outcome 8 = .ok (.getfield 31, 3) := by decide +kernel
theorem dX3_outcome_11 : decode cX3_outcome 11 = .ok (.goto 10, 3) := by decide +kernel
theorem dX3_outcome_14 : decode cX3_outcome 14 = .ok (.bipush (-20), 2) := by decide +kernel
theorem dX3_outcome_16 : decode cX3_outcome 16 = .ok (.aload_n 0, 1) := by decide +kernel
theorem dX3_outcome_17 : decode cX3_outcome 17 = .ok (.getfield 55, 3) := by decide +kernel
theorem dX3_outcome_20 : decode cX3_outcome 20 = .ok (.isub, 1) := by decide +kernel
theorem dX3_outcome_21 : decode cX3_outcome 21 = .ok (.ireturn, 1) := by decide +kernel
theorem dX3_readPlace_0 : decode cX3_readPlace 0 = .ok (.aload_n 0, 1) := by decide +kernel
theorem dX3_readPlace_1 : decode cX3_readPlace 1 = .ok (.getfield 15, 3) := by decide +kernel
theorem dX3_readPlace_4 : decode cX3_readPlace 4 = .ok (.aload_n 0, 1) := by decide +kernel
theorem dX3_readPlace_5 : decode cX3_readPlace 5 = .ok (.getfield 31, 3) := by decide +kernel
theorem dX3_readPlace_8 : decode cX3_readPlace 8 = .ok (.aload_n 0, 1) := by decide +kernel
theorem dX3_readPlace_9 : decode cX3_readPlace 9 = .ok (.invokevirtual 58, 3) := by decide +kernel
theorem dX3_readPlace_12 : decode cX3_readPlace 12 = .ok (.iastore, 1) := by decide +kernel
theorem dX3_readPlace_13 : decode cX3_readPlace 13 = .ok (.aload_n 0, 1) := by decide +kernel
theorem dX3_readPlace_14 : decode cX3_readPlace 14 = .ok (.getfield 21, 3) := by decide +kernel
theorem dX3_readPlace_17 : decode cX3_readPlace 17 = .ok (.aload_n 0, 1) := by decide +kernel
theorem dX3_readPlace_18 : decode cX3_readPlace 18 = .ok (.getfield 31, 3) := by decide +kernel
theorem dX3_readPlace_21 : decode cX3_readPlace 21 = .ok (.iconst 0, 1) := by decide +kernel
theorem dX3_readPlace_22 : decode cX3_readPlace 22 = .ok (.iastore, 1) := by decide +kernel
theorem dX3_readPlace_23 : decode cX3_readPlace 23 = .ok (.aload_n 0, 1) := by decide +kernel
theorem dX3_readPlace_24 : decode cX3_readPlace 24 = .ok (.invokevirtual 61, 3) := by decide +kernel
theorem dX3_readPlace_27 : decode cX3_readPlace 27 = .ok (.bipush 112, 2) := by decide +kernel
theorem dX3_readPlace_29 : decode cX3_readPlace 29 = .ok (.if_icmp .ne 47, 3) := by decide +kernel
theorem dX3_readPlace_32 : decode cX3_readPlace 32 = .ok (.aload_n 0, 1) := by decide +kernel
theorem dX3_readPlace_33 : decode cX3_readPlace 33 = .ok (.getfield 52, 3) := by decide +kernel
theorem dX3_readPlace_36 : decode cX3_readPlace 36 = .ok (.iconst 3, 1) := by decide +kernel
theorem dX3_readPlace_37 : decode cX3_readPlace 37 = .ok (.if_icmp .ge 39, 3) := by decide +kernel
theorem dX3_readPlace_40 : decode cX3_readPlace 40 = .ok (.aload_n 0, 1) := by decide +kernel
theorem dX3_readPlace_41 : decode cX3_readPlace 41 = .ok (.dup, 1) := by decide +kernel
theorem dX3_readPlace_42 : decode cX3_readPlace 42 = .ok (.getfield 49, 3) := by decide +kernel
theorem dX3_readPlace_45 : decode cX3_readPlace 45 = .ok (.iconst 1, 1) := by decide +kernel
theorem dX3_readPlace_46 : decode cX3_readPlace 46 = .ok (.iadd, 1) := by decide +kernel
theorem dX3_readPlace_47 : decode cX3_readPlace 47 = .ok (.putfield 49, 3) := by decide +kernel
theorem dX3_readPlace_50 : decode cX3_readPlace 50 = .ok (.aload_n 0, 1) := by decide +kernel
theorem dX3_readPlace_51 : decode cX3_readPlace 51 = .ok (.dup, 1) := by decide +kernel
theorem dX3_readPlace_52 : decode cX3_readPlace 52 = .ok (.getfield 52, 3) := by decide +kernel
theorem dX3_readPlace_55 : decode cX3_readPlace 55 = .ok (.iconst 1, 1) := by decide +kernel
theorem dX3_readPlace_56 : decode cX3_readPlace 56 = .ok (.iadd, 1) := by decide +kernel
theorem dX3_readPlace_57 : decode cX3_readPlace 57 = .ok (.putfield 52, 3) := by decide +kernel
theorem dX3_readPlace_60 : decode cX3_readPlace 60 = .ok (.aload_n 0, 1) := by decide +kernel
theorem dX3_readPlace_61 : decode cX3_readPlace 61 = .ok (.getfield 21, 3) := by decide +kernel
theorem dX3_readPlace_64 : decode cX3_readPlace 64 = .ok (.aload_n 0, 1) := by decide +kernel
theorem dX3_readPlace_65 : decode cX3_readPlace 65 = .ok (.getfield 31, 3) := by decide +kernel
theorem dX3_readPlace_68 : decode cX3_readPlace 68 = .ok (.aload_n 0, 1) := by decide +kernel
theorem dX3_readPlace_69 : decode cX3_readPlace 69 = .ok (.iconst 1, 1) := by decide +kernel
theorem dX3_readPlace_70 : decode cX3_readPlace 70 = .ok (.bipush 20, 2) := by decide +kernel
theorem dX3_readPlace_72 : decode cX3_readPlace 72 = .ok (.invokevirtual 64, 3) := by decide +kernel
theorem dX3_readPlace_75 : decode cX3_readPlace 75 = .ok (.iastore, 1) := by decide +kernel
theorem dX3_readPlace_76 : decode cX3_readPlace 76 = .ok (.return_, 1) := by decide +kernel
theorem dX3_readDepth_0 : decode cX3_readDepth 0 = .ok (.aload_n 0, 1) := by decide +kernel
theorem dX3_readDepth_1 : decode cX3_readDepth 1 = .ok (.invokevirtual 61, 3) := by decide +kernel
theorem dX3_readDepth_4 : decode cX3_readDepth 4 = .ok (.bipush 45, 2) := by decide +kernel
theorem dX3_readDepth_6 : decode cX3_readDepth 6 = .ok (.if_icmp .eq 11, 3) := by decide +kernel
theorem dX3_readDepth_9 : decode cX3_readDepth 9 = .ok (.aload_n 0, 1) := by decide +kernel
theorem dX3_readDepth_10 : decode cX3_readDepth 10 = .ok (.iconst 0, 1) := by decide +kernel
theorem dX3_readDepth_11 : decode cX3_readDepth 11 = .ok (.bipush 60, 2) := by decide +kernel
theorem dX3_readDepth_13 : decode cX3_readDepth 13 = .ok (.invokevirtual 64, 3) := by decide +kernel
theorem dX3_readDepth_16 : decode cX3_readDepth 16 = .ok (.ireturn, 1) := by decide +kernel
theorem dX3_readDepth_17 : decode cX3_readDepth 17 = .ok (.aload_n 0, 1) := by decide +kernel
theorem dX3_readDepth_18 : decode cX3_readDepth 18 = .ok (.dup, 1) := by decide +kernel
theorem dX3_readDepth_19 : decode cX3_readDepth 19 = .ok (.getfield 49, 3) := by decide +kernel
theorem dX3_readDepth_22 : decode cX3_readDepth 22 = .ok (.iconst 1, 1) := by decide +kernel
theorem dX3_readDepth_23 : decode cX3_readDepth 23 = .ok (.iadd, 1) := by decide +kernel
theorem dX3_readDepth_24 : decode cX3_readDepth 24 = .ok (.putfield 49, 3) := by decide +kernel
theorem dX3_readDepth_27 : decode cX3_readDepth 27 = .ok (.aload_n 0, 1) := by decide +kernel
theorem dX3_readDepth_28 : decode cX3_readDepth 28 = .ok (.iconst 0, 1) := by decide +kernel
theorem dX3_readDepth_29 : decode cX3_readDepth 29 = .ok (.bipush 20, 2) := by decide +kernel
theorem dX3_readDepth_31 : decode cX3_readDepth 31 = .ok (.invokevirtual 64, 3) := by decide +kernel
theorem dX3_readDepth_34 : decode cX3_readDepth 34 = .ok (.ineg, 1) := by decide +kernel
theorem dX3_readDepth_35 : decode cX3_readDepth 35 = .ok (.ireturn, 1) := by decide +kernel
theorem dX3_readPath_0 : decode cX3_readPath 0 = .ok (.aload_n 0, 1) := by decide +kernel
theorem dX3_readPath_1 : decode cX3_readPath 1 = .ok (.getfield 15, 3) := by decide +kernel
theorem dX3_readPath_4 : decode cX3_readPath 4 = .ok (.aload_n 0, 1) := by decide +kernel
theorem dX3_readPath_5 : decode cX3_readPath 5 = .ok (.getfield 31, 3) := by decide +kernel
theorem dX3_readPath_8 : decode cX3_readPath 8 = .ok (.aload_n 0, 1) := by decide +kernel
theorem dX3_readPath_9 : decode cX3_readPath 9 = .ok (.iload_n 1, 1) := by decide +kernel
theorem dX3_readPath_10 : decode cX3_readPath 10 = .ok (.iconst (-1), 1) := by decide +kernel
theorem dX3_readPath_11 : decode cX3_readPath 11 = .ok (.invokevirtual 68, 3) := by decide +kernel
theorem dX3_readPath_14 : decode cX3_readPath 14 = .ok (.iastore, 1) := by decide +kernel
theorem dX3_readPath_15 : decode cX3_readPath 15 = .ok (.aload_n 0, 1) := by decide +kernel
theorem dX3_readPath_16 : decode cX3_readPath 16 = .ok (.getfield 18, 3) := by decide +kernel
theorem dX3_readPath_19 : decode cX3_readPath 19 = .ok (.aload_n 0, 1) := by decide +kernel
theorem dX3_readPath_20 : decode cX3_readPath 20 = .ok (.getfield 31, 3) := by decide +kernel
theorem dX3_readPath_23 : decode cX3_readPath 23 = .ok (.aload_n 0, 1) := by decide +kernel
theorem dX3_readPath_24 : decode cX3_readPath 24 = .ok (.iload_n 1, 1) := by decide +kernel
theorem dX3_readPath_25 : decode cX3_readPath 25 = .ok (.aload_n 0, 1) := by decide +kernel
theorem dX3_readPath_26 : decode cX3_readPath 26 = .ok (.getfield 15, 3) := by decide +kernel
theorem dX3_readPath_29 : decode cX3_readPath 29 = .ok (.aload_n 0, 1) := by decide +kernel
theorem dX3_readPath_30 : decode cX3_readPath 30 = .ok (.getfield 31, 3) := by decide +kernel
theorem dX3_readPath_33 : decode cX3_readPath 33 = .ok (.iaload, 1) := by decide +kernel
theorem dX3_readPath_34 : decode cX3_readPath 34 = .ok (.invokevirtual 68, 3) := by decide +kernel
theorem dX3_readPath_37 : decode cX3_readPath 37 = .ok (.iastore, 1) := by decide +kernel
theorem dX3_readPath_38 : decode cX3_readPath 38 = .ok (.aload_n 0, 1) := by decide +kernel
theorem dX3_readPath_39 : decode cX3_readPath 39 = .ok (.getfield 21, 3) := by decide +kernel
theorem dX3_readPath_42 : decode cX3_readPath 42 = .ok (.aload_n 0, 1) := by decide +kernel
theorem dX3_readPath_43 : decode cX3_readPath 43 = .ok (.getfield 31, 3) := by decide +kernel
theorem dX3_readPath_46 : decode cX3_readPath 46 = .ok (.aload_n 0, 1) := by decide +kernel
theorem dX3_readPath_47 : decode cX3_readPath 47 = .ok (.iconst 1, 1) := by decide +kernel
theorem dX3_readPath_48 : decode cX3_readPath 48 = .ok (.bipush 60, 2) := by decide +kernel
theorem dX3_readPath_50 : decode cX3_readPath 50 = .ok (.invokevirtual 64, 3) := by decide +kernel
theorem dX3_readPath_53 : decode cX3_readPath 53 = .ok (.iastore, 1) := by decide +kernel
theorem dX3_readPath_54 : decode cX3_readPath 54 = .ok (.return_, 1) := by decide +kernel
theorem dX3_goesOn_0 : decode cX3_goesOn 0 = .ok (.aload_n 0, 1) := by decide +kernel
theorem dX3_goesOn_1 : decode cX3_goesOn 1 = .ok (.invokevirtual 61, 3) := by decide +kernel
theorem dX3_goesOn_4 : decode cX3_goesOn 4 = .ok (.istore_n 2, 1) := by decide +kernel
theorem dX3_goesOn_5 : decode cX3_goesOn 5 = .ok (.aload_n 0, 1) := by decide +kernel
theorem dX3_goesOn_6 : decode cX3_goesOn 6 = .ok (.getfield 55, 3) := by decide +kernel
theorem dX3_goesOn_9 : decode cX3_goesOn 9 = .ok (.ifCond .ge 7, 3) := by decide +kernel
theorem dX3_goesOn_12 : decode cX3_goesOn 12 = .ok (.iload_n 2, 1) := by decide +kernel
theorem dX3_goesOn_13 : decode cX3_goesOn 13 = .ok (.ifCond .ge 5, 3) := by decide +kernel
theorem dX3_goesOn_16 : decode cX3_goesOn 16 = .ok (.iconst 0, 1) := by decide +kernel
theorem dX3_goesOn_17 : decode cX3_goesOn 17 = .ok (.ireturn, 1) := by decide +kernel
theorem dX3_goesOn_18 : decode cX3_goesOn 18 = .ok (.iload_n 2, 1) := by decide +kernel
theorem dX3_goesOn_19 : decode cX3_goesOn 19 = .ok (.iload_n 1, 1) := by decide +kernel
theorem dX3_goesOn_20 : decode cX3_goesOn 20 = .ok (.if_icmp .ne 12, 3) := by decide +kernel
theorem dX3_goesOn_23 : decode cX3_goesOn 23 = .ok (.aload_n 0, 1) := by decide +kernel
theorem dX3_goesOn_24 : decode cX3_goesOn 24 = .ok (.getfield 31, 3) := by decide +kernel
theorem dX3_goesOn_27 : decode cX3_goesOn 27 = .ok (.bipush 8, 2) := by decide +kernel
theorem dX3_goesOn_29 : decode cX3_goesOn 29 = .ok (.if_icmp .lt 13, 3) := by decide +kernel
theorem dX3_goesOn_32 : decode cX3_goesOn 32 = .ok (.aload_n 0, 1) := by decide +kernel
theorem dX3_goesOn_33 : decode cX3_goesOn 33 = .ok (.aload_n 0, 1) := by decide +kernel
theorem dX3_goesOn_34 : decode cX3_goesOn 34 = .ok (.getfield 49, 3) := by decide +kernel
theorem dX3_goesOn_37 : decode cX3_goesOn 37 = .ok (.invokevirtual 71, 3) := by decide +kernel
theorem dX3_goesOn_40 : decode cX3_goesOn 40 = .ok (.iconst 0, 1) := by decide +kernel
theorem dX3_goesOn_41 : decode cX3_goesOn 41 = .ok (.ireturn, 1) := by decide +kernel
theorem dX3_goesOn_42 : decode cX3_goesOn 42 = .ok (.aload_n 0, 1) := by decide +kernel
theorem dX3_goesOn_43 : decode cX3_goesOn 43 = .ok (.dup, 1) := by decide +kernel
theorem dX3_goesOn_44 : decode cX3_goesOn 44 = .ok (.getfield 49, 3) := by decide +kernel
theorem dX3_goesOn_47 : decode cX3_goesOn 47 = .ok (.iconst 1, 1) := by decide +kernel
theorem dX3_goesOn_48 : decode cX3_goesOn 48 = .ok (.iadd, 1) := by decide +kernel
theorem dX3_goesOn_49 : decode cX3_goesOn 49 = .ok (.putfield 49, 3) := by decide +kernel
theorem dX3_goesOn_52 : decode cX3_goesOn 52 = .ok (.iconst 1, 1) := by decide +kernel
theorem dX3_goesOn_53 : decode cX3_goesOn 53 = .ok (.ireturn, 1) := by decide +kernel
theorem dX3_peek_0 : decode cX3_peek 0 = .ok (.aload_n 0, 1) := by decide +kernel
theorem dX3_peek_1 : decode cX3_peek 1 = .ok (.getfield 49, 3) := by decide +kernel
theorem dX3_peek_4 : decode cX3_peek 4 = .ok (.aload_n 0, 1) := by decide +kernel
theorem dX3_peek_5 : decode cX3_peek 5 = .ok (.getfield 24, 3) := by decide +kernel
theorem dX3_peek_8 : decode cX3_peek 8 = .ok (.if_icmp .ge 30, 3) := by decide +kernel
theorem dX3_peek_11 : decode cX3_peek 11 = .ok (.aload_n 0, 1) := by decide +kernel
theorem dX3_peek_12 : decode cX3_peek 12 = .ok (.getfield 9, 3) := by decide +kernel
theorem dX3_peek_15 : decode cX3_peek 15 = .ok (.aload_n 0, 1) := by decide +kernel
theorem dX3_peek_16 : decode cX3_peek 16 = .ok (.getfield 49, 3) := by decide +kernel
theorem dX3_peek_19 : decode cX3_peek 19 = .ok (.iaload, 1) := by decide +kernel
theorem dX3_peek_20 : decode cX3_peek 20 = .ok (.bipush 32, 2) := by decide +kernel
theorem dX3_peek_22 : decode cX3_peek 22 = .ok (.if_icmp .ne 16, 3) := by decide +kernel
theorem dX3_peek_25 : decode cX3_peek 25 = .ok (.aload_n 0, 1) := by decide +kernel
theorem dX3_peek_26 : decode cX3_peek 26 = .ok (.dup, 1) := by decide +kernel
theorem dX3_peek_27 : decode cX3_peek 27 = .ok (.getfield 49, 3) := by decide +kernel
theorem dX3_peek_30 : decode cX3_peek 30 = .ok (.iconst 1, 1) := by decide +kernel
theorem dX3_peek_31 : decode cX3_peek 31 = .ok (.iadd, 1) := by decide +kernel
theorem dX3_peek_32 : decode cX3_peek 32 = .ok (.putfield 49, 3) := by decide +kernel
theorem dX3_peek_35 : decode cX3_peek 35 = .ok (.goto (-35), 3) := by decide +kernel
theorem dX3_peek_38 : decode cX3_peek 38 = .ok (.aload_n 0, 1) := by decide +kernel
theorem dX3_peek_39 : decode cX3_peek 39 = .ok (.getfield 49, 3) := by decide +kernel
theorem dX3_peek_42 : decode cX3_peek 42 = .ok (.aload_n 0, 1) := by decide +kernel
theorem dX3_peek_43 : decode cX3_peek 43 = .ok (.getfield 24, 3) := by decide +kernel
theorem dX3_peek_46 : decode cX3_peek 46 = .ok (.if_icmp .ge 15, 3) := by decide +kernel
theorem dX3_peek_49 : decode cX3_peek 49 = .ok (.aload_n 0, 1) := by decide +kernel
theorem dX3_peek_50 : decode cX3_peek 50 = .ok (.getfield 9, 3) := by decide +kernel
theorem dX3_peek_53 : decode cX3_peek 53 = .ok (.aload_n 0, 1) := by decide +kernel
theorem dX3_peek_54 : decode cX3_peek 54 = .ok (.getfield 49, 3) := by decide +kernel
theorem dX3_peek_57 : decode cX3_peek 57 = .ok (.iaload, 1) := by decide +kernel
theorem dX3_peek_58 : decode cX3_peek 58 = .ok (.goto 4, 3) := by decide +kernel
theorem dX3_peek_61 : decode cX3_peek 61 = .ok (.iconst (-1), 1) := by decide +kernel
theorem dX3_peek_62 : decode cX3_peek 62 = .ok (.ireturn, 1) := by decide +kernel
theorem dX3_readLetter_0 : decode cX3_readLetter 0 = .ok (.aload_n 0, 1) := by decide +kernel
theorem dX3_readLetter_1 : decode cX3_readLetter 1 = .ok (.invokevirtual 61, 3) := by decide +kernel
theorem dX3_readLetter_4 : decode cX3_readLetter 4 = .ok (.bipush 97, 2) := by decide +kernel
theorem dX3_readLetter_6 : decode cX3_readLetter 6 = .ok (.isub, 1) := by decide +kernel
theorem dX3_readLetter_7 : decode cX3_readLetter 7 = .ok (.istore_n 3, 1) := by decide +kernel
theorem dX3_readLetter_8 : decode cX3_readLetter 8 = .ok (.iload_n 3, 1) := by decide +kernel
theorem dX3_readLetter_9 : decode cX3_readLetter 9 = .ok (.iconst 0, 1) := by decide +kernel
theorem dX3_readLetter_10 : decode cX3_readLetter 10 = .ok (.iload_n 1, 1) := by decide +kernel
theorem dX3_readLetter_11 : decode cX3_readLetter 11 = .ok (.iconst 1, 1) := by decide +kernel
theorem dX3_readLetter_12 : decode cX3_readLetter 12 = .ok (.isub, 1) := by decide +kernel
theorem dX3_readLetter_13 : decode cX3_readLetter 13 = .ok (.invokestatic 74, 3) := by decide +kernel
theorem dX3_readLetter_16 : decode cX3_readLetter 16 = .ok (.ifCond .eq 8, 3) := by decide +kernel
theorem dX3_readLetter_19 : decode cX3_readLetter 19 = .ok (.iload_n 3, 1) := by decide +kernel
theorem dX3_readLetter_20 : decode cX3_readLetter 20 = .ok (.iload_n 2, 1) := by decide +kernel
theorem dX3_readLetter_21 : decode cX3_readLetter 21 = .ok (.if_icmp .ne 13, 3) := by decide +kernel
theorem dX3_readLetter_24 : decode cX3_readLetter 24 = .ok (.aload_n 0, 1) := by decide +kernel
theorem dX3_readLetter_25 : decode cX3_readLetter 25 = .ok (.aload_n 0, 1) := by decide +kernel
theorem dX3_readLetter_26 : decode cX3_readLetter 26 = .ok (.getfield 49, 3) := by decide +kernel
theorem dX3_readLetter_29 : decode cX3_readLetter 29 = .ok (.invokevirtual 71, 3) := by decide +kernel
theorem dX3_readLetter_32 : decode cX3_readLetter 32 = .ok (.iconst 0, 1) := by decide +kernel
theorem dX3_readLetter_33 : decode cX3_readLetter 33 = .ok (.ireturn, 1) := by decide +kernel
theorem dX3_readLetter_34 : decode cX3_readLetter 34 = .ok (.aload_n 0, 1) := by decide +kernel
theorem dX3_readLetter_35 : decode cX3_readLetter 35 = .ok (.dup, 1) := by decide +kernel
theorem dX3_readLetter_36 : decode cX3_readLetter 36 = .ok (.getfield 49, 3) := by decide +kernel
theorem dX3_readLetter_39 : decode cX3_readLetter 39 = .ok (.iconst 1, 1) := by decide +kernel
theorem dX3_readLetter_40 : decode cX3_readLetter 40 = .ok (.iadd, 1) := by decide +kernel
theorem dX3_readLetter_41 : decode cX3_readLetter 41 = .ok (.putfield 49, 3) := by decide +kernel
theorem dX3_readLetter_44 : decode cX3_readLetter 44 = .ok (.iload_n 3, 1) := by decide +kernel
theorem dX3_readLetter_45 : decode cX3_readLetter 45 = .ok (.ireturn, 1) := by decide +kernel
theorem dX3_readNumber_0 : decode cX3_readNumber 0 = .ok (.aload_n 0, 1) := by decide +kernel
theorem dX3_readNumber_1 : decode cX3_readNumber 1 = .ok (.invokevirtual 61, 3) := by decide +kernel
theorem dX3_readNumber_4 : decode cX3_readNumber 4 = .ok (.bipush 48, 2) := by decide +kernel
theorem dX3_readNumber_6 : decode cX3_readNumber 6 = .ok (.bipush 57, 2) := by decide +kernel
theorem dX3_readNumber_8 : decode cX3_readNumber 8 = .ok (.invokestatic 74, 3) := by decide +kernel
theorem dX3_readNumber_11 : decode cX3_readNumber 11 = .ok (.ifCond .ne 13, 3) := by decide +kernel
theorem dX3_readNumber_14 : decode cX3_readNumber 14 = .ok (.aload_n 0, 1) := by decide +kernel
theorem dX3_readNumber_15 : decode cX3_readNumber 15 = .ok (.aload_n 0, 1) := by decide +kernel
theorem dX3_readNumber_16 : decode cX3_readNumber 16 = .ok (.getfield 49, 3) := by decide +kernel
theorem dX3_readNumber_19 : decode cX3_readNumber 19 = .ok (.invokevirtual 71, 3) := by decide +kernel
theorem dX3_readNumber_22 : decode cX3_readNumber 22 = .ok (.iload_n 1, 1) := by decide +kernel
theorem dX3_readNumber_23 : decode cX3_readNumber 23 = .ok (.ireturn, 1) := by decide +kernel
theorem dX3_readNumber_24 : decode cX3_readNumber 24 = .ok (.aload_n 0, 1) := by decide +kernel
theorem dX3_readNumber_25 : decode cX3_readNumber 25 = .ok (.getfield 49, 3) := by decide +kernel
theorem dX3_readNumber_28 : decode cX3_readNumber 28 = .ok (.istore_n 3, 1) := by decide +kernel
theorem dX3_readNumber_29 : decode cX3_readNumber 29 = .ok (.iconst 0, 1) := by decide +kernel
theorem dX3_readNumber_30 : decode cX3_readNumber 30 = .ok (.istore 4, 2) := by decide +kernel
theorem dX3_readNumber_32 : decode cX3_readNumber 32 = .ok (.aload_n 0, 1) := by decide +kernel
theorem dX3_readNumber_33 : decode cX3_readNumber 33 = .ok (.getfield 49, 3) := by decide +kernel
theorem dX3_readNumber_36 : decode cX3_readNumber 36 = .ok (.aload_n 0, 1) := by decide +kernel
theorem dX3_readNumber_37 : decode cX3_readNumber 37 = .ok (.getfield 24, 3) := by decide +kernel
theorem dX3_readNumber_40 : decode cX3_readNumber 40 = .ok (.if_icmp .ge 60, 3) := by decide +kernel
theorem dX3_readNumber_43 : decode cX3_readNumber 43 = .ok (.aload_n 0, 1) := by decide +kernel
theorem dX3_readNumber_44 : decode cX3_readNumber 44 = .ok (.getfield 9, 3) := by decide +kernel
theorem dX3_readNumber_47 : decode cX3_readNumber 47 = .ok (.aload_n 0, 1) := by decide +kernel
theorem dX3_readNumber_48 : decode cX3_readNumber 48 = .ok (.getfield 49, 3) := by decide +kernel
theorem dX3_readNumber_51 : decode cX3_readNumber 51 = .ok (.iaload, 1) := by decide +kernel
theorem dX3_readNumber_52 : decode cX3_readNumber 52 = .ok (.bipush 48, 2) := by decide +kernel
theorem dX3_readNumber_54 : decode cX3_readNumber 54 = .ok (.bipush 57, 2) := by decide +kernel
theorem dX3_readNumber_56 : decode cX3_readNumber 56 = .ok (.invokestatic 74, 3) := by decide +kernel
theorem dX3_readNumber_59 : decode cX3_readNumber 59 = .ok (.ifCond .eq 41, 3) := by decide +kernel
theorem dX3_readNumber_62 : decode cX3_readNumber 62 = .ok (.bipush 100, 2) := by decide +kernel
theorem dX3_readNumber_64 : decode cX3_readNumber 64 = .ok (.iload 4, 2) := by decide +kernel
theorem dX3_readNumber_66 : decode cX3_readNumber 66 = .ok (.bipush 10, 2) := by decide +kernel
theorem dX3_readNumber_68 : decode cX3_readNumber 68 = .ok (.imul, 1) := by decide +kernel
theorem dX3_readNumber_69 : decode cX3_readNumber 69 = .ok (.aload_n 0, 1) := by decide +kernel
theorem dX3_readNumber_70 : decode cX3_readNumber 70 = .ok (.getfield 9, 3) := by decide +kernel
theorem dX3_readNumber_73 : decode cX3_readNumber 73 = .ok (.aload_n 0, 1) := by decide +kernel
theorem dX3_readNumber_74 : decode cX3_readNumber 74 = .ok (.getfield 49, 3) := by decide +kernel
theorem dX3_readNumber_77 : decode cX3_readNumber 77 = .ok (.iaload, 1) := by decide +kernel
theorem dX3_readNumber_78 : decode cX3_readNumber 78 = .ok (.iadd, 1) := by decide +kernel
theorem dX3_readNumber_79 : decode cX3_readNumber 79 = .ok (.bipush 48, 2) := by decide +kernel
theorem dX3_readNumber_81 : decode cX3_readNumber 81 = .ok (.isub, 1) := by decide +kernel
theorem dX3_readNumber_82 : decode cX3_readNumber 82 = .ok (.invokestatic 78, 3) := by decide +kernel
theorem dX3_readNumber_85 : decode cX3_readNumber 85 = .ok (.istore 4, 2) := by decide +kernel
theorem dX3_readNumber_87 : decode cX3_readNumber 87 = .ok (.aload_n 0, 1) := by decide +kernel
theorem dX3_readNumber_88 : decode cX3_readNumber 88 = .ok (.dup, 1) := by decide +kernel
theorem dX3_readNumber_89 : decode cX3_readNumber 89 = .ok (.getfield 49, 3) := by decide +kernel
theorem dX3_readNumber_92 : decode cX3_readNumber 92 = .ok (.iconst 1, 1) := by decide +kernel
theorem dX3_readNumber_93 : decode cX3_readNumber 93 = .ok (.iadd, 1) := by decide +kernel
theorem dX3_readNumber_94 : decode cX3_readNumber 94 = .ok (.putfield 49, 3) := by decide +kernel
theorem dX3_readNumber_97 : decode cX3_readNumber 97 = .ok (.goto (-65), 3) := by decide +kernel
theorem dX3_readNumber_100 : decode cX3_readNumber 100 = .ok (.iload 4, 2) := by decide +kernel
theorem dX3_readNumber_102 : decode cX3_readNumber 102 = .ok (.iload_n 1, 1) := by decide +kernel
theorem dX3_readNumber_103 : decode cX3_readNumber 103 = .ok (.iload_n 2, 1) := by decide +kernel
theorem dX3_readNumber_104 : decode cX3_readNumber 104 = .ok (.invokestatic 74, 3) := by decide +kernel
theorem dX3_readNumber_107 : decode cX3_readNumber 107 = .ok (.ifCond .ne 10, 3) := by decide +kernel
theorem dX3_readNumber_110 : decode cX3_readNumber 110 = .ok (.aload_n 0, 1) := by decide +kernel
theorem dX3_readNumber_111 : decode cX3_readNumber 111 = .ok (.iload_n 3, 1) := by decide +kernel
theorem dX3_readNumber_112 : decode cX3_readNumber 112 = .ok (.invokevirtual 71, 3) := by decide +kernel
theorem dX3_readNumber_115 : decode cX3_readNumber 115 = .ok (.iload_n 1, 1) := by decide +kernel
theorem dX3_readNumber_116 : decode cX3_readNumber 116 = .ok (.ireturn, 1) := by decide +kernel
theorem dX3_readNumber_117 : decode cX3_readNumber 117 = .ok (.iload 4, 2) := by decide +kernel
theorem dX3_readNumber_119 : decode cX3_readNumber 119 = .ok (.ireturn, 1) := by decide +kernel
theorem dX3_faultAt_0 : decode cX3_faultAt 0 = .ok (.aload_n 0, 1) := by decide +kernel
theorem dX3_faultAt_1 : decode cX3_faultAt 1 = .ok (.getfield 55, 3) := by decide +kernel
theorem dX3_faultAt_4 : decode cX3_faultAt 4 = .ok (.ifCond .ge 8, 3) := by decide +kernel
theorem dX3_faultAt_7 : decode cX3_faultAt 7 = .ok (.aload_n 0, 1) := by decide +kernel
theorem dX3_faultAt_8 : decode cX3_faultAt 8 = .ok (.iload_n 1, 1) := by decide +kernel
theorem dX3_faultAt_9 : decode cX3_faultAt 9 = .ok (.putfield 55, 3) := by decide +kernel
theorem dX3_faultAt_12 : decode cX3_faultAt 12 = .ok (.return_, 1) := by decide +kernel
theorem dX6_init_0 : decode cX6_init 0 = .ok (.aload_n 0, 1) := by decide +kernel
theorem dX6_init_1 : decode cX6_init 1 = .ok (.invokespecial 1, 3) := by decide +kernel
theorem dX6_init_4 : decode cX6_init 4 = .ok (.aload_n 0, 1) := by decide +kernel
theorem dX6_init_5 : decode cX6_init 5 = .ok (.new 7, 3) := by decide +kernel
theorem dX6_init_8 : decode cX6_init 8 = .ok (.dup, 1) := by decide +kernel
theorem dX6_init_9 : decode cX6_init 9 = .ok (.invokespecial 9, 3) := by decide +kernel
theorem dX6_init_12 : decode cX6_init 12 = .ok (.putfield 10, 3) := by decide +kernel
theorem dX6_init_15 : decode cX6_init 15 = .ok (.aload_n 0, 1) := by decide +kernel
theorem dX6_init_16 : decode cX6_init 16 = .ok (.new 7, 3) := by decide +kernel
theorem dX6_init_19 : decode cX6_init 19 = .ok (.dup, 1) := by decide +kernel
theorem dX6_init_20 : decode cX6_init 20 = .ok (.invokespecial 9, 3) := by decide +kernel
theorem dX6_init_23 : decode cX6_init 23 = .ok (.putfield 16, 3) := by decide +kernel
theorem dX6_init_26 : decode cX6_init 26 = .ok (.aload_n 0, 1) := by decide +kernel
theorem dX6_init_27 : decode cX6_init 27 = .ok (.new 19, 3) := by decide +kernel
theorem dX6_init_30 : decode cX6_init 30 = .ok (.dup, 1) := by decide +kernel
theorem dX6_init_31 : decode cX6_init 31 = .ok (.invokespecial 21, 3) := by decide +kernel
theorem dX6_init_34 : decode cX6_init 34 = .ok (.putfield 22, 3) := by decide +kernel
theorem dX6_init_37 : decode cX6_init 37 = .ok (.aload_n 0, 1) := by decide +kernel
theorem dX6_init_38 : decode cX6_init 38 = .ok (.new 26, 3) := by decide +kernel
theorem dX6_init_41 : decode cX6_init 41 = .ok (.dup, 1) := by decide +kernel
theorem dX6_init_42 : decode cX6_init 42 = .ok (.invokespecial 28, 3) := by decide +kernel
theorem dX6_init_45 : decode cX6_init 45 = .ok (.putfield 29, 3) := by decide +kernel
theorem dX6_init_48 : decode cX6_init 48 = .ok (.aload_n 0, 1) := by decide +kernel
theorem dX6_init_49 : decode cX6_init 49 = .ok (.new 33, 3) := by decide +kernel
theorem dX6_init_52 : decode cX6_init 52 = .ok (.dup, 1) := by decide +kernel
theorem dX6_init_53 : decode cX6_init 53 = .ok (.invokespecial 35, 3) := by decide +kernel
theorem dX6_init_56 : decode cX6_init 56 = .ok (.putfield 36, 3) := by decide +kernel
theorem dX6_init_59 : decode cX6_init 59 = .ok (.aload_n 0, 1) := by decide +kernel
theorem dX6_init_60 : decode cX6_init 60 = .ok (.new 40, 3) := by decide +kernel
theorem dX6_init_63 : decode cX6_init 63 = .ok (.dup, 1) := by decide +kernel
theorem dX6_init_64 : decode cX6_init 64 = .ok (.invokespecial 42, 3) := by decide +kernel
theorem dX6_init_67 : decode cX6_init 67 = .ok (.putfield 43, 3) := by decide +kernel
theorem dX6_init_70 : decode cX6_init 70 = .ok (.aload_n 0, 1) := by decide +kernel
theorem dX6_init_71 : decode cX6_init 71 = .ok (.iconst 4, 1) := by decide +kernel
theorem dX6_init_72 : decode cX6_init 72 = .ok (.anewarray 47, 3) := by decide +kernel
theorem dX6_init_75 : decode cX6_init 75 = .ok (.putfield 49, 3) := by decide +kernel
theorem dX6_init_78 : decode cX6_init 78 = .ok (.iconst 0, 1) := by decide +kernel
theorem dX6_init_79 : decode cX6_init 79 = .ok (.istore_n 1, 1) := by decide +kernel
theorem dX6_init_80 : decode cX6_init 80 = .ok (.iload_n 1, 1) := by decide +kernel
theorem dX6_init_81 : decode cX6_init 81 = .ok (.iconst 4, 1) := by decide +kernel
theorem dX6_init_82 : decode cX6_init 82 = .ok (.if_icmp .ge 22, 3) := by decide +kernel
theorem dX6_init_85 : decode cX6_init 85 = .ok (.aload_n 0, 1) := by decide +kernel
theorem dX6_init_86 : decode cX6_init 86 = .ok (.getfield 49, 3) := by decide +kernel
theorem dX6_init_89 : decode cX6_init 89 = .ok (.iload_n 1, 1) := by decide +kernel
theorem dX6_init_90 : decode cX6_init 90 = .ok (.new 47, 3) := by decide +kernel
theorem dX6_init_93 : decode cX6_init 93 = .ok (.dup, 1) := by decide +kernel
theorem dX6_init_94 : decode cX6_init 94 = .ok (.invokespecial 53, 3) := by decide +kernel
theorem dX6_init_97 : decode cX6_init 97 = .ok (.aastore, 1) := by decide +kernel
theorem dX6_init_98 : decode cX6_init 98 = .ok (.iinc 1 1, 3) := by decide +kernel
theorem dX6_init_101 : decode cX6_init 101 = .ok (.goto (-21), 3) := by decide +kernel
theorem dX6_init_104 : decode cX6_init 104 = .ok (.return_, 1) := by decide +kernel
theorem dX6_place_0 : decode cX6_place 0 = .ok (.iload_n 1, 1) := by decide +kernel
theorem dX6_place_1 : decode cX6_place 1 = .ok (.bipush (-20), 2) := by decide +kernel
theorem dX6_place_3 : decode cX6_place 3 = .ok (.bipush 60, 2) := by decide +kernel
theorem dX6_place_5 : decode cX6_place 5 = .ok (.invokestatic 54, 3) := by decide +kernel
theorem dX6_place_8 : decode cX6_place 8 = .ok (.ifCond .ne 5, 3) := by decide +kernel
theorem dX6_place_11 : decode cX6_place 11 = .ok (.iconst (-1), 1) := by decide +kernel
theorem dX6_place_12 : decode cX6_place 12 = .ok (.ireturn, 1) := by decide +kernel
theorem dX6_place_13 : decode cX6_place 13 = .ok (.aload_n 0, 1) := by decide +kernel
theorem dX6_place_14 : decode cX6_place 14 = .ok (.getfield 10, 3) := by decide +kernel
theorem dX6_place_17 : decode cX6_place 17 = .ok (.getfield 58, 3) := by decide +kernel
theorem dX6_place_20 : decode cX6_place 20 = .ok (.bipush 12, 2) := by decide +kernel
theorem dX6_place_22 : decode cX6_place 22 = .ok (.if_icmp .lt 6, 3) := by decide +kernel
theorem dX6_place_25 : decode cX6_place 25 = .ok (.bipush (-3), 2) := by decide +kernel
theorem dX6_place_27 : decode cX6_place 27 = .ok (.ireturn, 1) := by decide +kernel
theorem dX6_place_28 : decode cX6_place 28 = .ok (.aload_n 0, 1) := by decide +kernel
theorem dX6_place_29 : decode cX6_place 29 = .ok (.getfield 10, 3) := by decide +kernel
theorem dX6_place_32 : decode cX6_place 32 = .ok (.iload_n 1, 1) := by decide +kernel
theorem dX6_place_33 : decode cX6_place 33 = .ok (.iconst 0, 1) := by decide +kernel
theorem dX6_place_34 : decode cX6_place 34 = .ok (.invokevirtual 62, 3) := by decide +kernel
theorem dX6_place_37 : decode cX6_place 37 = .ok (.ireturn, 1) := by decide +kernel
theorem dX6_make_0 : decode cX6_make 0 = .ok (.aload_n 0, 1) := by decide +kernel
theorem dX6_make_1 : decode cX6_make 1 = .ok (.getfield 10, 3) := by decide +kernel
theorem dX6_make_4 : decode cX6_make 4 = .ok (.iload_n 1, 1) := by decide +kernel
theorem dX6_make_5 : decode cX6_make 5 = .ok (.invokevirtual 66, 3) := by decide +kernel
theorem dX6_make_8 : decode cX6_make 8 = .ok (.ifCond .ne 6, 3) := by decide +kernel
theorem dX6_make_11 : decode cX6_make 11 = .ok (.ldc 70, 2) := by decide +kernel
theorem dX6_make_13 : decode cX6_make 13 = .ok (.ireturn, 1) := by decide +kernel
theorem dX6_make_14 : decode cX6_make 14 = .ok (.iload_n 2, 1) := by decide +kernel
theorem dX6_make_15 : decode cX6_make 15 = .ok (.tableswitch 89 0 2 #[25, 54, 61], 25) := by decide +kernel
theorem dX6_make_40 : decode cX6_make 40 = .ok (.iload_n 3, 1) := by decide +kernel
theorem dX6_make_41 : decode cX6_make 41 = .ok (.bipush (-20), 2) := by decide +kernel
theorem dX6_make_43 : decode cX6_make 43 = .ok (.bipush 60, 2) := by decide +kernel
theorem dX6_make_45 : decode cX6_make 45 = .ok (.invokestatic 54, 3) := by decide +kernel
theorem dX6_make_48 : decode cX6_make 48 = .ok (.ifCond .eq 18, 3) := by decide +kernel
theorem dX6_make_51 : decode cX6_make 51 = .ok (.aload_n 0, 1) := by decide +kernel
theorem dX6_make_52 : decode cX6_make 52 = .ok (.getfield 10, 3) := by decide +kernel
theorem dX6_make_55 : decode cX6_make 55 = .ok (.getfield 71, 3) := by decide +kernel
theorem dX6_make_58 : decode cX6_make 58 = .ok (.iload_n 1, 1) := by decide +kernel
theorem dX6_make_59 : decode cX6_make 59 = .ok (.iload_n 3, 1) := by decide +kernel
theorem dX6_make_60 : decode cX6_make 60 = .ok (.invokestatic 75, 3) := by decide +kernel
theorem dX6_make_63 : decode cX6_make 63 = .ok (.goto 5, 3) := by decide +kernel
theorem dX6_make_66 : decode cX6_make 66 = .ok (.ldc 70, 2) := by decide +kernel
theorem dX6_make_68 : decode cX6_make 68 = .ok (.ireturn, 1) := by decide +kernel
theorem dX6_make_69 : decode cX6_make 69 = .ok (.aload_n 0, 1) := by decide +kernel
theorem dX6_make_70 : decode cX6_make 70 = .ok (.iload_n 1, 1) := by decide +kernel
theorem dX6_make_71 : decode cX6_make 71 = .ok (.iload_n 3, 1) := by decide +kernel
theorem dX6_make_72 : decode cX6_make 72 = .ok (.invokevirtual 79, 3) := by decide +kernel
theorem dX6_make_75 : decode cX6_make 75 = .ok (.ireturn, 1) := by decide +kernel
theorem dX6_make_76 : decode cX6_make 76 = .ok (.iload_n 3, 1) := by decide +kernel
theorem dX6_make_77 : decode cX6_make 77 = .ok (.bipush (-5), 2) := by decide +kernel
theorem dX6_make_79 : decode cX6_make 79 = .ok (.iconst 5, 1) := by decide +kernel
theorem dX6_make_80 : decode cX6_make 80 = .ok (.invokestatic 54, 3) := by decide +kernel
theorem dX6_make_83 : decode cX6_make 83 = .ok (.ifCond .eq 18, 3) := by decide +kernel
theorem dX6_make_86 : decode cX6_make 86 = .ok (.aload_n 0, 1) := by decide +kernel
theorem dX6_make_87 : decode cX6_make 87 = .ok (.getfield 10, 3) := by decide +kernel
theorem dX6_make_90 : decode cX6_make 90 = .ok (.getfield 82, 3) := by decide +kernel
theorem dX6_make_93 : decode cX6_make 93 = .ok (.iload_n 1, 1) := by decide +kernel
theorem dX6_make_94 : decode cX6_make 94 = .ok (.iload_n 3, 1) := by decide +kernel
theorem dX6_make_95 : decode cX6_make 95 = .ok (.invokestatic 75, 3) := by decide +kernel
theorem dX6_make_98 : decode cX6_make 98 = .ok (.goto 5, 3) := by decide +kernel
theorem dX6_make_101 : decode cX6_make 101 = .ok (.ldc 70, 2) := by decide +kernel
theorem dX6_make_103 : decode cX6_make 103 = .ok (.ireturn, 1) := by decide +kernel
theorem dX6_make_104 : decode cX6_make 104 = .ok (.ldc 70, 2) := by decide +kernel
theorem dX6_make_106 : decode cX6_make 106 = .ok (.ireturn, 1) := by decide +kernel
theorem dX6_makeSplices_0 : decode cX6_makeSplices 0 = .ok (.iload_n 2, 1) := by decide +kernel
theorem dX6_makeSplices_1 : decode cX6_makeSplices 1 = .ok (.iconst 0, 1) := by decide +kernel
theorem dX6_makeSplices_2 : decode cX6_makeSplices 2 = .ok (.bipush 20, 2) := by decide +kernel
theorem dX6_makeSplices_4 : decode cX6_makeSplices 4 = .ok (.invokestatic 54, 3) := by decide +kernel
theorem dX6_makeSplices_7 : decode cX6_makeSplices 7 = .ok (.ifCond .ne 6, 3) := by decide +kernel
theorem dX6_makeSplices_10 : decode cX6_makeSplices 10 = .ok (.ldc 70, 2) := by decide +kernel
theorem dX6_makeSplices_12 : decode cX6_makeSplices 12 = .ok (.ireturn, 1) := by decide +kernel
theorem dX6_makeSplices_13 : decode cX6_makeSplices 13 = .ok (.iload_n 2, 1) := by decide +kernel
theorem dX6_makeSplices_14 : decode cX6_makeSplices 14 = .ok (.ifCond .le 18, 3) := by decide +kernel
theorem dX6_makeSplices_17 : decode cX6_makeSplices 17 = .ok (.aload_n 0, 1) := by decide +kernel
theorem dX6_makeSplices_18 : decode cX6_makeSplices 18 = .ok (.getfield 10, 3) := by decide +kernel
theorem dX6_makeSplices_21 : decode cX6_makeSplices 21 = .ok (.iload_n 1, 1) := by decide +kernel
theorem dX6_makeSplices_22 : decode cX6_makeSplices 22 = .ok (.invokevirtual 85, 3) := by decide +kernel
theorem dX6_makeSplices_25 : decode cX6_makeSplices 25 = .ok (.iconst 3, 1) := by decide +kernel
theorem dX6_makeSplices_26 : decode cX6_makeSplices 26 = .ok (.if_icmp .lt 6, 3) := by decide +kernel
theorem dX6_makeSplices_29 : decode cX6_makeSplices 29 = .ok (.ldc 89, 2) := by decide +kernel
theorem dX6_makeSplices_31 : decode cX6_makeSplices 31 = .ok (.ireturn, 1) := by decide +kernel
theorem dX6_makeSplices_32 : decode cX6_makeSplices 32 = .ok (.aload_n 0, 1) := by decide +kernel
theorem dX6_makeSplices_33 : decode cX6_makeSplices 33 = .ok (.getfield 10, 3) := by decide +kernel
theorem dX6_makeSplices_36 : decode cX6_makeSplices 36 = .ok (.getfield 90, 3) := by decide +kernel
theorem dX6_makeSplices_39 : decode cX6_makeSplices 39 = .ok (.iload_n 1, 1) := by decide +kernel
theorem dX6_makeSplices_40 : decode cX6_makeSplices 40 = .ok (.iload_n 2, 1) := by decide +kernel
theorem dX6_makeSplices_41 : decode cX6_makeSplices 41 = .ok (.invokestatic 75, 3) := by decide +kernel
theorem dX6_makeSplices_44 : decode cX6_makeSplices 44 = .ok (.ireturn, 1) := by decide +kernel
theorem dX6_path_0 : decode cX6_path 0 = .ok (.aload_n 0, 1) := by decide +kernel
theorem dX6_path_1 : decode cX6_path 1 = .ok (.getfield 10, 3) := by decide +kernel
theorem dX6_path_4 : decode cX6_path 4 = .ok (.iload_n 1, 1) := by decide +kernel
theorem dX6_path_5 : decode cX6_path 5 = .ok (.invokevirtual 66, 3) := by decide +kernel
theorem dX6_path_8 : decode cX6_path 8 = .ok (.ifCond .eq 29, 3) := by decide +kernel
theorem dX6_path_11 : decode cX6_path 11 = .ok (.aload_n 0, 1) := by decide +kernel
theorem dX6_path_12 : decode cX6_path 12 = .ok (.getfield 10, 3) := by decide +kernel
theorem dX6_path_15 : decode cX6_path 15 = .ok (.iload_n 2, 1) := by decide +kernel
theorem dX6_path_16 : decode cX6_path 16 = .ok (.invokevirtual 66, 3) := by decide +kernel
theorem dX6_path_19 : decode cX6_path 19 = .ok (.ifCond .eq 18, 3) := by decide +kernel
theorem dX6_path_22 : decode cX6_path 22 = .ok (.iload_n 1, 1) := by decide +kernel
theorem dX6_path_23 : decode cX6_path 23 = .ok (.iload_n 2, 1) := by decide +kernel
theorem dX6_path_24 : decode cX6_path 24 = .ok (.if_icmp .eq 13, 3) := by decide +kernel
theorem dX6_path_27 : decode cX6_path 27 = .ok (.iload_n 3, 1) := by decide +kernel
theorem dX6_path_28 : decode cX6_path 28 = .ok (.iconst 0, 1) := by decide +kernel
theorem dX6_path_29 : decode cX6_path 29 = .ok (.bipush 60, 2) := by decide +kernel
theorem dX6_path_31 : decode cX6_path 31 = .ok (.invokestatic 54, 3) := by decide +kernel
theorem dX6_path_34 : decode cX6_path 34 = .ok (.ifCond .ne 5, 3) := by decide +kernel
theorem dX6_path_37 : decode cX6_path 37 = .ok (.iconst (-1), 1) := by decide +kernel
theorem dX6_path_38 : decode cX6_path 38 = .ok (.ireturn, 1) := by decide +kernel
theorem dX6_path_39 : decode cX6_path 39 = .ok (.aload_n 0, 1) := by decide +kernel
theorem dX6_path_40 : decode cX6_path 40 = .ok (.getfield 10, 3) := by decide +kernel
theorem dX6_path_43 : decode cX6_path 43 = .ok (.getfield 93, 3) := by decide +kernel
theorem dX6_path_46 : decode cX6_path 46 = .ok (.iload_n 1, 1) := by decide +kernel
theorem dX6_path_47 : decode cX6_path 47 = .ok (.aaload, 1) := by decide +kernel
theorem dX6_path_48 : decode cX6_path 48 = .ok (.iload_n 2, 1) := by decide +kernel
theorem dX6_path_49 : decode cX6_path 49 = .ok (.iaload, 1) := by decide +kernel
theorem dX6_path_50 : decode cX6_path 50 = .ok (.istore 4, 2) := by decide +kernel
theorem dX6_path_52 : decode cX6_path 52 = .ok (.aload_n 0, 1) := by decide +kernel
theorem dX6_path_53 : decode cX6_path 53 = .ok (.getfield 10, 3) := by decide +kernel
theorem dX6_path_56 : decode cX6_path 56 = .ok (.iload_n 1, 1) := by decide +kernel
theorem dX6_path_57 : decode cX6_path 57 = .ok (.iload_n 2, 1) := by decide +kernel
theorem dX6_path_58 : decode cX6_path 58 = .ok (.iload_n 3, 1) := by decide +kernel
theorem dX6_path_59 : decode cX6_path 59 = .ok (.invokevirtual 97, 3) := by decide +kernel
theorem dX6_path_62 : decode cX6_path 62 = .ok (.iload 4, 2) := by decide +kernel
theorem dX6_path_64 : decode cX6_path 64 = .ok (.ireturn, 1) := by decide +kernel
theorem dX6_tide_0 : decode cX6_tide 0 = .ok (.iload_n 1, 1) := by decide +kernel
theorem dX6_tide_1 : decode cX6_tide 1 = .ok (.invokestatic 101, 3) := by decide +kernel
theorem dX6_tide_4 : decode cX6_tide 4 = .ok (.ifCond .eq 14, 3) := by decide +kernel
theorem dX6_tide_7 : decode cX6_tide 7 = .ok (.iload_n 2, 1) := by decide +kernel
theorem dX6_tide_8 : decode cX6_tide 8 = .ok (.bipush (-20), 2) := by decide +kernel
theorem dX6_tide_10 : decode cX6_tide 10 = .ok (.bipush 20, 2) := by decide +kernel
theorem dX6_tide_12 : decode cX6_tide 12 = .ok (.invokestatic 54, 3) := by decide +kernel
theorem dX6_tide_15 : decode cX6_tide 15 = .ok (.ifCond .ne 6, 3) := by decide +kernel
theorem dX6_tide_18 : decode cX6_tide 18 = .ok (.ldc 70, 2) := by decide +kernel
theorem dX6_tide_20 : decode cX6_tide 20 = .ok (.ireturn, 1) := by decide +kernel
theorem dX6_tide_21 : decode cX6_tide 21 = .ok (.aload_n 0, 1) := by decide +kernel
theorem dX6_tide_22 : decode cX6_tide 22 = .ok (.getfield 10, 3) := by decide +kernel
theorem dX6_tide_25 : decode cX6_tide 25 = .ok (.getfield 104, 3) := by decide +kernel
theorem dX6_tide_28 : decode cX6_tide 28 = .ok (.iload_n 1, 1) := by decide +kernel
theorem dX6_tide_29 : decode cX6_tide 29 = .ok (.iload_n 2, 1) := by decide +kernel
theorem dX6_tide_30 : decode cX6_tide 30 = .ok (.invokestatic 75, 3) := by decide +kernel
theorem dX6_tide_33 : decode cX6_tide 33 = .ok (.ireturn, 1) := by decide +kernel
theorem dX6_set_0 : decode cX6_set 0 = .ok (.iload_n 1, 1) := by decide +kernel
theorem dX6_set_1 : decode cX6_set 1 = .ok (.ifCond .ne 31, 3) := by decide +kernel
theorem dX6_set_4 : decode cX6_set 4 = .ok (.iload_n 2, 1) := by decide +kernel
theorem dX6_set_5 : decode cX6_set 5 = .ok (.iconst 0, 1) := by decide +kernel
theorem dX6_set_6 : decode cX6_set 6 = .ok (.bipush 40, 2) := by decide +kernel
theorem dX6_set_8 : decode cX6_set 8 = .ok (.invokestatic 54, 3) := by decide +kernel
theorem dX6_set_11 : decode cX6_set 11 = .ok (.ifCond .eq 21, 3) := by decide +kernel
theorem dX6_set_14 : decode cX6_set 14 = .ok (.aload_n 0, 1) := by decide +kernel
theorem dX6_set_15 : decode cX6_set 15 = .ok (.getfield 10, 3) := by decide +kernel
theorem dX6_set_18 : decode cX6_set 18 = .ok (.getfield 107, 3) := by decide +kernel
theorem dX6_set_21 : decode cX6_set 21 = .ok (.istore_n 3, 1) := by decide +kernel
theorem dX6_set_22 : decode cX6_set 22 = .ok (.aload_n 0, 1) := by decide +kernel
theorem dX6_set_23 : decode cX6_set 23 = .ok (.getfield 10, 3) := by decide +kernel
theorem dX6_set_26 : decode cX6_set 26 = .ok (.iload_n 2, 1) := by decide +kernel
theorem dX6_set_27 : decode cX6_set 27 = .ok (.putfield 107, 3) := by decide +kernel
theorem dX6_set_30 : decode cX6_set 30 = .ok (.iload_n 3, 1) := by decide +kernel
theorem dX6_set_31 : decode cX6_set 31 = .ok (.ireturn, 1) := by decide +kernel
theorem dX6_set_32 : decode cX6_set 32 = .ok (.iload_n 1, 1) := by decide +kernel
theorem dX6_set_33 : decode cX6_set 33 = .ok (.iconst 1, 1) := by decide +kernel
theorem dX6_set_34 : decode cX6_set 34 = .ok (.if_icmp .ne 31, 3) := by decide +kernel
theorem dX6_set_37 : decode cX6_set 37 = .ok (.iload_n 2, 1) := by decide +kernel
theorem dX6_set_38 : decode cX6_set 38 = .ok (.iconst 0, 1) := by decide +kernel
theorem dX6_set_39 : decode cX6_set 39 = .ok (.bipush 60, 2) := by decide +kernel
theorem dX6_set_41 : decode cX6_set 41 = .ok (.invokestatic 54, 3) := by decide +kernel
theorem dX6_set_44 : decode cX6_set 44 = .ok (.ifCond .eq 21, 3) := by decide +kernel
theorem dX6_set_47 : decode cX6_set 47 = .ok (.aload_n 0, 1) := by decide +kernel
theorem dX6_set_48 : decode cX6_set 48 = .ok (.getfield 10, 3) := by decide +kernel
theorem dX6_set_51 : decode cX6_set 51 = .ok (.getfield 110, 3) := by decide +kernel
theorem dX6_set_54 : decode cX6_set 54 = .ok (.istore_n 3, 1) := by decide +kernel
theorem dX6_set_55 : decode cX6_set 55 = .ok (.aload_n 0, 1) := by decide +kernel
theorem dX6_set_56 : decode cX6_set 56 = .ok (.getfield 10, 3) := by decide +kernel
theorem dX6_set_59 : decode cX6_set 59 = .ok (.iload_n 2, 1) := by decide +kernel
theorem dX6_set_60 : decode cX6_set 60 = .ok (.putfield 110, 3) := by decide +kernel
theorem dX6_set_63 : decode cX6_set 63 = .ok (.iload_n 3, 1) := by decide +kernel
theorem dX6_set_64 : decode cX6_set 64 = .ok (.ireturn, 1) := by decide +kernel
theorem dX6_set_65 : decode cX6_set 65 = .ok (.iconst (-1), 1) := by decide +kernel
theorem dX6_set_66 : decode cX6_set 66 = .ok (.ireturn, 1) := by decide +kernel
theorem dX6_person_0 : decode cX6_person 0 = .ok (.iload_n 1, 1) := by decide +kernel
theorem dX6_person_1 : decode cX6_person 1 = .ok (.iconst 0, 1) := by decide +kernel
theorem dX6_person_2 : decode cX6_person 2 = .ok (.iconst 3, 1) := by decide +kernel
theorem dX6_person_3 : decode cX6_person 3 = .ok (.invokestatic 54, 3) := by decide +kernel
theorem dX6_person_6 : decode cX6_person 6 = .ok (.ifCond .eq 24, 3) := by decide +kernel
theorem dX6_person_9 : decode cX6_person 9 = .ok (.iload_n 2, 1) := by decide +kernel
theorem dX6_person_10 : decode cX6_person 10 = .ok (.iconst 0, 1) := by decide +kernel
theorem dX6_person_11 : decode cX6_person 11 = .ok (.bipush 60, 2) := by decide +kernel
theorem dX6_person_13 : decode cX6_person 13 = .ok (.invokestatic 54, 3) := by decide +kernel
theorem dX6_person_16 : decode cX6_person 16 = .ok (.ifCond .eq 14, 3) := by decide +kernel
theorem dX6_person_19 : decode cX6_person 19 = .ok (.aload_n 0, 1) := by decide +kernel
theorem dX6_person_20 : decode cX6_person 20 = .ok (.getfield 10, 3) := by decide +kernel
theorem dX6_person_23 : decode cX6_person 23 = .ok (.iload_n 3, 1) := by decide +kernel
theorem dX6_person_24 : decode cX6_person 24 = .ok (.invokevirtual 66, 3) := by decide +kernel
theorem dX6_person_27 : decode cX6_person 27 = .ok (.ifCond .ne 5, 3) := by decide +kernel
theorem dX6_person_30 : decode cX6_person 30 = .ok (.iconst (-1), 1) := by decide +kernel
theorem dX6_person_31 : decode cX6_person 31 = .ok (.ireturn, 1) := by decide +kernel
theorem dX6_person_32 : decode cX6_person 32 = .ok (.aload_n 0, 1) := by decide +kernel
theorem dX6_person_33 : decode cX6_person 33 = .ok (.getfield 10, 3) := by decide +kernel
theorem dX6_person_36 : decode cX6_person 36 = .ok (.getfield 113, 3) := by decide +kernel
theorem dX6_person_39 : decode cX6_person 39 = .ok (.bipush 8, 2) := by decide +kernel
theorem dX6_person_41 : decode cX6_person 41 = .ok (.if_icmp .lt 6, 3) := by decide +kernel
theorem dX6_person_44 : decode cX6_person 44 = .ok (.bipush (-3), 2) := by decide +kernel
theorem dX6_person_46 : decode cX6_person 46 = .ok (.ireturn, 1) := by decide +kernel
theorem dX6_person_47 : decode cX6_person 47 = .ok (.aload_n 0, 1) := by decide +kernel
theorem dX6_person_48 : decode cX6_person 48 = .ok (.getfield 10, 3) := by decide +kernel
theorem dX6_person_51 : decode cX6_person 51 = .ok (.iload_n 1, 1) := by decide +kernel
theorem dX6_person_52 : decode cX6_person 52 = .ok (.iload_n 2, 1) := by decide +kernel
theorem dX6_person_53 : decode cX6_person 53 = .ok (.iload_n 3, 1) := by decide +kernel
theorem dX6_person_54 : decode cX6_person 54 = .ok (.invokevirtual 116, 3) := by decide +kernel
theorem dX6_person_57 : decode cX6_person 57 = .ok (.ireturn, 1) := by decide +kernel
theorem dX6_of_0 : decode cX6_of 0 = .ok (.aload_n 0, 1) := by decide +kernel
theorem dX6_of_1 : decode cX6_of 1 = .ok (.getfield 10, 3) := by decide +kernel
theorem dX6_of_4 : decode cX6_of 4 = .ok (.iload_n 1, 1) := by decide +kernel
theorem dX6_of_5 : decode cX6_of 5 = .ok (.invokevirtual 120, 3) := by decide +kernel
theorem dX6_of_8 : decode cX6_of 8 = .ok (.ifCond .ne 5, 3) := by decide +kernel
theorem dX6_of_11 : decode cX6_of 11 = .ok (.iconst (-1), 1) := by decide +kernel
theorem dX6_of_12 : decode cX6_of 12 = .ok (.ireturn, 1) := by decide +kernel
theorem dX6_of_13 : decode cX6_of 13 = .ok (.iload_n 2, 1) := by decide +kernel
theorem dX6_of_14 : decode cX6_of 14 = .ok (.tableswitch 69 0 3 #[30, 40, 50, 59], 30) := by decide +kernel
theorem dX6_of_44 : decode cX6_of 44 = .ok (.aload_n 0, 1) := by decide +kernel
theorem dX6_of_45 : decode cX6_of 45 = .ok (.getfield 10, 3) := by decide +kernel
theorem dX6_of_48 : decode cX6_of 48 = .ok (.getfield 123, 3) := by decide +kernel
theorem dX6_of_51 : decode cX6_of 51 = .ok (.iload_n 1, 1) := by decide +kernel
theorem dX6_of_52 : decode cX6_of 52 = .ok (.iaload, 1) := by decide +kernel
theorem dX6_of_53 : decode cX6_of 53 = .ok (.ireturn, 1) := by decide +kernel
theorem dX6_of_54 : decode cX6_of 54 = .ok (.aload_n 0, 1) := by decide +kernel
theorem dX6_of_55 : decode cX6_of 55 = .ok (.getfield 10, 3) := by decide +kernel
theorem dX6_of_58 : decode cX6_of 58 = .ok (.getfield 126, 3) := by decide +kernel
theorem dX6_of_61 : decode cX6_of 61 = .ok (.iload_n 1, 1) := by decide +kernel
theorem dX6_of_62 : decode cX6_of 62 = .ok (.iaload, 1) := by decide +kernel
theorem dX6_of_63 : decode cX6_of 63 = .ok (.ireturn, 1) := by decide +kernel
theorem dX6_of_64 : decode cX6_of 64 = .ok (.aload_n 0, 1) := by decide +kernel
theorem dX6_of_65 : decode cX6_of 65 = .ok (.getfield 10, 3) := by decide +kernel
theorem dX6_of_68 : decode cX6_of 68 = .ok (.iload_n 1, 1) := by decide +kernel
theorem dX6_of_69 : decode cX6_of 69 = .ok (.invokevirtual 129, 3) := by decide +kernel
theorem dX6_of_72 : decode cX6_of 72 = .ok (.ireturn, 1) := by decide +kernel
theorem dX6_of_73 : decode cX6_of 73 = .ok (.aload_n 0, 1) := by decide +kernel
theorem dX6_of_74 : decode cX6_of 74 = .ok (.getfield 10, 3) := by decide +kernel
theorem dX6_of_77 : decode cX6_of 77 = .ok (.getfield 132, 3) := by decide +kernel
theorem dX6_of_80 : decode cX6_of 80 = .ok (.iload_n 1, 1) := by decide +kernel
theorem dX6_of_81 : decode cX6_of 81 = .ok (.iaload, 1) := by decide +kernel
theorem dX6_of_82 : decode cX6_of 82 = .ok (.ireturn, 1) := by decide +kernel
theorem dX6_of_83 : decode cX6_of 83 = .ok (.iconst (-1), 1) := by decide +kernel
theorem dX6_of_84 : decode cX6_of 84 = .ok (.ireturn, 1) := by decide +kernel
theorem dX6_type_0 : decode cX6_type 0 = .ok (.iload_n 3, 1) := by decide +kernel
theorem dX6_type_1 : decode cX6_type 1 = .ok (.iconst 1, 1) := by decide +kernel
theorem dX6_type_2 : decode cX6_type 2 = .ok (.bipush 8, 2) := by decide +kernel
theorem dX6_type_4 : decode cX6_type 4 = .ok (.invokestatic 54, 3) := by decide +kernel
theorem dX6_type_7 : decode cX6_type 7 = .ok (.ifCond .ne 5, 3) := by decide +kernel
theorem dX6_type_10 : decode cX6_type 10 = .ok (.iconst (-1), 1) := by decide +kernel
theorem dX6_type_11 : decode cX6_type 11 = .ok (.ireturn, 1) := by decide +kernel
theorem dX6_type_12 : decode cX6_type 12 = .ok (.iconst 0, 1) := by decide +kernel
theorem dX6_type_13 : decode cX6_type 13 = .ok (.istore 4, 2) := by decide +kernel
theorem dX6_type_15 : decode cX6_type 15 = .ok (.iload 4, 2) := by decide +kernel
theorem dX6_type_17 : decode cX6_type 17 = .ok (.iload_n 3, 1) := by decide +kernel
theorem dX6_type_18 : decode cX6_type 18 = .ok (.if_icmp .ge 27, 3) := by decide +kernel
theorem dX6_type_21 : decode cX6_type 21 = .ok (.lload_n 1, 1) := by decide +kernel
theorem dX6_type_22 : decode cX6_type 22 = .ok (.iload 4, 2) := by decide +kernel
theorem dX6_type_24 : decode cX6_type 24 = .ok (.invokestatic 135, 3) := by decide +kernel
theorem dX6_type_27 : decode cX6_type 27 = .ok (.bipush 32, 2) := by decide +kernel
theorem dX6_type_29 : decode cX6_type 29 = .ok (.bipush 126, 2) := by decide +kernel
theorem dX6_type_31 : decode cX6_type 31 = .ok (.invokestatic 54, 3) := by decide +kernel
theorem dX6_type_34 : decode cX6_type 34 = .ok (.ifCond .ne 5, 3) := by decide +kernel
theorem dX6_type_37 : decode cX6_type 37 = .ok (.iconst (-1), 1) := by decide +kernel
theorem dX6_type_38 : decode cX6_type 38 = .ok (.ireturn, 1) := by decide +kernel
theorem dX6_type_39 : decode cX6_type 39 = .ok (.iinc 4 1, 3) := by decide +kernel
theorem dX6_type_42 : decode cX6_type 42 = .ok (.goto (-27), 3) := by decide +kernel
theorem dX6_type_45 : decode cX6_type 45 = .ok (.aload_n 0, 1) := by decide +kernel
theorem dX6_type_46 : decode cX6_type 46 = .ok (.getfield 22, 3) := by decide +kernel
theorem dX6_type_49 : decode cX6_type 49 = .ok (.getfield 139, 3) := by decide +kernel
theorem dX6_type_52 : decode cX6_type 52 = .ok (.bipush 80, 2) := by decide +kernel
theorem dX6_type_54 : decode cX6_type 54 = .ok (.iload_n 3, 1) := by decide +kernel
theorem dX6_type_55 : decode cX6_type 55 = .ok (.isub, 1) := by decide +kernel
theorem dX6_type_56 : decode cX6_type 56 = .ok (.if_icmp .le 6, 3) := by decide +kernel
theorem dX6_type_59 : decode cX6_type 59 = .ok (.bipush (-3), 2) := by decide +kernel
theorem dX6_type_61 : decode cX6_type 61 = .ok (.ireturn, 1) := by decide +kernel
theorem dX6_type_62 : decode cX6_type 62 = .ok (.iload_n 3, 1) := by decide +kernel
theorem dX6_type_63 : decode cX6_type 63 = .ok (.iconst 1, 1) := by decide +kernel
theorem dX6_type_64 : decode cX6_type 64 = .ok (.isub, 1) := by decide +kernel
theorem dX6_type_65 : decode cX6_type 65 = .ok (.istore 4, 2) := by decide +kernel
theorem dX6_type_67 : decode cX6_type 67 = .ok (.iload 4, 2) := by decide +kernel
theorem dX6_type_69 : decode cX6_type 69 = .ok (.ifCond .lt 22, 3) := by decide +kernel
theorem dX6_type_72 : decode cX6_type 72 = .ok (.aload_n 0, 1) := by decide +kernel
theorem dX6_type_73 : decode cX6_type 73 = .ok (.getfield 22, 3) := by decide +kernel
theorem dX6_type_76 : decode cX6_type 76 = .ok (.lload_n 1, 1) := by decide +kernel
theorem dX6_type_77 : decode cX6_type 77 = .ok (.iload 4, 2) := by decide +kernel
theorem dX6_type_79 : decode cX6_type 79 = .ok (.invokestatic 135, 3) := by decide +kernel
theorem dX6_type_82 : decode cX6_type 82 = .ok (.invokevirtual 142, 3) := by decide +kernel
theorem dX6_type_85 : decode cX6_type 85 = .ok (.iinc 4 (-1), 3) := by decide +kernel
theorem dX6_type_88 : decode cX6_type 88 = .ok (.goto (-21), 3) := by decide +kernel
theorem dX6_type_91 : decode cX6_type 91 = .ok (.aload_n 0, 1) := by decide +kernel
theorem dX6_type_92 : decode cX6_type 92 = .ok (.getfield 22, 3) := by decide +kernel
theorem dX6_type_95 : decode cX6_type 95 = .ok (.getfield 139, 3) := by decide +kernel
theorem dX6_type_98 : decode cX6_type 98 = .ok (.ireturn, 1) := by decide +kernel
theorem dX6_lagoon_0 : decode cX6_lagoon 0 = .ok (.aload_n 0, 1) := by decide +kernel
theorem dX6_lagoon_1 : decode cX6_lagoon 1 = .ok (.getfield 22, 3) := by decide +kernel
theorem dX6_lagoon_4 : decode cX6_lagoon 4 = .ok (.invokevirtual 146, 3) := by decide +kernel
theorem dX6_lagoon_7 : decode cX6_lagoon 7 = .ok (.istore_n 1, 1) := by decide +kernel
theorem dX6_lagoon_8 : decode cX6_lagoon 8 = .ok (.iload_n 1, 1) := by decide +kernel
theorem dX6_lagoon_9 : decode cX6_lagoon 9 = .ok (.ifCond .le 14, 3) := by decide +kernel
theorem dX6_lagoon_12 : decode cX6_lagoon 12 = .ok (.aload_n 0, 1) := by decide +kernel
theorem dX6_lagoon_13 : decode cX6_lagoon 13 = .ok (.getfield 10, 3) := by decide +kernel
theorem dX6_lagoon_16 : decode cX6_lagoon 16 = .ok (.aload_n 0, 1) := by decide +kernel
theorem dX6_lagoon_17 : decode cX6_lagoon 17 = .ok (.getfield 22, 3) := by decide +kernel
theorem dX6_lagoon_20 : decode cX6_lagoon 20 = .ok (.invokevirtual 150, 3) := by decide +kernel
theorem dX6_lagoon_23 : decode cX6_lagoon 23 = .ok (.aload_n 0, 1) := by decide +kernel
theorem dX6_lagoon_24 : decode cX6_lagoon 24 = .ok (.getfield 22, 3) := by decide +kernel
theorem dX6_lagoon_27 : decode cX6_lagoon 27 = .ok (.iconst 0, 1) := by decide +kernel
theorem dX6_lagoon_28 : decode cX6_lagoon 28 = .ok (.putfield 139, 3) := by decide +kernel
theorem dX6_lagoon_31 : decode cX6_lagoon 31 = .ok (.iload_n 1, 1) := by decide +kernel
theorem dX6_lagoon_32 : decode cX6_lagoon 32 = .ok (.ireturn, 1) := by decide +kernel
theorem dX6_paths_0 : decode cX6_paths 0 = .ok (.aload_n 0, 1) := by decide +kernel
theorem dX6_paths_1 : decode cX6_paths 1 = .ok (.getfield 22, 3) := by decide +kernel
theorem dX6_paths_4 : decode cX6_paths 4 = .ok (.aload_n 0, 1) := by decide +kernel
theorem dX6_paths_5 : decode cX6_paths 5 = .ok (.getfield 10, 3) := by decide +kernel
theorem dX6_paths_8 : decode cX6_paths 8 = .ok (.getfield 58, 3) := by decide +kernel
theorem dX6_paths_11 : decode cX6_paths 11 = .ok (.invokevirtual 154, 3) := by decide +kernel
theorem dX6_paths_14 : decode cX6_paths 14 = .ok (.istore_n 1, 1) := by decide +kernel
theorem dX6_paths_15 : decode cX6_paths 15 = .ok (.iload_n 1, 1) := by decide +kernel
theorem dX6_paths_16 : decode cX6_paths 16 = .ok (.ifCond .le 14, 3) := by decide +kernel
theorem dX6_paths_19 : decode cX6_paths 19 = .ok (.aload_n 0, 1) := by decide +kernel
theorem dX6_paths_20 : decode cX6_paths 20 = .ok (.getfield 10, 3) := by decide +kernel
theorem dX6_paths_23 : decode cX6_paths 23 = .ok (.aload_n 0, 1) := by decide +kernel
theorem dX6_paths_24 : decode cX6_paths 24 = .ok (.getfield 22, 3) := by decide +kernel
theorem dX6_paths_27 : decode cX6_paths 27 = .ok (.invokevirtual 157, 3) := by decide +kernel
theorem dX6_paths_30 : decode cX6_paths 30 = .ok (.aload_n 0, 1) := by decide +kernel
theorem dX6_paths_31 : decode cX6_paths 31 = .ok (.getfield 22, 3) := by decide +kernel
theorem dX6_paths_34 : decode cX6_paths 34 = .ok (.iconst 0, 1) := by decide +kernel
theorem dX6_paths_35 : decode cX6_paths 35 = .ok (.putfield 139, 3) := by decide +kernel
theorem dX6_paths_38 : decode cX6_paths 38 = .ok (.iload_n 1, 1) := by decide +kernel
theorem dX6_paths_39 : decode cX6_paths 39 = .ok (.ireturn, 1) := by decide +kernel
theorem dX6_count_0 : decode cX6_count 0 = .ok (.iload_n 1, 1) := by decide +kernel
theorem dX6_count_1 : decode cX6_count 1 = .ok (.tableswitch 75 0 4 #[35, 43, 51, 59, 67], 35) := by decide +kernel
theorem dX6_count_36 : decode cX6_count 36 = .ok (.aload_n 0, 1) := by decide +kernel
theorem dX6_count_37 : decode cX6_count 37 = .ok (.getfield 10, 3) := by decide +kernel
theorem dX6_count_40 : decode cX6_count 40 = .ok (.getfield 58, 3) := by decide +kernel
theorem dX6_count_43 : decode cX6_count 43 = .ok (.ireturn, 1) := by decide +kernel
theorem dX6_count_44 : decode cX6_count 44 = .ok (.aload_n 0, 1) := by decide +kernel
theorem dX6_count_45 : decode cX6_count 45 = .ok (.getfield 10, 3) := by decide +kernel
theorem dX6_count_48 : decode cX6_count 48 = .ok (.invokevirtual 160, 3) := by decide +kernel
theorem dX6_count_51 : decode cX6_count 51 = .ok (.ireturn, 1) := by decide +kernel
theorem dX6_count_52 : decode cX6_count 52 = .ok (.aload_n 0, 1) := by decide +kernel
theorem dX6_count_53 : decode cX6_count 53 = .ok (.getfield 10, 3) := by decide +kernel
theorem dX6_count_56 : decode cX6_count 56 = .ok (.getfield 113, 3) := by decide +kernel
theorem dX6_count_59 : decode cX6_count 59 = .ok (.ireturn, 1) := by decide +kernel
theorem dX6_count_60 : decode cX6_count 60 = .ok (.aload_n 0, 1) := by decide +kernel
theorem dX6_count_61 : decode cX6_count 61 = .ok (.getfield 10, 3) := by decide +kernel
theorem dX6_count_64 : decode cX6_count 64 = .ok (.getfield 163, 3) := by decide +kernel
theorem dX6_count_67 : decode cX6_count 67 = .ok (.ireturn, 1) := by decide +kernel
theorem dX6_count_68 : decode cX6_count 68 = .ok (.aload_n 0, 1) := by decide +kernel
theorem dX6_count_69 : decode cX6_count 69 = .ok (.getfield 10, 3) := by decide +kernel
theorem dX6_count_72 : decode cX6_count 72 = .ok (.getfield 166, 3) := by decide +kernel
theorem dX6_count_75 : decode cX6_count 75 = .ok (.ireturn, 1) := by decide +kernel
theorem dX6_count_76 : decode cX6_count 76 = .ok (.iconst (-1), 1) := by decide +kernel
theorem dX6_count_77 : decode cX6_count 77 = .ok (.ireturn, 1) := by decide +kernel
theorem dX6_water_0 : decode cX6_water 0 = .ok (.aload_n 0, 1) := by decide +kernel
theorem dX6_water_1 : decode cX6_water 1 = .ok (.getfield 10, 3) := by decide +kernel
theorem dX6_water_4 : decode cX6_water 4 = .ok (.iload_n 1, 1) := by decide +kernel
theorem dX6_water_5 : decode cX6_water 5 = .ok (.invokevirtual 66, 3) := by decide +kernel
theorem dX6_water_8 : decode cX6_water 8 = .ok (.ifCond .eq 10, 3) := by decide +kernel
theorem dX6_water_11 : decode cX6_water 11 = .ok (.iload_n 2, 1) := by decide +kernel
theorem dX6_water_12 : decode cX6_water 12 = .ok (.invokestatic 101, 3) := by decide +kernel
theorem dX6_water_15 : decode cX6_water 15 = .ok (.ifCond .ne 5, 3) := by decide +kernel
theorem dX6_water_18 : decode cX6_water 18 = .ok (.iconst (-1), 1) := by decide +kernel
theorem dX6_water_19 : decode cX6_water 19 = .ok (.ireturn, 1) := by decide +kernel
theorem dX6_water_20 : decode cX6_water 20 = .ok (.aload_n 0, 1) := by decide +kernel
theorem dX6_water_21 : decode cX6_water 21 = .ok (.getfield 10, 3) := by decide +kernel
theorem dX6_water_24 : decode cX6_water 24 = .ok (.iload_n 1, 1) := by decide +kernel
theorem dX6_water_25 : decode cX6_water 25 = .ok (.iload_n 2, 1) := by decide +kernel
theorem dX6_water_26 : decode cX6_water 26 = .ok (.invokevirtual 169, 3) := by decide +kernel
theorem dX6_water_29 : decode cX6_water 29 = .ok (.ireturn, 1) := by decide +kernel
theorem dX6_stands_0 : decode cX6_stands 0 = .ok (.aload_n 0, 1) := by decide +kernel
theorem dX6_stands_1 : decode cX6_stands 1 = .ok (.getfield 10, 3) := by decide +kernel
theorem dX6_stands_4 : decode cX6_stands 4 = .ok (.iload_n 1, 1) := by decide +kernel
theorem dX6_stands_5 : decode cX6_stands 5 = .ok (.invokevirtual 120, 3) := by decide +kernel
theorem dX6_stands_8 : decode cX6_stands 8 = .ok (.ifCond .eq 21, 3) := by decide +kernel
theorem dX6_stands_11 : decode cX6_stands 11 = .ok (.aload_n 0, 1) := by decide +kernel
theorem dX6_stands_12 : decode cX6_stands 12 = .ok (.getfield 10, 3) := by decide +kernel
theorem dX6_stands_15 : decode cX6_stands 15 = .ok (.iload_n 2, 1) := by decide +kernel
theorem dX6_stands_16 : decode cX6_stands 16 = .ok (.invokevirtual 66, 3) := by decide +kernel
theorem dX6_stands_19 : decode cX6_stands 19 = .ok (.ifCond .eq 10, 3) := by decide +kernel
theorem dX6_stands_22 : decode cX6_stands 22 = .ok (.iload_n 3, 1) := by decide +kernel
theorem dX6_stands_23 : decode cX6_stands 23 = .ok (.invokestatic 101, 3) := by decide +kernel
theorem dX6_stands_26 : decode cX6_stands 26 = .ok (.ifCond .ne 5, 3) := by decide +kernel
theorem dX6_stands_29 : decode cX6_stands 29 = .ok (.iconst (-1), 1) := by decide +kernel
theorem dX6_stands_30 : decode cX6_stands 30 = .ok (.ireturn, 1) := by decide +kernel
theorem dX6_stands_31 : decode cX6_stands 31 = .ok (.aload_n 0, 1) := by decide +kernel
theorem dX6_stands_32 : decode cX6_stands 32 = .ok (.getfield 10, 3) := by decide +kernel
theorem dX6_stands_35 : decode cX6_stands 35 = .ok (.iload_n 1, 1) := by decide +kernel
theorem dX6_stands_36 : decode cX6_stands 36 = .ok (.iload_n 2, 1) := by decide +kernel
theorem dX6_stands_37 : decode cX6_stands 37 = .ok (.iload_n 3, 1) := by decide +kernel
theorem dX6_stands_38 : decode cX6_stands 38 = .ok (.invokevirtual 172, 3) := by decide +kernel
theorem dX6_stands_41 : decode cX6_stands 41 = .ok (.ifCond .eq 7, 3) := by decide +kernel
theorem dX6_stands_44 : decode cX6_stands 44 = .ok (.iconst 1, 1) := by decide +kernel
theorem dX6_stands_45 : decode cX6_stands 45 = .ok (.goto 4, 3) := by decide +kernel
theorem dX6_stands_48 : decode cX6_stands 48 = .ok (.iconst 0, 1) := by decide +kernel
theorem dX6_stands_49 : decode cX6_stands 49 = .ok (.ireturn, 1) := by decide +kernel
theorem dX6_hours_0 : decode cX6_hours 0 = .ok (.aload_n 0, 1) := by decide +kernel
theorem dX6_hours_1 : decode cX6_hours 1 = .ok (.getfield 10, 3) := by decide +kernel
theorem dX6_hours_4 : decode cX6_hours 4 = .ok (.iload_n 1, 1) := by decide +kernel
theorem dX6_hours_5 : decode cX6_hours 5 = .ok (.invokevirtual 120, 3) := by decide +kernel
theorem dX6_hours_8 : decode cX6_hours 8 = .ok (.ifCond .eq 14, 3) := by decide +kernel
theorem dX6_hours_11 : decode cX6_hours 11 = .ok (.aload_n 0, 1) := by decide +kernel
theorem dX6_hours_12 : decode cX6_hours 12 = .ok (.getfield 10, 3) := by decide +kernel
theorem dX6_hours_15 : decode cX6_hours 15 = .ok (.iload_n 2, 1) := by decide +kernel
theorem dX6_hours_16 : decode cX6_hours 16 = .ok (.invokevirtual 66, 3) := by decide +kernel
theorem dX6_hours_19 : decode cX6_hours 19 = .ok (.ifCond .ne 5, 3) := by decide +kernel
theorem dX6_hours_22 : decode cX6_hours 22 = .ok (.iconst (-1), 1) := by decide +kernel
theorem dX6_hours_23 : decode cX6_hours 23 = .ok (.ireturn, 1) := by decide +kernel
theorem dX6_hours_24 : decode cX6_hours 24 = .ok (.iconst 0, 1) := by decide +kernel
theorem dX6_hours_25 : decode cX6_hours 25 = .ok (.istore_n 3, 1) := by decide +kernel
theorem dX6_hours_26 : decode cX6_hours 26 = .ok (.iconst 0, 1) := by decide +kernel
theorem dX6_hours_27 : decode cX6_hours 27 = .ok (.istore 4, 2) := by decide +kernel
theorem dX6_hours_29 : decode cX6_hours 29 = .ok (.iload 4, 2) := by decide +kernel
theorem dX6_hours_31 : decode cX6_hours 31 = .ok (.bipush 24, 2) := by decide +kernel
theorem dX6_hours_33 : decode cX6_hours 33 = .ok (.if_icmp .ge 30, 3) := by decide +kernel
theorem dX6_hours_36 : decode cX6_hours 36 = .ok (.aload_n 0, 1) := by decide +kernel
theorem dX6_hours_37 : decode cX6_hours 37 = .ok (.getfield 10, 3) := by decide +kernel
theorem dX6_hours_40 : decode cX6_hours 40 = .ok (.iload_n 1, 1) := by decide +kernel
theorem dX6_hours_41 : decode cX6_hours 41 = .ok (.iload_n 2, 1) := by decide +kernel
theorem dX6_hours_42 : decode cX6_hours 42 = .ok (.iload 4, 2) := by decide +kernel
theorem dX6_hours_44 : decode cX6_hours 44 = .ok (.invokevirtual 172, 3) := by decide +kernel
theorem dX6_hours_47 : decode cX6_hours 47 = .ok (.ifCond .eq 10, 3) := by decide +kernel
theorem dX6_hours_50 : decode cX6_hours 50 = .ok (.iload_n 3, 1) := by decide +kernel
theorem dX6_hours_51 : decode cX6_hours 51 = .ok (.iconst 1, 1) := by decide +kernel
theorem dX6_hours_52 : decode cX6_hours 52 = .ok (.iload 4, 2) := by decide +kernel
theorem dX6_hours_54 : decode cX6_hours 54 = .ok (.ishl, 1) := by decide +kernel
theorem dX6_hours_55 : decode cX6_hours 55 = .ok (.ior, 1) := by decide +kernel
theorem dX6_hours_56 : decode cX6_hours 56 = .ok (.istore_n 3, 1) := by decide +kernel
theorem dX6_hours_57 : decode cX6_hours 57 = .ok (.iinc 4 1, 3) := by decide +kernel
theorem dX6_hours_60 : decode cX6_hours 60 = .ok (.goto (-31), 3) := by decide +kernel
theorem dX6_hours_63 : decode cX6_hours 63 = .ok (.iload_n 3, 1) := by decide +kernel
theorem dX6_hours_64 : decode cX6_hours 64 = .ok (.ireturn, 1) := by decide +kernel
theorem dX6_years_0 : decode cX6_years 0 = .ok (.iload_n 1, 1) := by decide +kernel
theorem dX6_years_1 : decode cX6_years 1 = .ok (.iconst 1, 1) := by decide +kernel
theorem dX6_years_2 : decode cX6_years 2 = .ok (.bipush 30, 2) := by decide +kernel
theorem dX6_years_4 : decode cX6_years 4 = .ok (.invokestatic 54, 3) := by decide +kernel
theorem dX6_years_7 : decode cX6_years 7 = .ok (.ifCond .ne 5, 3) := by decide +kernel
theorem dX6_years_10 : decode cX6_years 10 = .ok (.iconst (-1), 1) := by decide +kernel
theorem dX6_years_11 : decode cX6_years 11 = .ok (.ireturn, 1) := by decide +kernel
theorem dX6_years_12 : decode cX6_years 12 = .ok (.aload_n 0, 1) := by decide +kernel
theorem dX6_years_13 : decode cX6_years 13 = .ok (.getfield 10, 3) := by decide +kernel
theorem dX6_years_16 : decode cX6_years 16 = .ok (.getfield 166, 3) := by decide +kernel
theorem dX6_years_19 : decode cX6_years 19 = .ok (.sipush 999, 3) := by decide +kernel
theorem dX6_years_22 : decode cX6_years 22 = .ok (.iload_n 1, 1) := by decide +kernel
theorem dX6_years_23 : decode cX6_years 23 = .ok (.isub, 1) := by decide +kernel
theorem dX6_years_24 : decode cX6_years 24 = .ok (.if_icmp .le 6, 3) := by decide +kernel
theorem dX6_years_27 : decode cX6_years 27 = .ok (.bipush (-3), 2) := by decide +kernel
theorem dX6_years_29 : decode cX6_years 29 = .ok (.ireturn, 1) := by decide +kernel
theorem dX6_years_30 : decode cX6_years 30 = .ok (.aload_n 0, 1) := by decide +kernel
theorem dX6_years_31 : decode cX6_years 31 = .ok (.getfield 10, 3) := by decide +kernel
theorem dX6_years_34 : decode cX6_years 34 = .ok (.iload_n 1, 1) := by decide +kernel
theorem dX6_years_35 : decode cX6_years 35 = .ok (.invokevirtual 175, 3) := by decide +kernel
theorem dX6_years_38 : decode cX6_years 38 = .ok (.aload_n 0, 1) := by decide +kernel
theorem dX6_years_39 : decode cX6_years 39 = .ok (.getfield 10, 3) := by decide +kernel
theorem dX6_years_42 : decode cX6_years 42 = .ok (.getfield 166, 3) := by decide +kernel
theorem dX6_years_45 : decode cX6_years 45 = .ok (.ireturn, 1) := by decide +kernel
theorem dX6_way_0 : decode cX6_way 0 = .ok (.aload_n 0, 1) := by decide +kernel
theorem dX6_way_1 : decode cX6_way 1 = .ok (.getfield 10, 3) := by decide +kernel
theorem dX6_way_4 : decode cX6_way 4 = .ok (.iload_n 1, 1) := by decide +kernel
theorem dX6_way_5 : decode cX6_way 5 = .ok (.invokevirtual 120, 3) := by decide +kernel
theorem dX6_way_8 : decode cX6_way 8 = .ok (.ifCond .eq 31, 3) := by decide +kernel
theorem dX6_way_11 : decode cX6_way 11 = .ok (.aload_n 0, 1) := by decide +kernel
theorem dX6_way_12 : decode cX6_way 12 = .ok (.getfield 10, 3) := by decide +kernel
theorem dX6_way_15 : decode cX6_way 15 = .ok (.iload_n 2, 1) := by decide +kernel
theorem dX6_way_16 : decode cX6_way 16 = .ok (.invokevirtual 66, 3) := by decide +kernel
theorem dX6_way_19 : decode cX6_way 19 = .ok (.ifCond .eq 20, 3) := by decide +kernel
theorem dX6_way_22 : decode cX6_way 22 = .ok (.iload_n 3, 1) := by decide +kernel
theorem dX6_way_23 : decode cX6_way 23 = .ok (.invokestatic 178, 3) := by decide +kernel
theorem dX6_way_26 : decode cX6_way 26 = .ok (.ifCond .eq 13, 3) := by decide +kernel
theorem dX6_way_29 : decode cX6_way 29 = .ok (.iload 4, 2) := by decide +kernel
theorem dX6_way_31 : decode cX6_way 31 = .ok (.iconst 0, 1) := by decide +kernel
theorem dX6_way_32 : decode cX6_way 32 = .ok (.iconst 1, 1) := by decide +kernel
theorem dX6_way_33 : decode cX6_way 33 = .ok (.invokestatic 54, 3) := by decide +kernel
theorem dX6_way_36 : decode cX6_way 36 = .ok (.ifCond .ne 5, 3) := by decide +kernel
theorem dX6_way_39 : decode cX6_way 39 = .ok (.iconst (-1), 1) := by decide +kernel
theorem dX6_way_40 : decode cX6_way 40 = .ok (.ireturn, 1) := by decide +kernel
theorem dX6_way_41 : decode cX6_way 41 = .ok (.aload_n 0, 1) := by decide +kernel
theorem dX6_way_42 : decode cX6_way 42 = .ok (.getfield 29, 3) := by decide +kernel
theorem dX6_way_45 : decode cX6_way 45 = .ok (.aload_n 0, 1) := by decide +kernel
theorem dX6_way_46 : decode cX6_way 46 = .ok (.getfield 10, 3) := by decide +kernel
theorem dX6_way_49 : decode cX6_way 49 = .ok (.iload_n 1, 1) := by decide +kernel
theorem dX6_way_50 : decode cX6_way 50 = .ok (.iload_n 3, 1) := by decide +kernel
theorem dX6_way_51 : decode cX6_way 51 = .ok (.invokevirtual 181, 3) := by decide +kernel
theorem dX6_way_54 : decode cX6_way 54 = .ok (.iload 4, 2) := by decide +kernel
theorem dX6_way_56 : decode cX6_way 56 = .ok (.ifCond .ne 14, 3) := by decide +kernel
theorem dX6_way_59 : decode cX6_way 59 = .ok (.aload_n 0, 1) := by decide +kernel
theorem dX6_way_60 : decode cX6_way 60 = .ok (.getfield 29, 3) := by decide +kernel
theorem dX6_way_63 : decode cX6_way 63 = .ok (.iload_n 2, 1) := by decide +kernel
theorem dX6_way_64 : decode cX6_way 64 = .ok (.invokevirtual 185, 3) := by decide +kernel
theorem dX6_way_67 : decode cX6_way 67 = .ok (.goto 11, 3) := by decide +kernel
theorem dX6_way_70 : decode cX6_way 70 = .ok (.aload_n 0, 1) := by decide +kernel
theorem dX6_way_71 : decode cX6_way 71 = .ok (.getfield 29, 3) := by decide +kernel
theorem dX6_way_74 : decode cX6_way 74 = .ok (.iload_n 2, 1) := by decide +kernel
theorem dX6_way_75 : decode cX6_way 75 = .ok (.invokevirtual 188, 3) := by decide +kernel
theorem dX6_way_78 : decode cX6_way 78 = .ok (.ireturn, 1) := by decide +kernel
theorem dX6_race_0 : decode cX6_race 0 = .ok (.aload_n 0, 1) := by decide +kernel
theorem dX6_race_1 : decode cX6_race 1 = .ok (.getfield 10, 3) := by decide +kernel
theorem dX6_race_4 : decode cX6_race 4 = .ok (.iload_n 1, 1) := by decide +kernel
theorem dX6_race_5 : decode cX6_race 5 = .ok (.invokevirtual 191, 3) := by decide +kernel
theorem dX6_race_8 : decode cX6_race 8 = .ok (.ifCond .eq 31, 3) := by decide +kernel
theorem dX6_race_11 : decode cX6_race 11 = .ok (.aload_n 0, 1) := by decide +kernel
theorem dX6_race_12 : decode cX6_race 12 = .ok (.getfield 10, 3) := by decide +kernel
theorem dX6_race_15 : decode cX6_race 15 = .ok (.iload_n 2, 1) := by decide +kernel
theorem dX6_race_16 : decode cX6_race 16 = .ok (.invokevirtual 66, 3) := by decide +kernel
theorem dX6_race_19 : decode cX6_race 19 = .ok (.ifCond .eq 20, 3) := by decide +kernel
theorem dX6_race_22 : decode cX6_race 22 = .ok (.iload_n 3, 1) := by decide +kernel
theorem dX6_race_23 : decode cX6_race 23 = .ok (.invokestatic 178, 3) := by decide +kernel
theorem dX6_race_26 : decode cX6_race 26 = .ok (.ifCond .eq 13, 3) := by decide +kernel
theorem dX6_race_29 : decode cX6_race 29 = .ok (.iload 4, 2) := by decide +kernel
theorem dX6_race_31 : decode cX6_race 31 = .ok (.iconst 0, 1) := by decide +kernel
theorem dX6_race_32 : decode cX6_race 32 = .ok (.iconst 1, 1) := by decide +kernel
theorem dX6_race_33 : decode cX6_race 33 = .ok (.invokestatic 54, 3) := by decide +kernel
theorem dX6_race_36 : decode cX6_race 36 = .ok (.ifCond .ne 5, 3) := by decide +kernel
theorem dX6_race_39 : decode cX6_race 39 = .ok (.iconst (-1), 1) := by decide +kernel
theorem dX6_race_40 : decode cX6_race 40 = .ok (.ireturn, 1) := by decide +kernel
theorem dX6_race_41 : decode cX6_race 41 = .ok (.bipush (-4), 2) := by decide +kernel
theorem dX6_race_43 : decode cX6_race 43 = .ok (.istore 5, 2) := by decide +kernel
theorem dX6_race_45 : decode cX6_race 45 = .ok (.sipush 601, 3) := by decide +kernel
theorem dX6_race_48 : decode cX6_race 48 = .ok (.istore 6, 2) := by decide +kernel
theorem dX6_race_50 : decode cX6_race 50 = .ok (.iconst 0, 1) := by decide +kernel
theorem dX6_race_51 : decode cX6_race 51 = .ok (.istore 7, 2) := by decide +kernel
theorem dX6_race_53 : decode cX6_race 53 = .ok (.iconst 0, 1) := by decide +kernel
theorem dX6_race_54 : decode cX6_race 54 = .ok (.istore 8, 2) := by decide +kernel
theorem dX6_race_56 : decode cX6_race 56 = .ok (.iload 8, 2) := by decide +kernel
theorem dX6_race_58 : decode cX6_race 58 = .ok (.aload_n 0, 1) := by decide +kernel
theorem dX6_race_59 : decode cX6_race 59 = .ok (.getfield 10, 3) := by decide +kernel
theorem dX6_race_62 : decode cX6_race 62 = .ok (.getfield 113, 3) := by decide +kernel
theorem dX6_race_65 : decode cX6_race 65 = .ok (.if_icmp .ge 73, 3) := by decide +kernel
theorem dX6_race_68 : decode cX6_race 68 = .ok (.iload_n 1, 1) := by decide +kernel
theorem dX6_race_69 : decode cX6_race 69 = .ok (.iload 8, 2) := by decide +kernel
theorem dX6_race_71 : decode cX6_race 71 = .ok (.invokestatic 194, 3) := by decide +kernel
theorem dX6_race_74 : decode cX6_race 74 = .ok (.ifCond .ne 6, 3) := by decide +kernel
theorem dX6_race_77 : decode cX6_race 77 = .ok (.goto 55, 3) := by decide +kernel
theorem dX6_race_80 : decode cX6_race 80 = .ok (.aload_n 0, 1) := by decide +kernel
theorem dX6_race_81 : decode cX6_race 81 = .ok (.getfield 29, 3) := by decide +kernel
theorem dX6_race_84 : decode cX6_race 84 = .ok (.aload_n 0, 1) := by decide +kernel
theorem dX6_race_85 : decode cX6_race 85 = .ok (.getfield 10, 3) := by decide +kernel
theorem dX6_race_88 : decode cX6_race 88 = .ok (.iload 8, 2) := by decide +kernel
theorem dX6_race_90 : decode cX6_race 90 = .ok (.iload_n 3, 1) := by decide +kernel
theorem dX6_race_91 : decode cX6_race 91 = .ok (.invokevirtual 181, 3) := by decide +kernel
theorem dX6_race_94 : decode cX6_race 94 = .ok (.aload_n 0, 1) := by decide +kernel
theorem dX6_race_95 : decode cX6_race 95 = .ok (.getfield 29, 3) := by decide +kernel
theorem dX6_race_98 : decode cX6_race 98 = .ok (.iload_n 2, 1) := by decide +kernel
theorem dX6_race_99 : decode cX6_race 99 = .ok (.invokevirtual 185, 3) := by decide +kernel
theorem dX6_race_102 : decode cX6_race 102 = .ok (.istore 9, 2) := by decide +kernel
theorem dX6_race_104 : decode cX6_race 104 = .ok (.iload 9, 2) := by decide +kernel
theorem dX6_race_106 : decode cX6_race 106 = .ok (.bipush (-4), 2) := by decide +kernel
theorem dX6_race_108 : decode cX6_race 108 = .ok (.if_icmp .ne 6, 3) := by decide +kernel
theorem dX6_race_111 : decode cX6_race 111 = .ok (.goto 21, 3) := by decide +kernel
theorem dX6_race_114 : decode cX6_race 114 = .ok (.iinc 7 1, 3) := by decide +kernel
theorem dX6_race_117 : decode cX6_race 117 = .ok (.iload 9, 2) := by decide +kernel
theorem dX6_race_119 : decode cX6_race 119 = .ok (.iload 6, 2) := by decide +kernel
theorem dX6_race_121 : decode cX6_race 121 = .ok (.if_icmp .ge 11, 3) := by decide +kernel
theorem dX6_race_124 : decode cX6_race 124 = .ok (.iload 9, 2) := by decide +kernel
theorem dX6_race_126 : decode cX6_race 126 = .ok (.istore 6, 2) := by decide +kernel
theorem dX6_race_128 : decode cX6_race 128 = .ok (.iload 8, 2) := by decide +kernel
theorem dX6_race_130 : decode cX6_race 130 = .ok (.istore 5, 2) := by decide +kernel
theorem dX6_race_132 : decode cX6_race 132 = .ok (.iinc 8 1, 3) := by decide +kernel
theorem dX6_race_135 : decode cX6_race 135 = .ok (.goto (-79), 3) := by decide +kernel
theorem dX6_race_138 : decode cX6_race 138 = .ok (.iload 4, 2) := by decide +kernel
theorem dX6_race_140 : decode cX6_race 140 = .ok (.ifCond .ne 8, 3) := by decide +kernel
theorem dX6_race_143 : decode cX6_race 143 = .ok (.iload 5, 2) := by decide +kernel
theorem dX6_race_145 : decode cX6_race 145 = .ok (.goto 5, 3) := by decide +kernel
theorem dX6_race_148 : decode cX6_race 148 = .ok (.iload 7, 2) := by decide +kernel
theorem dX6_race_150 : decode cX6_race 150 = .ok (.ireturn, 1) := by decide +kernel
theorem dX6_need_0 : decode cX6_need 0 = .ok (.aload_n 0, 1) := by decide +kernel
theorem dX6_need_1 : decode cX6_need 1 = .ok (.getfield 10, 3) := by decide +kernel
theorem dX6_need_4 : decode cX6_need 4 = .ok (.iload_n 1, 1) := by decide +kernel
theorem dX6_need_5 : decode cX6_need 5 = .ok (.invokevirtual 120, 3) := by decide +kernel
theorem dX6_need_8 : decode cX6_need 8 = .ok (.ifCond .eq 21, 3) := by decide +kernel
theorem dX6_need_11 : decode cX6_need 11 = .ok (.aload_n 0, 1) := by decide +kernel
theorem dX6_need_12 : decode cX6_need 12 = .ok (.getfield 10, 3) := by decide +kernel
theorem dX6_need_15 : decode cX6_need 15 = .ok (.iload_n 2, 1) := by decide +kernel
theorem dX6_need_16 : decode cX6_need 16 = .ok (.invokevirtual 66, 3) := by decide +kernel
theorem dX6_need_19 : decode cX6_need 19 = .ok (.ifCond .eq 10, 3) := by decide +kernel
theorem dX6_need_22 : decode cX6_need 22 = .ok (.iload_n 3, 1) := by decide +kernel
theorem dX6_need_23 : decode cX6_need 23 = .ok (.invokestatic 101, 3) := by decide +kernel
theorem dX6_need_26 : decode cX6_need 26 = .ok (.ifCond .ne 5, 3) := by decide +kernel
theorem dX6_need_29 : decode cX6_need 29 = .ok (.iconst (-1), 1) := by decide +kernel
theorem dX6_need_30 : decode cX6_need 30 = .ok (.ireturn, 1) := by decide +kernel
theorem dX6_need_31 : decode cX6_need 31 = .ok (.aload_n 0, 1) := by decide +kernel
theorem dX6_need_32 : decode cX6_need 32 = .ok (.getfield 10, 3) := by decide +kernel
theorem dX6_need_35 : decode cX6_need 35 = .ok (.getfield 163, 3) := by decide +kernel
theorem dX6_need_38 : decode cX6_need 38 = .ok (.bipush 10, 2) := by decide +kernel
theorem dX6_need_40 : decode cX6_need 40 = .ok (.if_icmp .lt 6, 3) := by decide +kernel
theorem dX6_need_43 : decode cX6_need 43 = .ok (.bipush (-3), 2) := by decide +kernel
theorem dX6_need_45 : decode cX6_need 45 = .ok (.ireturn, 1) := by decide +kernel
theorem dX6_need_46 : decode cX6_need 46 = .ok (.aload_n 0, 1) := by decide +kernel
theorem dX6_need_47 : decode cX6_need 47 = .ok (.getfield 10, 3) := by decide +kernel
theorem dX6_need_50 : decode cX6_need 50 = .ok (.iload_n 1, 1) := by decide +kernel
theorem dX6_need_51 : decode cX6_need 51 = .ok (.iload_n 2, 1) := by decide +kernel
theorem dX6_need_52 : decode cX6_need 52 = .ok (.iload_n 3, 1) := by decide +kernel
theorem dX6_need_53 : decode cX6_need 53 = .ok (.invokevirtual 198, 3) := by decide +kernel
theorem dX6_need_56 : decode cX6_need 56 = .ok (.ireturn, 1) := by decide +kernel
theorem dX6_met_0 : decode cX6_met 0 = .ok (.iconst 0, 1) := by decide +kernel
theorem dX6_met_1 : decode cX6_met 1 = .ok (.istore_n 1, 1) := by decide +kernel
theorem dX6_met_2 : decode cX6_met 2 = .ok (.iconst 0, 1) := by decide +kernel
theorem dX6_met_3 : decode cX6_met 3 = .ok (.istore_n 2, 1) := by decide +kernel
theorem dX6_met_4 : decode cX6_met 4 = .ok (.iload_n 2, 1) := by decide +kernel
theorem dX6_met_5 : decode cX6_met 5 = .ok (.aload_n 0, 1) := by decide +kernel
theorem dX6_met_6 : decode cX6_met 6 = .ok (.getfield 10, 3) := by decide +kernel
theorem dX6_met_9 : decode cX6_met 9 = .ok (.getfield 163, 3) := by decide +kernel
theorem dX6_met_12 : decode cX6_met 12 = .ok (.if_icmp .ge 43, 3) := by decide +kernel
theorem dX6_met_15 : decode cX6_met 15 = .ok (.aload_n 0, 1) := by decide +kernel
theorem dX6_met_16 : decode cX6_met 16 = .ok (.getfield 10, 3) := by decide +kernel
theorem dX6_met_19 : decode cX6_met 19 = .ok (.iload_n 2, 1) := by decide +kernel
theorem dX6_met_20 : decode cX6_met 20 = .ok (.aload_n 0, 1) := by decide +kernel
theorem dX6_met_21 : decode cX6_met 21 = .ok (.getfield 10, 3) := by decide +kernel
theorem dX6_met_24 : decode cX6_met 24 = .ok (.getfield 126, 3) := by decide +kernel
theorem dX6_met_27 : decode cX6_met 27 = .ok (.aload_n 0, 1) := by decide +kernel
theorem dX6_met_28 : decode cX6_met 28 = .ok (.getfield 10, 3) := by decide +kernel
theorem dX6_met_31 : decode cX6_met 31 = .ok (.getfield 201, 3) := by decide +kernel
theorem dX6_met_34 : decode cX6_met 34 = .ok (.iload_n 2, 1) := by decide +kernel
theorem dX6_met_35 : decode cX6_met 35 = .ok (.iaload, 1) := by decide +kernel
theorem dX6_met_36 : decode cX6_met 36 = .ok (.iaload, 1) := by decide +kernel
theorem dX6_met_37 : decode cX6_met 37 = .ok (.invokevirtual 204, 3) := by decide +kernel
theorem dX6_met_40 : decode cX6_met 40 = .ok (.ifCond .eq 9, 3) := by decide +kernel
theorem dX6_met_43 : decode cX6_met 43 = .ok (.iload_n 1, 1) := by decide +kernel
theorem dX6_met_44 : decode cX6_met 44 = .ok (.iconst 1, 1) := by decide +kernel
theorem dX6_met_45 : decode cX6_met 45 = .ok (.iload_n 2, 1) := by decide +kernel
theorem dX6_met_46 : decode cX6_met 46 = .ok (.ishl, 1) := by decide +kernel
theorem dX6_met_47 : decode cX6_met 47 = .ok (.ior, 1) := by decide +kernel
theorem dX6_met_48 : decode cX6_met 48 = .ok (.istore_n 1, 1) := by decide +kernel
theorem dX6_met_49 : decode cX6_met 49 = .ok (.iinc 2 1, 3) := by decide +kernel
theorem dX6_met_52 : decode cX6_met 52 = .ok (.goto (-48), 3) := by decide +kernel
theorem dX6_met_55 : decode cX6_met 55 = .ok (.iload_n 1, 1) := by decide +kernel
theorem dX6_met_56 : decode cX6_met 56 = .ok (.ireturn, 1) := by decide +kernel
theorem dX6_lengths_0 : decode cX6_lengths 0 = .ok (.iload_n 1, 1) := by decide +kernel
theorem dX6_lengths_1 : decode cX6_lengths 1 = .ok (.iconst (-1), 1) := by decide +kernel
theorem dX6_lengths_2 : decode cX6_lengths 2 = .ok (.if_icmp .ge 5, 3) := by decide +kernel
theorem dX6_lengths_5 : decode cX6_lengths 5 = .ok (.iconst (-1), 1) := by decide +kernel
theorem dX6_lengths_6 : decode cX6_lengths 6 = .ok (.ireturn, 1) := by decide +kernel
theorem dX6_lengths_7 : decode cX6_lengths 7 = .ok (.aload_n 0, 1) := by decide +kernel
theorem dX6_lengths_8 : decode cX6_lengths 8 = .ok (.getfield 10, 3) := by decide +kernel
theorem dX6_lengths_11 : decode cX6_lengths 11 = .ok (.getfield 163, 3) := by decide +kernel
theorem dX6_lengths_14 : decode cX6_lengths 14 = .ok (.ifCond .ne 6, 3) := by decide +kernel
theorem dX6_lengths_17 : decode cX6_lengths 17 = .ok (.bipush (-2), 2) := by decide +kernel
theorem dX6_lengths_19 : decode cX6_lengths 19 = .ok (.ireturn, 1) := by decide +kernel
theorem dX6_lengths_20 : decode cX6_lengths 20 = .ok (.aload_n 0, 1) := by decide +kernel
theorem dX6_lengths_21 : decode cX6_lengths 21 = .ok (.getfield 36, 3) := by decide +kernel
theorem dX6_lengths_24 : decode cX6_lengths 24 = .ok (.aload_n 0, 1) := by decide +kernel
theorem dX6_lengths_25 : decode cX6_lengths 25 = .ok (.getfield 10, 3) := by decide +kernel
theorem dX6_lengths_28 : decode cX6_lengths 28 = .ok (.invokevirtual 207, 3) := by decide +kernel
theorem dX6_lengths_31 : decode cX6_lengths 31 = .ok (.iload_n 1, 1) := by decide +kernel
theorem dX6_lengths_32 : decode cX6_lengths 32 = .ok (.iconst (-1), 1) := by decide +kernel
theorem dX6_lengths_33 : decode cX6_lengths 33 = .ok (.if_icmp .ne 13, 3) := by decide +kernel
theorem dX6_lengths_36 : decode cX6_lengths 36 = .ok (.aload_n 0, 1) := by decide +kernel
theorem dX6_lengths_37 : decode cX6_lengths 37 = .ok (.getfield 36, 3) := by decide +kernel
theorem dX6_lengths_40 : decode cX6_lengths 40 = .ok (.invokevirtual 211, 3) := by decide +kernel
theorem dX6_lengths_43 : decode cX6_lengths 43 = .ok (.goto 11, 3) := by decide +kernel
theorem dX6_lengths_46 : decode cX6_lengths 46 = .ok (.aload_n 0, 1) := by decide +kernel
theorem dX6_lengths_47 : decode cX6_lengths 47 = .ok (.getfield 36, 3) := by decide +kernel
theorem dX6_lengths_50 : decode cX6_lengths 50 = .ok (.iload_n 1, 1) := by decide +kernel
theorem dX6_lengths_51 : decode cX6_lengths 51 = .ok (.invokevirtual 214, 3) := by decide +kernel
theorem dX6_lengths_54 : decode cX6_lengths 54 = .ok (.ireturn, 1) := by decide +kernel
theorem dX6_meeting_0 : decode cX6_meeting 0 = .ok (.iload_n 1, 1) := by decide +kernel
theorem dX6_meeting_1 : decode cX6_meeting 1 = .ok (.iconst 0, 1) := by decide +kernel
theorem dX6_meeting_2 : decode cX6_meeting 2 = .ok (.iconst 2, 1) := by decide +kernel
theorem dX6_meeting_3 : decode cX6_meeting 3 = .ok (.invokestatic 54, 3) := by decide +kernel
theorem dX6_meeting_6 : decode cX6_meeting 6 = .ok (.ifCond .ne 5, 3) := by decide +kernel
theorem dX6_meeting_9 : decode cX6_meeting 9 = .ok (.iconst (-1), 1) := by decide +kernel
theorem dX6_meeting_10 : decode cX6_meeting 10 = .ok (.ireturn, 1) := by decide +kernel
theorem dX6_meeting_11 : decode cX6_meeting 11 = .ok (.bipush (-4), 2) := by decide +kernel
theorem dX6_meeting_13 : decode cX6_meeting 13 = .ok (.istore_n 2, 1) := by decide +kernel
theorem dX6_meeting_14 : decode cX6_meeting 14 = .ok (.bipush (-4), 2) := by decide +kernel
theorem dX6_meeting_16 : decode cX6_meeting 16 = .ok (.istore_n 3, 1) := by decide +kernel
theorem dX6_meeting_17 : decode cX6_meeting 17 = .ok (.bipush (-4), 2) := by decide +kernel
theorem dX6_meeting_19 : decode cX6_meeting 19 = .ok (.istore 4, 2) := by decide +kernel
theorem dX6_meeting_21 : decode cX6_meeting 21 = .ok (.iconst 0, 1) := by decide +kernel
theorem dX6_meeting_22 : decode cX6_meeting 22 = .ok (.istore 5, 2) := by decide +kernel
theorem dX6_meeting_24 : decode cX6_meeting 24 = .ok (.iload 5, 2) := by decide +kernel
theorem dX6_meeting_26 : decode cX6_meeting 26 = .ok (.bipush 24, 2) := by decide +kernel
theorem dX6_meeting_28 : decode cX6_meeting 28 = .ok (.if_icmp .ge 78, 3) := by decide +kernel
theorem dX6_meeting_31 : decode cX6_meeting 31 = .ok (.iconst 0, 1) := by decide +kernel
theorem dX6_meeting_32 : decode cX6_meeting 32 = .ok (.istore 6, 2) := by decide +kernel
theorem dX6_meeting_34 : decode cX6_meeting 34 = .ok (.iload 6, 2) := by decide +kernel
theorem dX6_meeting_36 : decode cX6_meeting 36 = .ok (.aload_n 0, 1) := by decide +kernel
theorem dX6_meeting_37 : decode cX6_meeting 37 = .ok (.getfield 10, 3) := by decide +kernel
theorem dX6_meeting_40 : decode cX6_meeting 40 = .ok (.getfield 58, 3) := by decide +kernel
theorem dX6_meeting_43 : decode cX6_meeting 43 = .ok (.if_icmp .ge 57, 3) := by decide +kernel
theorem dX6_meeting_46 : decode cX6_meeting 46 = .ok (.aload_n 0, 1) := by decide +kernel
theorem dX6_meeting_47 : decode cX6_meeting 47 = .ok (.getfield 10, 3) := by decide +kernel
theorem dX6_meeting_50 : decode cX6_meeting 50 = .ok (.getfield 71, 3) := by decide +kernel
theorem dX6_meeting_53 : decode cX6_meeting 53 = .ok (.iload 6, 2) := by decide +kernel
theorem dX6_meeting_55 : decode cX6_meeting 55 = .ok (.iaload, 1) := by decide +kernel
theorem dX6_meeting_56 : decode cX6_meeting 56 = .ok (.ifCond .ge 17, 3) := by decide +kernel
theorem dX6_meeting_59 : decode cX6_meeting 59 = .ok (.aload_n 0, 1) := by decide +kernel
theorem dX6_meeting_60 : decode cX6_meeting 60 = .ok (.getfield 10, 3) := by decide +kernel
theorem dX6_meeting_63 : decode cX6_meeting 63 = .ok (.iload 6, 2) := by decide +kernel
theorem dX6_meeting_65 : decode cX6_meeting 65 = .ok (.iload 5, 2) := by decide +kernel
theorem dX6_meeting_67 : decode cX6_meeting 67 = .ok (.invokevirtual 217, 3) := by decide +kernel
theorem dX6_meeting_70 : decode cX6_meeting 70 = .ok (.goto 5, 3) := by decide +kernel
theorem dX6_meeting_73 : decode cX6_meeting 73 = .ok (.bipush (-4), 2) := by decide +kernel
theorem dX6_meeting_75 : decode cX6_meeting 75 = .ok (.istore 7, 2) := by decide +kernel
theorem dX6_meeting_77 : decode cX6_meeting 77 = .ok (.iload 7, 2) := by decide +kernel
theorem dX6_meeting_79 : decode cX6_meeting 79 = .ok (.iload 4, 2) := by decide +kernel
theorem dX6_meeting_81 : decode cX6_meeting 81 = .ok (.if_icmp .le 13, 3) := by decide +kernel
theorem dX6_meeting_84 : decode cX6_meeting 84 = .ok (.iload 6, 2) := by decide +kernel
theorem dX6_meeting_86 : decode cX6_meeting 86 = .ok (.istore_n 2, 1) := by decide +kernel
theorem dX6_meeting_87 : decode cX6_meeting 87 = .ok (.iload 5, 2) := by decide +kernel
theorem dX6_meeting_89 : decode cX6_meeting 89 = .ok (.istore_n 3, 1) := by decide +kernel
theorem dX6_meeting_90 : decode cX6_meeting 90 = .ok (.iload 7, 2) := by decide +kernel
theorem dX6_meeting_92 : decode cX6_meeting 92 = .ok (.istore 4, 2) := by decide +kernel
theorem dX6_meeting_94 : decode cX6_meeting 94 = .ok (.iinc 6 1, 3) := by decide +kernel
theorem dX6_meeting_97 : decode cX6_meeting 97 = .ok (.goto (-63), 3) := by decide +kernel
theorem dX6_meeting_100 : decode cX6_meeting 100 = .ok (.iinc 5 1, 3) := by decide +kernel
theorem dX6_meeting_103 : decode cX6_meeting 103 = .ok (.goto (-79), 3) := by decide +kernel
theorem dX6_meeting_106 : decode cX6_meeting 106 = .ok (.iload_n 1, 1) := by decide +kernel
theorem dX6_meeting_107 : decode cX6_meeting 107 = .ok (.ifCond .ne 7, 3) := by decide +kernel
theorem dX6_meeting_110 : decode cX6_meeting 110 = .ok (.iload_n 2, 1) := by decide +kernel
theorem dX6_meeting_111 : decode cX6_meeting 111 = .ok (.goto 14, 3) := by decide +kernel
theorem dX6_meeting_114 : decode cX6_meeting 114 = .ok (.iload_n 1, 1) := by decide +kernel
theorem dX6_meeting_115 : decode cX6_meeting 115 = .ok (.iconst 1, 1) := by decide +kernel
theorem dX6_meeting_116 : decode cX6_meeting 116 = .ok (.if_icmp .ne 7, 3) := by decide +kernel
theorem dX6_meeting_119 : decode cX6_meeting 119 = .ok (.iload_n 3, 1) := by decide +kernel
theorem dX6_meeting_120 : decode cX6_meeting 120 = .ok (.goto 5, 3) := by decide +kernel
theorem dX6_meeting_123 : decode cX6_meeting 123 = .ok (.iload 4, 2) := by decide +kernel
theorem dX6_meeting_125 : decode cX6_meeting 125 = .ok (.ireturn, 1) := by decide +kernel
theorem dX6_pairs_0 : decode cX6_pairs 0 = .ok (.iload_n 1, 1) := by decide +kernel
theorem dX6_pairs_1 : decode cX6_pairs 1 = .ok (.iconst 0, 1) := by decide +kernel
theorem dX6_pairs_2 : decode cX6_pairs 2 = .ok (.bipush 60, 2) := by decide +kernel
theorem dX6_pairs_4 : decode cX6_pairs 4 = .ok (.invokestatic 54, 3) := by decide +kernel
theorem dX6_pairs_7 : decode cX6_pairs 7 = .ok (.ifCond .ne 5, 3) := by decide +kernel
theorem dX6_pairs_10 : decode cX6_pairs 10 = .ok (.iconst (-1), 1) := by decide +kernel
theorem dX6_pairs_11 : decode cX6_pairs 11 = .ok (.ireturn, 1) := by decide +kernel
theorem dX6_pairs_12 : decode cX6_pairs 12 = .ok (.iconst 0, 1) := by decide +kernel
theorem dX6_pairs_13 : decode cX6_pairs 13 = .ok (.istore_n 2, 1) := by decide +kernel
theorem dX6_pairs_14 : decode cX6_pairs 14 = .ok (.iconst 1, 1) := by decide +kernel
theorem dX6_pairs_15 : decode cX6_pairs 15 = .ok (.aload_n 0, 1) := by decide +kernel
theorem dX6_pairs_16 : decode cX6_pairs 16 = .ok (.getfield 10, 3) := by decide +kernel
theorem dX6_pairs_19 : decode cX6_pairs 19 = .ok (.getfield 113, 3) := by decide +kernel
theorem dX6_pairs_22 : decode cX6_pairs 22 = .ok (.ishl, 1) := by decide +kernel
theorem dX6_pairs_23 : decode cX6_pairs 23 = .ok (.iconst 1, 1) := by decide +kernel
theorem dX6_pairs_24 : decode cX6_pairs 24 = .ok (.isub, 1) := by decide +kernel
theorem dX6_pairs_25 : decode cX6_pairs 25 = .ok (.istore_n 3, 1) := by decide +kernel
theorem dX6_pairs_26 : decode cX6_pairs 26 = .ok (.iconst 0, 1) := by decide +kernel
theorem dX6_pairs_27 : decode cX6_pairs 27 = .ok (.istore 4, 2) := by decide +kernel
theorem dX6_pairs_29 : decode cX6_pairs 29 = .ok (.iload 4, 2) := by decide +kernel
theorem dX6_pairs_31 : decode cX6_pairs 31 = .ok (.bipush 8, 2) := by decide +kernel
theorem dX6_pairs_33 : decode cX6_pairs 33 = .ok (.if_icmp .ge 84, 3) := by decide +kernel
theorem dX6_pairs_36 : decode cX6_pairs 36 = .ok (.iload_n 3, 1) := by decide +kernel
theorem dX6_pairs_37 : decode cX6_pairs 37 = .ok (.ifCond .eq 80, 3) := by decide +kernel
theorem dX6_pairs_40 : decode cX6_pairs 40 = .ok (.aload_n 0, 1) := by decide +kernel
theorem dX6_pairs_41 : decode cX6_pairs 41 = .ok (.getfield 10, 3) := by decide +kernel
theorem dX6_pairs_44 : decode cX6_pairs 44 = .ok (.iload_n 3, 1) := by decide +kernel
theorem dX6_pairs_45 : decode cX6_pairs 45 = .ok (.invokevirtual 220, 3) := by decide +kernel
theorem dX6_pairs_48 : decode cX6_pairs 48 = .ok (.istore 5, 2) := by decide +kernel
theorem dX6_pairs_50 : decode cX6_pairs 50 = .ok (.iload_n 3, 1) := by decide +kernel
theorem dX6_pairs_51 : decode cX6_pairs 51 = .ok (.iconst 1, 1) := by decide +kernel
theorem dX6_pairs_52 : decode cX6_pairs 52 = .ok (.iload 5, 2) := by decide +kernel
theorem dX6_pairs_54 : decode cX6_pairs 54 = .ok (.ishl, 1) := by decide +kernel
theorem dX6_pairs_55 : decode cX6_pairs 55 = .ok (.iconst (-1), 1) := by decide +kernel
theorem dX6_pairs_56 : decode cX6_pairs 56 = .ok (.ixor, 1) := by decide +kernel
theorem dX6_pairs_57 : decode cX6_pairs 57 = .ok (.iand, 1) := by decide +kernel
theorem dX6_pairs_58 : decode cX6_pairs 58 = .ok (.istore_n 3, 1) := by decide +kernel
theorem dX6_pairs_59 : decode cX6_pairs 59 = .ok (.iload_n 3, 1) := by decide +kernel
theorem dX6_pairs_60 : decode cX6_pairs 60 = .ok (.ifCond .ne 6, 3) := by decide +kernel
theorem dX6_pairs_63 : decode cX6_pairs 63 = .ok (.goto 54, 3) := by decide +kernel
theorem dX6_pairs_66 : decode cX6_pairs 66 = .ok (.aload_n 0, 1) := by decide +kernel
theorem dX6_pairs_67 : decode cX6_pairs 67 = .ok (.getfield 10, 3) := by decide +kernel
theorem dX6_pairs_70 : decode cX6_pairs 70 = .ok (.iload_n 3, 1) := by decide +kernel
theorem dX6_pairs_71 : decode cX6_pairs 71 = .ok (.invokevirtual 220, 3) := by decide +kernel
theorem dX6_pairs_74 : decode cX6_pairs 74 = .ok (.istore 6, 2) := by decide +kernel
theorem dX6_pairs_76 : decode cX6_pairs 76 = .ok (.aload_n 0, 1) := by decide +kernel
theorem dX6_pairs_77 : decode cX6_pairs 77 = .ok (.getfield 10, 3) := by decide +kernel
theorem dX6_pairs_80 : decode cX6_pairs 80 = .ok (.iload 6, 2) := by decide +kernel
theorem dX6_pairs_82 : decode cX6_pairs 82 = .ok (.invokevirtual 129, 3) := by decide +kernel
theorem dX6_pairs_85 : decode cX6_pairs 85 = .ok (.aload_n 0, 1) := by decide +kernel
theorem dX6_pairs_86 : decode cX6_pairs 86 = .ok (.getfield 10, 3) := by decide +kernel
theorem dX6_pairs_89 : decode cX6_pairs 89 = .ok (.iload 5, 2) := by decide +kernel
theorem dX6_pairs_91 : decode cX6_pairs 91 = .ok (.invokevirtual 129, 3) := by decide +kernel
theorem dX6_pairs_94 : decode cX6_pairs 94 = .ok (.isub, 1) := by decide +kernel
theorem dX6_pairs_95 : decode cX6_pairs 95 = .ok (.iload_n 1, 1) := by decide +kernel
theorem dX6_pairs_96 : decode cX6_pairs 96 = .ok (.if_icmp .gt 15, 3) := by decide +kernel
theorem dX6_pairs_99 : decode cX6_pairs 99 = .ok (.iinc 2 1, 3) := by decide +kernel
theorem dX6_pairs_102 : decode cX6_pairs 102 = .ok (.iload_n 3, 1) := by decide +kernel
theorem dX6_pairs_103 : decode cX6_pairs 103 = .ok (.iconst 1, 1) := by decide +kernel
theorem dX6_pairs_104 : decode cX6_pairs 104 = .ok (.iload 6, 2) := by decide +kernel
theorem dX6_pairs_106 : decode cX6_pairs 106 = .ok (.ishl, 1) := by decide +kernel
theorem dX6_pairs_107 : decode cX6_pairs 107 = .ok (.iconst (-1), 1) := by decide +kernel
theorem dX6_pairs_108 : decode cX6_pairs 108 = .ok (.ixor, 1) := by decide +kernel
theorem dX6_pairs_109 : decode cX6_pairs 109 = .ok (.iand, 1) := by decide +kernel
theorem dX6_pairs_110 : decode cX6_pairs 110 = .ok (.istore_n 3, 1) := by decide +kernel
theorem dX6_pairs_111 : decode cX6_pairs 111 = .ok (.iinc 4 1, 3) := by decide +kernel
theorem dX6_pairs_114 : decode cX6_pairs 114 = .ok (.goto (-85), 3) := by decide +kernel
theorem dX6_pairs_117 : decode cX6_pairs 117 = .ok (.iload_n 2, 1) := by decide +kernel
theorem dX6_pairs_118 : decode cX6_pairs 118 = .ok (.ireturn, 1) := by decide +kernel
theorem dX6_flood_0 : decode cX6_flood 0 = .ok (.iload_n 1, 1) := by decide +kernel
theorem dX6_flood_1 : decode cX6_flood 1 = .ok (.iconst 0, 1) := by decide +kernel
theorem dX6_flood_2 : decode cX6_flood 2 = .ok (.bipush 40, 2) := by decide +kernel
theorem dX6_flood_4 : decode cX6_flood 4 = .ok (.invokestatic 54, 3) := by decide +kernel
theorem dX6_flood_7 : decode cX6_flood 7 = .ok (.ifCond .eq 21, 3) := by decide +kernel
theorem dX6_flood_10 : decode cX6_flood 10 = .ok (.iload_n 2, 1) := by decide +kernel
theorem dX6_flood_11 : decode cX6_flood 11 = .ok (.bipush (-2), 2) := by decide +kernel
theorem dX6_flood_13 : decode cX6_flood 13 = .ok (.aload_n 0, 1) := by decide +kernel
theorem dX6_flood_14 : decode cX6_flood 14 = .ok (.getfield 10, 3) := by decide +kernel
theorem dX6_flood_17 : decode cX6_flood 17 = .ok (.getfield 113, 3) := by decide +kernel
theorem dX6_flood_20 : decode cX6_flood 20 = .ok (.iconst 1, 1) := by decide +kernel
theorem dX6_flood_21 : decode cX6_flood 21 = .ok (.isub, 1) := by decide +kernel
theorem dX6_flood_22 : decode cX6_flood 22 = .ok (.invokestatic 54, 3) := by decide +kernel
theorem dX6_flood_25 : decode cX6_flood 25 = .ok (.ifCond .ne 5, 3) := by decide +kernel
theorem dX6_flood_28 : decode cX6_flood 28 = .ok (.iconst (-1), 1) := by decide +kernel
theorem dX6_flood_29 : decode cX6_flood 29 = .ok (.ireturn, 1) := by decide +kernel
theorem dX6_flood_30 : decode cX6_flood 30 = .ok (.aload_n 0, 1) := by decide +kernel
theorem dX6_flood_31 : decode cX6_flood 31 = .ok (.getfield 43, 3) := by decide +kernel
theorem dX6_flood_34 : decode cX6_flood 34 = .ok (.aload_n 0, 1) := by decide +kernel
theorem dX6_flood_35 : decode cX6_flood 35 = .ok (.getfield 10, 3) := by decide +kernel
theorem dX6_flood_38 : decode cX6_flood 38 = .ok (.iload_n 1, 1) := by decide +kernel
theorem dX6_flood_39 : decode cX6_flood 39 = .ok (.invokevirtual 223, 3) := by decide +kernel
theorem dX6_flood_42 : decode cX6_flood 42 = .ok (.iload_n 2, 1) := by decide +kernel
theorem dX6_flood_43 : decode cX6_flood 43 = .ok (.iconst (-1), 1) := by decide +kernel
theorem dX6_flood_44 : decode cX6_flood 44 = .ok (.if_icmp .ne 11, 3) := by decide +kernel
theorem dX6_flood_47 : decode cX6_flood 47 = .ok (.aload_n 0, 1) := by decide +kernel
theorem dX6_flood_48 : decode cX6_flood 48 = .ok (.getfield 43, 3) := by decide +kernel
theorem dX6_flood_51 : decode cX6_flood 51 = .ok (.invokevirtual 226, 3) := by decide +kernel
theorem dX6_flood_54 : decode cX6_flood 54 = .ok (.ireturn, 1) := by decide +kernel
theorem dX6_flood_55 : decode cX6_flood 55 = .ok (.iload_n 2, 1) := by decide +kernel
theorem dX6_flood_56 : decode cX6_flood 56 = .ok (.bipush (-2), 2) := by decide +kernel
theorem dX6_flood_58 : decode cX6_flood 58 = .ok (.if_icmp .ne 13, 3) := by decide +kernel
theorem dX6_flood_61 : decode cX6_flood 61 = .ok (.aload_n 0, 1) := by decide +kernel
theorem dX6_flood_62 : decode cX6_flood 62 = .ok (.getfield 43, 3) := by decide +kernel
theorem dX6_flood_65 : decode cX6_flood 65 = .ok (.invokevirtual 229, 3) := by decide +kernel
theorem dX6_flood_68 : decode cX6_flood 68 = .ok (.goto 11, 3) := by decide +kernel
theorem dX6_flood_71 : decode cX6_flood 71 = .ok (.aload_n 0, 1) := by decide +kernel
theorem dX6_flood_72 : decode cX6_flood 72 = .ok (.getfield 43, 3) := by decide +kernel
theorem dX6_flood_75 : decode cX6_flood 75 = .ok (.iload_n 2, 1) := by decide +kernel
theorem dX6_flood_76 : decode cX6_flood 76 = .ok (.invokevirtual 232, 3) := by decide +kernel
theorem dX6_flood_79 : decode cX6_flood 79 = .ok (.ireturn, 1) := by decide +kernel
theorem dX6_carried_0 : decode cX6_carried 0 = .ok (.aload_n 0, 1) := by decide +kernel
theorem dX6_carried_1 : decode cX6_carried 1 = .ok (.getfield 10, 3) := by decide +kernel
theorem dX6_carried_4 : decode cX6_carried 4 = .ok (.iload_n 1, 1) := by decide +kernel
theorem dX6_carried_5 : decode cX6_carried 5 = .ok (.invokevirtual 191, 3) := by decide +kernel
theorem dX6_carried_8 : decode cX6_carried 8 = .ok (.ifCond .eq 21, 3) := by decide +kernel
theorem dX6_carried_11 : decode cX6_carried 11 = .ok (.aload_n 0, 1) := by decide +kernel
theorem dX6_carried_12 : decode cX6_carried 12 = .ok (.getfield 10, 3) := by decide +kernel
theorem dX6_carried_15 : decode cX6_carried 15 = .ok (.iload_n 2, 1) := by decide +kernel
theorem dX6_carried_16 : decode cX6_carried 16 = .ok (.invokevirtual 66, 3) := by decide +kernel
theorem dX6_carried_19 : decode cX6_carried 19 = .ok (.ifCond .eq 10, 3) := by decide +kernel
theorem dX6_carried_22 : decode cX6_carried 22 = .ok (.iload_n 3, 1) := by decide +kernel
theorem dX6_carried_23 : decode cX6_carried 23 = .ok (.invokestatic 101, 3) := by decide +kernel
theorem dX6_carried_26 : decode cX6_carried 26 = .ok (.ifCond .ne 5, 3) := by decide +kernel
theorem dX6_carried_29 : decode cX6_carried 29 = .ok (.iconst (-1), 1) := by decide +kernel
theorem dX6_carried_30 : decode cX6_carried 30 = .ok (.ireturn, 1) := by decide +kernel
theorem dX6_carried_31 : decode cX6_carried 31 = .ok (.iconst 0, 1) := by decide +kernel
theorem dX6_carried_32 : decode cX6_carried 32 = .ok (.istore 4, 2) := by decide +kernel
theorem dX6_carried_34 : decode cX6_carried 34 = .ok (.iconst 0, 1) := by decide +kernel
theorem dX6_carried_35 : decode cX6_carried 35 = .ok (.istore 5, 2) := by decide +kernel
theorem dX6_carried_37 : decode cX6_carried 37 = .ok (.iconst 0, 1) := by decide +kernel
theorem dX6_carried_38 : decode cX6_carried 38 = .ok (.istore 6, 2) := by decide +kernel
theorem dX6_carried_40 : decode cX6_carried 40 = .ok (.iload 6, 2) := by decide +kernel
theorem dX6_carried_42 : decode cX6_carried 42 = .ok (.aload_n 0, 1) := by decide +kernel
theorem dX6_carried_43 : decode cX6_carried 43 = .ok (.getfield 10, 3) := by decide +kernel
theorem dX6_carried_46 : decode cX6_carried 46 = .ok (.getfield 113, 3) := by decide +kernel
theorem dX6_carried_49 : decode cX6_carried 49 = .ok (.if_icmp .ge 44, 3) := by decide +kernel
theorem dX6_carried_52 : decode cX6_carried 52 = .ok (.iload_n 1, 1) := by decide +kernel
theorem dX6_carried_53 : decode cX6_carried 53 = .ok (.iload 6, 2) := by decide +kernel
theorem dX6_carried_55 : decode cX6_carried 55 = .ok (.invokestatic 194, 3) := by decide +kernel
theorem dX6_carried_58 : decode cX6_carried 58 = .ok (.ifCond .ne 6, 3) := by decide +kernel
theorem dX6_carried_61 : decode cX6_carried 61 = .ok (.goto 26, 3) := by decide +kernel
theorem dX6_carried_64 : decode cX6_carried 64 = .ok (.aload_n 0, 1) := by decide +kernel
theorem dX6_carried_65 : decode cX6_carried 65 = .ok (.getfield 10, 3) := by decide +kernel
theorem dX6_carried_68 : decode cX6_carried 68 = .ok (.iload 6, 2) := by decide +kernel
theorem dX6_carried_70 : decode cX6_carried 70 = .ok (.iload_n 2, 1) := by decide +kernel
theorem dX6_carried_71 : decode cX6_carried 71 = .ok (.iload_n 3, 1) := by decide +kernel
theorem dX6_carried_72 : decode cX6_carried 72 = .ok (.invokevirtual 172, 3) := by decide +kernel
theorem dX6_carried_75 : decode cX6_carried 75 = .ok (.ifCond .eq 9, 3) := by decide +kernel
theorem dX6_carried_78 : decode cX6_carried 78 = .ok (.iinc 4 1, 3) := by decide +kernel
theorem dX6_carried_81 : decode cX6_carried 81 = .ok (.goto 6, 3) := by decide +kernel
theorem dX6_carried_84 : decode cX6_carried 84 = .ok (.iinc 5 1, 3) := by decide +kernel
theorem dX6_carried_87 : decode cX6_carried 87 = .ok (.iinc 6 1, 3) := by decide +kernel
theorem dX6_carried_90 : decode cX6_carried 90 = .ok (.goto (-50), 3) := by decide +kernel
theorem dX6_carried_93 : decode cX6_carried 93 = .ok (.iconst 1, 1) := by decide +kernel
theorem dX6_carried_94 : decode cX6_carried 94 = .ok (.istore 6, 2) := by decide +kernel
theorem dX6_carried_96 : decode cX6_carried 96 = .ok (.iconst 0, 1) := by decide +kernel
theorem dX6_carried_97 : decode cX6_carried 97 = .ok (.istore 7, 2) := by decide +kernel
theorem dX6_carried_99 : decode cX6_carried 99 = .ok (.iload 7, 2) := by decide +kernel
theorem dX6_carried_101 : decode cX6_carried 101 = .ok (.iload 5, 2) := by decide +kernel
theorem dX6_carried_103 : decode cX6_carried 103 = .ok (.if_icmp .ge 23, 3) := by decide +kernel
theorem dX6_carried_106 : decode cX6_carried 106 = .ok (.iload 6, 2) := by decide +kernel
theorem dX6_carried_108 : decode cX6_carried 108 = .ok (.iconst 0, 1) := by decide +kernel
theorem dX6_carried_109 : decode cX6_carried 109 = .ok (.iload 4, 2) := by decide +kernel
theorem dX6_carried_111 : decode cX6_carried 111 = .ok (.iload 7, 2) := by decide +kernel
theorem dX6_carried_113 : decode cX6_carried 113 = .ok (.isub, 1) := by decide +kernel
theorem dX6_carried_114 : decode cX6_carried 114 = .ok (.invokestatic 235, 3) := by decide +kernel
theorem dX6_carried_117 : decode cX6_carried 117 = .ok (.imul, 1) := by decide +kernel
theorem dX6_carried_118 : decode cX6_carried 118 = .ok (.istore 6, 2) := by decide +kernel
theorem dX6_carried_120 : decode cX6_carried 120 = .ok (.iinc 7 1, 3) := by decide +kernel
theorem dX6_carried_123 : decode cX6_carried 123 = .ok (.goto (-24), 3) := by decide +kernel
theorem dX6_carried_126 : decode cX6_carried 126 = .ok (.iload 6, 2) := by decide +kernel
theorem dX6_carried_128 : decode cX6_carried 128 = .ok (.ireturn, 1) := by decide +kernel
theorem dX6_wrong_0 : decode cX6_wrong 0 = .ok (.iload_n 1, 1) := by decide +kernel
theorem dX6_wrong_1 : decode cX6_wrong 1 = .ok (.iconst 1, 1) := by decide +kernel
theorem dX6_wrong_2 : decode cX6_wrong 2 = .ok (.bipush 30, 2) := by decide +kernel
theorem dX6_wrong_4 : decode cX6_wrong 4 = .ok (.invokestatic 54, 3) := by decide +kernel
theorem dX6_wrong_7 : decode cX6_wrong 7 = .ok (.ifCond .eq 10, 3) := by decide +kernel
theorem dX6_wrong_10 : decode cX6_wrong 10 = .ok (.iload_n 2, 1) := by decide +kernel
theorem dX6_wrong_11 : decode cX6_wrong 11 = .ok (.invokestatic 101, 3) := by decide +kernel
theorem dX6_wrong_14 : decode cX6_wrong 14 = .ok (.ifCond .ne 5, 3) := by decide +kernel
theorem dX6_wrong_17 : decode cX6_wrong 17 = .ok (.iconst (-1), 1) := by decide +kernel
theorem dX6_wrong_18 : decode cX6_wrong 18 = .ok (.ireturn, 1) := by decide +kernel
theorem dX6_wrong_19 : decode cX6_wrong 19 = .ok (.iconst 0, 1) := by decide +kernel
theorem dX6_wrong_20 : decode cX6_wrong 20 = .ok (.istore_n 3, 1) := by decide +kernel
theorem dX6_wrong_21 : decode cX6_wrong 21 = .ok (.iconst 0, 1) := by decide +kernel
theorem dX6_wrong_22 : decode cX6_wrong 22 = .ok (.istore 4, 2) := by decide +kernel
theorem dX6_wrong_24 : decode cX6_wrong 24 = .ok (.iload 4, 2) := by decide +kernel
theorem dX6_wrong_26 : decode cX6_wrong 26 = .ok (.aload_n 0, 1) := by decide +kernel
theorem dX6_wrong_27 : decode cX6_wrong 27 = .ok (.getfield 10, 3) := by decide +kernel
theorem dX6_wrong_30 : decode cX6_wrong 30 = .ok (.getfield 113, 3) := by decide +kernel
theorem dX6_wrong_33 : decode cX6_wrong 33 = .ok (.if_icmp .ge 44, 3) := by decide +kernel
theorem dX6_wrong_36 : decode cX6_wrong 36 = .ok (.aload_n 0, 1) := by decide +kernel
theorem dX6_wrong_37 : decode cX6_wrong 37 = .ok (.getfield 10, 3) := by decide +kernel
theorem dX6_wrong_40 : decode cX6_wrong 40 = .ok (.iload 4, 2) := by decide +kernel
theorem dX6_wrong_42 : decode cX6_wrong 42 = .ok (.iload_n 2, 1) := by decide +kernel
theorem dX6_wrong_43 : decode cX6_wrong 43 = .ok (.iconst 0, 1) := by decide +kernel
theorem dX6_wrong_44 : decode cX6_wrong 44 = .ok (.invokevirtual 240, 3) := by decide +kernel
theorem dX6_wrong_47 : decode cX6_wrong 47 = .ok (.ifCond .eq 24, 3) := by decide +kernel
theorem dX6_wrong_50 : decode cX6_wrong 50 = .ok (.aload_n 0, 1) := by decide +kernel
theorem dX6_wrong_51 : decode cX6_wrong 51 = .ok (.getfield 10, 3) := by decide +kernel
theorem dX6_wrong_54 : decode cX6_wrong 54 = .ok (.iload 4, 2) := by decide +kernel
theorem dX6_wrong_56 : decode cX6_wrong 56 = .ok (.iload_n 2, 1) := by decide +kernel
theorem dX6_wrong_57 : decode cX6_wrong 57 = .ok (.iload_n 1, 1) := by decide +kernel
theorem dX6_wrong_58 : decode cX6_wrong 58 = .ok (.invokevirtual 240, 3) := by decide +kernel
theorem dX6_wrong_61 : decode cX6_wrong 61 = .ok (.ifCond .ne 10, 3) := by decide +kernel
theorem dX6_wrong_64 : decode cX6_wrong 64 = .ok (.iload_n 3, 1) := by decide +kernel
theorem dX6_wrong_65 : decode cX6_wrong 65 = .ok (.iconst 1, 1) := by decide +kernel
theorem dX6_wrong_66 : decode cX6_wrong 66 = .ok (.iload 4, 2) := by decide +kernel
theorem dX6_wrong_68 : decode cX6_wrong 68 = .ok (.ishl, 1) := by decide +kernel
theorem dX6_wrong_69 : decode cX6_wrong 69 = .ok (.ior, 1) := by decide +kernel
theorem dX6_wrong_70 : decode cX6_wrong 70 = .ok (.istore_n 3, 1) := by decide +kernel
theorem dX6_wrong_71 : decode cX6_wrong 71 = .ok (.iinc 4 1, 3) := by decide +kernel
theorem dX6_wrong_74 : decode cX6_wrong 74 = .ok (.goto (-50), 3) := by decide +kernel
theorem dX6_wrong_77 : decode cX6_wrong 77 = .ok (.iload_n 3, 1) := by decide +kernel
theorem dX6_wrong_78 : decode cX6_wrong 78 = .ok (.ireturn, 1) := by decide +kernel
theorem dX6_clear_0 : decode cX6_clear 0 = .ok (.aload_n 0, 1) := by decide +kernel
theorem dX6_clear_1 : decode cX6_clear 1 = .ok (.getfield 10, 3) := by decide +kernel
theorem dX6_clear_4 : decode cX6_clear 4 = .ok (.getfield 113, 3) := by decide +kernel
theorem dX6_clear_7 : decode cX6_clear 7 = .ok (.istore_n 1, 1) := by decide +kernel
theorem dX6_clear_8 : decode cX6_clear 8 = .ok (.aload_n 0, 1) := by decide +kernel
theorem dX6_clear_9 : decode cX6_clear 9 = .ok (.getfield 10, 3) := by decide +kernel
theorem dX6_clear_12 : decode cX6_clear 12 = .ok (.iconst 0, 1) := by decide +kernel
theorem dX6_clear_13 : decode cX6_clear 13 = .ok (.putfield 113, 3) := by decide +kernel
theorem dX6_clear_16 : decode cX6_clear 16 = .ok (.aload_n 0, 1) := by decide +kernel
theorem dX6_clear_17 : decode cX6_clear 17 = .ok (.getfield 10, 3) := by decide +kernel
theorem dX6_clear_20 : decode cX6_clear 20 = .ok (.iconst 0, 1) := by decide +kernel
theorem dX6_clear_21 : decode cX6_clear 21 = .ok (.putfield 163, 3) := by decide +kernel
theorem dX6_clear_24 : decode cX6_clear 24 = .ok (.iload_n 1, 1) := by decide +kernel
theorem dX6_clear_25 : decode cX6_clear 25 = .ok (.ireturn, 1) := by decide +kernel
theorem dX6_image_0 : decode cX6_image 0 = .ok (.aload_n 0, 1) := by decide +kernel
theorem dX6_image_1 : decode cX6_image 1 = .ok (.getfield 16, 3) := by decide +kernel
theorem dX6_image_4 : decode cX6_image 4 = .ok (.aload_n 0, 1) := by decide +kernel
theorem dX6_image_5 : decode cX6_image 5 = .ok (.getfield 10, 3) := by decide +kernel
theorem dX6_image_8 : decode cX6_image 8 = .ok (.invokevirtual 243, 3) := by decide +kernel
theorem dX6_image_11 : decode cX6_image 11 = .ok (.aload_n 0, 1) := by decide +kernel
theorem dX6_image_12 : decode cX6_image 12 = .ok (.iconst 1, 1) := by decide +kernel
theorem dX6_image_13 : decode cX6_image 13 = .ok (.putfield 246, 3) := by decide +kernel
theorem dX6_image_16 : decode cX6_image 16 = .ok (.iconst 1, 1) := by decide +kernel
theorem dX6_image_17 : decode cX6_image 17 = .ok (.ireturn, 1) := by decide +kernel
theorem dX6_restore_0 : decode cX6_restore 0 = .ok (.aload_n 0, 1) := by decide +kernel
theorem dX6_restore_1 : decode cX6_restore 1 = .ok (.getfield 246, 3) := by decide +kernel
theorem dX6_restore_4 : decode cX6_restore 4 = .ok (.ifCond .ne 6, 3) := by decide +kernel
theorem dX6_restore_7 : decode cX6_restore 7 = .ok (.bipush (-4), 2) := by decide +kernel
theorem dX6_restore_9 : decode cX6_restore 9 = .ok (.ireturn, 1) := by decide +kernel
theorem dX6_restore_10 : decode cX6_restore 10 = .ok (.aload_n 0, 1) := by decide +kernel
theorem dX6_restore_11 : decode cX6_restore 11 = .ok (.getfield 10, 3) := by decide +kernel
theorem dX6_restore_14 : decode cX6_restore 14 = .ok (.aload_n 0, 1) := by decide +kernel
theorem dX6_restore_15 : decode cX6_restore 15 = .ok (.getfield 16, 3) := by decide +kernel
theorem dX6_restore_18 : decode cX6_restore 18 = .ok (.invokevirtual 243, 3) := by decide +kernel
theorem dX6_restore_21 : decode cX6_restore 21 = .ok (.iconst 1, 1) := by decide +kernel
theorem dX6_restore_22 : decode cX6_restore 22 = .ok (.ireturn, 1) := by decide +kernel
theorem dX6_tides_0 : decode cX6_tides 0 = .ok (.aload_n 0, 1) := by decide +kernel
theorem dX6_tides_1 : decode cX6_tides 1 = .ok (.iload_n 1, 1) := by decide +kernel
theorem dX6_tides_2 : decode cX6_tides 2 = .ok (.iload_n 2, 1) := by decide +kernel
theorem dX6_tides_3 : decode cX6_tides 3 = .ok (.invokevirtual 250, 3) := by decide +kernel
theorem dX6_tides_6 : decode cX6_tides 6 = .ok (.istore_n 3, 1) := by decide +kernel
theorem dX6_tides_7 : decode cX6_tides 7 = .ok (.iload_n 3, 1) := by decide +kernel
theorem dX6_tides_8 : decode cX6_tides 8 = .ok (.ifCond .eq 5, 3) := by decide +kernel
theorem dX6_tides_11 : decode cX6_tides 11 = .ok (.iload_n 3, 1) := by decide +kernel
theorem dX6_tides_12 : decode cX6_tides 12 = .ok (.ireturn, 1) := by decide +kernel
theorem dX6_tides_13 : decode cX6_tides 13 = .ok (.aload_n 0, 1) := by decide +kernel
theorem dX6_tides_14 : decode cX6_tides 14 = .ok (.getfield 49, 3) := by decide +kernel
theorem dX6_tides_17 : decode cX6_tides 17 = .ok (.iload_n 1, 1) := by decide +kernel
theorem dX6_tides_18 : decode cX6_tides 18 = .ok (.aaload, 1) := by decide +kernel
theorem dX6_tides_19 : decode cX6_tides 19 = .ok (.astore 4, 2) := by decide +kernel
theorem dX6_tides_21 : decode cX6_tides 21 = .ok (.aload 4, 2) := by decide +kernel
theorem dX6_tides_23 : decode cX6_tides 23 = .ok (.getfield 253, 3) := by decide +kernel
theorem dX6_tides_26 : decode cX6_tides 26 = .ok (.bipush 24, 2) := by decide +kernel
theorem dX6_tides_28 : decode cX6_tides 28 = .ok (.if_icmp .ge 6, 3) := by decide +kernel
theorem dX6_tides_31 : decode cX6_tides 31 = .ok (.bipush (-13), 2) := by decide +kernel
theorem dX6_tides_33 : decode cX6_tides 33 = .ok (.ireturn, 1) := by decide +kernel
theorem dX6_tides_34 : decode cX6_tides 34 = .ok (.iconst 0, 1) := by decide +kernel
theorem dX6_tides_35 : decode cX6_tides 35 = .ok (.istore 5, 2) := by decide +kernel
theorem dX6_tides_37 : decode cX6_tides 37 = .ok (.iload 5, 2) := by decide +kernel
theorem dX6_tides_39 : decode cX6_tides 39 = .ok (.bipush 24, 2) := by decide +kernel
theorem dX6_tides_41 : decode cX6_tides 41 = .ok (.if_icmp .ge 30, 3) := by decide +kernel
theorem dX6_tides_44 : decode cX6_tides 44 = .ok (.aload 4, 2) := by decide +kernel
theorem dX6_tides_46 : decode cX6_tides 46 = .ok (.getfield 254, 3) := by decide +kernel
theorem dX6_tides_49 : decode cX6_tides 49 = .ok (.iload 5, 2) := by decide +kernel
theorem dX6_tides_51 : decode cX6_tides 51 = .ok (.iaload, 1) := by decide +kernel
theorem dX6_tides_52 : decode cX6_tides 52 = .ok (.bipush (-20), 2) := by decide +kernel
theorem dX6_tides_54 : decode cX6_tides 54 = .ok (.bipush 20, 2) := by decide +kernel
theorem dX6_tides_56 : decode cX6_tides 56 = .ok (.invokestatic 54, 3) := by decide +kernel
theorem dX6_tides_59 : decode cX6_tides 59 = .ok (.ifCond .ne 6, 3) := by decide +kernel
theorem dX6_tides_62 : decode cX6_tides 62 = .ok (.bipush (-2), 2) := by decide +kernel
theorem dX6_tides_64 : decode cX6_tides 64 = .ok (.ireturn, 1) := by decide +kernel
theorem dX6_tides_65 : decode cX6_tides 65 = .ok (.iinc 5 1, 3) := by decide +kernel
theorem dX6_tides_68 : decode cX6_tides 68 = .ok (.goto (-31), 3) := by decide +kernel
theorem dX6_tides_71 : decode cX6_tides 71 = .ok (.aload 4, 2) := by decide +kernel
theorem dX6_tides_73 : decode cX6_tides 73 = .ok (.getfield 254, 3) := by decide +kernel
theorem dX6_tides_76 : decode cX6_tides 76 = .ok (.iconst 0, 1) := by decide +kernel
theorem dX6_tides_77 : decode cX6_tides 77 = .ok (.aload_n 0, 1) := by decide +kernel
theorem dX6_tides_78 : decode cX6_tides 78 = .ok (.getfield 10, 3) := by decide +kernel
theorem dX6_tides_81 : decode cX6_tides 81 = .ok (.getfield 104, 3) := by decide +kernel
theorem dX6_tides_84 : decode cX6_tides 84 = .ok (.iconst 0, 1) := by decide +kernel
theorem dX6_tides_85 : decode cX6_tides 85 = .ok (.bipush 24, 2) := by decide +kernel
theorem dX6_tides_87 : decode cX6_tides 87 = .ok (.invokestatic 257, 3) := by decide +kernel
theorem dX6_tides_90 : decode cX6_tides 90 = .ok (.iconst 1, 1) := by decide +kernel
theorem dX6_tides_91 : decode cX6_tides 91 = .ok (.ireturn, 1) := by decide +kernel
theorem dX6_sheet_0 : decode cX6_sheet 0 = .ok (.iload_n 1, 1) := by decide +kernel
theorem dX6_sheet_1 : decode cX6_sheet 1 = .ok (.invokestatic 263, 3) := by decide +kernel
theorem dX6_sheet_4 : decode cX6_sheet 4 = .ok (.ifCond .eq 16, 3) := by decide +kernel
theorem dX6_sheet_7 : decode cX6_sheet 7 = .ok (.iload_n 2, 1) := by decide +kernel
theorem dX6_sheet_8 : decode cX6_sheet 8 = .ok (.invokestatic 266, 3) := by decide +kernel
theorem dX6_sheet_11 : decode cX6_sheet 11 = .ok (.ifCond .eq 9, 3) := by decide +kernel
theorem dX6_sheet_14 : decode cX6_sheet 14 = .ok (.iload_n 3, 1) := by decide +kernel
theorem dX6_sheet_15 : decode cX6_sheet 15 = .ok (.bipush 24, 2) := by decide +kernel
theorem dX6_sheet_17 : decode cX6_sheet 17 = .ok (.if_icmp .le 5, 3) := by decide +kernel
theorem dX6_sheet_20 : decode cX6_sheet 20 = .ok (.iconst (-1), 1) := by decide +kernel
theorem dX6_sheet_21 : decode cX6_sheet 21 = .ok (.ireturn, 1) := by decide +kernel
theorem dX6_sheet_22 : decode cX6_sheet 22 = .ok (.iload_n 3, 1) := by decide +kernel
theorem dX6_sheet_23 : decode cX6_sheet 23 = .ok (.ifCond .ge 6, 3) := by decide +kernel
theorem dX6_sheet_26 : decode cX6_sheet 26 = .ok (.bipush (-14), 2) := by decide +kernel
theorem dX6_sheet_28 : decode cX6_sheet 28 = .ok (.ireturn, 1) := by decide +kernel
theorem dX6_sheet_29 : decode cX6_sheet 29 = .ok (.aload_n 0, 1) := by decide +kernel
theorem dX6_sheet_30 : decode cX6_sheet 30 = .ok (.getfield 49, 3) := by decide +kernel
theorem dX6_sheet_33 : decode cX6_sheet 33 = .ok (.iload_n 1, 1) := by decide +kernel
theorem dX6_sheet_34 : decode cX6_sheet 34 = .ok (.aaload, 1) := by decide +kernel
theorem dX6_sheet_35 : decode cX6_sheet 35 = .ok (.iload_n 2, 1) := by decide +kernel
theorem dX6_sheet_36 : decode cX6_sheet 36 = .ok (.iload_n 3, 1) := by decide +kernel
theorem dX6_sheet_37 : decode cX6_sheet 37 = .ok (.invokevirtual 269, 3) := by decide +kernel
theorem dX6_sheet_40 : decode cX6_sheet 40 = .ok (.iload_n 3, 1) := by decide +kernel
theorem dX6_sheet_41 : decode cX6_sheet 41 = .ok (.ireturn, 1) := by decide +kernel
theorem dX6_drop_0 : decode cX6_drop 0 = .ok (.iload_n 1, 1) := by decide +kernel
theorem dX6_drop_1 : decode cX6_drop 1 = .ok (.invokestatic 263, 3) := by decide +kernel
theorem dX6_drop_4 : decode cX6_drop 4 = .ok (.ifCond .ne 5, 3) := by decide +kernel
theorem dX6_drop_7 : decode cX6_drop 7 = .ok (.iconst (-1), 1) := by decide +kernel
theorem dX6_drop_8 : decode cX6_drop 8 = .ok (.ireturn, 1) := by decide +kernel
theorem dX6_drop_9 : decode cX6_drop 9 = .ok (.aload_n 0, 1) := by decide +kernel
theorem dX6_drop_10 : decode cX6_drop 10 = .ok (.getfield 49, 3) := by decide +kernel
theorem dX6_drop_13 : decode cX6_drop 13 = .ok (.iload_n 1, 1) := by decide +kernel
theorem dX6_drop_14 : decode cX6_drop 14 = .ok (.aaload, 1) := by decide +kernel
theorem dX6_drop_15 : decode cX6_drop 15 = .ok (.astore_n 2, 1) := by decide +kernel
theorem dX6_drop_16 : decode cX6_drop 16 = .ok (.aload_n 2, 1) := by decide +kernel
theorem dX6_drop_17 : decode cX6_drop 17 = .ok (.getfield 273, 3) := by decide +kernel
theorem dX6_drop_20 : decode cX6_drop 20 = .ok (.ifCond .ne 6, 3) := by decide +kernel
theorem dX6_drop_23 : decode cX6_drop 23 = .ok (.bipush (-11), 2) := by decide +kernel
theorem dX6_drop_25 : decode cX6_drop 25 = .ok (.ireturn, 1) := by decide +kernel
theorem dX6_drop_26 : decode cX6_drop 26 = .ok (.aload_n 2, 1) := by decide +kernel
theorem dX6_drop_27 : decode cX6_drop 27 = .ok (.iconst 0, 1) := by decide +kernel
theorem dX6_drop_28 : decode cX6_drop 28 = .ok (.putfield 273, 3) := by decide +kernel
theorem dX6_drop_31 : decode cX6_drop 31 = .ok (.aload_n 2, 1) := by decide +kernel
theorem dX6_drop_32 : decode cX6_drop 32 = .ok (.getfield 253, 3) := by decide +kernel
theorem dX6_drop_35 : decode cX6_drop 35 = .ok (.ireturn, 1) := by decide +kernel
theorem dX6_item_0 : decode cX6_item 0 = .ok (.aload_n 0, 1) := by decide +kernel
theorem dX6_item_1 : decode cX6_item 1 = .ok (.iload_n 1, 1) := by decide +kernel
theorem dX6_item_2 : decode cX6_item 2 = .ok (.iload_n 2, 1) := by decide +kernel
theorem dX6_item_3 : decode cX6_item 3 = .ok (.invokevirtual 250, 3) := by decide +kernel
theorem dX6_item_6 : decode cX6_item 6 = .ok (.istore 5, 2) := by decide +kernel
theorem dX6_item_8 : decode cX6_item 8 = .ok (.iload 5, 2) := by decide +kernel
theorem dX6_item_10 : decode cX6_item 10 = .ok (.ifCond .eq 6, 3) := by decide +kernel
theorem dX6_item_13 : decode cX6_item 13 = .ok (.iload 5, 2) := by decide +kernel
theorem dX6_item_15 : decode cX6_item 15 = .ok (.ireturn, 1) := by decide +kernel
theorem dX6_item_16 : decode cX6_item 16 = .ok (.aload_n 0, 1) := by decide +kernel
theorem dX6_item_17 : decode cX6_item 17 = .ok (.getfield 49, 3) := by decide +kernel
theorem dX6_item_20 : decode cX6_item 20 = .ok (.iload_n 1, 1) := by decide +kernel
theorem dX6_item_21 : decode cX6_item 21 = .ok (.aaload, 1) := by decide +kernel
theorem dX6_item_22 : decode cX6_item 22 = .ok (.astore 6, 2) := by decide +kernel
theorem dX6_item_24 : decode cX6_item 24 = .ok (.iload_n 3, 1) := by decide +kernel
theorem dX6_item_25 : decode cX6_item 25 = .ok (.iconst 0, 1) := by decide +kernel
theorem dX6_item_26 : decode cX6_item 26 = .ok (.aload 6, 2) := by decide +kernel
theorem dX6_item_28 : decode cX6_item 28 = .ok (.getfield 253, 3) := by decide +kernel
theorem dX6_item_31 : decode cX6_item 31 = .ok (.iconst 1, 1) := by decide +kernel
theorem dX6_item_32 : decode cX6_item 32 = .ok (.isub, 1) := by decide +kernel
theorem dX6_item_33 : decode cX6_item 33 = .ok (.invokestatic 54, 3) := by decide +kernel
theorem dX6_item_36 : decode cX6_item 36 = .ok (.ifCond .ne 6, 3) := by decide +kernel
theorem dX6_item_39 : decode cX6_item 39 = .ok (.bipush (-13), 2) := by decide +kernel
theorem dX6_item_41 : decode cX6_item 41 = .ok (.ireturn, 1) := by decide +kernel
theorem dX6_item_42 : decode cX6_item 42 = .ok (.aload 6, 2) := by decide +kernel
theorem dX6_item_44 : decode cX6_item 44 = .ok (.iload_n 3, 1) := by decide +kernel
theorem dX6_item_45 : decode cX6_item 45 = .ok (.iload 4, 2) := by decide +kernel
theorem dX6_item_47 : decode cX6_item 47 = .ok (.invokevirtual 276, 3) := by decide +kernel
theorem dX6_item_50 : decode cX6_item 50 = .ok (.iconst 1, 1) := by decide +kernel
theorem dX6_item_51 : decode cX6_item 51 = .ok (.ireturn, 1) := by decide +kernel
theorem dX6_copy_0 : decode cX6_copy 0 = .ok (.iload_n 1, 1) := by decide +kernel
theorem dX6_copy_1 : decode cX6_copy 1 = .ok (.invokestatic 263, 3) := by decide +kernel
theorem dX6_copy_4 : decode cX6_copy 4 = .ok (.ifCond .eq 10, 3) := by decide +kernel
theorem dX6_copy_7 : decode cX6_copy 7 = .ok (.iload_n 3, 1) := by decide +kernel
theorem dX6_copy_8 : decode cX6_copy 8 = .ok (.invokestatic 263, 3) := by decide +kernel
theorem dX6_copy_11 : decode cX6_copy 11 = .ok (.ifCond .ne 5, 3) := by decide +kernel
theorem dX6_copy_14 : decode cX6_copy 14 = .ok (.iconst (-1), 1) := by decide +kernel
theorem dX6_copy_15 : decode cX6_copy 15 = .ok (.ireturn, 1) := by decide +kernel
theorem dX6_copy_16 : decode cX6_copy 16 = .ok (.aload_n 0, 1) := by decide +kernel
theorem dX6_copy_17 : decode cX6_copy 17 = .ok (.getfield 49, 3) := by decide +kernel
theorem dX6_copy_20 : decode cX6_copy 20 = .ok (.iload_n 1, 1) := by decide +kernel
theorem dX6_copy_21 : decode cX6_copy 21 = .ok (.aaload, 1) := by decide +kernel
theorem dX6_copy_22 : decode cX6_copy 22 = .ok (.astore 6, 2) := by decide +kernel
theorem dX6_copy_24 : decode cX6_copy 24 = .ok (.aload_n 0, 1) := by decide +kernel
theorem dX6_copy_25 : decode cX6_copy 25 = .ok (.getfield 49, 3) := by decide +kernel
theorem dX6_copy_28 : decode cX6_copy 28 = .ok (.iload_n 3, 1) := by decide +kernel
theorem dX6_copy_29 : decode cX6_copy 29 = .ok (.aaload, 1) := by decide +kernel
theorem dX6_copy_30 : decode cX6_copy 30 = .ok (.astore 7, 2) := by decide +kernel
theorem dX6_copy_32 : decode cX6_copy 32 = .ok (.aload 6, 2) := by decide +kernel
theorem dX6_copy_34 : decode cX6_copy 34 = .ok (.getfield 273, 3) := by decide +kernel
theorem dX6_copy_37 : decode cX6_copy 37 = .ok (.ifCond .eq 11, 3) := by decide +kernel
theorem dX6_copy_40 : decode cX6_copy 40 = .ok (.aload 7, 2) := by decide +kernel
theorem dX6_copy_42 : decode cX6_copy 42 = .ok (.getfield 273, 3) := by decide +kernel
theorem dX6_copy_45 : decode cX6_copy 45 = .ok (.ifCond .ne 6, 3) := by decide +kernel
theorem dX6_copy_48 : decode cX6_copy 48 = .ok (.bipush (-11), 2) := by decide +kernel
theorem dX6_copy_50 : decode cX6_copy 50 = .ok (.ireturn, 1) := by decide +kernel
theorem dX6_copy_51 : decode cX6_copy 51 = .ok (.aload 6, 2) := by decide +kernel
theorem dX6_copy_53 : decode cX6_copy 53 = .ok (.getfield 279, 3) := by decide +kernel
theorem dX6_copy_56 : decode cX6_copy 56 = .ok (.aload 7, 2) := by decide +kernel
theorem dX6_copy_58 : decode cX6_copy 58 = .ok (.getfield 279, 3) := by decide +kernel
theorem dX6_copy_61 : decode cX6_copy 61 = .ok (.if_icmp .eq 6, 3) := by decide +kernel
theorem dX6_copy_64 : decode cX6_copy 64 = .ok (.bipush (-12), 2) := by decide +kernel
theorem dX6_copy_66 : decode cX6_copy 66 = .ok (.ireturn, 1) := by decide +kernel
theorem dX6_copy_67 : decode cX6_copy 67 = .ok (.iload 5, 2) := by decide +kernel
theorem dX6_copy_69 : decode cX6_copy 69 = .ok (.ifCond .lt 26, 3) := by decide +kernel
theorem dX6_copy_72 : decode cX6_copy 72 = .ok (.aload 6, 2) := by decide +kernel
theorem dX6_copy_74 : decode cX6_copy 74 = .ok (.iload_n 2, 1) := by decide +kernel
theorem dX6_copy_75 : decode cX6_copy 75 = .ok (.iload 5, 2) := by decide +kernel
theorem dX6_copy_77 : decode cX6_copy 77 = .ok (.invokevirtual 282, 3) := by decide +kernel
theorem dX6_copy_80 : decode cX6_copy 80 = .ok (.ifCond .eq 15, 3) := by decide +kernel
theorem dX6_copy_83 : decode cX6_copy 83 = .ok (.aload 7, 2) := by decide +kernel
theorem dX6_copy_85 : decode cX6_copy 85 = .ok (.iload 4, 2) := by decide +kernel
theorem dX6_copy_87 : decode cX6_copy 87 = .ok (.iload 5, 2) := by decide +kernel
theorem dX6_copy_89 : decode cX6_copy 89 = .ok (.invokevirtual 282, 3) := by decide +kernel
theorem dX6_copy_92 : decode cX6_copy 92 = .ok (.ifCond .ne 6, 3) := by decide +kernel
theorem dX6_copy_95 : decode cX6_copy 95 = .ok (.bipush (-13), 2) := by decide +kernel
theorem dX6_copy_97 : decode cX6_copy 97 = .ok (.ireturn, 1) := by decide +kernel
theorem dX6_copy_98 : decode cX6_copy 98 = .ok (.aload 6, 2) := by decide +kernel
theorem dX6_copy_100 : decode cX6_copy 100 = .ok (.getfield 254, 3) := by decide +kernel
theorem dX6_copy_103 : decode cX6_copy 103 = .ok (.iload_n 2, 1) := by decide +kernel
theorem dX6_copy_104 : decode cX6_copy 104 = .ok (.aload 7, 2) := by decide +kernel
theorem dX6_copy_106 : decode cX6_copy 106 = .ok (.getfield 254, 3) := by decide +kernel
theorem dX6_copy_109 : decode cX6_copy 109 = .ok (.iload 4, 2) := by decide +kernel
theorem dX6_copy_111 : decode cX6_copy 111 = .ok (.iload 5, 2) := by decide +kernel
theorem dX6_copy_113 : decode cX6_copy 113 = .ok (.invokestatic 257, 3) := by decide +kernel
theorem dX6_copy_116 : decode cX6_copy 116 = .ok (.iload 5, 2) := by decide +kernel
theorem dX6_copy_118 : decode cX6_copy 118 = .ok (.ireturn, 1) := by decide +kernel
theorem dX6_refusal_0 : decode cX6_refusal 0 = .ok (.iload_n 1, 1) := by decide +kernel
theorem dX6_refusal_1 : decode cX6_refusal 1 = .ok (.invokestatic 263, 3) := by decide +kernel
theorem dX6_refusal_4 : decode cX6_refusal 4 = .ok (.ifCond .eq 10, 3) := by decide +kernel
theorem dX6_refusal_7 : decode cX6_refusal 7 = .ok (.iload_n 2, 1) := by decide +kernel
theorem dX6_refusal_8 : decode cX6_refusal 8 = .ok (.invokestatic 266, 3) := by decide +kernel
theorem dX6_refusal_11 : decode cX6_refusal 11 = .ok (.ifCond .ne 5, 3) := by decide +kernel
theorem dX6_refusal_14 : decode cX6_refusal 14 = .ok (.iconst (-1), 1) := by decide +kernel
theorem dX6_refusal_15 : decode cX6_refusal 15 = .ok (.ireturn, 1) := by decide +kernel
theorem dX6_refusal_16 : decode cX6_refusal 16 = .ok (.aload_n 0, 1) := by decide +kernel
theorem dX6_refusal_17 : decode cX6_refusal 17 = .ok (.getfield 49, 3) := by decide +kernel
theorem dX6_refusal_20 : decode cX6_refusal 20 = .ok (.iload_n 1, 1) := by decide +kernel
theorem dX6_refusal_21 : decode cX6_refusal 21 = .ok (.aaload, 1) := by decide +kernel
theorem dX6_refusal_22 : decode cX6_refusal 22 = .ok (.getfield 273, 3) := by decide +kernel
theorem dX6_refusal_25 : decode cX6_refusal 25 = .ok (.ifCond .ne 6, 3) := by decide +kernel
theorem dX6_refusal_28 : decode cX6_refusal 28 = .ok (.bipush (-11), 2) := by decide +kernel
theorem dX6_refusal_30 : decode cX6_refusal 30 = .ok (.ireturn, 1) := by decide +kernel
theorem dX6_refusal_31 : decode cX6_refusal 31 = .ok (.aload_n 0, 1) := by decide +kernel
theorem dX6_refusal_32 : decode cX6_refusal 32 = .ok (.getfield 49, 3) := by decide +kernel
theorem dX6_refusal_35 : decode cX6_refusal 35 = .ok (.iload_n 1, 1) := by decide +kernel
theorem dX6_refusal_36 : decode cX6_refusal 36 = .ok (.aaload, 1) := by decide +kernel
theorem dX6_refusal_37 : decode cX6_refusal 37 = .ok (.getfield 279, 3) := by decide +kernel
theorem dX6_refusal_40 : decode cX6_refusal 40 = .ok (.iload_n 2, 1) := by decide +kernel
theorem dX6_refusal_41 : decode cX6_refusal 41 = .ok (.if_icmp .ne 7, 3) := by decide +kernel
theorem dX6_refusal_44 : decode cX6_refusal 44 = .ok (.iconst 0, 1) := by decide +kernel
theorem dX6_refusal_45 : decode cX6_refusal 45 = .ok (.goto 5, 3) := by decide +kernel
theorem dX6_refusal_48 : decode cX6_refusal 48 = .ok (.bipush (-12), 2) := by decide +kernel
theorem dX6_refusal_50 : decode cX6_refusal 50 = .ok (.ireturn, 1) := by decide +kernel
theorem dX6_within_0 : decode cX6_within 0 = .ok (.iload_n 0, 1) := by decide +kernel
theorem dX6_within_1 : decode cX6_within 1 = .ok (.iload_n 1, 1) := by decide +kernel
theorem dX6_within_2 : decode cX6_within 2 = .ok (.if_icmp .lt 12, 3) := by decide +kernel
theorem dX6_within_5 : decode cX6_within 5 = .ok (.iload_n 0, 1) := by decide +kernel
theorem dX6_within_6 : decode cX6_within 6 = .ok (.iload_n 2, 1) := by decide +kernel
theorem dX6_within_7 : decode cX6_within 7 = .ok (.if_icmp .gt 7, 3) := by decide +kernel
theorem dX6_within_10 : decode cX6_within 10 = .ok (.iconst 1, 1) := by decide +kernel
theorem dX6_within_11 : decode cX6_within 11 = .ok (.goto 4, 3) := by decide +kernel
theorem dX6_within_14 : decode cX6_within 14 = .ok (.iconst 0, 1) := by decide +kernel
theorem dX6_within_15 : decode cX6_within 15 = .ok (.ireturn, 1) := by decide +kernel
theorem dX6_isHour_0 : decode cX6_isHour 0 = .ok (.iload_n 0, 1) := by decide +kernel
theorem dX6_isHour_1 : decode cX6_isHour 1 = .ok (.iconst 0, 1) := by decide +kernel
theorem dX6_isHour_2 : decode cX6_isHour 2 = .ok (.bipush 23, 2) := by decide +kernel
theorem dX6_isHour_4 : decode cX6_isHour 4 = .ok (.invokestatic 54, 3) := by decide +kernel
theorem dX6_isHour_7 : decode cX6_isHour 7 = .ok (.ireturn, 1) := by decide +kernel
theorem dX6_isMinute_0 : decode cX6_isMinute 0 = .ok (.iload_n 0, 1) := by decide +kernel
theorem dX6_isMinute_1 : decode cX6_isMinute 1 = .ok (.iconst 0, 1) := by decide +kernel
theorem dX6_isMinute_2 : decode cX6_isMinute 2 = .ok (.sipush 1439, 3) := by decide +kernel
theorem dX6_isMinute_5 : decode cX6_isMinute 5 = .ok (.invokestatic 54, 3) := by decide +kernel
theorem dX6_isMinute_8 : decode cX6_isMinute 8 = .ok (.ireturn, 1) := by decide +kernel
theorem dX6_isSheet_0 : decode cX6_isSheet 0 = .ok (.iload_n 0, 1) := by decide +kernel
theorem dX6_isSheet_1 : decode cX6_isSheet 1 = .ok (.iconst 0, 1) := by decide +kernel
theorem dX6_isSheet_2 : decode cX6_isSheet 2 = .ok (.iconst 3, 1) := by decide +kernel
theorem dX6_isSheet_3 : decode cX6_isSheet 3 = .ok (.invokestatic 54, 3) := by decide +kernel
theorem dX6_isSheet_6 : decode cX6_isSheet 6 = .ok (.ireturn, 1) := by decide +kernel
theorem dX6_isLane_0 : decode cX6_isLane 0 = .ok (.iload_n 0, 1) := by decide +kernel
theorem dX6_isLane_1 : decode cX6_isLane 1 = .ok (.iconst 0, 1) := by decide +kernel
theorem dX6_isLane_2 : decode cX6_isLane 2 = .ok (.iconst 2, 1) := by decide +kernel
theorem dX6_isLane_3 : decode cX6_isLane 3 = .ok (.invokestatic 54, 3) := by decide +kernel
theorem dX6_isLane_6 : decode cX6_isLane 6 = .ok (.ireturn, 1) := by decide +kernel
theorem dX6_holds_0 : decode cX6_holds 0 = .ok (.iload_n 0, 1) := by decide +kernel
theorem dX6_holds_1 : decode cX6_holds 1 = .ok (.iload_n 1, 1) := by decide +kernel
theorem dX6_holds_2 : decode cX6_holds 2 = .ok (.ishr, 1) := by decide +kernel
theorem dX6_holds_3 : decode cX6_holds 3 = .ok (.iconst 1, 1) := by decide +kernel
theorem dX6_holds_4 : decode cX6_holds 4 = .ok (.iand, 1) := by decide +kernel
theorem dX6_holds_5 : decode cX6_holds 5 = .ok (.ifCond .eq 7, 3) := by decide +kernel
theorem dX6_holds_8 : decode cX6_holds 8 = .ok (.iconst 1, 1) := by decide +kernel
theorem dX6_holds_9 : decode cX6_holds 9 = .ok (.goto 4, 3) := by decide +kernel
theorem dX6_holds_12 : decode cX6_holds 12 = .ok (.iconst 0, 1) := by decide +kernel
theorem dX6_holds_13 : decode cX6_holds 13 = .ok (.ireturn, 1) := by decide +kernel
theorem dX6_byteOf_0 : decode cX6_byteOf 0 = .ok (.lload_n 0, 1) := by decide +kernel
theorem dX6_byteOf_1 : decode cX6_byteOf 1 = .ok (.bipush 8, 2) := by decide +kernel
theorem dX6_byteOf_3 : decode cX6_byteOf 3 = .ok (.iload_n 2, 1) := by decide +kernel
theorem dX6_byteOf_4 : decode cX6_byteOf 4 = .ok (.imul, 1) := by decide +kernel
theorem dX6_byteOf_5 : decode cX6_byteOf 5 = .ok (.lshr, 1) := by decide +kernel
theorem dX6_byteOf_6 : decode cX6_byteOf 6 = .ok (.ldc2_w 285, 3) := by decide +kernel
theorem dX6_byteOf_9 : decode cX6_byteOf 9 = .ok (.land, 1) := by decide +kernel
theorem dX6_byteOf_10 : decode cX6_byteOf 10 = .ok (.l2i, 1) := by decide +kernel
theorem dX6_byteOf_11 : decode cX6_byteOf 11 = .ok (.ireturn, 1) := by decide +kernel
theorem dX6_changed_0 : decode cX6_changed 0 = .ok (.aload_n 0, 1) := by decide +kernel
theorem dX6_changed_1 : decode cX6_changed 1 = .ok (.iload_n 1, 1) := by decide +kernel
theorem dX6_changed_2 : decode cX6_changed 2 = .ok (.iaload, 1) := by decide +kernel
theorem dX6_changed_3 : decode cX6_changed 3 = .ok (.istore_n 3, 1) := by decide +kernel
theorem dX6_changed_4 : decode cX6_changed 4 = .ok (.aload_n 0, 1) := by decide +kernel
theorem dX6_changed_5 : decode cX6_changed 5 = .ok (.iload_n 1, 1) := by decide +kernel
theorem dX6_changed_6 : decode cX6_changed 6 = .ok (.iload_n 2, 1) := by decide +kernel
theorem dX6_changed_7 : decode cX6_changed 7 = .ok (.iastore, 1) := by decide +kernel
theorem dX6_changed_8 : decode cX6_changed 8 = .ok (.iload_n 3, 1) := by decide +kernel
theorem dX6_changed_9 : decode cX6_changed 9 = .ok (.ireturn, 1) := by decide +kernel
end
section
set_option maxRecDepth 100000 in
set_option maxHeartbeats 4000000 in
theorem c_X6_within {l : Launch} {D : va_G} {ad : Nat → Nat} {cy : Nat → ClassId} {b : Nat} (hG : gInj (gGX D ad cy b)) {a0 : Int32} {a1 : Int32} {a2 : Int32} {σ : gMem} {r0 : Int32} (hM : m_X6_within a0 a1 a2 σ = some r0) : gMi l yX6_within (Cond.code yX6_within cX6_within 3 (some .boolean) :: gBig) { frames := 0, cells := 0, slots := 0, locals := 0 } (gGX D ad cy b) [.int a0, .int a1, .int a2] σ r0 σ := by
  refine gIntro (own := RX6) hG (by decide +kernel) rfl rfl (by decide) (lv := [(0, .int a0), (1, .int a1), (2, .int a2)]) rfl (fun κ C E => ?_)
  unfold m_X6_within at hM
  refine x_iln C 0 rfl dX6_within_0 rfl ?_
  refine x_iln C 1 rfl dX6_within_1 rfl ?_
  refine x_ic_lt (tgt := 14) C dX6_within_2 (by decide) rfl (fun hc => ?_) (fun hc => ?_)
  · replace hM := gif_pos hc hM
    refine x_ic (v := 0) C (by decide) dX6_within_14 rfl ?_
    exact x_zret C E (by decide) ⟨gs1 hM, rfl⟩ dX6_within_15
  · replace hM := gif_neg hc hM
    refine x_iln C 0 rfl dX6_within_5 rfl ?_
    refine x_iln C 2 rfl dX6_within_6 rfl ?_
    refine x_ic_gt (tgt := 14) C dX6_within_7 (by decide) rfl (fun hc => ?_) (fun hc => ?_)
    · replace hM := gif_pos hc hM
      refine x_ic (v := 0) C (by decide) dX6_within_14 rfl ?_
      exact x_zret C E (by decide) ⟨gs1 hM, rfl⟩ dX6_within_15
    · replace hM := gif_neg hc hM
      refine x_ic (v := 1) C (by decide) dX6_within_10 rfl ?_
      refine x_goto (tgt := 15) C dX6_within_11 (by decide) ?_
      exact x_zret C E (by decide) ⟨gs1 hM, rfl⟩ dX6_within_15
set_option maxRecDepth 100000 in
set_option maxHeartbeats 4000000 in
theorem c_X1_addPlace {l : Launch} {D : va_G} {ad : Nat → Nat} {cy : Nat → ClassId} {b : Nat} (hG : gInj (gGX D ad cy b)) {a0 : Int32} {a1 : Int32} {σ : gMem} {r0 : Int32} {σ0 : gMem} (hM : m_X1_addPlace a0 a1 σ = some (r0, σ0)) : gMi l yX1_addPlace (Cond.code yX1_addPlace cX1_addPlace 3 (some .int) :: gBig) { frames := 0, cells := 0, slots := 0, locals := 0 } (gGX D ad cy b) [.ref (ad 1), .int a0, .int a1] σ r0 σ0 := by
  refine gIntro (own := RX1) hG (by decide +kernel) rfl rfl (by decide) (lv := [(0, .ref (ad 1)), (1, .int a0), (2, .int a1)]) rfl (fun κ C E => ?_)
  unfold m_X1_addPlace at hM
  refine x_aln C 0 rfl dX1_addPlace_0 rfl ?_
  refine gXg_1_depths C kf_X1_9 dX1_addPlace_1 rfl ?_
  refine x_aln C 0 rfl dX1_addPlace_4 rfl ?_
  refine gXg_1_places C kf_X1_51 dX1_addPlace_5 rfl ?_
  refine x_iln C 1 rfl dX1_addPlace_8 rfl ?_
  obtain ⟨h1, hM⟩ := gck_some hM
  obtain ⟨s2, ev, hM⟩ := gnm_ex hM
  refine gXs_2 C ev h1 dX1_addPlace_9 rfl ?_
  refine x_aln C 0 rfl dX1_addPlace_10 rfl ?_
  refine gXg_1_splices C kf_X1_15 dX1_addPlace_11 rfl ?_
  refine x_aln C 0 rfl dX1_addPlace_14 rfl ?_
  refine gXg_1_places C kf_X1_51 dX1_addPlace_15 rfl ?_
  refine x_iln C 2 rfl dX1_addPlace_18 rfl ?_
  obtain ⟨h3, hM⟩ := gck_some hM
  obtain ⟨s4, ev, hM⟩ := gnm_ex hM
  refine gXs_3 C ev h3 dX1_addPlace_19 rfl ?_
  refine x_aln C 0 rfl dX1_addPlace_20 rfl ?_
  refine gXg_1_silts C kf_X1_18 dX1_addPlace_21 rfl ?_
  refine x_aln C 0 rfl dX1_addPlace_24 rfl ?_
  refine gXg_1_places C kf_X1_51 dX1_addPlace_25 rfl ?_
  refine x_ic (v := 0) C (by decide) dX1_addPlace_28 rfl ?_
  obtain ⟨h5, hM⟩ := gck_some hM
  obtain ⟨s6, ev, hM⟩ := gnm_ex hM
  refine gXs_4 C ev h5 dX1_addPlace_29 rfl ?_
  refine x_aln C 0 rfl dX1_addPlace_30 rfl ?_
  refine x_dup C rfl dX1_addPlace_31 rfl ?_
  refine gXg_1_places C kf_X1_51 dX1_addPlace_32 rfl ?_
  refine x_dupx1 C rfl rfl dX1_addPlace_35 rfl ?_
  refine x_ic (v := 1) C (by decide) dX1_addPlace_36 rfl ?_
  refine x_iadd C dX1_addPlace_37 rfl ?_
  obtain ⟨s7, ev, hM⟩ := gnm_ex hM
  refine gXp_1_places C ev kf_X1_51 dX1_addPlace_38 rfl ?_
  exact x_iret C E (gs2 hM) dX1_addPlace_41
set_option maxRecDepth 100000 in
set_option maxHeartbeats 4000000 in
theorem c_X6_place {l : Launch} {D : va_G} {ad : Nat → Nat} {cy : Nat → ClassId} {b : Nat} (hG : gInj (gGX D ad cy b)) {a0 : Int32} {σ : gMem} {r0 : Int32} {σ0 : gMem} (hM : m_X6_place a0 σ = some (r0, σ0)) : gMi l yX6_place (Cond.code yX6_place cX6_place 2 (some .int) :: gBig) { frames := 1, cells := 0, slots := 0, locals := 22 } (gGX D ad cy b) [.ref (ad 0), .int a0] σ r0 σ0 := by
  refine gIntro (own := RX6) hG (by decide +kernel) rfl rfl (by decide) (lv := [(0, .ref (ad 0)), (1, .int a0)]) rfl (fun κ C E => ?_)
  unfold m_X6_place at hM
  refine x_iln C 1 rfl dX6_place_0 rfl ?_
  refine x_bi (v := (-20)) C (by decide) dX6_place_1 rfl ?_
  refine x_bi (v := 60) C (by decide) dX6_place_3 rfl ?_
  obtain ⟨r2, h1, hM⟩ := gb1_some hM
  refine x_csi (As := [.int a0, .int (-20), .int 60]) (rest := []) C E.2.2.2.2.2 3 (c_X6_within hG h1) (gBs km_X6_54 kst_X6_within kini_X6 kc_X6_within) rfl rfl rfl ⟨by decide +kernel, by decide +kernel, by decide +kernel⟩ ⟨Nat.le_of_ble_eq_true rfl, Nat.le_of_ble_eq_true rfl⟩ rfl rfl (by decide) dX6_place_5 rfl ?_
  refine x_if_ne (tgt := 13) C dX6_place_8 (by decide) rfl (fun hc => ?_) (fun hc => ?_)
  · replace hM := gif_neg hc hM
    refine x_aln C 0 rfl dX6_place_13 rfl ?_
    refine gXg_0_now C kf_X6_10 dX6_place_14 rfl ?_
    refine gXg_1_places C kf_X6_58 dX6_place_17 rfl ?_
    refine x_bi (v := 12) C (by decide) dX6_place_20 rfl ?_
    refine x_ic_lt (tgt := 28) C dX6_place_22 (by decide) rfl (fun hc => ?_) (fun hc => ?_)
    · replace hM := gif_pos hc hM
      refine x_aln C 0 rfl dX6_place_28 rfl ?_
      refine gXg_0_now C kf_X6_10 dX6_place_29 rfl ?_
      refine x_iln C 1 rfl dX6_place_32 rfl ?_
      refine x_ic (v := 0) C (by decide) dX6_place_33 rfl ?_
      obtain ⟨r5, s4, h3, hM⟩ := gb2_some hM
      refine x_cvi (As := [.int a0, .int 0]) (rest := []) C E.2.2.2.2.2 2 (c_X1_addPlace hG h3) (gBv km_X6_62 kin_X1_addPlace ksel_X1_addPlace kini_X1 kc_X1_addPlace) rfl rfl rfl ⟨rfl, by decide +kernel, by decide +kernel, by decide +kernel⟩ ⟨Nat.le_of_ble_eq_true rfl, Nat.le_of_ble_eq_true rfl⟩ (by show 1 < 213; decide) rfl rfl rfl rfl (by decide) dX6_place_34 rfl ?_
      exact x_iret C E (gs2 hM) dX6_place_37
    · replace hM := gif_neg hc hM
      refine x_bi (v := (-3)) C (by decide) dX6_place_25 rfl ?_
      exact x_iret C E (gs2 hM) dX6_place_27
  · replace hM := gif_pos hc hM
    refine x_ic (v := (-1)) C (by decide) dX6_place_11 rfl ?_
    exact x_iret C E (gs2 hM) dX6_place_12
set_option maxRecDepth 100000 in
set_option maxHeartbeats 4000000 in
theorem c_X1_hasPlace {l : Launch} {D : va_G} {ad : Nat → Nat} {cy : Nat → ClassId} {b : Nat} (hG : gInj (gGX D ad cy b)) {a0 : Int32} {σ : gMem} {r0 : Int32} (hM : m_X1_hasPlace a0 σ = some r0) : gMi l yX1_hasPlace (Cond.code yX1_hasPlace cX1_hasPlace 2 (some .boolean) :: gBig) { frames := 1, cells := 0, slots := 0, locals := 22 } (gGX D ad cy b) [.ref (ad 1), .int a0] σ r0 σ := by
  refine gIntro (own := RX1) hG (by decide +kernel) rfl rfl (by decide) (lv := [(0, .ref (ad 1)), (1, .int a0)]) rfl (fun κ C E => ?_)
  unfold m_X1_hasPlace at hM
  refine x_iln C 1 rfl dX1_hasPlace_0 rfl ?_
  refine x_ic (v := 0) C (by decide) dX1_hasPlace_1 rfl ?_
  refine x_aln C 0 rfl dX1_hasPlace_2 rfl ?_
  refine gXg_1_places C kf_X1_51 dX1_hasPlace_3 rfl ?_
  refine x_ic (v := 1) C (by decide) dX1_hasPlace_6 rfl ?_
  refine x_isub C dX1_hasPlace_7 rfl ?_
  obtain ⟨r2, h1, hM⟩ := gb1_some hM
  refine x_csni (As := [.int a0, .int 0, .int ((σ 1 0) - 1)]) (rest := []) C E.2.2.2.2.2 3 (c_X6_within hG h1) (gBn kc_X6_within) rfl rfl rfl (by decide +kernel) (gBc kini_X6) (gBc kst_X6_within) ⟨by decide +kernel, by decide +kernel, by decide +kernel⟩ ⟨Nat.le_of_ble_eq_true rfl, Nat.le_of_ble_eq_true rfl⟩ rfl rfl (by decide) dX1_hasPlace_8 rfl ?_
  obtain ⟨h3, hM⟩ := gck_some hM
  exact x_zret C E h3 ⟨gs1 hM, rfl⟩ dX1_hasPlace_11
set_option maxRecDepth 100000 in
set_option maxHeartbeats 4000000 in
theorem c_X6_changed_2 {l : Launch} {D : va_G} {ad : Nat → Nat} {cy : Nat → ClassId} {b : Nat} (hG : gInj (gGX D ad cy b)) {a1 : Int32} {a2 : Int32} {σ : gMem} {r0 : Int32} {σ0 : gMem} (hM : m_X6_changed_2 a1 a2 σ = some (r0, σ0)) : gMi l yX6_changed (Cond.code yX6_changed cX6_changed 4 (some .int) :: gBig) { frames := 0, cells := 0, slots := 0, locals := 0 } (gGX D ad cy b) [.ref (ad 2), .int a1, .int a2] σ r0 σ0 := by
  refine gIntro (own := RX6) hG (by decide +kernel) rfl rfl (by decide) (lv := [(0, .ref (ad 2)), (1, .int a1), (2, .int a2)]) rfl (fun κ C E => ?_)
  unfold m_X6_changed_2 at hM
  refine x_aln C 0 rfl dX6_changed_0 rfl ?_
  refine x_iln C 1 rfl dX6_changed_1 rfl ?_
  obtain ⟨h1, hM⟩ := gck_some hM
  refine gXa_2 C h1 dX6_changed_2 rfl ?_
  obtain ⟨x3_2, ev, hM⟩ := gnm_ex hM
  refine x_istn (lv' := [(3, .int x3_2), (0, .ref (ad 2)), (1, .int a1), (2, .int a2)]) C rfl ev (by decide) rfl dX6_changed_3 rfl ?_
  refine x_aln C 1 rfl dX6_changed_4 rfl ?_
  refine x_iln C 2 rfl dX6_changed_5 rfl ?_
  refine x_iln C 3 rfl dX6_changed_6 rfl ?_
  obtain ⟨h3, hM⟩ := gck_some hM
  obtain ⟨s4, ev, hM⟩ := gnm_ex hM
  refine gXs_2 C ev h3 dX6_changed_7 rfl ?_
  refine x_iln C 0 rfl dX6_changed_8 rfl ?_
  exact x_iret C E (gs2 hM) dX6_changed_9
set_option maxRecDepth 100000 in
set_option maxHeartbeats 4000000 in
theorem c_X6_changed_3 {l : Launch} {D : va_G} {ad : Nat → Nat} {cy : Nat → ClassId} {b : Nat} (hG : gInj (gGX D ad cy b)) {a1 : Int32} {a2 : Int32} {σ : gMem} {r0 : Int32} {σ0 : gMem} (hM : m_X6_changed_3 a1 a2 σ = some (r0, σ0)) : gMi l yX6_changed (Cond.code yX6_changed cX6_changed 4 (some .int) :: gBig) { frames := 0, cells := 0, slots := 0, locals := 0 } (gGX D ad cy b) [.ref (ad 3), .int a1, .int a2] σ r0 σ0 := by
  refine gIntro (own := RX6) hG (by decide +kernel) rfl rfl (by decide) (lv := [(0, .ref (ad 3)), (1, .int a1), (2, .int a2)]) rfl (fun κ C E => ?_)
  unfold m_X6_changed_3 at hM
  refine x_aln C 0 rfl dX6_changed_0 rfl ?_
  refine x_iln C 1 rfl dX6_changed_1 rfl ?_
  obtain ⟨h1, hM⟩ := gck_some hM
  refine gXa_3 C h1 dX6_changed_2 rfl ?_
  obtain ⟨x3_2, ev, hM⟩ := gnm_ex hM
  refine x_istn (lv' := [(3, .int x3_2), (0, .ref (ad 3)), (1, .int a1), (2, .int a2)]) C rfl ev (by decide) rfl dX6_changed_3 rfl ?_
  refine x_aln C 1 rfl dX6_changed_4 rfl ?_
  refine x_iln C 2 rfl dX6_changed_5 rfl ?_
  refine x_iln C 3 rfl dX6_changed_6 rfl ?_
  obtain ⟨h3, hM⟩ := gck_some hM
  obtain ⟨s4, ev, hM⟩ := gnm_ex hM
  refine gXs_3 C ev h3 dX6_changed_7 rfl ?_
  refine x_iln C 0 rfl dX6_changed_8 rfl ?_
  exact x_iret C E (gs2 hM) dX6_changed_9
set_option maxRecDepth 100000 in
set_option maxHeartbeats 4000000 in
theorem c_X1_postsBeside {l : Launch} {D : va_G} {ad : Nat → Nat} {cy : Nat → ClassId} {b : Nat} (hG : gInj (gGX D ad cy b)) {a0 : Int32} {σ : gMem} {r0 : Int32} (hM : m_X1_postsBeside a0 σ = some r0) : gMi l yX1_postsBeside (Cond.code yX1_postsBeside cX1_postsBeside 4 (some .int) :: gBig) { frames := 0, cells := 0, slots := 0, locals := 0 } (gGX D ad cy b) [.ref (ad 1), .int a0] σ r0 σ := by
  refine gIntro (own := RX1) hG (by decide +kernel) rfl rfl (by decide) (lv := [(0, .ref (ad 1)), (1, .int a0)]) rfl (fun κ C E => ?_)
  unfold m_X1_postsBeside at hM
  refine x_ic (v := 0) C (by decide) dX1_postsBeside_0 rfl ?_
  refine x_istn (lv' := [(2, .int 0), (0, .ref (ad 1)), (1, .int a0)]) C rfl rfl (by decide) rfl dX1_postsBeside_1 rfl ?_
  refine x_ic (v := 0) C (by decide) dX1_postsBeside_2 rfl ?_
  refine x_istn (lv' := [(3, .int 0), (2, .int 0), (0, .ref (ad 1)), (1, .int a0)]) C rfl rfl (by decide) rfl dX1_postsBeside_3 rfl ?_
  have L4 : ∀ (n : Nat) (x2_1 : Int32) (x3_2 : Int32) (x2_3 : Int32), m_X1_postsBeside_4 a0 σ n x2_1 x3_2 = some (x2_3) → (wx κ (gGX D ad cy b) (gA (gGX D ad cy b)) 4 σ 35 [(2, .int x2_3)] []) → wx κ (gGX D ad cy b) (gA (gGX D ad cy b)) 4 σ 4 [(0, .ref (ad 1)), (1, .int a0), (2, .int x2_1), (3, .int x3_2)] [] := by
    clear hM
    intro n
    induction n with
    | zero => intro _ _ _ hM; cases hM
    | succ n ih =>
      intro x2_1 x3_2 x2_3 hM kx0
      replace hM : b_X1_postsBeside_4 a0 σ (m_X1_postsBeside_4 a0 σ n) x2_1 x3_2 = some (x2_3) := hM
      unfold b_X1_postsBeside_4 at hM
      refine x_iln C 3 rfl dX1_postsBeside_4 rfl ?_
      refine x_aln C 0 rfl dX1_postsBeside_5 rfl ?_
      refine gXg_1_places C kf_X1_51 dX1_postsBeside_6 rfl ?_
      refine x_ic_ge (tgt := 35) C dX1_postsBeside_9 (by decide) rfl (fun hc => ?_) (fun hc => ?_)
      · replace hM := gif_pos hc hM
        cases hM
        exact x_sub [2] rfl (kx0)
      · replace hM := gif_neg hc hM
        refine x_iln C 3 rfl dX1_postsBeside_12 rfl ?_
        refine x_iln C 1 rfl dX1_postsBeside_13 rfl ?_
        refine x_ic_eq (tgt := 29) C dX1_postsBeside_14 (by decide) rfl (fun hc => ?_) (fun hc => ?_)
        · replace hM := gif_pos hc hM
          obtain ⟨x3_4, ev, hM⟩ := gnm_ex hM
          refine x_iinc (j := 3) (lv' := [(3, .int x3_4), (0, .ref (ad 1)), (1, .int a0), (2, .int x2_1)]) C rfl ev (by decide) rfl dX1_postsBeside_29 rfl ?_
          refine x_goto (tgt := 4) C dX1_postsBeside_32 (by decide) ?_
          exact x_sub [1, 2, 3, 0] rfl (ih x2_1 x3_4 _ hM kx0)
        · replace hM := gif_neg hc hM
          refine x_aln C 0 rfl dX1_postsBeside_17 rfl ?_
          refine gXg_1_splices C kf_X1_15 dX1_postsBeside_18 rfl ?_
          refine x_iln C 3 rfl dX1_postsBeside_21 rfl ?_
          obtain ⟨h5, hM⟩ := gck_some hM
          refine gXa_3 C h5 dX1_postsBeside_22 rfl ?_
          refine x_if_le (tgt := 29) C dX1_postsBeside_23 (by decide) rfl (fun hc => ?_) (fun hc => ?_)
          · replace hM := gif_pos hc hM
            obtain ⟨x3_6, ev, hM⟩ := gnm_ex hM
            refine x_iinc (j := 3) (lv' := [(3, .int x3_6), (0, .ref (ad 1)), (1, .int a0), (2, .int x2_1)]) C rfl ev (by decide) rfl dX1_postsBeside_29 rfl ?_
            refine x_goto (tgt := 4) C dX1_postsBeside_32 (by decide) ?_
            exact x_sub [1, 2, 3, 0] rfl (ih x2_1 x3_6 _ hM kx0)
          · replace hM := gif_neg hc hM
            obtain ⟨x2_7, ev, hM⟩ := gnm_ex hM
            refine x_iinc (j := 2) (lv' := [(2, .int x2_7), (0, .ref (ad 1)), (1, .int a0), (3, .int x3_2)]) C rfl ev (by decide) rfl dX1_postsBeside_26 rfl ?_
            obtain ⟨x3_8, ev, hM⟩ := gnm_ex hM
            refine x_iinc (j := 3) (lv' := [(3, .int x3_8), (2, .int x2_7), (0, .ref (ad 1)), (1, .int a0)]) C rfl ev (by decide) rfl dX1_postsBeside_29 rfl ?_
            refine x_goto (tgt := 4) C dX1_postsBeside_32 (by decide) ?_
            exact x_sub [2, 3, 1, 0] rfl (ih x2_7 x3_8 _ hM kx0)
  obtain ⟨x2_3, hL9, hM⟩ := gb1_some hM
  refine x_sub [2, 3, 1, 0] rfl (L4 gFU 0 0 _ hL9 ?_)
  clear L4
  refine x_iln C 0 rfl dX1_postsBeside_35 rfl ?_
  exact x_iret C E ⟨gs1 hM, rfl⟩ dX1_postsBeside_36
set_option maxRecDepth 100000 in
set_option maxHeartbeats 4000000 in
theorem c_X6_makeSplices {l : Launch} {D : va_G} {ad : Nat → Nat} {cy : Nat → ClassId} {b : Nat} (hG : gInj (gGX D ad cy b)) {a0 : Int32} {a1 : Int32} {σ : gMem} {r0 : Int32} {σ0 : gMem} (hM : m_X6_makeSplices a0 a1 σ = some (r0, σ0)) : gMi l yX6_makeSplices (Cond.code yX6_makeSplices cX6_makeSplices 3 (some .int) :: gBig) { frames := 1, cells := 0, slots := 0, locals := 23 } (gGX D ad cy b) [.ref (ad 0), .int a0, .int a1] σ r0 σ0 := by
  refine gIntro (own := RX6) hG (by decide +kernel) rfl rfl (by decide) (lv := [(0, .ref (ad 0)), (1, .int a0), (2, .int a1)]) rfl (fun κ C E => ?_)
  unfold m_X6_makeSplices at hM
  refine x_iln C 2 rfl dX6_makeSplices_0 rfl ?_
  refine x_ic (v := 0) C (by decide) dX6_makeSplices_1 rfl ?_
  refine x_bi (v := 20) C (by decide) dX6_makeSplices_2 rfl ?_
  obtain ⟨r2, h1, hM⟩ := gb1_some hM
  refine x_csi (As := [.int a1, .int 0, .int 20]) (rest := []) C E.2.2.2.2.2 3 (c_X6_within hG h1) (gBs km_X6_54 kst_X6_within kini_X6 kc_X6_within) rfl rfl rfl ⟨by decide +kernel, by decide +kernel, by decide +kernel⟩ ⟨Nat.le_of_ble_eq_true rfl, Nat.le_of_ble_eq_true rfl⟩ rfl rfl (by decide) dX6_makeSplices_4 rfl ?_
  refine x_if_ne (tgt := 13) C dX6_makeSplices_7 (by decide) rfl (fun hc => ?_) (fun hc => ?_)
  · replace hM := gif_neg hc hM
    refine x_iln C 2 rfl dX6_makeSplices_13 rfl ?_
    refine x_if_le (tgt := 32) C dX6_makeSplices_14 (by decide) rfl (fun hc => ?_) (fun hc => ?_)
    · replace hM := gif_pos hc hM
      refine x_aln C 0 rfl dX6_makeSplices_32 rfl ?_
      refine gXg_0_now C kf_X6_10 dX6_makeSplices_33 rfl ?_
      refine gXg_1_splices C kf_X6_90 dX6_makeSplices_36 rfl ?_
      refine x_iln C 1 rfl dX6_makeSplices_39 rfl ?_
      refine x_iln C 2 rfl dX6_makeSplices_40 rfl ?_
      obtain ⟨r5, s4, h3, hM⟩ := gb2_some hM
      refine x_csi (As := [.ref (ad 3), .int a0, .int a1]) (rest := []) C E.2.2.2.2.2 3 (c_X6_changed_3 hG h3) (gBs km_X6_75 kst_X6_changed kini_X6 kc_X6_changed) rfl rfl rfl ⟨by decide +kernel, by decide +kernel, by decide +kernel⟩ ⟨Nat.le_of_ble_eq_true rfl, Nat.le_of_ble_eq_true rfl⟩ rfl rfl (by decide) dX6_makeSplices_41 rfl ?_
      exact x_iret C E (gs2 hM) dX6_makeSplices_44
    · replace hM := gif_neg hc hM
      refine x_aln C 0 rfl dX6_makeSplices_17 rfl ?_
      refine gXg_0_now C kf_X6_10 dX6_makeSplices_18 rfl ?_
      refine x_iln C 1 rfl dX6_makeSplices_21 rfl ?_
      obtain ⟨r7, h6, hM⟩ := gb1_some hM
      refine x_cvi (As := [.int a0]) (rest := []) C E.2.2.2.2.2 1 (c_X1_postsBeside hG h6) (gBv km_X6_85 kin_X1_postsBeside ksel_X1_postsBeside kini_X1 kc_X1_postsBeside) rfl rfl rfl ⟨rfl, by decide +kernel, by decide +kernel, by decide +kernel⟩ ⟨Nat.le_of_ble_eq_true rfl, Nat.le_of_ble_eq_true rfl⟩ (by show 1 < 213; decide) rfl rfl rfl rfl (by decide) dX6_makeSplices_22 rfl ?_
      refine x_ic (v := 3) C (by decide) dX6_makeSplices_25 rfl ?_
      refine x_ic_lt (tgt := 32) C dX6_makeSplices_26 (by decide) rfl (fun hc => ?_) (fun hc => ?_)
      · replace hM := gif_pos hc hM
        refine x_aln C 0 rfl dX6_makeSplices_32 rfl ?_
        refine gXg_0_now C kf_X6_10 dX6_makeSplices_33 rfl ?_
        refine gXg_1_splices C kf_X6_90 dX6_makeSplices_36 rfl ?_
        refine x_iln C 1 rfl dX6_makeSplices_39 rfl ?_
        refine x_iln C 2 rfl dX6_makeSplices_40 rfl ?_
        obtain ⟨r10, s9, h8, hM⟩ := gb2_some hM
        refine x_csi (As := [.ref (ad 3), .int a0, .int a1]) (rest := []) C E.2.2.2.2.2 3 (c_X6_changed_3 hG h8) (gBs km_X6_75 kst_X6_changed kini_X6 kc_X6_changed) rfl rfl rfl ⟨by decide +kernel, by decide +kernel, by decide +kernel⟩ ⟨Nat.le_of_ble_eq_true rfl, Nat.le_of_ble_eq_true rfl⟩ rfl rfl (by decide) dX6_makeSplices_41 rfl ?_
        exact x_iret C E (gs2 hM) dX6_makeSplices_44
      · replace hM := gif_neg hc hM
        refine x_ldc (v := (-100003)) C (gBc kk_X6_89) dX6_makeSplices_29 rfl ?_
        exact x_iret C E (gs2 hM) dX6_makeSplices_31
  · replace hM := gif_pos hc hM
    refine x_ldc (v := (-100001)) C (gBc kk_X6_70) dX6_makeSplices_10 rfl ?_
    exact x_iret C E (gs2 hM) dX6_makeSplices_12
set_option maxRecDepth 100000 in
set_option maxHeartbeats 4000000 in
theorem c_X6_changed_4 {l : Launch} {D : va_G} {ad : Nat → Nat} {cy : Nat → ClassId} {b : Nat} (hG : gInj (gGX D ad cy b)) {a1 : Int32} {a2 : Int32} {σ : gMem} {r0 : Int32} {σ0 : gMem} (hM : m_X6_changed_4 a1 a2 σ = some (r0, σ0)) : gMi l yX6_changed (Cond.code yX6_changed cX6_changed 4 (some .int) :: gBig) { frames := 0, cells := 0, slots := 0, locals := 0 } (gGX D ad cy b) [.ref (ad 4), .int a1, .int a2] σ r0 σ0 := by
  refine gIntro (own := RX6) hG (by decide +kernel) rfl rfl (by decide) (lv := [(0, .ref (ad 4)), (1, .int a1), (2, .int a2)]) rfl (fun κ C E => ?_)
  unfold m_X6_changed_4 at hM
  refine x_aln C 0 rfl dX6_changed_0 rfl ?_
  refine x_iln C 1 rfl dX6_changed_1 rfl ?_
  obtain ⟨h1, hM⟩ := gck_some hM
  refine gXa_4 C h1 dX6_changed_2 rfl ?_
  obtain ⟨x3_2, ev, hM⟩ := gnm_ex hM
  refine x_istn (lv' := [(3, .int x3_2), (0, .ref (ad 4)), (1, .int a1), (2, .int a2)]) C rfl ev (by decide) rfl dX6_changed_3 rfl ?_
  refine x_aln C 1 rfl dX6_changed_4 rfl ?_
  refine x_iln C 2 rfl dX6_changed_5 rfl ?_
  refine x_iln C 3 rfl dX6_changed_6 rfl ?_
  obtain ⟨h3, hM⟩ := gck_some hM
  obtain ⟨s4, ev, hM⟩ := gnm_ex hM
  refine gXs_4 C ev h3 dX6_changed_7 rfl ?_
  refine x_iln C 0 rfl dX6_changed_8 rfl ?_
  exact x_iret C E (gs2 hM) dX6_changed_9
set_option maxRecDepth 100000 in
set_option maxHeartbeats 4000000 in
theorem c_X6_make {l : Launch} {D : va_G} {ad : Nat → Nat} {cy : Nat → ClassId} {b : Nat} (hG : gInj (gGX D ad cy b)) {a0 : Int32} {a1 : Int32} {a2 : Int32} {σ : gMem} {r0 : Int32} {σ0 : gMem} (hM : m_X6_make a0 a1 a2 σ = some (r0, σ0)) : gMi l yX6_make (Cond.code yX6_make cX6_make 4 (some .int) :: gBig) { frames := 2, cells := 0, slots := 0, locals := 45 } (gGX D ad cy b) [.ref (ad 0), .int a0, .int a1, .int a2] σ r0 σ0 := by
  refine gIntro (own := RX6) hG (by decide +kernel) rfl rfl (by decide) (lv := [(0, .ref (ad 0)), (1, .int a0), (2, .int a1), (3, .int a2)]) rfl (fun κ C E => ?_)
  unfold m_X6_make at hM
  refine x_aln C 0 rfl dX6_make_0 rfl ?_
  refine gXg_0_now C kf_X6_10 dX6_make_1 rfl ?_
  refine x_iln C 1 rfl dX6_make_4 rfl ?_
  obtain ⟨r2, h1, hM⟩ := gb1_some hM
  refine x_cvi (As := [.int a0]) (rest := []) C E.2.2.2.2.2 1 (c_X1_hasPlace hG h1) (gBv km_X6_66 kin_X1_hasPlace ksel_X1_hasPlace kini_X1 kc_X1_hasPlace) rfl rfl rfl ⟨rfl, by decide +kernel, by decide +kernel, by decide +kernel⟩ ⟨Nat.le_of_ble_eq_true rfl, Nat.le_of_ble_eq_true rfl⟩ (by show 1 < 213; decide) rfl rfl rfl rfl (by decide) dX6_make_5 rfl ?_
  refine x_if_ne (tgt := 14) C dX6_make_8 (by decide) rfl (fun hc => ?_) (fun hc => ?_)
  · replace hM := gif_neg hc hM
    refine x_iln C 2 rfl dX6_make_14 rfl ?_
    by_cases h8 : a1 = 0
    · have hM := gif_pos h8 hM
      refine x_swin (tgt := 40) C dX6_make_15 (by rw [h8]; decide) (by rw [h8]; decide) (by rw [h8]; rfl) (by decide) ?_
      refine x_iln C 3 rfl dX6_make_40 rfl ?_
      refine x_bi (v := (-20)) C (by decide) dX6_make_41 rfl ?_
      refine x_bi (v := 60) C (by decide) dX6_make_43 rfl ?_
      obtain ⟨r4, h3, hM⟩ := gb1_some hM
      refine x_csi (As := [.int a2, .int (-20), .int 60]) (rest := []) C E.2.2.2.2.2 3 (c_X6_within hG h3) (gBs km_X6_54 kst_X6_within kini_X6 kc_X6_within) rfl rfl rfl ⟨by decide +kernel, by decide +kernel, by decide +kernel⟩ ⟨Nat.le_of_ble_eq_true rfl, Nat.le_of_ble_eq_true rfl⟩ rfl rfl (by decide) dX6_make_45 rfl ?_
      refine x_if_eq (tgt := 66) C dX6_make_48 (by decide) rfl (fun hc => ?_) (fun hc => ?_)
      · replace hM := gif_pos hc hM
        refine x_ldc (v := (-100001)) C (gBc kk_X6_70) dX6_make_66 rfl ?_
        exact x_iret C E (gs2 hM) dX6_make_68
      · replace hM := gif_neg hc hM
        refine x_aln C 0 rfl dX6_make_51 rfl ?_
        refine gXg_0_now C kf_X6_10 dX6_make_52 rfl ?_
        refine gXg_1_depths C kf_X6_71 dX6_make_55 rfl ?_
        refine x_iln C 1 rfl dX6_make_58 rfl ?_
        refine x_iln C 3 rfl dX6_make_59 rfl ?_
        obtain ⟨r7, s6, h5, hM⟩ := gb2_some hM
        refine x_csi (As := [.ref (ad 2), .int a0, .int a2]) (rest := []) C E.2.2.2.2.2 3 (c_X6_changed_2 hG h5) (gBs km_X6_75 kst_X6_changed kini_X6 kc_X6_changed) rfl rfl rfl ⟨by decide +kernel, by decide +kernel, by decide +kernel⟩ ⟨Nat.le_of_ble_eq_true rfl, Nat.le_of_ble_eq_true rfl⟩ rfl rfl (by decide) dX6_make_60 rfl ?_
        refine x_goto (tgt := 68) C dX6_make_63 (by decide) ?_
        exact x_iret C E (gs2 hM) dX6_make_68
    replace hM := gif_neg h8 hM
    by_cases h12 : a1 = 1
    · have hM := gif_pos h12 hM
      refine x_swin (tgt := 69) C dX6_make_15 (by rw [h12]; decide) (by rw [h12]; decide) (by rw [h12]; rfl) (by decide) ?_
      refine x_aln C 0 rfl dX6_make_69 rfl ?_
      refine x_iln C 1 rfl dX6_make_70 rfl ?_
      refine x_iln C 3 rfl dX6_make_71 rfl ?_
      obtain ⟨r11, s10, h9, hM⟩ := gb2_some hM
      refine x_cvi (As := [.int a0, .int a2]) (rest := []) C E.2.2.2.2.2 2 (c_X6_makeSplices hG h9) (gBv km_X6_79 kin_X6_makeSplices ksel_X6_makeSplices kini_X6 kc_X6_makeSplices) rfl rfl rfl ⟨rfl, by decide +kernel, by decide +kernel, by decide +kernel⟩ ⟨Nat.le_of_ble_eq_true rfl, Nat.le_of_ble_eq_true rfl⟩ (by show 0 < 213; decide) rfl rfl rfl rfl (by decide) dX6_make_72 rfl ?_
      exact x_iret C E (gs2 hM) dX6_make_75
    replace hM := gif_neg h12 hM
    by_cases h18 : a1 = 2
    · have hM := gif_pos h18 hM
      refine x_swin (tgt := 76) C dX6_make_15 (by rw [h18]; decide) (by rw [h18]; decide) (by rw [h18]; rfl) (by decide) ?_
      refine x_iln C 3 rfl dX6_make_76 rfl ?_
      refine x_bi (v := (-5)) C (by decide) dX6_make_77 rfl ?_
      refine x_ic (v := 5) C (by decide) dX6_make_79 rfl ?_
      obtain ⟨r14, h13, hM⟩ := gb1_some hM
      refine x_csi (As := [.int a2, .int (-5), .int 5]) (rest := []) C E.2.2.2.2.2 3 (c_X6_within hG h13) (gBs km_X6_54 kst_X6_within kini_X6 kc_X6_within) rfl rfl rfl ⟨by decide +kernel, by decide +kernel, by decide +kernel⟩ ⟨Nat.le_of_ble_eq_true rfl, Nat.le_of_ble_eq_true rfl⟩ rfl rfl (by decide) dX6_make_80 rfl ?_
      refine x_if_eq (tgt := 101) C dX6_make_83 (by decide) rfl (fun hc => ?_) (fun hc => ?_)
      · replace hM := gif_pos hc hM
        refine x_ldc (v := (-100001)) C (gBc kk_X6_70) dX6_make_101 rfl ?_
        exact x_iret C E (gs2 hM) dX6_make_103
      · replace hM := gif_neg hc hM
        refine x_aln C 0 rfl dX6_make_86 rfl ?_
        refine gXg_0_now C kf_X6_10 dX6_make_87 rfl ?_
        refine gXg_1_silts C kf_X6_82 dX6_make_90 rfl ?_
        refine x_iln C 1 rfl dX6_make_93 rfl ?_
        refine x_iln C 3 rfl dX6_make_94 rfl ?_
        obtain ⟨r17, s16, h15, hM⟩ := gb2_some hM
        refine x_csi (As := [.ref (ad 4), .int a0, .int a2]) (rest := []) C E.2.2.2.2.2 3 (c_X6_changed_4 hG h15) (gBs km_X6_75 kst_X6_changed kini_X6 kc_X6_changed) rfl rfl rfl ⟨by decide +kernel, by decide +kernel, by decide +kernel⟩ ⟨Nat.le_of_ble_eq_true rfl, Nat.le_of_ble_eq_true rfl⟩ rfl rfl (by decide) dX6_make_95 rfl ?_
        refine x_goto (tgt := 103) C dX6_make_98 (by decide) ?_
        exact x_iret C E (gs2 hM) dX6_make_103
    replace hM := gif_neg h18 hM
    refine x_swout (tgt := 104) C dX6_make_15 (by have := gnI (k := 0) (n := 0) h8 (by decide); have := gnI (k := 1) (n := 1) h12 (by decide); have := gnI (k := 2) (n := 2) h18 (by decide); omega) (by decide) ?_
    refine x_ldc (v := (-100001)) C (gBc kk_X6_70) dX6_make_104 rfl ?_
    exact x_iret C E (gs2 hM) dX6_make_106
  · replace hM := gif_pos hc hM
    refine x_ldc (v := (-100001)) C (gBc kk_X6_70) dX6_make_11 rfl ?_
    exact x_iret C E (gs2 hM) dX6_make_13
set_option maxRecDepth 100000 in
set_option maxHeartbeats 4000000 in
theorem c_X1_join {l : Launch} {D : va_G} {ad : Nat → Nat} {cy : Nat → ClassId} {b : Nat} (hG : gInj (gGX D ad cy b)) {a0 : Int32} {a1 : Int32} {a2 : Int32} {σ : gMem} {σ0 : gMem} (hM : m_X1_join a0 a1 a2 σ = some σ0) : gMv l yX1_join (Cond.code yX1_join cX1_join 4 none :: gBig) { frames := 0, cells := 0, slots := 0, locals := 0 } (gGX D ad cy b) [.ref (ad 1), .int a0, .int a1, .int a2] σ σ0 := by
  refine gIntro (own := RX1) hG (by decide +kernel) rfl rfl (by decide) (lv := [(0, .ref (ad 1)), (1, .int a0), (2, .int a1), (3, .int a2)]) rfl (fun κ C E => ?_)
  unfold m_X1_join at hM
  refine x_aln C 0 rfl dX1_join_0 rfl ?_
  refine gXg_1_minutes C kf_X1_23 dX1_join_1 rfl ?_
  refine x_iln C 1 rfl dX1_join_4 rfl ?_
  obtain ⟨h1, hM⟩ := gck_some hM
  refine gXo_5 C h1 dX1_join_5 rfl ?_
  refine x_iln C 2 rfl dX1_join_6 rfl ?_
  refine x_iln C 3 rfl dX1_join_7 rfl ?_
  obtain ⟨h2, hM⟩ := gck_some hM
  obtain ⟨s3, ev, hM⟩ := gnm_ex hM
  refine gXs_rown C (inb_lt h1) ev h2 dX1_join_8 rfl ?_
  refine x_aln C 0 rfl dX1_join_9 rfl ?_
  refine gXg_1_minutes C kf_X1_23 dX1_join_10 rfl ?_
  refine x_iln C 2 rfl dX1_join_13 rfl ?_
  obtain ⟨h4, hM⟩ := gck_some hM
  refine gXo_5 C h4 dX1_join_14 rfl ?_
  refine x_iln C 1 rfl dX1_join_15 rfl ?_
  refine x_iln C 3 rfl dX1_join_16 rfl ?_
  obtain ⟨h5, hM⟩ := gck_some hM
  obtain ⟨s6, ev, hM⟩ := gnm_ex hM
  refine gXs_rown C (inb_lt h4) ev h5 dX1_join_17 rfl ?_
  exact x_vret C E (gs1 hM) dX1_join_18
set_option maxRecDepth 100000 in
set_option maxHeartbeats 4000000 in
theorem c_X6_path {l : Launch} {D : va_G} {ad : Nat → Nat} {cy : Nat → ClassId} {b : Nat} (hG : gInj (gGX D ad cy b)) {a0 : Int32} {a1 : Int32} {a2 : Int32} {σ : gMem} {r0 : Int32} {σ0 : gMem} (hM : m_X6_path a0 a1 a2 σ = some (r0, σ0)) : gMi l yX6_path (Cond.code yX6_path cX6_path 5 (some .int) :: gBig) { frames := 2, cells := 0, slots := 0, locals := 43 } (gGX D ad cy b) [.ref (ad 0), .int a0, .int a1, .int a2] σ r0 σ0 := by
  refine gIntro (own := RX6) hG (by decide +kernel) rfl rfl (by decide) (lv := [(0, .ref (ad 0)), (1, .int a0), (2, .int a1), (3, .int a2)]) rfl (fun κ C E => ?_)
  unfold m_X6_path at hM
  refine x_aln C 0 rfl dX6_path_0 rfl ?_
  refine gXg_0_now C kf_X6_10 dX6_path_1 rfl ?_
  refine x_iln C 1 rfl dX6_path_4 rfl ?_
  obtain ⟨r2, h1, hM⟩ := gb1_some hM
  refine x_cvi (As := [.int a0]) (rest := []) C E.2.2.2.2.2 1 (c_X1_hasPlace hG h1) (gBv km_X6_66 kin_X1_hasPlace ksel_X1_hasPlace kini_X1 kc_X1_hasPlace) rfl rfl rfl ⟨rfl, by decide +kernel, by decide +kernel, by decide +kernel⟩ ⟨Nat.le_of_ble_eq_true rfl, Nat.le_of_ble_eq_true rfl⟩ (by show 1 < 213; decide) rfl rfl rfl rfl (by decide) dX6_path_5 rfl ?_
  refine x_if_eq (tgt := 37) C dX6_path_8 (by decide) rfl (fun hc => ?_) (fun hc => ?_)
  · replace hM := gif_pos hc hM
    refine x_ic (v := (-1)) C (by decide) dX6_path_37 rfl ?_
    exact x_iret C E (gs2 hM) dX6_path_38
  · replace hM := gif_neg hc hM
    refine x_aln C 0 rfl dX6_path_11 rfl ?_
    refine gXg_0_now C kf_X6_10 dX6_path_12 rfl ?_
    refine x_iln C 2 rfl dX6_path_15 rfl ?_
    obtain ⟨r4, h3, hM⟩ := gb1_some hM
    refine x_cvi (As := [.int a1]) (rest := []) C E.2.2.2.2.2 1 (c_X1_hasPlace hG h3) (gBv km_X6_66 kin_X1_hasPlace ksel_X1_hasPlace kini_X1 kc_X1_hasPlace) rfl rfl rfl ⟨rfl, by decide +kernel, by decide +kernel, by decide +kernel⟩ ⟨Nat.le_of_ble_eq_true rfl, Nat.le_of_ble_eq_true rfl⟩ (by show 1 < 213; decide) rfl rfl rfl rfl (by decide) dX6_path_16 rfl ?_
    refine x_if_eq (tgt := 37) C dX6_path_19 (by decide) rfl (fun hc => ?_) (fun hc => ?_)
    · replace hM := gif_pos hc hM
      refine x_ic (v := (-1)) C (by decide) dX6_path_37 rfl ?_
      exact x_iret C E (gs2 hM) dX6_path_38
    · replace hM := gif_neg hc hM
      refine x_iln C 1 rfl dX6_path_22 rfl ?_
      refine x_iln C 2 rfl dX6_path_23 rfl ?_
      refine x_ic_eq (tgt := 37) C dX6_path_24 (by decide) rfl (fun hc => ?_) (fun hc => ?_)
      · replace hM := gif_pos hc hM
        refine x_ic (v := (-1)) C (by decide) dX6_path_37 rfl ?_
        exact x_iret C E (gs2 hM) dX6_path_38
      · replace hM := gif_neg hc hM
        refine x_iln C 3 rfl dX6_path_27 rfl ?_
        refine x_ic (v := 0) C (by decide) dX6_path_28 rfl ?_
        refine x_bi (v := 60) C (by decide) dX6_path_29 rfl ?_
        obtain ⟨r6, h5, hM⟩ := gb1_some hM
        refine x_csi (As := [.int a2, .int 0, .int 60]) (rest := []) C E.2.2.2.2.2 3 (c_X6_within hG h5) (gBs km_X6_54 kst_X6_within kini_X6 kc_X6_within) rfl rfl rfl ⟨by decide +kernel, by decide +kernel, by decide +kernel⟩ ⟨Nat.le_of_ble_eq_true rfl, Nat.le_of_ble_eq_true rfl⟩ rfl rfl (by decide) dX6_path_31 rfl ?_
        refine x_if_ne (tgt := 39) C dX6_path_34 (by decide) rfl (fun hc => ?_) (fun hc => ?_)
        · replace hM := gif_neg hc hM
          refine x_aln C 0 rfl dX6_path_39 rfl ?_
          refine gXg_0_now C kf_X6_10 dX6_path_40 rfl ?_
          refine gXg_1_minutes C kf_X6_93 dX6_path_43 rfl ?_
          refine x_iln C 1 rfl dX6_path_46 rfl ?_
          obtain ⟨h7, hM⟩ := gck_some hM
          refine gXo_5 C h7 dX6_path_47 rfl ?_
          refine x_iln C 2 rfl dX6_path_48 rfl ?_
          obtain ⟨h8, hM⟩ := gck_some hM
          refine gXa_rown C (inb_lt h7) h8 dX6_path_49 rfl ?_
          obtain ⟨x4_9, ev, hM⟩ := gnm_ex hM
          refine x_ist (lv' := [(4, .int x4_9), (0, .ref (ad 0)), (1, .int a0), (2, .int a1), (3, .int a2)]) C ev (by decide) rfl dX6_path_50 rfl ?_
          refine x_aln C 1 rfl dX6_path_52 rfl ?_
          refine gXg_0_now C kf_X6_10 dX6_path_53 rfl ?_
          refine x_iln C 2 rfl dX6_path_56 rfl ?_
          refine x_iln C 3 rfl dX6_path_57 rfl ?_
          refine x_iln C 4 rfl dX6_path_58 rfl ?_
          obtain ⟨s11, h10, hM⟩ := gb1_some hM
          refine x_cvv (As := [.int a0, .int a1, .int a2]) (rest := []) C E.2.2.2.2.2 3 (c_X1_join hG h10) (gBv km_X6_97 kin_X1_join ksel_X1_join kini_X1 kc_X1_join) rfl rfl rfl ⟨rfl, by decide +kernel, by decide +kernel, by decide +kernel⟩ ⟨Nat.le_of_ble_eq_true rfl, Nat.le_of_ble_eq_true rfl⟩ (by show 1 < 213; decide) rfl rfl rfl rfl (by decide) dX6_path_59 rfl ?_
          refine x_il C 0 rfl dX6_path_62 rfl ?_
          exact x_iret C E (gs2 hM) dX6_path_64
        · replace hM := gif_pos hc hM
          refine x_ic (v := (-1)) C (by decide) dX6_path_37 rfl ?_
          exact x_iret C E (gs2 hM) dX6_path_38
set_option maxRecDepth 100000 in
set_option maxHeartbeats 4000000 in
theorem c_X6_isHour {l : Launch} {D : va_G} {ad : Nat → Nat} {cy : Nat → ClassId} {b : Nat} (hG : gInj (gGX D ad cy b)) {a0 : Int32} {σ : gMem} {r0 : Int32} (hM : m_X6_isHour a0 σ = some r0) : gMi l yX6_isHour (Cond.code yX6_isHour cX6_isHour 1 (some .boolean) :: gBig) { frames := 1, cells := 0, slots := 0, locals := 22 } (gGX D ad cy b) [.int a0] σ r0 σ := by
  refine gIntro (own := RX6) hG (by decide +kernel) rfl rfl (by decide) (lv := [(0, .int a0)]) rfl (fun κ C E => ?_)
  unfold m_X6_isHour at hM
  refine x_iln C 0 rfl dX6_isHour_0 rfl ?_
  refine x_ic (v := 0) C (by decide) dX6_isHour_1 rfl ?_
  refine x_bi (v := 23) C (by decide) dX6_isHour_2 rfl ?_
  obtain ⟨r2, h1, hM⟩ := gb1_some hM
  refine x_csi (As := [.int a0, .int 0, .int 23]) (rest := []) C E.2.2.2.2.2 3 (c_X6_within hG h1) (gBs km_X6_54 kst_X6_within kini_X6 kc_X6_within) rfl rfl rfl ⟨by decide +kernel, by decide +kernel, by decide +kernel⟩ ⟨Nat.le_of_ble_eq_true rfl, Nat.le_of_ble_eq_true rfl⟩ rfl rfl (by decide) dX6_isHour_4 rfl ?_
  obtain ⟨h3, hM⟩ := gck_some hM
  exact x_zret C E h3 ⟨gs1 hM, rfl⟩ dX6_isHour_7
set_option maxRecDepth 100000 in
set_option maxHeartbeats 4000000 in
theorem c_X6_changed_6 {l : Launch} {D : va_G} {ad : Nat → Nat} {cy : Nat → ClassId} {b : Nat} (hG : gInj (gGX D ad cy b)) {a1 : Int32} {a2 : Int32} {σ : gMem} {r0 : Int32} {σ0 : gMem} (hM : m_X6_changed_6 a1 a2 σ = some (r0, σ0)) : gMi l yX6_changed (Cond.code yX6_changed cX6_changed 4 (some .int) :: gBig) { frames := 0, cells := 0, slots := 0, locals := 0 } (gGX D ad cy b) [.ref (ad 6), .int a1, .int a2] σ r0 σ0 := by
  refine gIntro (own := RX6) hG (by decide +kernel) rfl rfl (by decide) (lv := [(0, .ref (ad 6)), (1, .int a1), (2, .int a2)]) rfl (fun κ C E => ?_)
  unfold m_X6_changed_6 at hM
  refine x_aln C 0 rfl dX6_changed_0 rfl ?_
  refine x_iln C 1 rfl dX6_changed_1 rfl ?_
  obtain ⟨h1, hM⟩ := gck_some hM
  refine gXa_6 C h1 dX6_changed_2 rfl ?_
  obtain ⟨x3_2, ev, hM⟩ := gnm_ex hM
  refine x_istn (lv' := [(3, .int x3_2), (0, .ref (ad 6)), (1, .int a1), (2, .int a2)]) C rfl ev (by decide) rfl dX6_changed_3 rfl ?_
  refine x_aln C 1 rfl dX6_changed_4 rfl ?_
  refine x_iln C 2 rfl dX6_changed_5 rfl ?_
  refine x_iln C 3 rfl dX6_changed_6 rfl ?_
  obtain ⟨h3, hM⟩ := gck_some hM
  obtain ⟨s4, ev, hM⟩ := gnm_ex hM
  refine gXs_6 C ev h3 dX6_changed_7 rfl ?_
  refine x_iln C 0 rfl dX6_changed_8 rfl ?_
  exact x_iret C E (gs2 hM) dX6_changed_9
set_option maxRecDepth 100000 in
set_option maxHeartbeats 4000000 in
theorem c_X6_tide {l : Launch} {D : va_G} {ad : Nat → Nat} {cy : Nat → ClassId} {b : Nat} (hG : gInj (gGX D ad cy b)) {a0 : Int32} {a1 : Int32} {σ : gMem} {r0 : Int32} {σ0 : gMem} (hM : m_X6_tide a0 a1 σ = some (r0, σ0)) : gMi l yX6_tide (Cond.code yX6_tide cX6_tide 3 (some .int) :: gBig) { frames := 2, cells := 0, slots := 0, locals := 42 } (gGX D ad cy b) [.ref (ad 0), .int a0, .int a1] σ r0 σ0 := by
  refine gIntro (own := RX6) hG (by decide +kernel) rfl rfl (by decide) (lv := [(0, .ref (ad 0)), (1, .int a0), (2, .int a1)]) rfl (fun κ C E => ?_)
  unfold m_X6_tide at hM
  refine x_iln C 1 rfl dX6_tide_0 rfl ?_
  obtain ⟨r2, h1, hM⟩ := gb1_some hM
  refine x_csi (As := [.int a0]) (rest := []) C E.2.2.2.2.2 1 (c_X6_isHour hG h1) (gBs km_X6_101 kst_X6_isHour kini_X6 kc_X6_isHour) rfl rfl rfl ⟨by decide +kernel, by decide +kernel, by decide +kernel⟩ ⟨Nat.le_of_ble_eq_true rfl, Nat.le_of_ble_eq_true rfl⟩ rfl rfl (by decide) dX6_tide_1 rfl ?_
  refine x_if_eq (tgt := 18) C dX6_tide_4 (by decide) rfl (fun hc => ?_) (fun hc => ?_)
  · replace hM := gif_pos hc hM
    refine x_ldc (v := (-100001)) C (gBc kk_X6_70) dX6_tide_18 rfl ?_
    exact x_iret C E (gs2 hM) dX6_tide_20
  · replace hM := gif_neg hc hM
    refine x_iln C 2 rfl dX6_tide_7 rfl ?_
    refine x_bi (v := (-20)) C (by decide) dX6_tide_8 rfl ?_
    refine x_bi (v := 20) C (by decide) dX6_tide_10 rfl ?_
    obtain ⟨r4, h3, hM⟩ := gb1_some hM
    refine x_csi (As := [.int a1, .int (-20), .int 20]) (rest := []) C E.2.2.2.2.2 3 (c_X6_within hG h3) (gBs km_X6_54 kst_X6_within kini_X6 kc_X6_within) rfl rfl rfl ⟨by decide +kernel, by decide +kernel, by decide +kernel⟩ ⟨Nat.le_of_ble_eq_true rfl, Nat.le_of_ble_eq_true rfl⟩ rfl rfl (by decide) dX6_tide_12 rfl ?_
    refine x_if_ne (tgt := 21) C dX6_tide_15 (by decide) rfl (fun hc => ?_) (fun hc => ?_)
    · replace hM := gif_neg hc hM
      refine x_aln C 0 rfl dX6_tide_21 rfl ?_
      refine gXg_0_now C kf_X6_10 dX6_tide_22 rfl ?_
      refine gXg_1_tideAt C kf_X6_104 dX6_tide_25 rfl ?_
      refine x_iln C 1 rfl dX6_tide_28 rfl ?_
      refine x_iln C 2 rfl dX6_tide_29 rfl ?_
      obtain ⟨r7, s6, h5, hM⟩ := gb2_some hM
      refine x_csi (As := [.ref (ad 6), .int a0, .int a1]) (rest := []) C E.2.2.2.2.2 3 (c_X6_changed_6 hG h5) (gBs km_X6_75 kst_X6_changed kini_X6 kc_X6_changed) rfl rfl rfl ⟨by decide +kernel, by decide +kernel, by decide +kernel⟩ ⟨Nat.le_of_ble_eq_true rfl, Nat.le_of_ble_eq_true rfl⟩ rfl rfl (by decide) dX6_tide_30 rfl ?_
      exact x_iret C E (gs2 hM) dX6_tide_33
    · replace hM := gif_pos hc hM
      refine x_ldc (v := (-100001)) C (gBc kk_X6_70) dX6_tide_18 rfl ?_
      exact x_iret C E (gs2 hM) dX6_tide_20
set_option maxRecDepth 100000 in
set_option maxHeartbeats 4000000 in
theorem c_X6_set {l : Launch} {D : va_G} {ad : Nat → Nat} {cy : Nat → ClassId} {b : Nat} (hG : gInj (gGX D ad cy b)) {a0 : Int32} {a1 : Int32} {σ : gMem} {r0 : Int32} {σ0 : gMem} (hM : m_X6_set a0 a1 σ = some (r0, σ0)) : gMi l yX6_set (Cond.code yX6_set cX6_set 4 (some .int) :: gBig) { frames := 1, cells := 0, slots := 0, locals := 22 } (gGX D ad cy b) [.ref (ad 0), .int a0, .int a1] σ r0 σ0 := by
  refine gIntro (own := RX6) hG (by decide +kernel) rfl rfl (by decide) (lv := [(0, .ref (ad 0)), (1, .int a0), (2, .int a1)]) rfl (fun κ C E => ?_)
  unfold m_X6_set at hM
  refine x_iln C 1 rfl dX6_set_0 rfl ?_
  refine x_if_ne (tgt := 32) C dX6_set_1 (by decide) rfl (fun hc => ?_) (fun hc => ?_)
  · replace hM := gif_neg hc hM
    refine x_iln C 1 rfl dX6_set_32 rfl ?_
    refine x_ic (v := 1) C (by decide) dX6_set_33 rfl ?_
    refine x_ic_ne (tgt := 65) C dX6_set_34 (by decide) rfl (fun hc => ?_) (fun hc => ?_)
    · replace hM := gif_neg hc hM
      refine x_ic (v := (-1)) C (by decide) dX6_set_65 rfl ?_
      exact x_iret C E (gs2 hM) dX6_set_66
    · replace hM := gif_pos hc hM
      refine x_iln C 2 rfl dX6_set_37 rfl ?_
      refine x_ic (v := 0) C (by decide) dX6_set_38 rfl ?_
      refine x_bi (v := 60) C (by decide) dX6_set_39 rfl ?_
      obtain ⟨r2, h1, hM⟩ := gb1_some hM
      refine x_csi (As := [.int a1, .int 0, .int 60]) (rest := []) C E.2.2.2.2.2 3 (c_X6_within hG h1) (gBs km_X6_54 kst_X6_within kini_X6 kc_X6_within) rfl rfl rfl ⟨by decide +kernel, by decide +kernel, by decide +kernel⟩ ⟨Nat.le_of_ble_eq_true rfl, Nat.le_of_ble_eq_true rfl⟩ rfl rfl (by decide) dX6_set_41 rfl ?_
      refine x_if_eq (tgt := 65) C dX6_set_44 (by decide) rfl (fun hc => ?_) (fun hc => ?_)
      · replace hM := gif_pos hc hM
        refine x_ic (v := (-1)) C (by decide) dX6_set_65 rfl ?_
        exact x_iret C E (gs2 hM) dX6_set_66
      · replace hM := gif_neg hc hM
        refine x_aln C 0 rfl dX6_set_47 rfl ?_
        refine gXg_0_now C kf_X6_10 dX6_set_48 rfl ?_
        refine gXg_1_reach C kf_X6_110 dX6_set_51 rfl ?_
        obtain ⟨x3_3, ev, hM⟩ := gnm_ex hM
        refine x_istn (lv' := [(3, .int x3_3), (0, .ref (ad 0)), (1, .int a0), (2, .int a1)]) C rfl ev (by decide) rfl dX6_set_54 rfl ?_
        refine x_aln C 1 rfl dX6_set_55 rfl ?_
        refine gXg_0_now C kf_X6_10 dX6_set_56 rfl ?_
        refine x_iln C 3 rfl dX6_set_59 rfl ?_
        obtain ⟨s4, ev, hM⟩ := gnm_ex hM
        refine gXp_1_reach C ev kf_X6_110 dX6_set_60 rfl ?_
        refine x_iln C 0 rfl dX6_set_63 rfl ?_
        exact x_iret C E (gs2 hM) dX6_set_64
  · replace hM := gif_pos hc hM
    refine x_iln C 2 rfl dX6_set_4 rfl ?_
    refine x_ic (v := 0) C (by decide) dX6_set_5 rfl ?_
    refine x_bi (v := 40) C (by decide) dX6_set_6 rfl ?_
    obtain ⟨r6, h5, hM⟩ := gb1_some hM
    refine x_csi (As := [.int a1, .int 0, .int 40]) (rest := []) C E.2.2.2.2.2 3 (c_X6_within hG h5) (gBs km_X6_54 kst_X6_within kini_X6 kc_X6_within) rfl rfl rfl ⟨by decide +kernel, by decide +kernel, by decide +kernel⟩ ⟨Nat.le_of_ble_eq_true rfl, Nat.le_of_ble_eq_true rfl⟩ rfl rfl (by decide) dX6_set_8 rfl ?_
    refine x_if_eq (tgt := 32) C dX6_set_11 (by decide) rfl (fun hc => ?_) (fun hc => ?_)
    · replace hM := gif_pos hc hM
      refine x_iln C 1 rfl dX6_set_32 rfl ?_
      refine x_ic (v := 1) C (by decide) dX6_set_33 rfl ?_
      refine x_ic_ne (tgt := 65) C dX6_set_34 (by decide) rfl (fun hc => ?_) (fun hc => ?_)
      · replace hM := gif_neg hc hM
        refine x_ic (v := (-1)) C (by decide) dX6_set_65 rfl ?_
        exact x_iret C E (gs2 hM) dX6_set_66
      · replace hM := gif_pos hc hM
        refine x_iln C 2 rfl dX6_set_37 rfl ?_
        refine x_ic (v := 0) C (by decide) dX6_set_38 rfl ?_
        refine x_bi (v := 60) C (by decide) dX6_set_39 rfl ?_
        obtain ⟨r8, h7, hM⟩ := gb1_some hM
        refine x_csi (As := [.int a1, .int 0, .int 60]) (rest := []) C E.2.2.2.2.2 3 (c_X6_within hG h7) (gBs km_X6_54 kst_X6_within kini_X6 kc_X6_within) rfl rfl rfl ⟨by decide +kernel, by decide +kernel, by decide +kernel⟩ ⟨Nat.le_of_ble_eq_true rfl, Nat.le_of_ble_eq_true rfl⟩ rfl rfl (by decide) dX6_set_41 rfl ?_
        refine x_if_eq (tgt := 65) C dX6_set_44 (by decide) rfl (fun hc => ?_) (fun hc => ?_)
        · replace hM := gif_pos hc hM
          refine x_ic (v := (-1)) C (by decide) dX6_set_65 rfl ?_
          exact x_iret C E (gs2 hM) dX6_set_66
        · replace hM := gif_neg hc hM
          refine x_aln C 0 rfl dX6_set_47 rfl ?_
          refine gXg_0_now C kf_X6_10 dX6_set_48 rfl ?_
          refine gXg_1_reach C kf_X6_110 dX6_set_51 rfl ?_
          obtain ⟨x3_9, ev, hM⟩ := gnm_ex hM
          refine x_istn (lv' := [(3, .int x3_9), (0, .ref (ad 0)), (1, .int a0), (2, .int a1)]) C rfl ev (by decide) rfl dX6_set_54 rfl ?_
          refine x_aln C 1 rfl dX6_set_55 rfl ?_
          refine gXg_0_now C kf_X6_10 dX6_set_56 rfl ?_
          refine x_iln C 3 rfl dX6_set_59 rfl ?_
          obtain ⟨s10, ev, hM⟩ := gnm_ex hM
          refine gXp_1_reach C ev kf_X6_110 dX6_set_60 rfl ?_
          refine x_iln C 0 rfl dX6_set_63 rfl ?_
          exact x_iret C E (gs2 hM) dX6_set_64
    · replace hM := gif_neg hc hM
      refine x_aln C 0 rfl dX6_set_14 rfl ?_
      refine gXg_0_now C kf_X6_10 dX6_set_15 rfl ?_
      refine gXg_1_floodTold C kf_X6_107 dX6_set_18 rfl ?_
      obtain ⟨x3_11, ev, hM⟩ := gnm_ex hM
      refine x_istn (lv' := [(3, .int x3_11), (0, .ref (ad 0)), (1, .int a0), (2, .int a1)]) C rfl ev (by decide) rfl dX6_set_21 rfl ?_
      refine x_aln C 1 rfl dX6_set_22 rfl ?_
      refine gXg_0_now C kf_X6_10 dX6_set_23 rfl ?_
      refine x_iln C 3 rfl dX6_set_26 rfl ?_
      obtain ⟨s12, ev, hM⟩ := gnm_ex hM
      refine gXp_1_floodTold C ev kf_X6_107 dX6_set_27 rfl ?_
      refine x_iln C 0 rfl dX6_set_30 rfl ?_
      exact x_iret C E (gs2 hM) dX6_set_31
set_option maxRecDepth 100000 in
set_option maxHeartbeats 4000000 in
theorem c_X1_addPerson {l : Launch} {D : va_G} {ad : Nat → Nat} {cy : Nat → ClassId} {b : Nat} (hG : gInj (gGX D ad cy b)) {a0 : Int32} {a1 : Int32} {a2 : Int32} {σ : gMem} {r0 : Int32} {σ0 : gMem} (hM : m_X1_addPerson a0 a1 a2 σ = some (r0, σ0)) : gMi l yX1_addPerson (Cond.code yX1_addPerson cX1_addPerson 4 (some .int) :: gBig) { frames := 0, cells := 0, slots := 0, locals := 0 } (gGX D ad cy b) [.ref (ad 1), .int a0, .int a1, .int a2] σ r0 σ0 := by
  refine gIntro (own := RX1) hG (by decide +kernel) rfl rfl (by decide) (lv := [(0, .ref (ad 1)), (1, .int a0), (2, .int a1), (3, .int a2)]) rfl (fun κ C E => ?_)
  unfold m_X1_addPerson at hM
  refine x_aln C 0 rfl dX1_addPerson_0 rfl ?_
  refine gXg_1_kinds C kf_X1_33 dX1_addPerson_1 rfl ?_
  refine x_aln C 0 rfl dX1_addPerson_4 rfl ?_
  refine gXg_1_people C kf_X1_57 dX1_addPerson_5 rfl ?_
  refine x_iln C 1 rfl dX1_addPerson_8 rfl ?_
  obtain ⟨h1, hM⟩ := gck_some hM
  obtain ⟨s2, ev, hM⟩ := gnm_ex hM
  refine gXs_7 C ev h1 dX1_addPerson_9 rfl ?_
  refine x_aln C 0 rfl dX1_addPerson_10 rfl ?_
  refine gXg_1_told C kf_X1_36 dX1_addPerson_11 rfl ?_
  refine x_aln C 0 rfl dX1_addPerson_14 rfl ?_
  refine gXg_1_people C kf_X1_57 dX1_addPerson_15 rfl ?_
  refine x_iln C 2 rfl dX1_addPerson_18 rfl ?_
  obtain ⟨h3, hM⟩ := gck_some hM
  obtain ⟨s4, ev, hM⟩ := gnm_ex hM
  refine gXs_8 C ev h3 dX1_addPerson_19 rfl ?_
  refine x_aln C 0 rfl dX1_addPerson_20 rfl ?_
  refine gXg_1_homes C kf_X1_39 dX1_addPerson_21 rfl ?_
  refine x_aln C 0 rfl dX1_addPerson_24 rfl ?_
  refine gXg_1_people C kf_X1_57 dX1_addPerson_25 rfl ?_
  refine x_iln C 3 rfl dX1_addPerson_28 rfl ?_
  obtain ⟨h5, hM⟩ := gck_some hM
  obtain ⟨s6, ev, hM⟩ := gnm_ex hM
  refine gXs_9 C ev h5 dX1_addPerson_29 rfl ?_
  refine x_aln C 0 rfl dX1_addPerson_30 rfl ?_
  refine x_dup C rfl dX1_addPerson_31 rfl ?_
  refine gXg_1_people C kf_X1_57 dX1_addPerson_32 rfl ?_
  refine x_dupx1 C rfl rfl dX1_addPerson_35 rfl ?_
  refine x_ic (v := 1) C (by decide) dX1_addPerson_36 rfl ?_
  refine x_iadd C dX1_addPerson_37 rfl ?_
  obtain ⟨s7, ev, hM⟩ := gnm_ex hM
  refine gXp_1_people C ev kf_X1_57 dX1_addPerson_38 rfl ?_
  exact x_iret C E (gs2 hM) dX1_addPerson_41
set_option maxRecDepth 100000 in
set_option maxHeartbeats 4000000 in
theorem c_X6_person {l : Launch} {D : va_G} {ad : Nat → Nat} {cy : Nat → ClassId} {b : Nat} (hG : gInj (gGX D ad cy b)) {a0 : Int32} {a1 : Int32} {a2 : Int32} {σ : gMem} {r0 : Int32} {σ0 : gMem} (hM : m_X6_person a0 a1 a2 σ = some (r0, σ0)) : gMi l yX6_person (Cond.code yX6_person cX6_person 4 (some .int) :: gBig) { frames := 2, cells := 0, slots := 0, locals := 43 } (gGX D ad cy b) [.ref (ad 0), .int a0, .int a1, .int a2] σ r0 σ0 := by
  refine gIntro (own := RX6) hG (by decide +kernel) rfl rfl (by decide) (lv := [(0, .ref (ad 0)), (1, .int a0), (2, .int a1), (3, .int a2)]) rfl (fun κ C E => ?_)
  unfold m_X6_person at hM
  refine x_iln C 1 rfl dX6_person_0 rfl ?_
  refine x_ic (v := 0) C (by decide) dX6_person_1 rfl ?_
  refine x_ic (v := 3) C (by decide) dX6_person_2 rfl ?_
  obtain ⟨r2, h1, hM⟩ := gb1_some hM
  refine x_csi (As := [.int a0, .int 0, .int 3]) (rest := []) C E.2.2.2.2.2 3 (c_X6_within hG h1) (gBs km_X6_54 kst_X6_within kini_X6 kc_X6_within) rfl rfl rfl ⟨by decide +kernel, by decide +kernel, by decide +kernel⟩ ⟨Nat.le_of_ble_eq_true rfl, Nat.le_of_ble_eq_true rfl⟩ rfl rfl (by decide) dX6_person_3 rfl ?_
  refine x_if_eq (tgt := 30) C dX6_person_6 (by decide) rfl (fun hc => ?_) (fun hc => ?_)
  · replace hM := gif_pos hc hM
    refine x_ic (v := (-1)) C (by decide) dX6_person_30 rfl ?_
    exact x_iret C E (gs2 hM) dX6_person_31
  · replace hM := gif_neg hc hM
    refine x_iln C 2 rfl dX6_person_9 rfl ?_
    refine x_ic (v := 0) C (by decide) dX6_person_10 rfl ?_
    refine x_bi (v := 60) C (by decide) dX6_person_11 rfl ?_
    obtain ⟨r4, h3, hM⟩ := gb1_some hM
    refine x_csi (As := [.int a1, .int 0, .int 60]) (rest := []) C E.2.2.2.2.2 3 (c_X6_within hG h3) (gBs km_X6_54 kst_X6_within kini_X6 kc_X6_within) rfl rfl rfl ⟨by decide +kernel, by decide +kernel, by decide +kernel⟩ ⟨Nat.le_of_ble_eq_true rfl, Nat.le_of_ble_eq_true rfl⟩ rfl rfl (by decide) dX6_person_13 rfl ?_
    refine x_if_eq (tgt := 30) C dX6_person_16 (by decide) rfl (fun hc => ?_) (fun hc => ?_)
    · replace hM := gif_pos hc hM
      refine x_ic (v := (-1)) C (by decide) dX6_person_30 rfl ?_
      exact x_iret C E (gs2 hM) dX6_person_31
    · replace hM := gif_neg hc hM
      refine x_aln C 0 rfl dX6_person_19 rfl ?_
      refine gXg_0_now C kf_X6_10 dX6_person_20 rfl ?_
      refine x_iln C 3 rfl dX6_person_23 rfl ?_
      obtain ⟨r6, h5, hM⟩ := gb1_some hM
      refine x_cvi (As := [.int a2]) (rest := []) C E.2.2.2.2.2 1 (c_X1_hasPlace hG h5) (gBv km_X6_66 kin_X1_hasPlace ksel_X1_hasPlace kini_X1 kc_X1_hasPlace) rfl rfl rfl ⟨rfl, by decide +kernel, by decide +kernel, by decide +kernel⟩ ⟨Nat.le_of_ble_eq_true rfl, Nat.le_of_ble_eq_true rfl⟩ (by show 1 < 213; decide) rfl rfl rfl rfl (by decide) dX6_person_24 rfl ?_
      refine x_if_ne (tgt := 32) C dX6_person_27 (by decide) rfl (fun hc => ?_) (fun hc => ?_)
      · replace hM := gif_neg hc hM
        refine x_aln C 0 rfl dX6_person_32 rfl ?_
        refine gXg_0_now C kf_X6_10 dX6_person_33 rfl ?_
        refine gXg_1_people C kf_X6_113 dX6_person_36 rfl ?_
        refine x_bi (v := 8) C (by decide) dX6_person_39 rfl ?_
        refine x_ic_lt (tgt := 47) C dX6_person_41 (by decide) rfl (fun hc => ?_) (fun hc => ?_)
        · replace hM := gif_pos hc hM
          refine x_aln C 0 rfl dX6_person_47 rfl ?_
          refine gXg_0_now C kf_X6_10 dX6_person_48 rfl ?_
          refine x_iln C 1 rfl dX6_person_51 rfl ?_
          refine x_iln C 2 rfl dX6_person_52 rfl ?_
          refine x_iln C 3 rfl dX6_person_53 rfl ?_
          obtain ⟨r9, s8, h7, hM⟩ := gb2_some hM
          refine x_cvi (As := [.int a0, .int a1, .int a2]) (rest := []) C E.2.2.2.2.2 3 (c_X1_addPerson hG h7) (gBv km_X6_116 kin_X1_addPerson ksel_X1_addPerson kini_X1 kc_X1_addPerson) rfl rfl rfl ⟨rfl, by decide +kernel, by decide +kernel, by decide +kernel⟩ ⟨Nat.le_of_ble_eq_true rfl, Nat.le_of_ble_eq_true rfl⟩ (by show 1 < 213; decide) rfl rfl rfl rfl (by decide) dX6_person_54 rfl ?_
          exact x_iret C E (gs2 hM) dX6_person_57
        · replace hM := gif_neg hc hM
          refine x_bi (v := (-3)) C (by decide) dX6_person_44 rfl ?_
          exact x_iret C E (gs2 hM) dX6_person_46
      · replace hM := gif_pos hc hM
        refine x_ic (v := (-1)) C (by decide) dX6_person_30 rfl ?_
        exact x_iret C E (gs2 hM) dX6_person_31
set_option maxRecDepth 100000 in
set_option maxHeartbeats 4000000 in
theorem c_X1_hasPerson {l : Launch} {D : va_G} {ad : Nat → Nat} {cy : Nat → ClassId} {b : Nat} (hG : gInj (gGX D ad cy b)) {a0 : Int32} {σ : gMem} {r0 : Int32} (hM : m_X1_hasPerson a0 σ = some r0) : gMi l yX1_hasPerson (Cond.code yX1_hasPerson cX1_hasPerson 2 (some .boolean) :: gBig) { frames := 1, cells := 0, slots := 0, locals := 22 } (gGX D ad cy b) [.ref (ad 1), .int a0] σ r0 σ := by
  refine gIntro (own := RX1) hG (by decide +kernel) rfl rfl (by decide) (lv := [(0, .ref (ad 1)), (1, .int a0)]) rfl (fun κ C E => ?_)
  unfold m_X1_hasPerson at hM
  refine x_iln C 1 rfl dX1_hasPerson_0 rfl ?_
  refine x_ic (v := 0) C (by decide) dX1_hasPerson_1 rfl ?_
  refine x_aln C 0 rfl dX1_hasPerson_2 rfl ?_
  refine gXg_1_people C kf_X1_57 dX1_hasPerson_3 rfl ?_
  refine x_ic (v := 1) C (by decide) dX1_hasPerson_6 rfl ?_
  refine x_isub C dX1_hasPerson_7 rfl ?_
  obtain ⟨r2, h1, hM⟩ := gb1_some hM
  refine x_csni (As := [.int a0, .int 0, .int ((σ 1 8) - 1)]) (rest := []) C E.2.2.2.2.2 3 (c_X6_within hG h1) (gBn kc_X6_within) rfl rfl rfl (by decide +kernel) (gBc kini_X6) (gBc kst_X6_within) ⟨by decide +kernel, by decide +kernel, by decide +kernel⟩ ⟨Nat.le_of_ble_eq_true rfl, Nat.le_of_ble_eq_true rfl⟩ rfl rfl (by decide) dX1_hasPerson_8 rfl ?_
  obtain ⟨h3, hM⟩ := gck_some hM
  exact x_zret C E h3 ⟨gs1 hM, rfl⟩ dX1_hasPerson_11
set_option maxRecDepth 100000 in
set_option maxHeartbeats 4000000 in
theorem c_X1_lengthByKind {l : Launch} {D : va_G} {ad : Nat → Nat} {cy : Nat → ClassId} {b : Nat} (hG : gInj (gGX D ad cy b)) {a0 : Int32} {a1 : Int32} {a2 : Int32} {σ : gMem} {r0 : Int32} (hM : m_X1_lengthByKind a0 a1 a2 σ = some r0) : gMi l yX1_lengthByKind (Cond.code yX1_lengthByKind cX1_lengthByKind 4 (some .int) :: gBig) { frames := 1, cells := 0, slots := 0, locals := 13 } (gGX D ad cy b) [.ref (ad 1), .int a0, .int a1, .int a2] σ r0 σ := by
  refine gIntro (own := RX1) hG (by decide +kernel) rfl rfl (by decide) (lv := [(0, .ref (ad 1)), (1, .int a0), (2, .int a1), (3, .int a2)]) rfl (fun κ C E => ?_)
  unfold m_X1_lengthByKind at hM
  refine x_iln C 1 rfl dX1_lengthByKind_0 rfl ?_
  refine x_ic (v := 2) C (by decide) dX1_lengthByKind_1 rfl ?_
  refine x_ic_ne (tgt := 13) C dX1_lengthByKind_2 (by decide) rfl (fun hc => ?_) (fun hc => ?_)
  · replace hM := gif_neg hc hM
    refine x_iln C 1 rfl dX1_lengthByKind_13 rfl ?_
    refine x_ic (v := 3) C (by decide) dX1_lengthByKind_14 rfl ?_
    refine x_ic_ne (tgt := 24) C dX1_lengthByKind_15 (by decide) rfl (fun hc => ?_) (fun hc => ?_)
    · replace hM := gif_neg hc hM
      refine x_iln C 2 rfl dX1_lengthByKind_24 rfl ?_
      exact x_iret C E ⟨gs1 hM, rfl⟩ dX1_lengthByKind_25
    · replace hM := gif_pos hc hM
      refine x_iln C 2 rfl dX1_lengthByKind_18 rfl ?_
      refine x_iln C 3 rfl dX1_lengthByKind_19 rfl ?_
      refine x_iadd C dX1_lengthByKind_20 rfl ?_
      refine x_goto (tgt := 25) C dX1_lengthByKind_21 (by decide) ?_
      exact x_iret C E ⟨gs1 hM, rfl⟩ dX1_lengthByKind_25
  · replace hM := gif_pos hc hM
    refine x_ic (v := 0) C (by decide) dX1_lengthByKind_5 rfl ?_
    refine x_iln C 2 rfl dX1_lengthByKind_6 rfl ?_
    refine x_ic (v := 2) C (by decide) dX1_lengthByKind_7 rfl ?_
    refine x_isub C dX1_lengthByKind_8 rfl ?_
    refine x_mmax C (gBc km_X1_101) (gBc kst_Math_max) (gBc kini_JMath) (gBc kc_Math_max) (by decide) (Nat.le_of_ble_eq_true rfl) dX1_lengthByKind_9 rfl ?_
    exact x_iret C E ⟨gs1 hM, rfl⟩ dX1_lengthByKind_12
set_option maxRecDepth 100000 in
set_option maxHeartbeats 4000000 in
theorem c_X1_lengthOf {l : Launch} {D : va_G} {ad : Nat → Nat} {cy : Nat → ClassId} {b : Nat} (hG : gInj (gGX D ad cy b)) {a0 : Int32} {σ : gMem} {r0 : Int32} (hM : m_X1_lengthOf a0 σ = some r0) : gMi l yX1_lengthOf (Cond.code yX1_lengthOf cX1_lengthOf 2 (some .int) :: gBig) { frames := 2, cells := 0, slots := 0, locals := 36 } (gGX D ad cy b) [.ref (ad 1), .int a0] σ r0 σ := by
  refine gIntro (own := RX1) hG (by decide +kernel) rfl rfl (by decide) (lv := [(0, .ref (ad 1)), (1, .int a0)]) rfl (fun κ C E => ?_)
  unfold m_X1_lengthOf at hM
  refine x_aln C 0 rfl dX1_lengthOf_0 rfl ?_
  refine x_aln C 0 rfl dX1_lengthOf_1 rfl ?_
  refine gXg_1_kinds C kf_X1_33 dX1_lengthOf_2 rfl ?_
  refine x_iln C 1 rfl dX1_lengthOf_5 rfl ?_
  obtain ⟨h1, hM⟩ := gck_some hM
  refine gXa_7 C h1 dX1_lengthOf_6 rfl ?_
  refine x_aln C 0 rfl dX1_lengthOf_7 rfl ?_
  refine gXg_1_told C kf_X1_36 dX1_lengthOf_8 rfl ?_
  refine x_iln C 1 rfl dX1_lengthOf_11 rfl ?_
  obtain ⟨h2, hM⟩ := gck_some hM
  refine gXa_8 C h2 dX1_lengthOf_12 rfl ?_
  refine x_aln C 0 rfl dX1_lengthOf_13 rfl ?_
  refine gXg_1_yearsGone C kf_X1_63 dX1_lengthOf_14 rfl ?_
  obtain ⟨r4, h3, hM⟩ := gb1_some hM
  refine x_cvi (As := [.int (σ 7 a0.toNatClampNeg), .int (σ 8 a0.toNatClampNeg), .int (σ 1 16)]) (rest := []) C E.2.2.2.2.2 3 (c_X1_lengthByKind hG h3) (gBv km_X1_113 kin_X1_lengthByKind ksel_X1_lengthByKind kini_X1 kc_X1_lengthByKind) rfl rfl rfl ⟨rfl, by decide +kernel, by decide +kernel, by decide +kernel⟩ ⟨Nat.le_of_ble_eq_true rfl, Nat.le_of_ble_eq_true rfl⟩ (by show 1 < 213; decide) rfl rfl rfl rfl (by decide) dX1_lengthOf_17 rfl ?_
  exact x_iret C E ⟨gs1 hM, rfl⟩ dX1_lengthOf_20
set_option maxRecDepth 100000 in
set_option maxHeartbeats 4000000 in
theorem c_X6_of {l : Launch} {D : va_G} {ad : Nat → Nat} {cy : Nat → ClassId} {b : Nat} (hG : gInj (gGX D ad cy b)) {a0 : Int32} {a1 : Int32} {σ : gMem} {r0 : Int32} (hM : m_X6_of a0 a1 σ = some r0) : gMi l yX6_of (Cond.code yX6_of cX6_of 3 (some .int) :: gBig) { frames := 3, cells := 0, slots := 0, locals := 57 } (gGX D ad cy b) [.ref (ad 0), .int a0, .int a1] σ r0 σ := by
  refine gIntro (own := RX6) hG (by decide +kernel) rfl rfl (by decide) (lv := [(0, .ref (ad 0)), (1, .int a0), (2, .int a1)]) rfl (fun κ C E => ?_)
  unfold m_X6_of at hM
  refine x_aln C 0 rfl dX6_of_0 rfl ?_
  refine gXg_0_now C kf_X6_10 dX6_of_1 rfl ?_
  refine x_iln C 1 rfl dX6_of_4 rfl ?_
  obtain ⟨r2, h1, hM⟩ := gb1_some hM
  refine x_cvi (As := [.int a0]) (rest := []) C E.2.2.2.2.2 1 (c_X1_hasPerson hG h1) (gBv km_X6_120 kin_X1_hasPerson ksel_X1_hasPerson kini_X1 kc_X1_hasPerson) rfl rfl rfl ⟨rfl, by decide +kernel, by decide +kernel, by decide +kernel⟩ ⟨Nat.le_of_ble_eq_true rfl, Nat.le_of_ble_eq_true rfl⟩ (by show 1 < 213; decide) rfl rfl rfl rfl (by decide) dX6_of_5 rfl ?_
  refine x_if_ne (tgt := 13) C dX6_of_8 (by decide) rfl (fun hc => ?_) (fun hc => ?_)
  · replace hM := gif_neg hc hM
    refine x_iln C 2 rfl dX6_of_13 rfl ?_
    by_cases h4 : a1 = 0
    · have hM := gif_pos h4 hM
      refine x_swin (tgt := 44) C dX6_of_14 (by rw [h4]; decide) (by rw [h4]; decide) (by rw [h4]; rfl) (by decide) ?_
      refine x_aln C 0 rfl dX6_of_44 rfl ?_
      refine gXg_0_now C kf_X6_10 dX6_of_45 rfl ?_
      refine gXg_1_kinds C kf_X6_123 dX6_of_48 rfl ?_
      refine x_iln C 1 rfl dX6_of_51 rfl ?_
      obtain ⟨h3, hM⟩ := gck_some hM
      refine gXa_7 C h3 dX6_of_52 rfl ?_
      exact x_iret C E ⟨gs1 hM, rfl⟩ dX6_of_53
    replace hM := gif_neg h4 hM
    by_cases h6 : a1 = 1
    · have hM := gif_pos h6 hM
      refine x_swin (tgt := 54) C dX6_of_14 (by rw [h6]; decide) (by rw [h6]; decide) (by rw [h6]; rfl) (by decide) ?_
      refine x_aln C 0 rfl dX6_of_54 rfl ?_
      refine gXg_0_now C kf_X6_10 dX6_of_55 rfl ?_
      refine gXg_1_told C kf_X6_126 dX6_of_58 rfl ?_
      refine x_iln C 1 rfl dX6_of_61 rfl ?_
      obtain ⟨h5, hM⟩ := gck_some hM
      refine gXa_8 C h5 dX6_of_62 rfl ?_
      exact x_iret C E ⟨gs1 hM, rfl⟩ dX6_of_63
    replace hM := gif_neg h6 hM
    by_cases h9 : a1 = 2
    · have hM := gif_pos h9 hM
      refine x_swin (tgt := 64) C dX6_of_14 (by rw [h9]; decide) (by rw [h9]; decide) (by rw [h9]; rfl) (by decide) ?_
      refine x_aln C 0 rfl dX6_of_64 rfl ?_
      refine gXg_0_now C kf_X6_10 dX6_of_65 rfl ?_
      refine x_iln C 1 rfl dX6_of_68 rfl ?_
      obtain ⟨r8, h7, hM⟩ := gb1_some hM
      refine x_cvi (As := [.int a0]) (rest := []) C E.2.2.2.2.2 1 (c_X1_lengthOf hG h7) (gBv km_X6_129 kin_X1_lengthOf ksel_X1_lengthOf kini_X1 kc_X1_lengthOf) rfl rfl rfl ⟨rfl, by decide +kernel, by decide +kernel, by decide +kernel⟩ ⟨Nat.le_of_ble_eq_true rfl, Nat.le_of_ble_eq_true rfl⟩ (by show 1 < 213; decide) rfl rfl rfl rfl (by decide) dX6_of_69 rfl ?_
      exact x_iret C E ⟨gs1 hM, rfl⟩ dX6_of_72
    replace hM := gif_neg h9 hM
    by_cases h11 : a1 = 3
    · have hM := gif_pos h11 hM
      refine x_swin (tgt := 73) C dX6_of_14 (by rw [h11]; decide) (by rw [h11]; decide) (by rw [h11]; rfl) (by decide) ?_
      refine x_aln C 0 rfl dX6_of_73 rfl ?_
      refine gXg_0_now C kf_X6_10 dX6_of_74 rfl ?_
      refine gXg_1_homes C kf_X6_132 dX6_of_77 rfl ?_
      refine x_iln C 1 rfl dX6_of_80 rfl ?_
      obtain ⟨h10, hM⟩ := gck_some hM
      refine gXa_9 C h10 dX6_of_81 rfl ?_
      exact x_iret C E ⟨gs1 hM, rfl⟩ dX6_of_82
    replace hM := gif_neg h11 hM
    refine x_swout (tgt := 83) C dX6_of_14 (by have := gnI (k := 0) (n := 0) h4 (by decide); have := gnI (k := 1) (n := 1) h6 (by decide); have := gnI (k := 2) (n := 2) h9 (by decide); have := gnI (k := 3) (n := 3) h11 (by decide); omega) (by decide) ?_
    refine x_ic (v := (-1)) C (by decide) dX6_of_83 rfl ?_
    exact x_iret C E ⟨gs1 hM, rfl⟩ dX6_of_84
  · replace hM := gif_pos hc hM
    refine x_ic (v := (-1)) C (by decide) dX6_of_11 rfl ?_
    exact x_iret C E ⟨gs1 hM, rfl⟩ dX6_of_12
set_option maxRecDepth 100000 in
set_option maxHeartbeats 4000000 in
theorem c_X6_byteOf {l : Launch} {D : va_G} {ad : Nat → Nat} {cy : Nat → ClassId} {b : Nat} (hG : gInj (gGX D ad cy b)) {a0 : Int64} {a1 : Int32} {σ : gMem} {r0 : Int32} (hM : m_X6_byteOf a0 a1 σ = some r0) : gMi l yX6_byteOf (Cond.code yX6_byteOf cX6_byteOf 3 (some .int) :: gBig) { frames := 0, cells := 0, slots := 0, locals := 0 } (gGX D ad cy b) [.long a0, .int a1] σ r0 σ := by
  refine gIntro (own := RX6) hG (by decide +kernel) rfl rfl (by decide) (lv := [(0, .long a0), (2, .int a1)]) rfl (fun κ C E => ?_)
  unfold m_X6_byteOf at hM
  refine x_lln C 0 rfl dX6_byteOf_0 rfl ?_
  refine x_bi (v := 8) C (by decide) dX6_byteOf_1 rfl ?_
  refine x_iln C 1 rfl dX6_byteOf_3 rfl ?_
  refine x_imul C dX6_byteOf_4 rfl ?_
  refine x_lshr C dX6_byteOf_5 rfl ?_
  refine x_ldc2 (v := 255) C (gBc kk_X6_285) dX6_byteOf_6 rfl ?_
  refine x_land C dX6_byteOf_9 rfl ?_
  refine x_l2i C dX6_byteOf_10 rfl ?_
  exact x_iret C E ⟨gs1 hM, rfl⟩ dX6_byteOf_11
set_option maxRecDepth 100000 in
set_option maxHeartbeats 4000000 in
theorem c_X3_append {l : Launch} {D : va_G} {ad : Nat → Nat} {cy : Nat → ClassId} {b : Nat} (hG : gInj (gGX D ad cy b)) {a0 : Int32} {σ : gMem} {σ0 : gMem} (hM : m_X3_append a0 σ = some σ0) : gMv l yX3_append (Cond.code yX3_append cX3_append 2 none :: gBig) { frames := 0, cells := 0, slots := 0, locals := 0 } (gGX D ad cy b) [.ref (ad 49), .int a0] σ σ0 := by
  refine gIntro (own := RX3) hG (by decide +kernel) rfl rfl (by decide) (lv := [(0, .ref (ad 49)), (1, .int a0)]) rfl (fun κ C E => ?_)
  unfold m_X3_append at hM
  refine x_aln C 0 rfl dX3_append_0 rfl ?_
  refine gXg_49_length C kf_X3_24 dX3_append_1 rfl ?_
  refine x_bi (v := 80) C (by decide) dX3_append_4 rfl ?_
  refine x_ic_ge (tgt := 29) C dX3_append_6 (by decide) rfl (fun hc => ?_) (fun hc => ?_)
  · replace hM := gif_pos hc hM
    exact x_vret C E (gs1 hM) dX3_append_29
  · replace hM := gif_neg hc hM
    refine x_aln C 0 rfl dX3_append_9 rfl ?_
    refine gXg_49_signs C kf_X3_9 dX3_append_10 rfl ?_
    refine x_aln C 0 rfl dX3_append_13 rfl ?_
    refine gXg_49_length C kf_X3_24 dX3_append_14 rfl ?_
    refine x_iln C 1 rfl dX3_append_17 rfl ?_
    obtain ⟨h1, hM⟩ := gck_some hM
    obtain ⟨s2, ev, hM⟩ := gnm_ex hM
    refine gXs_50 C ev h1 dX3_append_18 rfl ?_
    refine x_aln C 0 rfl dX3_append_19 rfl ?_
    refine x_dup C rfl dX3_append_20 rfl ?_
    refine gXg_49_length C kf_X3_24 dX3_append_21 rfl ?_
    refine x_ic (v := 1) C (by decide) dX3_append_24 rfl ?_
    refine x_iadd C dX3_append_25 rfl ?_
    obtain ⟨s3, ev, hM⟩ := gnm_ex hM
    refine gXp_49_length C ev kf_X3_24 dX3_append_26 rfl ?_
    exact x_vret C E (gs1 hM) dX3_append_29
set_option maxRecDepth 100000 in
set_option maxHeartbeats 4000000 in
theorem c_X6_type {l : Launch} {D : va_G} {ad : Nat → Nat} {cy : Nat → ClassId} {b : Nat} (hG : gInj (gGX D ad cy b)) {a0 : Int64} {a1 : Int32} {σ : gMem} {r0 : Int32} {σ0 : gMem} (hM : m_X6_type a0 a1 σ = some (r0, σ0)) : gMi l yX6_type (Cond.code yX6_type cX6_type 5 (some .int) :: gBig) { frames := 1, cells := 0, slots := 0, locals := 22 } (gGX D ad cy b) [.ref (ad 0), .long a0, .int a1] σ r0 σ0 := by
  refine gIntro (own := RX6) hG (by decide +kernel) rfl rfl (by decide) (lv := [(0, .ref (ad 0)), (1, .long a0), (3, .int a1)]) rfl (fun κ C E => ?_)
  unfold m_X6_type at hM
  refine x_iln C 2 rfl dX6_type_0 rfl ?_
  refine x_ic (v := 1) C (by decide) dX6_type_1 rfl ?_
  refine x_bi (v := 8) C (by decide) dX6_type_2 rfl ?_
  obtain ⟨r2, h1, hM⟩ := gb1_some hM
  refine x_csi (As := [.int a1, .int 1, .int 8]) (rest := []) C E.2.2.2.2.2 3 (c_X6_within hG h1) (gBs km_X6_54 kst_X6_within kini_X6 kc_X6_within) rfl rfl rfl ⟨by decide +kernel, by decide +kernel, by decide +kernel⟩ ⟨Nat.le_of_ble_eq_true rfl, Nat.le_of_ble_eq_true rfl⟩ rfl rfl (by decide) dX6_type_4 rfl ?_
  refine x_if_ne (tgt := 12) C dX6_type_7 (by decide) rfl (fun hc => ?_) (fun hc => ?_)
  · replace hM := gif_neg hc hM
    refine x_ic (v := 0) C (by decide) dX6_type_12 rfl ?_
    refine x_ist (lv' := [(4, .int 0), (0, .ref (ad 0)), (1, .long a0), (3, .int a1)]) C rfl (by decide) rfl dX6_type_13 rfl ?_
    have L15 : ∀ (n : Nat) (x4_3 : Int32) (t4 : Nat), m_X6_type_15 a0 a1 σ n x4_3 = some (t4) → (t4 = 0 → wx κ (gGX D ad cy b) (gA (gGX D ad cy b)) 5 σ 37 [] []) → (t4 = 1 → wx κ (gGX D ad cy b) (gA (gGX D ad cy b)) 5 σ 45 [(0, .ref (ad 0)), (1, .long a0), (3, .int a1)] []) → wx κ (gGX D ad cy b) (gA (gGX D ad cy b)) 5 σ 15 [(0, .ref (ad 0)), (1, .long a0), (3, .int a1), (4, .int x4_3)] [] := by
      clear hM
      intro n
      induction n with
      | zero => intro _ _ hM; cases hM
      | succ n ih =>
        intro x4_3 t4 hM kx0 kx1
        replace hM : b_X6_type_15 a0 a1 σ (m_X6_type_15 a0 a1 σ n) x4_3 = some (t4) := hM
        unfold b_X6_type_15 at hM
        refine x_il C 3 rfl dX6_type_15 rfl ?_
        refine x_iln C 2 rfl dX6_type_17 rfl ?_
        refine x_ic_ge (tgt := 45) C dX6_type_18 (by decide) rfl (fun hc => ?_) (fun hc => ?_)
        · replace hM := gif_pos hc hM
          cases hM
          exact x_sub [0, 1, 2] rfl (kx1 rfl)
        · replace hM := gif_neg hc hM
          refine x_lln C 1 rfl dX6_type_21 rfl ?_
          refine x_il C 3 rfl dX6_type_22 rfl ?_
          obtain ⟨r6, h5, hM⟩ := gb1_some hM
          refine x_csi (As := [.long a0, .int x4_3]) (rest := []) C E.2.2.2.2.2 2 (c_X6_byteOf hG h5) (gBs km_X6_135 kst_X6_byteOf kini_X6 kc_X6_byteOf) rfl rfl rfl ⟨by decide +kernel, by decide +kernel, by decide +kernel⟩ ⟨Nat.le_of_ble_eq_true rfl, Nat.le_of_ble_eq_true rfl⟩ rfl rfl (by decide) dX6_type_24 rfl ?_
          refine x_bi (v := 32) C (by decide) dX6_type_27 rfl ?_
          refine x_bi (v := 126) C (by decide) dX6_type_29 rfl ?_
          obtain ⟨r8, h7, hM⟩ := gb1_some hM
          refine x_csi (As := [.int r6, .int 32, .int 126]) (rest := []) C E.2.2.2.2.2 3 (c_X6_within hG h7) (gBs km_X6_54 kst_X6_within kini_X6 kc_X6_within) rfl rfl rfl ⟨by decide +kernel, by decide +kernel, by decide +kernel⟩ ⟨Nat.le_of_ble_eq_true rfl, Nat.le_of_ble_eq_true rfl⟩ rfl rfl (by decide) dX6_type_31 rfl ?_
          refine x_if_ne (tgt := 39) C dX6_type_34 (by decide) rfl (fun hc => ?_) (fun hc => ?_)
          · replace hM := gif_neg hc hM
            obtain ⟨x4_9, ev, hM⟩ := gnm_ex hM
            refine x_iinc (j := 3) (lv' := [(4, .int x4_9), (0, .ref (ad 0)), (1, .long a0), (3, .int a1)]) C rfl ev (by decide) rfl dX6_type_39 rfl ?_
            refine x_goto (tgt := 15) C dX6_type_42 (by decide) ?_
            exact x_sub [1, 2, 3, 0] rfl (ih x4_9 _ hM kx0 kx1)
          · replace hM := gif_pos hc hM
            cases hM
            exact x_sub [] rfl (kx0 rfl)
    obtain ⟨t4, hL10, hM⟩ := gb1_some hM
    refine x_sub [1, 2, 3, 0] rfl (L15 gFU 0 _ hL10 (fun ht => ?_) (fun ht => ?_))
    · clear L15
      replace hM := gif_pos ht hM
      refine x_ic (v := (-1)) C (by decide) dX6_type_37 rfl ?_
      exact x_iret C E (gs2 hM) dX6_type_38
    · clear L15
      replace hM := gif_neg (by omega : ¬ t4 = 0) hM
      refine x_aln C 0 rfl dX6_type_45 rfl ?_
      refine gXg_0_tape C kf_X6_22 dX6_type_46 rfl ?_
      refine gXg_49_length C kf_X6_139 dX6_type_49 rfl ?_
      refine x_bi (v := 80) C (by decide) dX6_type_52 rfl ?_
      refine x_iln C 2 rfl dX6_type_54 rfl ?_
      refine x_isub C dX6_type_55 rfl ?_
      refine x_ic_le (tgt := 62) C dX6_type_56 (by decide) rfl (fun hc => ?_) (fun hc => ?_)
      · replace hM := gif_pos hc hM
        refine x_iln C 2 rfl dX6_type_62 rfl ?_
        refine x_ic (v := 1) C (by decide) dX6_type_63 rfl ?_
        refine x_isub C dX6_type_64 rfl ?_
        obtain ⟨x4_11, ev, hM⟩ := gnm_ex hM
        refine x_ist (lv' := [(4, .int x4_11), (0, .ref (ad 0)), (1, .long a0), (3, .int a1)]) C ev (by decide) rfl dX6_type_65 rfl ?_
        have L67 : ∀ (n : Nat) (x4_12 : Int32) (s13 : gMem) (s14 : gMem), m_X6_type_67 a0 n x4_12 s13 = some (s14) → (wx κ (gGX D ad cy b) (gA (gGX D ad cy b)) 5 s14 91 [(0, .ref (ad 0))] []) → wx κ (gGX D ad cy b) (gA (gGX D ad cy b)) 5 s13 67 [(0, .ref (ad 0)), (1, .long a0), (4, .int x4_12)] [] := by
          clear hM
          intro n
          induction n with
          | zero => intro _ _ _ hM; cases hM
          | succ n ih =>
            intro x4_12 s13 s14 hM kx0
            replace hM : b_X6_type_67 a0 (m_X6_type_67 a0 n) x4_12 s13 = some (s14) := hM
            unfold b_X6_type_67 at hM
            refine x_il C 2 rfl dX6_type_67 rfl ?_
            refine x_if_lt (tgt := 91) C dX6_type_69 (by decide) rfl (fun hc => ?_) (fun hc => ?_)
            · replace hM := gif_pos hc hM
              cases hM
              exact x_sub [0] rfl (kx0)
            · replace hM := gif_neg hc hM
              refine x_aln C 0 rfl dX6_type_72 rfl ?_
              refine gXg_0_tape C kf_X6_22 dX6_type_73 rfl ?_
              refine x_lln C 1 rfl dX6_type_76 rfl ?_
              refine x_il C 2 rfl dX6_type_77 rfl ?_
              obtain ⟨r16, h15, hM⟩ := gb1_some hM
              refine x_csi (As := [.long a0, .int x4_12]) (rest := [.ref (ad 49)]) C E.2.2.2.2.2 2 (c_X6_byteOf hG h15) (gBs km_X6_135 kst_X6_byteOf kini_X6 kc_X6_byteOf) rfl rfl rfl ⟨by decide +kernel, by decide +kernel, by decide +kernel⟩ ⟨Nat.le_of_ble_eq_true rfl, Nat.le_of_ble_eq_true rfl⟩ rfl rfl (by decide) dX6_type_79 rfl ?_
              obtain ⟨s18, h17, hM⟩ := gb1_some hM
              refine x_cvv (As := [.int r16]) (rest := []) C E.2.2.2.2.2 1 (c_X3_append hG h17) (gBv km_X6_142 kin_X3_append ksel_X3_append kini_X3 kc_X3_append) rfl rfl rfl ⟨rfl, by decide +kernel, by decide +kernel, by decide +kernel⟩ ⟨Nat.le_of_ble_eq_true rfl, Nat.le_of_ble_eq_true rfl⟩ (by show 49 < 213; decide) rfl rfl rfl rfl (by decide) dX6_type_82 rfl ?_
              obtain ⟨x4_19, ev, hM⟩ := gnm_ex hM
              refine x_iinc (j := 2) (lv' := [(4, .int x4_19), (0, .ref (ad 0)), (1, .long a0)]) C rfl ev (by decide) rfl dX6_type_85 rfl ?_
              refine x_goto (tgt := 67) C dX6_type_88 (by decide) ?_
              exact x_sub [1, 2, 0] rfl (ih x4_19 s18 _ hM kx0)
        obtain ⟨s14, hL20, hM⟩ := gb1_some hM
        refine x_sub [1, 2, 0] rfl (L67 gFU x4_11 σ _ hL20 ?_)
        clear L67
        refine x_aln C 0 rfl dX6_type_91 rfl ?_
        refine gXg_0_tape C kf_X6_22 dX6_type_92 rfl ?_
        refine gXg_49_length C kf_X6_139 dX6_type_95 rfl ?_
        exact x_iret C E (gs2 hM) dX6_type_98
      · replace hM := gif_neg hc hM
        refine x_bi (v := (-3)) C (by decide) dX6_type_59 rfl ?_
        exact x_iret C E (gs2 hM) dX6_type_61
  · replace hM := gif_pos hc hM
    refine x_ic (v := (-1)) C (by decide) dX6_type_10 rfl ?_
    exact x_iret C E (gs2 hM) dX6_type_11
set_option maxRecDepth 100000 in
set_option maxHeartbeats 4000000 in
theorem c_X3_begin {l : Launch} {D : va_G} {ad : Nat → Nat} {cy : Nat → ClassId} {b : Nat} (hG : gInj (gGX D ad cy b))  {σ : gMem} {σ0 : gMem} (hM : m_X3_begin  σ = some σ0) : gMv l yX3_begin (Cond.code yX3_begin cX3_begin 1 none :: gBig) { frames := 0, cells := 0, slots := 0, locals := 0 } (gGX D ad cy b) [.ref (ad 49)] σ σ0 := by
  refine gIntro (own := RX3) hG (by decide +kernel) rfl rfl (by decide) (lv := [(0, .ref (ad 49))]) rfl (fun κ C E => ?_)
  unfold m_X3_begin at hM
  refine x_aln C 0 rfl dX3_begin_0 rfl ?_
  refine x_ic (v := 0) C (by decide) dX3_begin_1 rfl ?_
  obtain ⟨s1, ev, hM⟩ := gnm_ex hM
  refine gXp_49_next C ev kf_X3_49 dX3_begin_2 rfl ?_
  refine x_aln C 0 rfl dX3_begin_5 rfl ?_
  refine x_ic (v := 0) C (by decide) dX3_begin_6 rfl ?_
  obtain ⟨s2, ev, hM⟩ := gnm_ex hM
  refine gXp_49_rows C ev kf_X3_31 dX3_begin_7 rfl ?_
  refine x_aln C 0 rfl dX3_begin_10 rfl ?_
  refine x_ic (v := 0) C (by decide) dX3_begin_11 rfl ?_
  obtain ⟨s3, ev, hM⟩ := gnm_ex hM
  refine gXp_49_postsTold C ev kf_X3_52 dX3_begin_12 rfl ?_
  refine x_aln C 0 rfl dX3_begin_15 rfl ?_
  refine x_ic (v := (-1)) C (by decide) dX3_begin_16 rfl ?_
  obtain ⟨s4, ev, hM⟩ := gnm_ex hM
  refine gXp_49_fault C ev kf_X3_55 dX3_begin_17 rfl ?_
  exact x_vret C E (gs1 hM) dX3_begin_20
set_option maxRecDepth 100000 in
set_option maxHeartbeats 4000000 in
theorem c_X3_peek {l : Launch} {D : va_G} {ad : Nat → Nat} {cy : Nat → ClassId} {b : Nat} (hG : gInj (gGX D ad cy b))  {σ : gMem} {r0 : Int32} {σ0 : gMem} (hM : m_X3_peek  σ = some (r0, σ0)) : gMi l yX3_peek (Cond.code yX3_peek cX3_peek 1 (some .int) :: gBig) { frames := 0, cells := 0, slots := 0, locals := 0 } (gGX D ad cy b) [.ref (ad 49)] σ r0 σ0 := by
  refine gIntro (own := RX3) hG (by decide +kernel) rfl rfl (by decide) (lv := [(0, .ref (ad 49))]) rfl (fun κ C E => ?_)
  unfold m_X3_peek at hM
  have L0 : ∀ (n : Nat) (s1 : gMem) (s2 : gMem), m_X3_peek_0 n s1 = some (s2) → (wx κ (gGX D ad cy b) (gA (gGX D ad cy b)) 1 s2 38 [(0, .ref (ad 49))] []) → wx κ (gGX D ad cy b) (gA (gGX D ad cy b)) 1 s1 0 [(0, .ref (ad 49))] [] := by
    clear hM
    intro n
    induction n with
    | zero => intro _ _ hM; cases hM
    | succ n ih =>
      intro s1 s2 hM kx0
      replace hM : b_X3_peek_0 (m_X3_peek_0 n) s1 = some (s2) := hM
      unfold b_X3_peek_0 at hM
      refine x_aln C 0 rfl dX3_peek_0 rfl ?_
      refine gXg_49_next C kf_X3_49 dX3_peek_1 rfl ?_
      refine x_aln C 0 rfl dX3_peek_4 rfl ?_
      refine gXg_49_length C kf_X3_24 dX3_peek_5 rfl ?_
      refine x_ic_ge (tgt := 38) C dX3_peek_8 (by decide) rfl (fun hc => ?_) (fun hc => ?_)
      · replace hM := gif_pos hc hM
        cases hM
        exact x_sub [0] rfl (kx0)
      · replace hM := gif_neg hc hM
        refine x_aln C 0 rfl dX3_peek_11 rfl ?_
        refine gXg_49_signs C kf_X3_9 dX3_peek_12 rfl ?_
        refine x_aln C 0 rfl dX3_peek_15 rfl ?_
        refine gXg_49_next C kf_X3_49 dX3_peek_16 rfl ?_
        obtain ⟨h3, hM⟩ := gck_some hM
        refine gXa_50 C h3 dX3_peek_19 rfl ?_
        refine x_bi (v := 32) C (by decide) dX3_peek_20 rfl ?_
        refine x_ic_ne (tgt := 38) C dX3_peek_22 (by decide) rfl (fun hc => ?_) (fun hc => ?_)
        · replace hM := gif_neg hc hM
          cases hM
          exact x_sub [0] rfl (kx0)
        · replace hM := gif_pos hc hM
          refine x_aln C 0 rfl dX3_peek_25 rfl ?_
          refine x_dup C rfl dX3_peek_26 rfl ?_
          refine gXg_49_next C kf_X3_49 dX3_peek_27 rfl ?_
          refine x_ic (v := 1) C (by decide) dX3_peek_30 rfl ?_
          refine x_iadd C dX3_peek_31 rfl ?_
          obtain ⟨s4, ev, hM⟩ := gnm_ex hM
          refine gXp_49_next C ev kf_X3_49 dX3_peek_32 rfl ?_
          refine x_goto (tgt := 0) C dX3_peek_35 (by decide) ?_
          exact x_sub [0] rfl (ih s4 _ hM kx0)
  obtain ⟨s2, hL5, hM⟩ := gb1_some hM
  refine x_sub [0] rfl (L0 gFU σ _ hL5 ?_)
  clear L0
  refine x_aln C 0 rfl dX3_peek_38 rfl ?_
  refine gXg_49_next C kf_X3_49 dX3_peek_39 rfl ?_
  refine x_aln C 0 rfl dX3_peek_42 rfl ?_
  refine gXg_49_length C kf_X3_24 dX3_peek_43 rfl ?_
  refine x_ic_ge (tgt := 61) C dX3_peek_46 (by decide) rfl (fun hc => ?_) (fun hc => ?_)
  · replace hM := gif_pos hc hM
    refine x_ic (v := (-1)) C (by decide) dX3_peek_61 rfl ?_
    exact x_iret C E (gs2 hM) dX3_peek_62
  · replace hM := gif_neg hc hM
    refine x_aln C 0 rfl dX3_peek_49 rfl ?_
    refine gXg_49_signs C kf_X3_9 dX3_peek_50 rfl ?_
    refine x_aln C 0 rfl dX3_peek_53 rfl ?_
    refine gXg_49_next C kf_X3_49 dX3_peek_54 rfl ?_
    obtain ⟨h6, hM⟩ := gck_some hM
    refine gXa_50 C h6 dX3_peek_57 rfl ?_
    refine x_goto (tgt := 62) C dX3_peek_58 (by decide) ?_
    exact x_iret C E (gs2 hM) dX3_peek_62
set_option maxRecDepth 100000 in
set_option maxHeartbeats 4000000 in
theorem c_X3_faultAt {l : Launch} {D : va_G} {ad : Nat → Nat} {cy : Nat → ClassId} {b : Nat} (hG : gInj (gGX D ad cy b)) {a0 : Int32} {σ : gMem} {σ0 : gMem} (hM : m_X3_faultAt a0 σ = some σ0) : gMv l yX3_faultAt (Cond.code yX3_faultAt cX3_faultAt 2 none :: gBig) { frames := 0, cells := 0, slots := 0, locals := 0 } (gGX D ad cy b) [.ref (ad 49), .int a0] σ σ0 := by
  refine gIntro (own := RX3) hG (by decide +kernel) rfl rfl (by decide) (lv := [(0, .ref (ad 49)), (1, .int a0)]) rfl (fun κ C E => ?_)
  unfold m_X3_faultAt at hM
  refine x_aln C 0 rfl dX3_faultAt_0 rfl ?_
  refine gXg_49_fault C kf_X3_55 dX3_faultAt_1 rfl ?_
  refine x_if_ge (tgt := 12) C dX3_faultAt_4 (by decide) rfl (fun hc => ?_) (fun hc => ?_)
  · replace hM := gif_pos hc hM
    exact x_vret C E (gs1 hM) dX3_faultAt_12
  · replace hM := gif_neg hc hM
    refine x_aln C 0 rfl dX3_faultAt_7 rfl ?_
    refine x_iln C 1 rfl dX3_faultAt_8 rfl ?_
    obtain ⟨s1, ev, hM⟩ := gnm_ex hM
    refine gXp_49_fault C ev kf_X3_55 dX3_faultAt_9 rfl ?_
    exact x_vret C E (gs1 hM) dX3_faultAt_12
set_option maxRecDepth 100000 in
set_option maxHeartbeats 4000000 in
theorem c_X3_readNumber {l : Launch} {D : va_G} {ad : Nat → Nat} {cy : Nat → ClassId} {b : Nat} (hG : gInj (gGX D ad cy b)) {a0 : Int32} {a1 : Int32} {σ : gMem} {r0 : Int32} {σ0 : gMem} (hM : m_X3_readNumber a0 a1 σ = some (r0, σ0)) : gMi l yX3_readNumber (Cond.code yX3_readNumber cX3_readNumber 5 (some .int) :: gBig) { frames := 1, cells := 0, slots := 0, locals := 22 } (gGX D ad cy b) [.ref (ad 49), .int a0, .int a1] σ r0 σ0 := by
  refine gIntro (own := RX3) hG (by decide +kernel) rfl rfl (by decide) (lv := [(0, .ref (ad 49)), (1, .int a0), (2, .int a1)]) rfl (fun κ C E => ?_)
  unfold m_X3_readNumber at hM
  refine x_aln C 0 rfl dX3_readNumber_0 rfl ?_
  obtain ⟨r3, s2, h1, hM⟩ := gb2_some hM
  refine x_cvi (As := []) (rest := []) C E.2.2.2.2.2 0 (c_X3_peek hG h1) (gBv km_X3_61 kin_X3_peek ksel_X3_peek kini_X3 kc_X3_peek) rfl rfl rfl ⟨rfl, by decide +kernel, by decide +kernel, by decide +kernel⟩ ⟨Nat.le_of_ble_eq_true rfl, Nat.le_of_ble_eq_true rfl⟩ (by show 49 < 213; decide) rfl rfl rfl rfl (by decide) dX3_readNumber_1 rfl ?_
  refine x_bi (v := 48) C (by decide) dX3_readNumber_4 rfl ?_
  refine x_bi (v := 57) C (by decide) dX3_readNumber_6 rfl ?_
  obtain ⟨r5, h4, hM⟩ := gb1_some hM
  refine x_csni (As := [.int r3, .int 48, .int 57]) (rest := []) C E.2.2.2.2.2 3 (c_X6_within hG h4) (gBn kc_X6_within) rfl rfl rfl (by decide +kernel) (gBc kini_X6) (gBc kst_X6_within) ⟨by decide +kernel, by decide +kernel, by decide +kernel⟩ ⟨Nat.le_of_ble_eq_true rfl, Nat.le_of_ble_eq_true rfl⟩ rfl rfl (by decide) dX3_readNumber_8 rfl ?_
  refine x_if_ne (tgt := 24) C dX3_readNumber_11 (by decide) rfl (fun hc => ?_) (fun hc => ?_)
  · replace hM := gif_neg hc hM
    refine x_aln C 0 rfl dX3_readNumber_24 rfl ?_
    refine gXg_49_next C kf_X3_49 dX3_readNumber_25 rfl ?_
    obtain ⟨x3_6, ev, hM⟩ := gnm_ex hM
    refine x_istn (lv' := [(3, .int x3_6), (0, .ref (ad 49)), (1, .int a0), (2, .int a1)]) C rfl ev (by decide) rfl dX3_readNumber_28 rfl ?_
    refine x_ic (v := 0) C (by decide) dX3_readNumber_29 rfl ?_
    refine x_ist (lv' := [(4, .int 0), (3, .int x3_6), (0, .ref (ad 49)), (1, .int a0), (2, .int a1)]) C rfl (by decide) rfl dX3_readNumber_30 rfl ?_
    have L32 : ∀ (n : Nat) (x4_7 : Int32) (s8 : gMem) (x4_9 : Int32) (s10 : gMem), m_X3_readNumber_32 n x4_7 s8 = some (x4_9, s10) → (wx κ (gGX D ad cy b) (gA (gGX D ad cy b)) 5 s10 100 [(0, .ref (ad 49)), (1, .int a0), (2, .int a1), (3, .int x3_6), (4, .int x4_9)] []) → wx κ (gGX D ad cy b) (gA (gGX D ad cy b)) 5 s8 32 [(0, .ref (ad 49)), (1, .int a0), (2, .int a1), (3, .int x3_6), (4, .int x4_7)] [] := by
      clear hM
      intro n
      induction n with
      | zero => intro _ _ _ _ hM; cases hM
      | succ n ih =>
        intro x4_7 s8 x4_9 s10 hM kx0
        replace hM : b_X3_readNumber_32 (m_X3_readNumber_32 n) x4_7 s8 = some (x4_9, s10) := hM
        unfold b_X3_readNumber_32 at hM
        refine x_aln C 0 rfl dX3_readNumber_32 rfl ?_
        refine gXg_49_next C kf_X3_49 dX3_readNumber_33 rfl ?_
        refine x_aln C 0 rfl dX3_readNumber_36 rfl ?_
        refine gXg_49_length C kf_X3_24 dX3_readNumber_37 rfl ?_
        refine x_ic_ge (tgt := 100) C dX3_readNumber_40 (by decide) rfl (fun hc => ?_) (fun hc => ?_)
        · replace hM := gif_pos hc hM
          cases hM
          exact x_sub [0, 1, 2, 3, 4] rfl (kx0)
        · replace hM := gif_neg hc hM
          refine x_aln C 0 rfl dX3_readNumber_43 rfl ?_
          refine gXg_49_signs C kf_X3_9 dX3_readNumber_44 rfl ?_
          refine x_aln C 0 rfl dX3_readNumber_47 rfl ?_
          refine gXg_49_next C kf_X3_49 dX3_readNumber_48 rfl ?_
          obtain ⟨h11, hM⟩ := gck_some hM
          refine gXa_50 C h11 dX3_readNumber_51 rfl ?_
          refine x_bi (v := 48) C (by decide) dX3_readNumber_52 rfl ?_
          refine x_bi (v := 57) C (by decide) dX3_readNumber_54 rfl ?_
          obtain ⟨r13, h12, hM⟩ := gb1_some hM
          refine x_csni (As := [.int (s8 50 (s8 49 2).toNatClampNeg), .int 48, .int 57]) (rest := []) C E.2.2.2.2.2 3 (c_X6_within hG h12) (gBn kc_X6_within) rfl rfl rfl (by decide +kernel) (gBc kini_X6) (gBc kst_X6_within) ⟨by decide +kernel, by decide +kernel, by decide +kernel⟩ ⟨Nat.le_of_ble_eq_true rfl, Nat.le_of_ble_eq_true rfl⟩ rfl rfl (by decide) dX3_readNumber_56 rfl ?_
          refine x_if_eq (tgt := 100) C dX3_readNumber_59 (by decide) rfl (fun hc => ?_) (fun hc => ?_)
          · replace hM := gif_pos hc hM
            cases hM
            exact x_sub [0, 1, 2, 3, 4] rfl (kx0)
          · replace hM := gif_neg hc hM
            refine x_bi (v := 100) C (by decide) dX3_readNumber_62 rfl ?_
            refine x_il C 4 rfl dX3_readNumber_64 rfl ?_
            refine x_bi (v := 10) C (by decide) dX3_readNumber_66 rfl ?_
            refine x_imul C dX3_readNumber_68 rfl ?_
            refine x_aln C 0 rfl dX3_readNumber_69 rfl ?_
            refine gXg_49_signs C kf_X3_9 dX3_readNumber_70 rfl ?_
            refine x_aln C 0 rfl dX3_readNumber_73 rfl ?_
            refine gXg_49_next C kf_X3_49 dX3_readNumber_74 rfl ?_
            obtain ⟨h14, hM⟩ := gck_some hM
            refine gXa_50 C h14 dX3_readNumber_77 rfl ?_
            refine x_iadd C dX3_readNumber_78 rfl ?_
            refine x_bi (v := 48) C (by decide) dX3_readNumber_79 rfl ?_
            refine x_isub C dX3_readNumber_81 rfl ?_
            refine x_mmin C (gBc km_X3_78) (gBc kst_Math_min) (gBc kini_JMath) (gBc kc_Math_min) (by decide) (Nat.le_of_ble_eq_true rfl) dX3_readNumber_82 rfl ?_
            obtain ⟨x4_15, ev, hM⟩ := gnm_ex hM
            refine x_ist (lv' := [(4, .int x4_15), (0, .ref (ad 49)), (1, .int a0), (2, .int a1), (3, .int x3_6)]) C ev (by decide) rfl dX3_readNumber_85 rfl ?_
            refine x_aln C 1 rfl dX3_readNumber_87 rfl ?_
            refine x_dup C rfl dX3_readNumber_88 rfl ?_
            refine gXg_49_next C kf_X3_49 dX3_readNumber_89 rfl ?_
            refine x_ic (v := 1) C (by decide) dX3_readNumber_92 rfl ?_
            refine x_iadd C dX3_readNumber_93 rfl ?_
            obtain ⟨s16, ev, hM⟩ := gnm_ex hM
            refine gXp_49_next C ev kf_X3_49 dX3_readNumber_94 rfl ?_
            refine x_goto (tgt := 32) C dX3_readNumber_97 (by decide) ?_
            exact x_sub [1, 2, 3, 4, 0] rfl (ih x4_15 s16 _ _ hM kx0)
    obtain ⟨x4_9, s10, hL17, hM⟩ := gb2_some hM
    refine x_sub [2, 3, 4, 1, 0] rfl (L32 gFU 0 s2 _ _ hL17 ?_)
    clear L32
    refine x_il C 4 rfl dX3_readNumber_100 rfl ?_
    refine x_iln C 1 rfl dX3_readNumber_102 rfl ?_
    refine x_iln C 2 rfl dX3_readNumber_103 rfl ?_
    obtain ⟨r19, h18, hM⟩ := gb1_some hM
    refine x_csni (As := [.int x4_9, .int a0, .int a1]) (rest := []) C E.2.2.2.2.2 3 (c_X6_within hG h18) (gBn kc_X6_within) rfl rfl rfl (by decide +kernel) (gBc kini_X6) (gBc kst_X6_within) ⟨by decide +kernel, by decide +kernel, by decide +kernel⟩ ⟨Nat.le_of_ble_eq_true rfl, Nat.le_of_ble_eq_true rfl⟩ rfl rfl (by decide) dX3_readNumber_104 rfl ?_
    refine x_if_ne (tgt := 117) C dX3_readNumber_107 (by decide) rfl (fun hc => ?_) (fun hc => ?_)
    · replace hM := gif_neg hc hM
      refine x_il C 4 rfl dX3_readNumber_117 rfl ?_
      exact x_iret C E (gs2 hM) dX3_readNumber_119
    · replace hM := gif_pos hc hM
      refine x_aln C 0 rfl dX3_readNumber_110 rfl ?_
      refine x_iln C 3 rfl dX3_readNumber_111 rfl ?_
      obtain ⟨s21, h20, hM⟩ := gb1_some hM
      refine x_cvv (As := [.int x3_6]) (rest := []) C E.2.2.2.2.2 1 (c_X3_faultAt hG h20) (gBv km_X3_71 kin_X3_faultAt ksel_X3_faultAt kini_X3 kc_X3_faultAt) rfl rfl rfl ⟨rfl, by decide +kernel, by decide +kernel, by decide +kernel⟩ ⟨Nat.le_of_ble_eq_true rfl, Nat.le_of_ble_eq_true rfl⟩ (by show 49 < 213; decide) rfl rfl rfl rfl (by decide) dX3_readNumber_112 rfl ?_
      refine x_iln C 1 rfl dX3_readNumber_115 rfl ?_
      exact x_iret C E (gs2 hM) dX3_readNumber_116
  · replace hM := gif_pos hc hM
    refine x_aln C 0 rfl dX3_readNumber_14 rfl ?_
    refine x_aln C 0 rfl dX3_readNumber_15 rfl ?_
    refine gXg_49_next C kf_X3_49 dX3_readNumber_16 rfl ?_
    obtain ⟨s23, h22, hM⟩ := gb1_some hM
    refine x_cvv (As := [.int (s2 49 2)]) (rest := []) C E.2.2.2.2.2 1 (c_X3_faultAt hG h22) (gBv km_X3_71 kin_X3_faultAt ksel_X3_faultAt kini_X3 kc_X3_faultAt) rfl rfl rfl ⟨rfl, by decide +kernel, by decide +kernel, by decide +kernel⟩ ⟨Nat.le_of_ble_eq_true rfl, Nat.le_of_ble_eq_true rfl⟩ (by show 49 < 213; decide) rfl rfl rfl rfl (by decide) dX3_readNumber_19 rfl ?_
    refine x_iln C 1 rfl dX3_readNumber_22 rfl ?_
    exact x_iret C E (gs2 hM) dX3_readNumber_23
set_option maxRecDepth 100000 in
set_option maxHeartbeats 4000000 in
theorem c_X3_readDepth {l : Launch} {D : va_G} {ad : Nat → Nat} {cy : Nat → ClassId} {b : Nat} (hG : gInj (gGX D ad cy b))  {σ : gMem} {r0 : Int32} {σ0 : gMem} (hM : m_X3_readDepth  σ = some (r0, σ0)) : gMi l yX3_readDepth (Cond.code yX3_readDepth cX3_readDepth 1 (some .int) :: gBig) { frames := 2, cells := 0, slots := 0, locals := 46 } (gGX D ad cy b) [.ref (ad 49)] σ r0 σ0 := by
  refine gIntro (own := RX3) hG (by decide +kernel) rfl rfl (by decide) (lv := [(0, .ref (ad 49))]) rfl (fun κ C E => ?_)
  unfold m_X3_readDepth at hM
  refine x_aln C 0 rfl dX3_readDepth_0 rfl ?_
  obtain ⟨r3, s2, h1, hM⟩ := gb2_some hM
  refine x_cvi (As := []) (rest := []) C E.2.2.2.2.2 0 (c_X3_peek hG h1) (gBv km_X3_61 kin_X3_peek ksel_X3_peek kini_X3 kc_X3_peek) rfl rfl rfl ⟨rfl, by decide +kernel, by decide +kernel, by decide +kernel⟩ ⟨Nat.le_of_ble_eq_true rfl, Nat.le_of_ble_eq_true rfl⟩ (by show 49 < 213; decide) rfl rfl rfl rfl (by decide) dX3_readDepth_1 rfl ?_
  refine x_bi (v := 45) C (by decide) dX3_readDepth_4 rfl ?_
  refine x_ic_eq (tgt := 17) C dX3_readDepth_6 (by decide) rfl (fun hc => ?_) (fun hc => ?_)
  · replace hM := gif_pos hc hM
    refine x_aln C 0 rfl dX3_readDepth_17 rfl ?_
    refine x_dup C rfl dX3_readDepth_18 rfl ?_
    refine gXg_49_next C kf_X3_49 dX3_readDepth_19 rfl ?_
    refine x_ic (v := 1) C (by decide) dX3_readDepth_22 rfl ?_
    refine x_iadd C dX3_readDepth_23 rfl ?_
    obtain ⟨s4, ev, hM⟩ := gnm_ex hM
    refine gXp_49_next C ev kf_X3_49 dX3_readDepth_24 rfl ?_
    refine x_aln C 0 rfl dX3_readDepth_27 rfl ?_
    refine x_ic (v := 0) C (by decide) dX3_readDepth_28 rfl ?_
    refine x_bi (v := 20) C (by decide) dX3_readDepth_29 rfl ?_
    obtain ⟨r7, s6, h5, hM⟩ := gb2_some hM
    refine x_cvi (As := [.int 0, .int 20]) (rest := []) C E.2.2.2.2.2 2 (c_X3_readNumber hG h5) (gBv km_X3_64 kin_X3_readNumber ksel_X3_readNumber kini_X3 kc_X3_readNumber) rfl rfl rfl ⟨rfl, by decide +kernel, by decide +kernel, by decide +kernel⟩ ⟨Nat.le_of_ble_eq_true rfl, Nat.le_of_ble_eq_true rfl⟩ (by show 49 < 213; decide) rfl rfl rfl rfl (by decide) dX3_readDepth_31 rfl ?_
    refine x_ineg C dX3_readDepth_34 rfl ?_
    exact x_iret C E (gs2 hM) dX3_readDepth_35
  · replace hM := gif_neg hc hM
    refine x_aln C 0 rfl dX3_readDepth_9 rfl ?_
    refine x_ic (v := 0) C (by decide) dX3_readDepth_10 rfl ?_
    refine x_bi (v := 60) C (by decide) dX3_readDepth_11 rfl ?_
    obtain ⟨r10, s9, h8, hM⟩ := gb2_some hM
    refine x_cvi (As := [.int 0, .int 60]) (rest := []) C E.2.2.2.2.2 2 (c_X3_readNumber hG h8) (gBv km_X3_64 kin_X3_readNumber ksel_X3_readNumber kini_X3 kc_X3_readNumber) rfl rfl rfl ⟨rfl, by decide +kernel, by decide +kernel, by decide +kernel⟩ ⟨Nat.le_of_ble_eq_true rfl, Nat.le_of_ble_eq_true rfl⟩ (by show 49 < 213; decide) rfl rfl rfl rfl (by decide) dX3_readDepth_13 rfl ?_
    exact x_iret C E (gs2 hM) dX3_readDepth_16
set_option maxRecDepth 100000 in
set_option maxHeartbeats 4000000 in
theorem c_X3_readPlace {l : Launch} {D : va_G} {ad : Nat → Nat} {cy : Nat → ClassId} {b : Nat} (hG : gInj (gGX D ad cy b))  {σ : gMem} {σ0 : gMem} (hM : m_X3_readPlace  σ = some σ0) : gMv l yX3_readPlace (Cond.code yX3_readPlace cX3_readPlace 1 none :: gBig) { frames := 3, cells := 0, slots := 0, locals := 66 } (gGX D ad cy b) [.ref (ad 49)] σ σ0 := by
  refine gIntro (own := RX3) hG (by decide +kernel) rfl rfl (by decide) (lv := [(0, .ref (ad 49))]) rfl (fun κ C E => ?_)
  unfold m_X3_readPlace at hM
  refine x_aln C 0 rfl dX3_readPlace_0 rfl ?_
  refine gXg_49_firsts C kf_X3_15 dX3_readPlace_1 rfl ?_
  refine x_aln C 0 rfl dX3_readPlace_4 rfl ?_
  refine gXg_49_rows C kf_X3_31 dX3_readPlace_5 rfl ?_
  refine x_aln C 0 rfl dX3_readPlace_8 rfl ?_
  obtain ⟨r3, s2, h1, hM⟩ := gb2_some hM
  refine x_cvi (As := []) (rest := [.int (σ 49 5), .ref (ad 51)]) C E.2.2.2.2.2 0 (c_X3_readDepth hG h1) (gBv km_X3_58 kin_X3_readDepth ksel_X3_readDepth kini_X3 kc_X3_readDepth) rfl rfl rfl ⟨rfl, by decide +kernel, by decide +kernel, by decide +kernel⟩ ⟨Nat.le_of_ble_eq_true rfl, Nat.le_of_ble_eq_true rfl⟩ (by show 49 < 213; decide) rfl rfl rfl rfl (by decide) dX3_readPlace_9 rfl ?_
  obtain ⟨h4, hM⟩ := gck_some hM
  obtain ⟨s5, ev, hM⟩ := gnm_ex hM
  refine gXs_51 C ev h4 dX3_readPlace_12 rfl ?_
  refine x_aln C 0 rfl dX3_readPlace_13 rfl ?_
  refine gXg_49_lasts C kf_X3_21 dX3_readPlace_14 rfl ?_
  refine x_aln C 0 rfl dX3_readPlace_17 rfl ?_
  refine gXg_49_rows C kf_X3_31 dX3_readPlace_18 rfl ?_
  refine x_ic (v := 0) C (by decide) dX3_readPlace_21 rfl ?_
  obtain ⟨h6, hM⟩ := gck_some hM
  obtain ⟨s7, ev, hM⟩ := gnm_ex hM
  refine gXs_53 C ev h6 dX3_readPlace_22 rfl ?_
  refine x_aln C 0 rfl dX3_readPlace_23 rfl ?_
  obtain ⟨r10, s9, h8, hM⟩ := gb2_some hM
  refine x_cvi (As := []) (rest := []) C E.2.2.2.2.2 0 (c_X3_peek hG h8) (gBv km_X3_61 kin_X3_peek ksel_X3_peek kini_X3 kc_X3_peek) rfl rfl rfl ⟨rfl, by decide +kernel, by decide +kernel, by decide +kernel⟩ ⟨Nat.le_of_ble_eq_true rfl, Nat.le_of_ble_eq_true rfl⟩ (by show 49 < 213; decide) rfl rfl rfl rfl (by decide) dX3_readPlace_24 rfl ?_
  refine x_bi (v := 112) C (by decide) dX3_readPlace_27 rfl ?_
  refine x_ic_ne (tgt := 76) C dX3_readPlace_29 (by decide) rfl (fun hc => ?_) (fun hc => ?_)
  · replace hM := gif_neg hc hM
    exact x_vret C E (gs1 hM) dX3_readPlace_76
  · replace hM := gif_pos hc hM
    refine x_aln C 0 rfl dX3_readPlace_32 rfl ?_
    refine gXg_49_postsTold C kf_X3_52 dX3_readPlace_33 rfl ?_
    refine x_ic (v := 3) C (by decide) dX3_readPlace_36 rfl ?_
    refine x_ic_ge (tgt := 76) C dX3_readPlace_37 (by decide) rfl (fun hc => ?_) (fun hc => ?_)
    · replace hM := gif_pos hc hM
      exact x_vret C E (gs1 hM) dX3_readPlace_76
    · replace hM := gif_neg hc hM
      refine x_aln C 0 rfl dX3_readPlace_40 rfl ?_
      refine x_dup C rfl dX3_readPlace_41 rfl ?_
      refine gXg_49_next C kf_X3_49 dX3_readPlace_42 rfl ?_
      refine x_ic (v := 1) C (by decide) dX3_readPlace_45 rfl ?_
      refine x_iadd C dX3_readPlace_46 rfl ?_
      obtain ⟨s11, ev, hM⟩ := gnm_ex hM
      refine gXp_49_next C ev kf_X3_49 dX3_readPlace_47 rfl ?_
      refine x_aln C 0 rfl dX3_readPlace_50 rfl ?_
      refine x_dup C rfl dX3_readPlace_51 rfl ?_
      refine gXg_49_postsTold C kf_X3_52 dX3_readPlace_52 rfl ?_
      refine x_ic (v := 1) C (by decide) dX3_readPlace_55 rfl ?_
      refine x_iadd C dX3_readPlace_56 rfl ?_
      obtain ⟨s12, ev, hM⟩ := gnm_ex hM
      refine gXp_49_postsTold C ev kf_X3_52 dX3_readPlace_57 rfl ?_
      refine x_aln C 0 rfl dX3_readPlace_60 rfl ?_
      refine gXg_49_lasts C kf_X3_21 dX3_readPlace_61 rfl ?_
      refine x_aln C 0 rfl dX3_readPlace_64 rfl ?_
      refine gXg_49_rows C kf_X3_31 dX3_readPlace_65 rfl ?_
      refine x_aln C 0 rfl dX3_readPlace_68 rfl ?_
      refine x_ic (v := 1) C (by decide) dX3_readPlace_69 rfl ?_
      refine x_bi (v := 20) C (by decide) dX3_readPlace_70 rfl ?_
      obtain ⟨r15, s14, h13, hM⟩ := gb2_some hM
      refine x_cvi (As := [.int 1, .int 20]) (rest := [.int (s12 49 5), .ref (ad 53)]) C E.2.2.2.2.2 2 (c_X3_readNumber hG h13) (gBv km_X3_64 kin_X3_readNumber ksel_X3_readNumber kini_X3 kc_X3_readNumber) rfl rfl rfl ⟨rfl, by decide +kernel, by decide +kernel, by decide +kernel⟩ ⟨Nat.le_of_ble_eq_true rfl, Nat.le_of_ble_eq_true rfl⟩ (by show 49 < 213; decide) rfl rfl rfl rfl (by decide) dX3_readPlace_72 rfl ?_
      obtain ⟨h16, hM⟩ := gck_some hM
      obtain ⟨s17, ev, hM⟩ := gnm_ex hM
      refine gXs_53 C ev h16 dX3_readPlace_75 rfl ?_
      exact x_vret C E (gs1 hM) dX3_readPlace_76
set_option maxRecDepth 100000 in
set_option maxHeartbeats 4000000 in
theorem c_X3_goesOn {l : Launch} {D : va_G} {ad : Nat → Nat} {cy : Nat → ClassId} {b : Nat} (hG : gInj (gGX D ad cy b)) {a0 : Int32} {σ : gMem} {r0 : Int32} {σ0 : gMem} (hM : m_X3_goesOn a0 σ = some (r0, σ0)) : gMi l yX3_goesOn (Cond.code yX3_goesOn cX3_goesOn 3 (some .boolean) :: gBig) { frames := 1, cells := 0, slots := 0, locals := 21 } (gGX D ad cy b) [.ref (ad 49), .int a0] σ r0 σ0 := by
  refine gIntro (own := RX3) hG (by decide +kernel) rfl rfl (by decide) (lv := [(0, .ref (ad 49)), (1, .int a0)]) rfl (fun κ C E => ?_)
  unfold m_X3_goesOn at hM
  refine x_aln C 0 rfl dX3_goesOn_0 rfl ?_
  obtain ⟨r3, s2, h1, hM⟩ := gb2_some hM
  refine x_cvi (As := []) (rest := []) C E.2.2.2.2.2 0 (c_X3_peek hG h1) (gBv km_X3_61 kin_X3_peek ksel_X3_peek kini_X3 kc_X3_peek) rfl rfl rfl ⟨rfl, by decide +kernel, by decide +kernel, by decide +kernel⟩ ⟨Nat.le_of_ble_eq_true rfl, Nat.le_of_ble_eq_true rfl⟩ (by show 49 < 213; decide) rfl rfl rfl rfl (by decide) dX3_goesOn_1 rfl ?_
  refine x_istn (lv' := [(2, .int r3), (0, .ref (ad 49)), (1, .int a0)]) C rfl rfl (by decide) rfl dX3_goesOn_4 rfl ?_
  refine x_aln C 1 rfl dX3_goesOn_5 rfl ?_
  refine gXg_49_fault C kf_X3_55 dX3_goesOn_6 rfl ?_
  refine x_if_ge (tgt := 16) C dX3_goesOn_9 (by decide) rfl (fun hc => ?_) (fun hc => ?_)
  · replace hM := gif_pos hc hM
    refine x_ic (v := 0) C (by decide) dX3_goesOn_16 rfl ?_
    exact x_zret C E (by decide) (gs2 hM) dX3_goesOn_17
  · replace hM := gif_neg hc hM
    refine x_iln C 0 rfl dX3_goesOn_12 rfl ?_
    refine x_if_ge (tgt := 18) C dX3_goesOn_13 (by decide) rfl (fun hc => ?_) (fun hc => ?_)
    · replace hM := gif_pos hc hM
      refine x_iln C 0 rfl dX3_goesOn_18 rfl ?_
      refine x_iln C 2 rfl dX3_goesOn_19 rfl ?_
      refine x_ic_ne (tgt := 32) C dX3_goesOn_20 (by decide) rfl (fun hc => ?_) (fun hc => ?_)
      · replace hM := gif_neg hc hM
        refine x_aln C 1 rfl dX3_goesOn_32 rfl ?_
        refine x_aln C 1 rfl dX3_goesOn_33 rfl ?_
        refine gXg_49_next C kf_X3_49 dX3_goesOn_34 rfl ?_
        obtain ⟨s5, h4, hM⟩ := gb1_some hM
        refine x_cvv (As := [.int (s2 49 2)]) (rest := []) C E.2.2.2.2.2 1 (c_X3_faultAt hG h4) (gBv km_X3_71 kin_X3_faultAt ksel_X3_faultAt kini_X3 kc_X3_faultAt) rfl rfl rfl ⟨rfl, by decide +kernel, by decide +kernel, by decide +kernel⟩ ⟨Nat.le_of_ble_eq_true rfl, Nat.le_of_ble_eq_true rfl⟩ (by show 49 < 213; decide) rfl rfl rfl rfl (by decide) dX3_goesOn_37 rfl ?_
        refine x_ic (v := 0) C (by decide) dX3_goesOn_40 rfl ?_
        exact x_zret C E (by decide) (gs2 hM) dX3_goesOn_41
      · replace hM := gif_pos hc hM
        refine x_aln C 1 rfl dX3_goesOn_23 rfl ?_
        refine gXg_49_rows C kf_X3_31 dX3_goesOn_24 rfl ?_
        refine x_bi (v := 8) C (by decide) dX3_goesOn_27 rfl ?_
        refine x_ic_lt (tgt := 42) C dX3_goesOn_29 (by decide) rfl (fun hc => ?_) (fun hc => ?_)
        · replace hM := gif_pos hc hM
          refine x_aln C 1 rfl dX3_goesOn_42 rfl ?_
          refine x_dup C rfl dX3_goesOn_43 rfl ?_
          refine gXg_49_next C kf_X3_49 dX3_goesOn_44 rfl ?_
          refine x_ic (v := 1) C (by decide) dX3_goesOn_47 rfl ?_
          refine x_iadd C dX3_goesOn_48 rfl ?_
          obtain ⟨s6, ev, hM⟩ := gnm_ex hM
          refine gXp_49_next C ev kf_X3_49 dX3_goesOn_49 rfl ?_
          refine x_ic (v := 1) C (by decide) dX3_goesOn_52 rfl ?_
          exact x_zret C E (by decide) (gs2 hM) dX3_goesOn_53
        · replace hM := gif_neg hc hM
          refine x_aln C 1 rfl dX3_goesOn_32 rfl ?_
          refine x_aln C 1 rfl dX3_goesOn_33 rfl ?_
          refine gXg_49_next C kf_X3_49 dX3_goesOn_34 rfl ?_
          obtain ⟨s8, h7, hM⟩ := gb1_some hM
          refine x_cvv (As := [.int (s2 49 2)]) (rest := []) C E.2.2.2.2.2 1 (c_X3_faultAt hG h7) (gBv km_X3_71 kin_X3_faultAt ksel_X3_faultAt kini_X3 kc_X3_faultAt) rfl rfl rfl ⟨rfl, by decide +kernel, by decide +kernel, by decide +kernel⟩ ⟨Nat.le_of_ble_eq_true rfl, Nat.le_of_ble_eq_true rfl⟩ (by show 49 < 213; decide) rfl rfl rfl rfl (by decide) dX3_goesOn_37 rfl ?_
          refine x_ic (v := 0) C (by decide) dX3_goesOn_40 rfl ?_
          exact x_zret C E (by decide) (gs2 hM) dX3_goesOn_41
    · replace hM := gif_neg hc hM
      refine x_ic (v := 0) C (by decide) dX3_goesOn_16 rfl ?_
      exact x_zret C E (by decide) (gs2 hM) dX3_goesOn_17
set_option maxRecDepth 100000 in
set_option maxHeartbeats 4000000 in
theorem c_X3_outcome {l : Launch} {D : va_G} {ad : Nat → Nat} {cy : Nat → ClassId} {b : Nat} (hG : gInj (gGX D ad cy b))  {σ : gMem} {r0 : Int32} (hM : m_X3_outcome  σ = some r0) : gMi l yX3_outcome (Cond.code yX3_outcome cX3_outcome 1 (some .int) :: gBig) { frames := 0, cells := 0, slots := 0, locals := 0 } (gGX D ad cy b) [.ref (ad 49)] σ r0 σ := by
  refine gIntro (own := RX3) hG (by decide +kernel) rfl rfl (by decide) (lv := [(0, .ref (ad 49))]) rfl (fun κ C E => ?_)
  unfold m_X3_outcome at hM
  refine x_aln C 0 rfl dX3_outcome_0 rfl ?_
  refine gXg_49_fault C kf_X3_55 dX3_outcome_1 rfl ?_
  refine x_if_ge (tgt := 14) C dX3_outcome_4 (by decide) rfl (fun hc => ?_) (fun hc => ?_)
  · replace hM := gif_pos hc hM
    refine x_bi (v := (-20)) C (by decide) dX3_outcome_14 rfl ?_
    refine x_aln C 0 rfl dX3_outcome_16 rfl ?_
    refine gXg_49_fault C kf_X3_55 dX3_outcome_17 rfl ?_
    refine x_isub C dX3_outcome_20 rfl ?_
    exact x_iret C E ⟨gs1 hM, rfl⟩ dX3_outcome_21
  · replace hM := gif_neg hc hM
    refine x_aln C 0 rfl dX3_outcome_7 rfl ?_
    refine gXg_49_rows C kf_X3_31 dX3_outcome_8 rfl ?_
    refine x_goto (tgt := 21) C dX3_outcome_11 (by decide) ?_
    exact x_iret C E ⟨gs1 hM, rfl⟩ dX3_outcome_21
set_option maxRecDepth 100000 in
set_option maxHeartbeats 4000000 in
theorem c_X3_readPlaces {l : Launch} {D : va_G} {ad : Nat → Nat} {cy : Nat → ClassId} {b : Nat} (hG : gInj (gGX D ad cy b))  {σ : gMem} {r0 : Int32} {σ0 : gMem} (hM : m_X3_readPlaces  σ = some (r0, σ0)) : gMi l yX3_readPlaces (Cond.code yX3_readPlaces cX3_readPlaces 2 (some .int) :: gBig) { frames := 4, cells := 0, slots := 0, locals := 86 } (gGX D ad cy b) [.ref (ad 49)] σ r0 σ0 := by
  refine gIntro (own := RX3) hG (by decide +kernel) rfl rfl (by decide) (lv := [(0, .ref (ad 49))]) rfl (fun κ C E => ?_)
  unfold m_X3_readPlaces at hM
  refine x_aln C 0 rfl dX3_readPlaces_0 rfl ?_
  obtain ⟨s2, h1, hM⟩ := gb1_some hM
  refine x_cvv (As := []) (rest := []) C E.2.2.2.2.2 0 (c_X3_begin hG h1) (gBv km_X3_28 kin_X3_begin ksel_X3_begin kini_X3 kc_X3_begin) rfl rfl rfl ⟨rfl, by decide +kernel, by decide +kernel, by decide +kernel⟩ ⟨Nat.le_of_ble_eq_true rfl, Nat.le_of_ble_eq_true rfl⟩ (by show 49 < 213; decide) rfl rfl rfl rfl (by decide) dX3_readPlaces_1 rfl ?_
  refine x_ic (v := 1) C (by decide) dX3_readPlaces_4 rfl ?_
  refine x_istn (lv' := [(1, .int 1), (0, .ref (ad 49))]) C rfl rfl (by decide) rfl dX3_readPlaces_5 rfl ?_
  have L6 : ∀ (n : Nat) (x1_3 : Int32) (s4 : gMem) (s5 : gMem), m_X3_readPlaces_6 n x1_3 s4 = some (s5) → (wx κ (gGX D ad cy b) (gA (gGX D ad cy b)) 2 s5 43 [(0, .ref (ad 49))] []) → wx κ (gGX D ad cy b) (gA (gGX D ad cy b)) 2 s4 6 [(0, .ref (ad 49)), (1, .int x1_3)] [] := by
    clear hM
    intro n
    induction n with
    | zero => intro _ _ _ hM; cases hM
    | succ n ih =>
      intro x1_3 s4 s5 hM kx0
      replace hM : b_X3_readPlaces_6 (m_X3_readPlaces_6 n) x1_3 s4 = some (s5) := hM
      unfold b_X3_readPlaces_6 at hM
      refine x_iln C 1 rfl dX3_readPlaces_6 rfl ?_
      refine x_if_eq (tgt := 43) C dX3_readPlaces_7 (by decide) rfl (fun hc => ?_) (fun hc => ?_)
      · replace hM := gif_pos hc hM
        cases hM
        exact x_sub [0] rfl (kx0)
      · replace hM := gif_neg hc hM
        refine x_aln C 0 rfl dX3_readPlaces_10 rfl ?_
        refine gXg_49_rows C kf_X3_31 dX3_readPlaces_11 rfl ?_
        refine x_bi (v := 8) C (by decide) dX3_readPlaces_14 rfl ?_
        refine x_ic_ge (tgt := 43) C dX3_readPlaces_16 (by decide) rfl (fun hc => ?_) (fun hc => ?_)
        · replace hM := gif_pos hc hM
          cases hM
          exact x_sub [0] rfl (kx0)
        · replace hM := gif_neg hc hM
          refine x_aln C 0 rfl dX3_readPlaces_19 rfl ?_
          obtain ⟨s7, h6, hM⟩ := gb1_some hM
          refine x_cvv (As := []) (rest := []) C E.2.2.2.2.2 0 (c_X3_readPlace hG h6) (gBv km_X3_34 kin_X3_readPlace ksel_X3_readPlace kini_X3 kc_X3_readPlace) rfl rfl rfl ⟨rfl, by decide +kernel, by decide +kernel, by decide +kernel⟩ ⟨Nat.le_of_ble_eq_true rfl, Nat.le_of_ble_eq_true rfl⟩ (by show 49 < 213; decide) rfl rfl rfl rfl (by decide) dX3_readPlaces_20 rfl ?_
          refine x_aln C 0 rfl dX3_readPlaces_23 rfl ?_
          refine x_dup C rfl dX3_readPlaces_24 rfl ?_
          refine gXg_49_rows C kf_X3_31 dX3_readPlaces_25 rfl ?_
          refine x_ic (v := 1) C (by decide) dX3_readPlaces_28 rfl ?_
          refine x_iadd C dX3_readPlaces_29 rfl ?_
          obtain ⟨s8, ev, hM⟩ := gnm_ex hM
          refine gXp_49_rows C ev kf_X3_31 dX3_readPlaces_30 rfl ?_
          refine x_aln C 0 rfl dX3_readPlaces_33 rfl ?_
          refine x_bi (v := 59) C (by decide) dX3_readPlaces_34 rfl ?_
          obtain ⟨r11, s10, h9, hM⟩ := gb2_some hM
          refine x_cvi (As := [.int 59]) (rest := []) C E.2.2.2.2.2 1 (c_X3_goesOn hG h9) (gBv km_X3_37 kin_X3_goesOn ksel_X3_goesOn kini_X3 kc_X3_goesOn) rfl rfl rfl ⟨rfl, by decide +kernel, by decide +kernel, by decide +kernel⟩ ⟨Nat.le_of_ble_eq_true rfl, Nat.le_of_ble_eq_true rfl⟩ (by show 49 < 213; decide) rfl rfl rfl rfl (by decide) dX3_readPlaces_36 rfl ?_
          refine x_istn (lv' := [(1, .int r11), (0, .ref (ad 49))]) C rfl rfl (by decide) rfl dX3_readPlaces_39 rfl ?_
          refine x_goto (tgt := 6) C dX3_readPlaces_40 (by decide) ?_
          exact x_sub [1, 0] rfl (ih r11 s10 _ hM kx0)
  obtain ⟨s5, hL12, hM⟩ := gb1_some hM
  refine x_sub [1, 0] rfl (L6 gFU 1 s2 _ hL12 ?_)
  clear L6
  refine x_aln C 0 rfl dX3_readPlaces_43 rfl ?_
  obtain ⟨r14, h13, hM⟩ := gb1_some hM
  refine x_cvi (As := []) (rest := []) C E.2.2.2.2.2 0 (c_X3_outcome hG h13) (gBv km_X3_41 kin_X3_outcome ksel_X3_outcome kini_X3 kc_X3_outcome) rfl rfl rfl ⟨rfl, by decide +kernel, by decide +kernel, by decide +kernel⟩ ⟨Nat.le_of_ble_eq_true rfl, Nat.le_of_ble_eq_true rfl⟩ (by show 49 < 213; decide) rfl rfl rfl rfl (by decide) dX3_readPlaces_44 rfl ?_
  exact x_iret C E (gs2 hM) dX3_readPlaces_47
set_option maxRecDepth 100000 in
set_option maxHeartbeats 4000000 in
theorem c_X1_settle {l : Launch} {D : va_G} {ad : Nat → Nat} {cy : Nat → ClassId} {b : Nat} (hG : gInj (gGX D ad cy b))  {σ : gMem} {σ0 : gMem} (hM : m_X1_settle  σ = some σ0) : gMv l yX1_settle (Cond.code yX1_settle cX1_settle 4 none :: gBig) { frames := 1, cells := 0, slots := 0, locals := 22 } (gGX D ad cy b) [.ref (ad 1), .ref (ad 49)] σ σ0 := by
  refine gIntro (own := RX1) hG (by decide +kernel) rfl rfl (by decide) (lv := [(0, .ref (ad 1)), (1, .ref (ad 49))]) rfl (fun κ C E => ?_)
  unfold m_X1_settle at hM
  refine x_aln C 0 rfl dX1_settle_0 rfl ?_
  refine x_ic (v := 0) C (by decide) dX1_settle_1 rfl ?_
  obtain ⟨s1, ev, hM⟩ := gnm_ex hM
  refine gXp_1_places C ev kf_X1_51 dX1_settle_2 rfl ?_
  refine x_aln C 0 rfl dX1_settle_5 rfl ?_
  refine x_ic (v := 0) C (by decide) dX1_settle_6 rfl ?_
  obtain ⟨s2, ev, hM⟩ := gnm_ex hM
  refine gXp_1_people C ev kf_X1_57 dX1_settle_7 rfl ?_
  refine x_aln C 0 rfl dX1_settle_10 rfl ?_
  refine x_ic (v := 0) C (by decide) dX1_settle_11 rfl ?_
  obtain ⟨s3, ev, hM⟩ := gnm_ex hM
  refine gXp_1_needs C ev kf_X1_60 dX1_settle_12 rfl ?_
  refine x_aln C 0 rfl dX1_settle_15 rfl ?_
  refine x_ic (v := 0) C (by decide) dX1_settle_16 rfl ?_
  obtain ⟨s4, ev, hM⟩ := gnm_ex hM
  refine gXp_1_yearsGone C ev kf_X1_63 dX1_settle_17 rfl ?_
  refine x_ic (v := 0) C (by decide) dX1_settle_20 rfl ?_
  refine x_istn (lv' := [(2, .int 0), (0, .ref (ad 1)), (1, .ref (ad 49))]) C rfl rfl (by decide) rfl dX1_settle_21 rfl ?_
  have L22 : ∀ (n : Nat) (x2_5 : Int32) (s6 : gMem) (s7 : gMem), m_X1_settle_22 n x2_5 s6 = some (s7) → (wx κ (gGX D ad cy b) (gA (gGX D ad cy b)) 4 s7 57 [(0, .ref (ad 1)), (1, .ref (ad 49))] []) → wx κ (gGX D ad cy b) (gA (gGX D ad cy b)) 4 s6 22 [(0, .ref (ad 1)), (1, .ref (ad 49)), (2, .int x2_5)] [] := by
    clear hM
    intro n
    induction n with
    | zero => intro _ _ _ hM; cases hM
    | succ n ih =>
      intro x2_5 s6 s7 hM kx0
      replace hM : b_X1_settle_22 (m_X1_settle_22 n) x2_5 s6 = some (s7) := hM
      unfold b_X1_settle_22 at hM
      refine x_iln C 2 rfl dX1_settle_22 rfl ?_
      refine x_bi (v := 12) C (by decide) dX1_settle_23 rfl ?_
      refine x_ic_ge (tgt := 57) C dX1_settle_25 (by decide) rfl (fun hc => ?_) (fun hc => ?_)
      · replace hM := gif_pos hc hM
        cases hM
        exact x_sub [0, 1] rfl (kx0)
      · replace hM := gif_neg hc hM
        refine x_ic (v := 0) C (by decide) dX1_settle_28 rfl ?_
        refine x_istn (lv' := [(3, .int 0), (0, .ref (ad 1)), (1, .ref (ad 49)), (2, .int x2_5)]) C rfl rfl (by decide) rfl dX1_settle_29 rfl ?_
        have L30 : ∀ (n : Nat) (x3_8 : Int32) (s9 : gMem) (s10 : gMem), m_X1_settle_30 x2_5 n x3_8 s9 = some (s10) → (wx κ (gGX D ad cy b) (gA (gGX D ad cy b)) 4 s10 51 [(0, .ref (ad 1)), (1, .ref (ad 49)), (2, .int x2_5)] []) → wx κ (gGX D ad cy b) (gA (gGX D ad cy b)) 4 s9 30 [(0, .ref (ad 1)), (1, .ref (ad 49)), (2, .int x2_5), (3, .int x3_8)] [] := by
          clear hM
          intro n
          induction n with
          | zero => intro _ _ _ hM; cases hM
          | succ n ih =>
            intro x3_8 s9 s10 hM kx0
            replace hM : b_X1_settle_30 x2_5 (m_X1_settle_30 x2_5 n) x3_8 s9 = some (s10) := hM
            unfold b_X1_settle_30 at hM
            refine x_iln C 3 rfl dX1_settle_30 rfl ?_
            refine x_bi (v := 12) C (by decide) dX1_settle_31 rfl ?_
            refine x_ic_ge (tgt := 51) C dX1_settle_33 (by decide) rfl (fun hc => ?_) (fun hc => ?_)
            · replace hM := gif_pos hc hM
              cases hM
              exact x_sub [0, 1, 2] rfl (kx0)
            · replace hM := gif_neg hc hM
              refine x_aln C 0 rfl dX1_settle_36 rfl ?_
              refine gXg_1_minutes C kf_X1_23 dX1_settle_37 rfl ?_
              refine x_iln C 2 rfl dX1_settle_40 rfl ?_
              obtain ⟨h11, hM⟩ := gck_some hM
              refine gXo_5 C h11 dX1_settle_41 rfl ?_
              refine x_iln C 3 rfl dX1_settle_42 rfl ?_
              refine x_ic (v := 0) C (by decide) dX1_settle_43 rfl ?_
              obtain ⟨h12, hM⟩ := gck_some hM
              obtain ⟨s13, ev, hM⟩ := gnm_ex hM
              refine gXs_rown C (inb_lt h11) ev h12 dX1_settle_44 rfl ?_
              obtain ⟨x3_14, ev, hM⟩ := gnm_ex hM
              refine x_iinc (j := 3) (lv' := [(3, .int x3_14), (0, .ref (ad 1)), (1, .ref (ad 49)), (2, .int x2_5)]) C rfl ev (by decide) rfl dX1_settle_45 rfl ?_
              refine x_goto (tgt := 30) C dX1_settle_48 (by decide) ?_
              exact x_sub [1, 2, 3, 0] rfl (ih x3_14 s13 _ hM kx0)
        obtain ⟨s10, hL15, hM⟩ := gb1_some hM
        refine x_sub [1, 2, 3, 0] rfl (L30 gFU 0 s6 _ hL15 ?_)
        clear L30
        obtain ⟨x2_16, ev, hM⟩ := gnm_ex hM
        refine x_iinc (j := 2) (lv' := [(2, .int x2_16), (0, .ref (ad 1)), (1, .ref (ad 49))]) C rfl ev (by decide) rfl dX1_settle_51 rfl ?_
        refine x_goto (tgt := 22) C dX1_settle_54 (by decide) ?_
        exact x_sub [1, 2, 0] rfl (ih x2_16 s10 _ hM kx0)
  obtain ⟨s7, hL17, hM⟩ := gb1_some hM
  refine x_sub [1, 2, 0] rfl (L22 gFU 0 s4 _ hL17 ?_)
  clear L22
  refine x_ic (v := 0) C (by decide) dX1_settle_57 rfl ?_
  refine x_istn (lv' := [(2, .int 0), (0, .ref (ad 1)), (1, .ref (ad 49))]) C rfl rfl (by decide) rfl dX1_settle_58 rfl ?_
  have L59 : ∀ (n : Nat) (x2_18 : Int32) (s19 : gMem) (s20 : gMem), m_X1_settle_59 n x2_18 s19 = some (s20) → (wx κ (gGX D ad cy b) (gA (gGX D ad cy b)) 4 s20 90 [] []) → wx κ (gGX D ad cy b) (gA (gGX D ad cy b)) 4 s19 59 [(0, .ref (ad 1)), (1, .ref (ad 49)), (2, .int x2_18)] [] := by
    clear hM
    intro n
    induction n with
    | zero => intro _ _ _ hM; cases hM
    | succ n ih =>
      intro x2_18 s19 s20 hM kx0
      replace hM : b_X1_settle_59 (m_X1_settle_59 n) x2_18 s19 = some (s20) := hM
      unfold b_X1_settle_59 at hM
      refine x_iln C 2 rfl dX1_settle_59 rfl ?_
      refine x_aln C 1 rfl dX1_settle_60 rfl ?_
      refine gXg_49_rows C kf_X1_76 dX1_settle_61 rfl ?_
      refine x_ic_ge (tgt := 90) C dX1_settle_64 (by decide) rfl (fun hc => ?_) (fun hc => ?_)
      · replace hM := gif_pos hc hM
        cases hM
        exact x_sub [] rfl (kx0)
      · replace hM := gif_neg hc hM
        refine x_aln C 0 rfl dX1_settle_67 rfl ?_
        refine x_aln C 1 rfl dX1_settle_68 rfl ?_
        refine gXg_49_firsts C kf_X1_81 dX1_settle_69 rfl ?_
        refine x_iln C 2 rfl dX1_settle_72 rfl ?_
        obtain ⟨h21, hM⟩ := gck_some hM
        refine gXa_51 C h21 dX1_settle_73 rfl ?_
        refine x_aln C 1 rfl dX1_settle_74 rfl ?_
        refine gXg_49_lasts C kf_X1_84 dX1_settle_75 rfl ?_
        refine x_iln C 2 rfl dX1_settle_78 rfl ?_
        obtain ⟨h22, hM⟩ := gck_some hM
        refine gXa_53 C h22 dX1_settle_79 rfl ?_
        obtain ⟨r25, s24, h23, hM⟩ := gb2_some hM
        refine x_cvi (As := [.int (s19 51 x2_18.toNatClampNeg), .int (s19 53 x2_18.toNatClampNeg)]) (rest := []) C E.2.2.2.2.2 2 (c_X1_addPlace hG h23) (gBv km_X1_87 kin_X1_addPlace ksel_X1_addPlace kini_X1 kc_X1_addPlace) rfl rfl rfl ⟨rfl, by decide +kernel, by decide +kernel, by decide +kernel⟩ ⟨Nat.le_of_ble_eq_true rfl, Nat.le_of_ble_eq_true rfl⟩ (by show 1 < 213; decide) rfl rfl rfl rfl (by decide) dX1_settle_80 rfl ?_
        refine x_pop C rfl dX1_settle_83 rfl ?_
        obtain ⟨x2_26, ev, hM⟩ := gnm_ex hM
        refine x_iinc (j := 2) (lv' := [(2, .int x2_26), (0, .ref (ad 1)), (1, .ref (ad 49))]) C rfl ev (by decide) rfl dX1_settle_84 rfl ?_
        refine x_goto (tgt := 59) C dX1_settle_87 (by decide) ?_
        exact x_sub [1, 2, 0] rfl (ih x2_26 s24 _ hM kx0)
  obtain ⟨s20, hL27, hM⟩ := gb1_some hM
  refine x_sub [1, 2, 0] rfl (L59 gFU 0 s7 _ hL27 ?_)
  clear L59
  exact x_vret C E (gs1 hM) dX1_settle_90
set_option maxRecDepth 100000 in
set_option maxHeartbeats 4000000 in
theorem c_X6_lagoon {l : Launch} {D : va_G} {ad : Nat → Nat} {cy : Nat → ClassId} {b : Nat} (hG : gInj (gGX D ad cy b))  {σ : gMem} {r0 : Int32} {σ0 : gMem} (hM : m_X6_lagoon  σ = some (r0, σ0)) : gMi l yX6_lagoon (Cond.code yX6_lagoon cX6_lagoon 2 (some .int) :: gBig) { frames := 5, cells := 0, slots := 0, locals := 107 } (gGX D ad cy b) [.ref (ad 0)] σ r0 σ0 := by
  refine gIntro (own := RX6) hG (by decide +kernel) rfl rfl (by decide) (lv := [(0, .ref (ad 0))]) rfl (fun κ C E => ?_)
  unfold m_X6_lagoon at hM
  refine x_aln C 0 rfl dX6_lagoon_0 rfl ?_
  refine gXg_0_tape C kf_X6_22 dX6_lagoon_1 rfl ?_
  obtain ⟨r3, s2, h1, hM⟩ := gb2_some hM
  refine x_cvi (As := []) (rest := []) C E.2.2.2.2.2 0 (c_X3_readPlaces hG h1) (gBv km_X6_146 kin_X3_readPlaces ksel_X3_readPlaces kini_X3 kc_X3_readPlaces) rfl rfl rfl ⟨rfl, by decide +kernel, by decide +kernel, by decide +kernel⟩ ⟨Nat.le_of_ble_eq_true rfl, Nat.le_of_ble_eq_true rfl⟩ (by show 49 < 213; decide) rfl rfl rfl rfl (by decide) dX6_lagoon_4 rfl ?_
  refine x_istn (lv' := [(1, .int r3), (0, .ref (ad 0))]) C rfl rfl (by decide) rfl dX6_lagoon_7 rfl ?_
  refine x_iln C 0 rfl dX6_lagoon_8 rfl ?_
  refine x_if_le (tgt := 23) C dX6_lagoon_9 (by decide) rfl (fun hc => ?_) (fun hc => ?_)
  · replace hM := gif_pos hc hM
    refine x_aln C 1 rfl dX6_lagoon_23 rfl ?_
    refine gXg_0_tape C kf_X6_22 dX6_lagoon_24 rfl ?_
    refine x_ic (v := 0) C (by decide) dX6_lagoon_27 rfl ?_
    obtain ⟨s4, ev, hM⟩ := gnm_ex hM
    refine gXp_49_length C ev kf_X6_139 dX6_lagoon_28 rfl ?_
    refine x_iln C 0 rfl dX6_lagoon_31 rfl ?_
    exact x_iret C E (gs2 hM) dX6_lagoon_32
  · replace hM := gif_neg hc hM
    refine x_aln C 1 rfl dX6_lagoon_12 rfl ?_
    refine gXg_0_now C kf_X6_10 dX6_lagoon_13 rfl ?_
    refine x_aln C 1 rfl dX6_lagoon_16 rfl ?_
    refine gXg_0_tape C kf_X6_22 dX6_lagoon_17 rfl ?_
    obtain ⟨s6, h5, hM⟩ := gb1_some hM
    refine x_cvv (As := [.ref (ad 49)]) (rest := []) C E.2.2.2.2.2 1 (c_X1_settle hG h5) (gBv km_X6_150 kin_X1_settle ksel_X1_settle kini_X1 kc_X1_settle) rfl rfl rfl ⟨rfl, by decide +kernel, by decide +kernel, by decide +kernel⟩ ⟨Nat.le_of_ble_eq_true rfl, Nat.le_of_ble_eq_true rfl⟩ (by show 1 < 213; decide) rfl rfl rfl rfl (by decide) dX6_lagoon_20 rfl ?_
    refine x_aln C 1 rfl dX6_lagoon_23 rfl ?_
    refine gXg_0_tape C kf_X6_22 dX6_lagoon_24 rfl ?_
    refine x_ic (v := 0) C (by decide) dX6_lagoon_27 rfl ?_
    obtain ⟨s7, ev, hM⟩ := gnm_ex hM
    refine gXp_49_length C ev kf_X6_139 dX6_lagoon_28 rfl ?_
    refine x_iln C 0 rfl dX6_lagoon_31 rfl ?_
    exact x_iret C E (gs2 hM) dX6_lagoon_32
set_option maxRecDepth 100000 in
set_option maxHeartbeats 4000000 in
theorem c_X3_readLetter {l : Launch} {D : va_G} {ad : Nat → Nat} {cy : Nat → ClassId} {b : Nat} (hG : gInj (gGX D ad cy b)) {a0 : Int32} {a1 : Int32} {σ : gMem} {r0 : Int32} {σ0 : gMem} (hM : m_X3_readLetter a0 a1 σ = some (r0, σ0)) : gMi l yX3_readLetter (Cond.code yX3_readLetter cX3_readLetter 4 (some .int) :: gBig) { frames := 1, cells := 0, slots := 0, locals := 22 } (gGX D ad cy b) [.ref (ad 49), .int a0, .int a1] σ r0 σ0 := by
  refine gIntro (own := RX3) hG (by decide +kernel) rfl rfl (by decide) (lv := [(0, .ref (ad 49)), (1, .int a0), (2, .int a1)]) rfl (fun κ C E => ?_)
  unfold m_X3_readLetter at hM
  refine x_aln C 0 rfl dX3_readLetter_0 rfl ?_
  obtain ⟨r3, s2, h1, hM⟩ := gb2_some hM
  refine x_cvi (As := []) (rest := []) C E.2.2.2.2.2 0 (c_X3_peek hG h1) (gBv km_X3_61 kin_X3_peek ksel_X3_peek kini_X3 kc_X3_peek) rfl rfl rfl ⟨rfl, by decide +kernel, by decide +kernel, by decide +kernel⟩ ⟨Nat.le_of_ble_eq_true rfl, Nat.le_of_ble_eq_true rfl⟩ (by show 49 < 213; decide) rfl rfl rfl rfl (by decide) dX3_readLetter_1 rfl ?_
  refine x_bi (v := 97) C (by decide) dX3_readLetter_4 rfl ?_
  refine x_isub C dX3_readLetter_6 rfl ?_
  obtain ⟨x3_4, ev, hM⟩ := gnm_ex hM
  refine x_istn (lv' := [(3, .int x3_4), (0, .ref (ad 49)), (1, .int a0), (2, .int a1)]) C rfl ev (by decide) rfl dX3_readLetter_7 rfl ?_
  refine x_iln C 0 rfl dX3_readLetter_8 rfl ?_
  refine x_ic (v := 0) C (by decide) dX3_readLetter_9 rfl ?_
  refine x_iln C 2 rfl dX3_readLetter_10 rfl ?_
  refine x_ic (v := 1) C (by decide) dX3_readLetter_11 rfl ?_
  refine x_isub C dX3_readLetter_12 rfl ?_
  obtain ⟨r6, h5, hM⟩ := gb1_some hM
  refine x_csni (As := [.int x3_4, .int 0, .int (a0 - 1)]) (rest := []) C E.2.2.2.2.2 3 (c_X6_within hG h5) (gBn kc_X6_within) rfl rfl rfl (by decide +kernel) (gBc kini_X6) (gBc kst_X6_within) ⟨by decide +kernel, by decide +kernel, by decide +kernel⟩ ⟨Nat.le_of_ble_eq_true rfl, Nat.le_of_ble_eq_true rfl⟩ rfl rfl (by decide) dX3_readLetter_13 rfl ?_
  refine x_if_eq (tgt := 24) C dX3_readLetter_16 (by decide) rfl (fun hc => ?_) (fun hc => ?_)
  · replace hM := gif_pos hc hM
    refine x_aln C 1 rfl dX3_readLetter_24 rfl ?_
    refine x_aln C 1 rfl dX3_readLetter_25 rfl ?_
    refine gXg_49_next C kf_X3_49 dX3_readLetter_26 rfl ?_
    obtain ⟨s8, h7, hM⟩ := gb1_some hM
    refine x_cvv (As := [.int (s2 49 2)]) (rest := []) C E.2.2.2.2.2 1 (c_X3_faultAt hG h7) (gBv km_X3_71 kin_X3_faultAt ksel_X3_faultAt kini_X3 kc_X3_faultAt) rfl rfl rfl ⟨rfl, by decide +kernel, by decide +kernel, by decide +kernel⟩ ⟨Nat.le_of_ble_eq_true rfl, Nat.le_of_ble_eq_true rfl⟩ (by show 49 < 213; decide) rfl rfl rfl rfl (by decide) dX3_readLetter_29 rfl ?_
    refine x_ic (v := 0) C (by decide) dX3_readLetter_32 rfl ?_
    exact x_iret C E (gs2 hM) dX3_readLetter_33
  · replace hM := gif_neg hc hM
    refine x_iln C 0 rfl dX3_readLetter_19 rfl ?_
    refine x_iln C 3 rfl dX3_readLetter_20 rfl ?_
    refine x_ic_ne (tgt := 34) C dX3_readLetter_21 (by decide) rfl (fun hc => ?_) (fun hc => ?_)
    · replace hM := gif_neg hc hM
      refine x_aln C 1 rfl dX3_readLetter_34 rfl ?_
      refine x_dup C rfl dX3_readLetter_35 rfl ?_
      refine gXg_49_next C kf_X3_49 dX3_readLetter_36 rfl ?_
      refine x_ic (v := 1) C (by decide) dX3_readLetter_39 rfl ?_
      refine x_iadd C dX3_readLetter_40 rfl ?_
      obtain ⟨s9, ev, hM⟩ := gnm_ex hM
      refine gXp_49_next C ev kf_X3_49 dX3_readLetter_41 rfl ?_
      refine x_iln C 0 rfl dX3_readLetter_44 rfl ?_
      exact x_iret C E (gs2 hM) dX3_readLetter_45
    · replace hM := gif_pos hc hM
      refine x_aln C 1 rfl dX3_readLetter_24 rfl ?_
      refine x_aln C 1 rfl dX3_readLetter_25 rfl ?_
      refine gXg_49_next C kf_X3_49 dX3_readLetter_26 rfl ?_
      obtain ⟨s11, h10, hM⟩ := gb1_some hM
      refine x_cvv (As := [.int (s2 49 2)]) (rest := []) C E.2.2.2.2.2 1 (c_X3_faultAt hG h10) (gBv km_X3_71 kin_X3_faultAt ksel_X3_faultAt kini_X3 kc_X3_faultAt) rfl rfl rfl ⟨rfl, by decide +kernel, by decide +kernel, by decide +kernel⟩ ⟨Nat.le_of_ble_eq_true rfl, Nat.le_of_ble_eq_true rfl⟩ (by show 49 < 213; decide) rfl rfl rfl rfl (by decide) dX3_readLetter_29 rfl ?_
      refine x_ic (v := 0) C (by decide) dX3_readLetter_32 rfl ?_
      exact x_iret C E (gs2 hM) dX3_readLetter_33
set_option maxRecDepth 100000 in
set_option maxHeartbeats 4000000 in
theorem c_X3_readPath {l : Launch} {D : va_G} {ad : Nat → Nat} {cy : Nat → ClassId} {b : Nat} (hG : gInj (gGX D ad cy b)) {a0 : Int32} {σ : gMem} {σ0 : gMem} (hM : m_X3_readPath a0 σ = some σ0) : gMv l yX3_readPath (Cond.code yX3_readPath cX3_readPath 2 none :: gBig) { frames := 2, cells := 0, slots := 0, locals := 46 } (gGX D ad cy b) [.ref (ad 49), .int a0] σ σ0 := by
  refine gIntro (own := RX3) hG (by decide +kernel) rfl rfl (by decide) (lv := [(0, .ref (ad 49)), (1, .int a0)]) rfl (fun κ C E => ?_)
  unfold m_X3_readPath at hM
  refine x_aln C 0 rfl dX3_readPath_0 rfl ?_
  refine gXg_49_firsts C kf_X3_15 dX3_readPath_1 rfl ?_
  refine x_aln C 0 rfl dX3_readPath_4 rfl ?_
  refine gXg_49_rows C kf_X3_31 dX3_readPath_5 rfl ?_
  refine x_aln C 0 rfl dX3_readPath_8 rfl ?_
  refine x_iln C 1 rfl dX3_readPath_9 rfl ?_
  refine x_ic (v := (-1)) C (by decide) dX3_readPath_10 rfl ?_
  obtain ⟨r3, s2, h1, hM⟩ := gb2_some hM
  refine x_cvi (As := [.int a0, .int (-1)]) (rest := [.int (σ 49 5), .ref (ad 51)]) C E.2.2.2.2.2 2 (c_X3_readLetter hG h1) (gBv km_X3_68 kin_X3_readLetter ksel_X3_readLetter kini_X3 kc_X3_readLetter) rfl rfl rfl ⟨rfl, by decide +kernel, by decide +kernel, by decide +kernel⟩ ⟨Nat.le_of_ble_eq_true rfl, Nat.le_of_ble_eq_true rfl⟩ (by show 49 < 213; decide) rfl rfl rfl rfl (by decide) dX3_readPath_11 rfl ?_
  obtain ⟨h4, hM⟩ := gck_some hM
  obtain ⟨s5, ev, hM⟩ := gnm_ex hM
  refine gXs_51 C ev h4 dX3_readPath_14 rfl ?_
  refine x_aln C 0 rfl dX3_readPath_15 rfl ?_
  refine gXg_49_seconds C kf_X3_18 dX3_readPath_16 rfl ?_
  refine x_aln C 0 rfl dX3_readPath_19 rfl ?_
  refine gXg_49_rows C kf_X3_31 dX3_readPath_20 rfl ?_
  refine x_aln C 0 rfl dX3_readPath_23 rfl ?_
  refine x_iln C 1 rfl dX3_readPath_24 rfl ?_
  refine x_aln C 0 rfl dX3_readPath_25 rfl ?_
  refine gXg_49_firsts C kf_X3_15 dX3_readPath_26 rfl ?_
  refine x_aln C 0 rfl dX3_readPath_29 rfl ?_
  refine gXg_49_rows C kf_X3_31 dX3_readPath_30 rfl ?_
  obtain ⟨h6, hM⟩ := gck_some hM
  refine gXa_51 C h6 dX3_readPath_33 rfl ?_
  obtain ⟨r9, s8, h7, hM⟩ := gb2_some hM
  refine x_cvi (As := [.int a0, .int (s5 51 (s5 49 5).toNatClampNeg)]) (rest := [.int (s5 49 5), .ref (ad 52)]) C E.2.2.2.2.2 2 (c_X3_readLetter hG h7) (gBv km_X3_68 kin_X3_readLetter ksel_X3_readLetter kini_X3 kc_X3_readLetter) rfl rfl rfl ⟨rfl, by decide +kernel, by decide +kernel, by decide +kernel⟩ ⟨Nat.le_of_ble_eq_true rfl, Nat.le_of_ble_eq_true rfl⟩ (by show 49 < 213; decide) rfl rfl rfl rfl (by decide) dX3_readPath_34 rfl ?_
  obtain ⟨h10, hM⟩ := gck_some hM
  obtain ⟨s11, ev, hM⟩ := gnm_ex hM
  refine gXs_52 C ev h10 dX3_readPath_37 rfl ?_
  refine x_aln C 0 rfl dX3_readPath_38 rfl ?_
  refine gXg_49_lasts C kf_X3_21 dX3_readPath_39 rfl ?_
  refine x_aln C 0 rfl dX3_readPath_42 rfl ?_
  refine gXg_49_rows C kf_X3_31 dX3_readPath_43 rfl ?_
  refine x_aln C 0 rfl dX3_readPath_46 rfl ?_
  refine x_ic (v := 1) C (by decide) dX3_readPath_47 rfl ?_
  refine x_bi (v := 60) C (by decide) dX3_readPath_48 rfl ?_
  obtain ⟨r14, s13, h12, hM⟩ := gb2_some hM
  refine x_cvi (As := [.int 1, .int 60]) (rest := [.int (s11 49 5), .ref (ad 53)]) C E.2.2.2.2.2 2 (c_X3_readNumber hG h12) (gBv km_X3_64 kin_X3_readNumber ksel_X3_readNumber kini_X3 kc_X3_readNumber) rfl rfl rfl ⟨rfl, by decide +kernel, by decide +kernel, by decide +kernel⟩ ⟨Nat.le_of_ble_eq_true rfl, Nat.le_of_ble_eq_true rfl⟩ (by show 49 < 213; decide) rfl rfl rfl rfl (by decide) dX3_readPath_50 rfl ?_
  obtain ⟨h15, hM⟩ := gck_some hM
  obtain ⟨s16, ev, hM⟩ := gnm_ex hM
  refine gXs_53 C ev h15 dX3_readPath_53 rfl ?_
  exact x_vret C E (gs1 hM) dX3_readPath_54
set_option maxRecDepth 100000 in
set_option maxHeartbeats 4000000 in
theorem c_X3_readPaths {l : Launch} {D : va_G} {ad : Nat → Nat} {cy : Nat → ClassId} {b : Nat} (hG : gInj (gGX D ad cy b)) {a0 : Int32} {σ : gMem} {r0 : Int32} {σ0 : gMem} (hM : m_X3_readPaths a0 σ = some (r0, σ0)) : gMi l yX3_readPaths (Cond.code yX3_readPaths cX3_readPaths 3 (some .int) :: gBig) { frames := 3, cells := 0, slots := 0, locals := 67 } (gGX D ad cy b) [.ref (ad 49), .int a0] σ r0 σ0 := by
  refine gIntro (own := RX3) hG (by decide +kernel) rfl rfl (by decide) (lv := [(0, .ref (ad 49)), (1, .int a0)]) rfl (fun κ C E => ?_)
  unfold m_X3_readPaths at hM
  refine x_aln C 0 rfl dX3_readPaths_0 rfl ?_
  obtain ⟨s2, h1, hM⟩ := gb1_some hM
  refine x_cvv (As := []) (rest := []) C E.2.2.2.2.2 0 (c_X3_begin hG h1) (gBv km_X3_28 kin_X3_begin ksel_X3_begin kini_X3 kc_X3_begin) rfl rfl rfl ⟨rfl, by decide +kernel, by decide +kernel, by decide +kernel⟩ ⟨Nat.le_of_ble_eq_true rfl, Nat.le_of_ble_eq_true rfl⟩ (by show 49 < 213; decide) rfl rfl rfl rfl (by decide) dX3_readPaths_1 rfl ?_
  refine x_ic (v := 1) C (by decide) dX3_readPaths_4 rfl ?_
  refine x_istn (lv' := [(2, .int 1), (0, .ref (ad 49)), (1, .int a0)]) C rfl rfl (by decide) rfl dX3_readPaths_5 rfl ?_
  have L6 : ∀ (n : Nat) (x2_3 : Int32) (s4 : gMem) (s5 : gMem), m_X3_readPaths_6 a0 n x2_3 s4 = some (s5) → (wx κ (gGX D ad cy b) (gA (gGX D ad cy b)) 3 s5 44 [(0, .ref (ad 49))] []) → wx κ (gGX D ad cy b) (gA (gGX D ad cy b)) 3 s4 6 [(0, .ref (ad 49)), (1, .int a0), (2, .int x2_3)] [] := by
    clear hM
    intro n
    induction n with
    | zero => intro _ _ _ hM; cases hM
    | succ n ih =>
      intro x2_3 s4 s5 hM kx0
      replace hM : b_X3_readPaths_6 a0 (m_X3_readPaths_6 a0 n) x2_3 s4 = some (s5) := hM
      unfold b_X3_readPaths_6 at hM
      refine x_iln C 2 rfl dX3_readPaths_6 rfl ?_
      refine x_if_eq (tgt := 44) C dX3_readPaths_7 (by decide) rfl (fun hc => ?_) (fun hc => ?_)
      · replace hM := gif_pos hc hM
        cases hM
        exact x_sub [0] rfl (kx0)
      · replace hM := gif_neg hc hM
        refine x_aln C 0 rfl dX3_readPaths_10 rfl ?_
        refine gXg_49_rows C kf_X3_31 dX3_readPaths_11 rfl ?_
        refine x_bi (v := 8) C (by decide) dX3_readPaths_14 rfl ?_
        refine x_ic_ge (tgt := 44) C dX3_readPaths_16 (by decide) rfl (fun hc => ?_) (fun hc => ?_)
        · replace hM := gif_pos hc hM
          cases hM
          exact x_sub [0] rfl (kx0)
        · replace hM := gif_neg hc hM
          refine x_aln C 0 rfl dX3_readPaths_19 rfl ?_
          refine x_iln C 1 rfl dX3_readPaths_20 rfl ?_
          obtain ⟨s7, h6, hM⟩ := gb1_some hM
          refine x_cvv (As := [.int a0]) (rest := []) C E.2.2.2.2.2 1 (c_X3_readPath hG h6) (gBv km_X3_45 kin_X3_readPath ksel_X3_readPath kini_X3 kc_X3_readPath) rfl rfl rfl ⟨rfl, by decide +kernel, by decide +kernel, by decide +kernel⟩ ⟨Nat.le_of_ble_eq_true rfl, Nat.le_of_ble_eq_true rfl⟩ (by show 49 < 213; decide) rfl rfl rfl rfl (by decide) dX3_readPaths_21 rfl ?_
          refine x_aln C 0 rfl dX3_readPaths_24 rfl ?_
          refine x_dup C rfl dX3_readPaths_25 rfl ?_
          refine gXg_49_rows C kf_X3_31 dX3_readPaths_26 rfl ?_
          refine x_ic (v := 1) C (by decide) dX3_readPaths_29 rfl ?_
          refine x_iadd C dX3_readPaths_30 rfl ?_
          obtain ⟨s8, ev, hM⟩ := gnm_ex hM
          refine gXp_49_rows C ev kf_X3_31 dX3_readPaths_31 rfl ?_
          refine x_aln C 0 rfl dX3_readPaths_34 rfl ?_
          refine x_bi (v := 44) C (by decide) dX3_readPaths_35 rfl ?_
          obtain ⟨r11, s10, h9, hM⟩ := gb2_some hM
          refine x_cvi (As := [.int 44]) (rest := []) C E.2.2.2.2.2 1 (c_X3_goesOn hG h9) (gBv km_X3_37 kin_X3_goesOn ksel_X3_goesOn kini_X3 kc_X3_goesOn) rfl rfl rfl ⟨rfl, by decide +kernel, by decide +kernel, by decide +kernel⟩ ⟨Nat.le_of_ble_eq_true rfl, Nat.le_of_ble_eq_true rfl⟩ (by show 49 < 213; decide) rfl rfl rfl rfl (by decide) dX3_readPaths_37 rfl ?_
          refine x_istn (lv' := [(2, .int r11), (0, .ref (ad 49)), (1, .int a0)]) C rfl rfl (by decide) rfl dX3_readPaths_40 rfl ?_
          refine x_goto (tgt := 6) C dX3_readPaths_41 (by decide) ?_
          exact x_sub [1, 2, 0] rfl (ih r11 s10 _ hM kx0)
  obtain ⟨s5, hL12, hM⟩ := gb1_some hM
  refine x_sub [1, 2, 0] rfl (L6 gFU 1 s2 _ hL12 ?_)
  clear L6
  refine x_aln C 0 rfl dX3_readPaths_44 rfl ?_
  obtain ⟨r14, h13, hM⟩ := gb1_some hM
  refine x_cvi (As := []) (rest := []) C E.2.2.2.2.2 0 (c_X3_outcome hG h13) (gBv km_X3_41 kin_X3_outcome ksel_X3_outcome kini_X3 kc_X3_outcome) rfl rfl rfl ⟨rfl, by decide +kernel, by decide +kernel, by decide +kernel⟩ ⟨Nat.le_of_ble_eq_true rfl, Nat.le_of_ble_eq_true rfl⟩ (by show 49 < 213; decide) rfl rfl rfl rfl (by decide) dX3_readPaths_45 rfl ?_
  exact x_iret C E (gs2 hM) dX3_readPaths_48
set_option maxRecDepth 100000 in
set_option maxHeartbeats 4000000 in
theorem c_X1_joinAll {l : Launch} {D : va_G} {ad : Nat → Nat} {cy : Nat → ClassId} {b : Nat} (hG : gInj (gGX D ad cy b))  {σ : gMem} {σ0 : gMem} (hM : m_X1_joinAll  σ = some σ0) : gMv l yX1_joinAll (Cond.code yX1_joinAll cX1_joinAll 3 none :: gBig) { frames := 1, cells := 0, slots := 0, locals := 23 } (gGX D ad cy b) [.ref (ad 1), .ref (ad 49)] σ σ0 := by
  refine gIntro (own := RX1) hG (by decide +kernel) rfl rfl (by decide) (lv := [(0, .ref (ad 1)), (1, .ref (ad 49))]) rfl (fun κ C E => ?_)
  unfold m_X1_joinAll at hM
  refine x_ic (v := 0) C (by decide) dX1_joinAll_0 rfl ?_
  refine x_istn (lv' := [(2, .int 0), (0, .ref (ad 1)), (1, .ref (ad 49))]) C rfl rfl (by decide) rfl dX1_joinAll_1 rfl ?_
  have L2 : ∀ (n : Nat) (x2_1 : Int32) (s2 : gMem) (s3 : gMem), m_X1_joinAll_2 n x2_1 s2 = some (s3) → (wx κ (gGX D ad cy b) (gA (gGX D ad cy b)) 3 s3 38 [] []) → wx κ (gGX D ad cy b) (gA (gGX D ad cy b)) 3 s2 2 [(0, .ref (ad 1)), (1, .ref (ad 49)), (2, .int x2_1)] [] := by
    clear hM
    intro n
    induction n with
    | zero => intro _ _ _ hM; cases hM
    | succ n ih =>
      intro x2_1 s2 s3 hM kx0
      replace hM : b_X1_joinAll_2 (m_X1_joinAll_2 n) x2_1 s2 = some (s3) := hM
      unfold b_X1_joinAll_2 at hM
      refine x_iln C 2 rfl dX1_joinAll_2 rfl ?_
      refine x_aln C 1 rfl dX1_joinAll_3 rfl ?_
      refine gXg_49_rows C kf_X1_76 dX1_joinAll_4 rfl ?_
      refine x_ic_ge (tgt := 38) C dX1_joinAll_7 (by decide) rfl (fun hc => ?_) (fun hc => ?_)
      · replace hM := gif_pos hc hM
        cases hM
        exact x_sub [] rfl (kx0)
      · replace hM := gif_neg hc hM
        refine x_aln C 0 rfl dX1_joinAll_10 rfl ?_
        refine x_aln C 1 rfl dX1_joinAll_11 rfl ?_
        refine gXg_49_firsts C kf_X1_81 dX1_joinAll_12 rfl ?_
        refine x_iln C 2 rfl dX1_joinAll_15 rfl ?_
        obtain ⟨h4, hM⟩ := gck_some hM
        refine gXa_51 C h4 dX1_joinAll_16 rfl ?_
        refine x_aln C 1 rfl dX1_joinAll_17 rfl ?_
        refine gXg_49_seconds C kf_X1_91 dX1_joinAll_18 rfl ?_
        refine x_iln C 2 rfl dX1_joinAll_21 rfl ?_
        obtain ⟨h5, hM⟩ := gck_some hM
        refine gXa_52 C h5 dX1_joinAll_22 rfl ?_
        refine x_aln C 1 rfl dX1_joinAll_23 rfl ?_
        refine gXg_49_lasts C kf_X1_84 dX1_joinAll_24 rfl ?_
        refine x_iln C 2 rfl dX1_joinAll_27 rfl ?_
        obtain ⟨h6, hM⟩ := gck_some hM
        refine gXa_53 C h6 dX1_joinAll_28 rfl ?_
        obtain ⟨s8, h7, hM⟩ := gb1_some hM
        refine x_cvv (As := [.int (s2 51 x2_1.toNatClampNeg), .int (s2 52 x2_1.toNatClampNeg), .int (s2 53 x2_1.toNatClampNeg)]) (rest := []) C E.2.2.2.2.2 3 (c_X1_join hG h7) (gBv km_X1_94 kin_X1_join ksel_X1_join kini_X1 kc_X1_join) rfl rfl rfl ⟨rfl, by decide +kernel, by decide +kernel, by decide +kernel⟩ ⟨Nat.le_of_ble_eq_true rfl, Nat.le_of_ble_eq_true rfl⟩ (by show 1 < 213; decide) rfl rfl rfl rfl (by decide) dX1_joinAll_29 rfl ?_
        obtain ⟨x2_9, ev, hM⟩ := gnm_ex hM
        refine x_iinc (j := 2) (lv' := [(2, .int x2_9), (0, .ref (ad 1)), (1, .ref (ad 49))]) C rfl ev (by decide) rfl dX1_joinAll_32 rfl ?_
        refine x_goto (tgt := 2) C dX1_joinAll_35 (by decide) ?_
        exact x_sub [1, 2, 0] rfl (ih x2_9 s8 _ hM kx0)
  obtain ⟨s3, hL10, hM⟩ := gb1_some hM
  refine x_sub [1, 2, 0] rfl (L2 gFU 0 σ _ hL10 ?_)
  clear L2
  exact x_vret C E (gs1 hM) dX1_joinAll_38
end
