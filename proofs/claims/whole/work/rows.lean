section
-- ===== PART A: goes FIRST, ahead of the names: the tables' words, and 'selects' of the private methods out of them =====
/-- a private method of a class that the tables say can be made, by its rows of tables_1 -/
def lw_okq (q : MethodName × Nat) : Prop := (q.1.cls ≠ "java/lang/invoke/MethodHandle" ∧ q.1.cls ≠ "java/lang/invoke/VarHandle") ∧ Cond.instantiable q.1.cls q.2 ∈ tables_1 ∧ Cond.privateMethod q.1 ∈ tables_1 ∧ Cond.instanceMethod q.1 ∈ tables_1
theorem lw_p0 : lw_okq (⟨"StiltWays", "makeSplices", "(II)I"⟩, 8) := ⟨⟨by decide +kernel, by decide +kernel⟩, List.mem_of_getElem? (i := 13) (by decide +kernel), List.mem_of_getElem? (i := 300) (by decide +kernel), List.mem_of_getElem? (i := 301) (by decide +kernel)⟩
theorem lw_p1 : lw_okq (⟨"StiltWays$Tape", "begin", "()V"⟩, 9) := ⟨⟨by decide +kernel, by decide +kernel⟩, List.mem_of_getElem? (i := 108) (by decide +kernel), List.mem_of_getElem? (i := 375) (by decide +kernel), List.mem_of_getElem? (i := 376) (by decide +kernel)⟩
theorem lw_p2 : lw_okq (⟨"StiltWays$Tape", "readPlace", "()V"⟩, 9) := ⟨⟨by decide +kernel, by decide +kernel⟩, List.mem_of_getElem? (i := 108) (by decide +kernel), List.mem_of_getElem? (i := 379) (by decide +kernel), List.mem_of_getElem? (i := 380) (by decide +kernel)⟩
theorem lw_p3 : lw_okq (⟨"StiltWays$Tape", "readDepth", "()I"⟩, 9) := ⟨⟨by decide +kernel, by decide +kernel⟩, List.mem_of_getElem? (i := 108) (by decide +kernel), List.mem_of_getElem? (i := 383) (by decide +kernel), List.mem_of_getElem? (i := 384) (by decide +kernel)⟩
theorem lw_p4 : lw_okq (⟨"StiltWays$Tape", "peek", "()I"⟩, 9) := ⟨⟨by decide +kernel, by decide +kernel⟩, List.mem_of_getElem? (i := 108) (by decide +kernel), List.mem_of_getElem? (i := 387) (by decide +kernel), List.mem_of_getElem? (i := 388) (by decide +kernel)⟩
theorem lw_p5 : lw_okq (⟨"StiltWays$Tape", "readNumber", "(II)I"⟩, 9) := ⟨⟨by decide +kernel, by decide +kernel⟩, List.mem_of_getElem? (i := 108) (by decide +kernel), List.mem_of_getElem? (i := 391) (by decide +kernel), List.mem_of_getElem? (i := 392) (by decide +kernel)⟩
theorem lw_p6 : lw_okq (⟨"StiltWays$Tape", "faultAt", "(I)V"⟩, 9) := ⟨⟨by decide +kernel, by decide +kernel⟩, List.mem_of_getElem? (i := 108) (by decide +kernel), List.mem_of_getElem? (i := 396) (by decide +kernel), List.mem_of_getElem? (i := 397) (by decide +kernel)⟩
theorem lw_p7 : lw_okq (⟨"StiltWays$Tape", "goesOn", "(C)Z"⟩, 9) := ⟨⟨by decide +kernel, by decide +kernel⟩, List.mem_of_getElem? (i := 108) (by decide +kernel), List.mem_of_getElem? (i := 403) (by decide +kernel), List.mem_of_getElem? (i := 404) (by decide +kernel)⟩
theorem lw_p8 : lw_okq (⟨"StiltWays$Tape", "outcome", "()I"⟩, 9) := ⟨⟨by decide +kernel, by decide +kernel⟩, List.mem_of_getElem? (i := 108) (by decide +kernel), List.mem_of_getElem? (i := 407) (by decide +kernel), List.mem_of_getElem? (i := 408) (by decide +kernel)⟩
theorem lw_p9 : lw_okq (⟨"StiltWays$Tape", "readPath", "(I)V"⟩, 9) := ⟨⟨by decide +kernel, by decide +kernel⟩, List.mem_of_getElem? (i := 108) (by decide +kernel), List.mem_of_getElem? (i := 424) (by decide +kernel), List.mem_of_getElem? (i := 425) (by decide +kernel)⟩
theorem lw_p10 : lw_okq (⟨"StiltWays$Tape", "readLetter", "(II)I"⟩, 9) := ⟨⟨by decide +kernel, by decide +kernel⟩, List.mem_of_getElem? (i := 108) (by decide +kernel), List.mem_of_getElem? (i := 428) (by decide +kernel), List.mem_of_getElem? (i := 429) (by decide +kernel)⟩
theorem lw_p11 : lw_okq (⟨"StiltWays$Walk", "listPosts", "(LStiltWays$Lagoon;)V"⟩, 13) := ⟨⟨by decide +kernel, by decide +kernel⟩, List.mem_of_getElem? (i := 147) (by decide +kernel), List.mem_of_getElem? (i := 502) (by decide +kernel), List.mem_of_getElem? (i := 503) (by decide +kernel)⟩
theorem lw_p12 : lw_okq (⟨"StiltWays$Walk", "listEdges", "(LStiltWays$Lagoon;)V"⟩, 13) := ⟨⟨by decide +kernel, by decide +kernel⟩, List.mem_of_getElem? (i := 147) (by decide +kernel), List.mem_of_getElem? (i := 506) (by decide +kernel), List.mem_of_getElem? (i := 507) (by decide +kernel)⟩
theorem lw_p13 : lw_okq (⟨"StiltWays$Walk", "footingIn", "(LStiltWays$Lagoon;II)I"⟩, 13) := ⟨⟨by decide +kernel, by decide +kernel⟩, List.mem_of_getElem? (i := 147) (by decide +kernel), List.mem_of_getElem? (i := 511) (by decide +kernel), List.mem_of_getElem? (i := 512) (by decide +kernel)⟩
theorem lw_p14 : lw_okq (⟨"StiltWays$Walk", "step", "(I)Z"⟩, 13) := ⟨⟨by decide +kernel, by decide +kernel⟩, List.mem_of_getElem? (i := 147) (by decide +kernel), List.mem_of_getElem? (i := 520) (by decide +kernel), List.mem_of_getElem? (i := 521) (by decide +kernel)⟩
theorem lw_p15 : lw_okq (⟨"StiltWays$Walk", "hourOf", "(I)I"⟩, 13) := ⟨⟨by decide +kernel, by decide +kernel⟩, List.mem_of_getElem? (i := 147) (by decide +kernel), List.mem_of_getElem? (i := 524) (by decide +kernel), List.mem_of_getElem? (i := 525) (by decide +kernel)⟩
def lw_privs_1 : List (MethodName × Nat) := [(⟨"StiltWays", "makeSplices", "(II)I"⟩, 8), (⟨"StiltWays$Tape", "begin", "()V"⟩, 9), (⟨"StiltWays$Tape", "readPlace", "()V"⟩, 9), (⟨"StiltWays$Tape", "readDepth", "()I"⟩, 9), (⟨"StiltWays$Tape", "peek", "()I"⟩, 9), (⟨"StiltWays$Tape", "readNumber", "(II)I"⟩, 9), (⟨"StiltWays$Tape", "faultAt", "(I)V"⟩, 9), (⟨"StiltWays$Tape", "goesOn", "(C)Z"⟩, 9), (⟨"StiltWays$Tape", "outcome", "()I"⟩, 9), (⟨"StiltWays$Tape", "readPath", "(I)V"⟩, 9), (⟨"StiltWays$Tape", "readLetter", "(II)I"⟩, 9), (⟨"StiltWays$Walk", "listPosts", "(LStiltWays$Lagoon;)V"⟩, 13), (⟨"StiltWays$Walk", "listEdges", "(LStiltWays$Lagoon;)V"⟩, 13), (⟨"StiltWays$Walk", "footingIn", "(LStiltWays$Lagoon;II)I"⟩, 13), (⟨"StiltWays$Walk", "step", "(I)Z"⟩, 13), (⟨"StiltWays$Walk", "hourOf", "(I)I"⟩, 13)]
theorem lw_r1 : ∀ q ∈ lw_privs_1, lw_okq q := List.forall_mem_cons.mpr ⟨lw_p0, List.forall_mem_cons.mpr ⟨lw_p1, List.forall_mem_cons.mpr ⟨lw_p2, List.forall_mem_cons.mpr ⟨lw_p3, List.forall_mem_cons.mpr ⟨lw_p4, List.forall_mem_cons.mpr ⟨lw_p5, List.forall_mem_cons.mpr ⟨lw_p6, List.forall_mem_cons.mpr ⟨lw_p7, List.forall_mem_cons.mpr ⟨lw_p8, List.forall_mem_cons.mpr ⟨lw_p9, List.forall_mem_cons.mpr ⟨lw_p10, List.forall_mem_cons.mpr ⟨lw_p11, List.forall_mem_cons.mpr ⟨lw_p12, List.forall_mem_cons.mpr ⟨lw_p13, List.forall_mem_cons.mpr ⟨lw_p14, List.forall_mem_cons.mpr ⟨lw_p15, fun _ h => absurd h List.not_mem_nil⟩⟩⟩⟩⟩⟩⟩⟩⟩⟩⟩⟩⟩⟩⟩⟩
theorem lw_p16 : lw_okq (⟨"StiltWays$Walk", "arrive", "(II)V"⟩, 13) := ⟨⟨by decide +kernel, by decide +kernel⟩, List.mem_of_getElem? (i := 147) (by decide +kernel), List.mem_of_getElem? (i := 528) (by decide +kernel), List.mem_of_getElem? (i := 529) (by decide +kernel)⟩
theorem lw_p17 : lw_okq (⟨"StiltWays$Walk", "walkAlong", "(IIII)V"⟩, 13) := ⟨⟨by decide +kernel, by decide +kernel⟩, List.mem_of_getElem? (i := 147) (by decide +kernel), List.mem_of_getElem? (i := 532) (by decide +kernel), List.mem_of_getElem? (i := 533) (by decide +kernel)⟩
theorem lw_p18 : lw_okq (⟨"StiltWays$Walk", "withSplice", "(II)I"⟩, 13) := ⟨⟨by decide +kernel, by decide +kernel⟩, List.mem_of_getElem? (i := 147) (by decide +kernel), List.mem_of_getElem? (i := 536) (by decide +kernel), List.mem_of_getElem? (i := 537) (by decide +kernel)⟩
theorem lw_p19 : lw_okq (⟨"StiltWays$Walk", "fewestTaken", "(I)I"⟩, 13) := ⟨⟨by decide +kernel, by decide +kernel⟩, List.mem_of_getElem? (i := 147) (by decide +kernel), List.mem_of_getElem? (i := 547) (by decide +kernel), List.mem_of_getElem? (i := 548) (by decide +kernel)⟩
theorem lw_p20 : lw_okq (⟨"StiltWays$Village", "suitedBy", "(LStiltWays$Lagoon;I)I"⟩, 3) := ⟨⟨by decide +kernel, by decide +kernel⟩, List.mem_of_getElem? (i := 194) (by decide +kernel), List.mem_of_getElem? (i := 594) (by decide +kernel), List.mem_of_getElem? (i := 595) (by decide +kernel)⟩
theorem lw_p21 : lw_okq (⟨"StiltWays$Village", "weighWith", "(I)V"⟩, 3) := ⟨⟨by decide +kernel, by decide +kernel⟩, List.mem_of_getElem? (i := 194) (by decide +kernel), List.mem_of_getElem? (i := 599) (by decide +kernel), List.mem_of_getElem? (i := 600) (by decide +kernel)⟩
theorem lw_p22 : lw_okq (⟨"StiltWays$Exchange", "firstBest", "(I)I"⟩, 3) := ⟨⟨by decide +kernel, by decide +kernel⟩, List.mem_of_getElem? (i := 211) (by decide +kernel), List.mem_of_getElem? (i := 644) (by decide +kernel), List.mem_of_getElem? (i := 645) (by decide +kernel)⟩
theorem lw_p23 : lw_okq (⟨"StiltWays$Exchange", "drownedBehind", "(II)I"⟩, 3) := ⟨⟨by decide +kernel, by decide +kernel⟩, List.mem_of_getElem? (i := 211) (by decide +kernel), List.mem_of_getElem? (i := 649) (by decide +kernel), List.mem_of_getElem? (i := 650) (by decide +kernel)⟩
theorem lw_p24 : lw_okq (⟨"StiltWays", "refusal", "(II)I"⟩, 8) := ⟨⟨by decide +kernel, by decide +kernel⟩, List.mem_of_getElem? (i := 13) (by decide +kernel), List.mem_of_getElem? (i := 704) (by decide +kernel), List.mem_of_getElem? (i := 705) (by decide +kernel)⟩
theorem lw_p25 : lw_okq (⟨"StiltWaysModel", "put", "(II)V"⟩, 20) := ⟨⟨by decide +kernel, by decide +kernel⟩, List.mem_of_getElem? (i := 744) (by decide +kernel), List.mem_of_getElem? (i := 821) (by decide +kernel), List.mem_of_getElem? (i := 822) (by decide +kernel)⟩
theorem lw_p26 : lw_okq (⟨"StiltWaysModel", "isPlace", "(I)Z"⟩, 20) := ⟨⟨by decide +kernel, by decide +kernel⟩, List.mem_of_getElem? (i := 744) (by decide +kernel), List.mem_of_getElem? (i := 832) (by decide +kernel), List.mem_of_getElem? (i := 833) (by decide +kernel)⟩
theorem lw_p27 : lw_okq (⟨"StiltWaysModel", "posts", "(I)I"⟩, 20) := ⟨⟨by decide +kernel, by decide +kernel⟩, List.mem_of_getElem? (i := 744) (by decide +kernel), List.mem_of_getElem? (i := 837) (by decide +kernel), List.mem_of_getElem? (i := 838) (by decide +kernel)⟩
theorem lw_p28 : lw_okq (⟨"StiltWaysModel", "pathOf", "(II)I"⟩, 20) := ⟨⟨by decide +kernel, by decide +kernel⟩, List.mem_of_getElem? (i := 744) (by decide +kernel), List.mem_of_getElem? (i := 846) (by decide +kernel), List.mem_of_getElem? (i := 847) (by decide +kernel)⟩
theorem lw_p29 : lw_okq (⟨"StiltWaysModel", "join", "(III)V"⟩, 20) := ⟨⟨by decide +kernel, by decide +kernel⟩, List.mem_of_getElem? (i := 744) (by decide +kernel), List.mem_of_getElem? (i := 850) (by decide +kernel), List.mem_of_getElem? (i := 851) (by decide +kernel)⟩
theorem lw_p30 : lw_okq (⟨"StiltWaysModel", "isPerson", "(I)Z"⟩, 20) := ⟨⟨by decide +kernel, by decide +kernel⟩, List.mem_of_getElem? (i := 744) (by decide +kernel), List.mem_of_getElem? (i := 876) (by decide +kernel), List.mem_of_getElem? (i := 877) (by decide +kernel)⟩
theorem lw_p31 : lw_okq (⟨"StiltWaysModel", "begin", "()V"⟩, 20) := ⟨⟨by decide +kernel, by decide +kernel⟩, List.mem_of_getElem? (i := 744) (by decide +kernel), List.mem_of_getElem? (i := 895) (by decide +kernel), List.mem_of_getElem? (i := 896) (by decide +kernel)⟩
def lw_privs_2 : List (MethodName × Nat) := [(⟨"StiltWays$Walk", "arrive", "(II)V"⟩, 13), (⟨"StiltWays$Walk", "walkAlong", "(IIII)V"⟩, 13), (⟨"StiltWays$Walk", "withSplice", "(II)I"⟩, 13), (⟨"StiltWays$Walk", "fewestTaken", "(I)I"⟩, 13), (⟨"StiltWays$Village", "suitedBy", "(LStiltWays$Lagoon;I)I"⟩, 3), (⟨"StiltWays$Village", "weighWith", "(I)V"⟩, 3), (⟨"StiltWays$Exchange", "firstBest", "(I)I"⟩, 3), (⟨"StiltWays$Exchange", "drownedBehind", "(II)I"⟩, 3), (⟨"StiltWays", "refusal", "(II)I"⟩, 8), (⟨"StiltWaysModel", "put", "(II)V"⟩, 20), (⟨"StiltWaysModel", "isPlace", "(I)Z"⟩, 20), (⟨"StiltWaysModel", "posts", "(I)I"⟩, 20), (⟨"StiltWaysModel", "pathOf", "(II)I"⟩, 20), (⟨"StiltWaysModel", "join", "(III)V"⟩, 20), (⟨"StiltWaysModel", "isPerson", "(I)Z"⟩, 20), (⟨"StiltWaysModel", "begin", "()V"⟩, 20)]
theorem lw_r2 : ∀ q ∈ lw_privs_2, lw_okq q := List.forall_mem_cons.mpr ⟨lw_p16, List.forall_mem_cons.mpr ⟨lw_p17, List.forall_mem_cons.mpr ⟨lw_p18, List.forall_mem_cons.mpr ⟨lw_p19, List.forall_mem_cons.mpr ⟨lw_p20, List.forall_mem_cons.mpr ⟨lw_p21, List.forall_mem_cons.mpr ⟨lw_p22, List.forall_mem_cons.mpr ⟨lw_p23, List.forall_mem_cons.mpr ⟨lw_p24, List.forall_mem_cons.mpr ⟨lw_p25, List.forall_mem_cons.mpr ⟨lw_p26, List.forall_mem_cons.mpr ⟨lw_p27, List.forall_mem_cons.mpr ⟨lw_p28, List.forall_mem_cons.mpr ⟨lw_p29, List.forall_mem_cons.mpr ⟨lw_p30, List.forall_mem_cons.mpr ⟨lw_p31, fun _ h => absurd h List.not_mem_nil⟩⟩⟩⟩⟩⟩⟩⟩⟩⟩⟩⟩⟩⟩⟩⟩
theorem lw_p32 : lw_okq (⟨"StiltWaysModel", "takes", "(I)Z"⟩, 20) := ⟨⟨by decide +kernel, by decide +kernel⟩, List.mem_of_getElem? (i := 744) (by decide +kernel), List.mem_of_getElem? (i := 899) (by decide +kernel), List.mem_of_getElem? (i := 900) (by decide +kernel)⟩
theorem lw_p33 : lw_okq (⟨"StiltWaysModel", "next", "()I"⟩, 20) := ⟨⟨by decide +kernel, by decide +kernel⟩, List.mem_of_getElem? (i := 744) (by decide +kernel), List.mem_of_getElem? (i := 903) (by decide +kernel), List.mem_of_getElem? (i := 904) (by decide +kernel)⟩
theorem lw_p34 : lw_okq (⟨"StiltWaysModel", "number", "(IIZ)V"⟩, 20) := ⟨⟨by decide +kernel, by decide +kernel⟩, List.mem_of_getElem? (i := 744) (by decide +kernel), List.mem_of_getElem? (i := 907) (by decide +kernel), List.mem_of_getElem? (i := 908) (by decide +kernel)⟩
theorem lw_p35 : lw_okq (⟨"StiltWaysModel", "cannot", "(I)V"⟩, 20) := ⟨⟨by decide +kernel, by decide +kernel⟩, List.mem_of_getElem? (i := 744) (by decide +kernel), List.mem_of_getElem? (i := 913) (by decide +kernel), List.mem_of_getElem? (i := 914) (by decide +kernel)⟩
theorem lw_p36 : lw_okq (⟨"StiltWaysModel", "fails", "()I"⟩, 20) := ⟨⟨by decide +kernel, by decide +kernel⟩, List.mem_of_getElem? (i := 744) (by decide +kernel), List.mem_of_getElem? (i := 917) (by decide +kernel), List.mem_of_getElem? (i := 918) (by decide +kernel)⟩
theorem lw_p37 : lw_okq (⟨"StiltWaysModel", "letter", "(I)I"⟩, 20) := ⟨⟨by decide +kernel, by decide +kernel⟩, List.mem_of_getElem? (i := 744) (by decide +kernel), List.mem_of_getElem? (i := 925) (by decide +kernel), List.mem_of_getElem? (i := 926) (by decide +kernel)⟩
theorem lw_p38 : lw_okq (⟨"StiltWaysModel", "waterBy", "(III)I"⟩, 20) := ⟨⟨by decide +kernel, by decide +kernel⟩, List.mem_of_getElem? (i := 744) (by decide +kernel), List.mem_of_getElem? (i := 938) (by decide +kernel), List.mem_of_getElem? (i := 939) (by decide +kernel)⟩
theorem lw_p39 : lw_okq (⟨"StiltWaysModel", "does", "(III)Z"⟩, 20) := ⟨⟨by decide +kernel, by decide +kernel⟩, List.mem_of_getElem? (i := 744) (by decide +kernel), List.mem_of_getElem? (i := 946) (by decide +kernel), List.mem_of_getElem? (i := 947) (by decide +kernel)⟩
theorem lw_p40 : lw_okq (⟨"StiltWaysModel", "would", "(IIII)Z"⟩, 20) := ⟨⟨by decide +kernel, by decide +kernel⟩, List.mem_of_getElem? (i := 744) (by decide +kernel), List.mem_of_getElem? (i := 950) (by decide +kernel), List.mem_of_getElem? (i := 951) (by decide +kernel)⟩
theorem lw_p41 : lw_okq (⟨"StiltWaysModel", "standsBy", "(IIII)Z"⟩, 20) := ⟨⟨by decide +kernel, by decide +kernel⟩, List.mem_of_getElem? (i := 744) (by decide +kernel), List.mem_of_getElem? (i := 954) (by decide +kernel), List.mem_of_getElem? (i := 955) (by decide +kernel)⟩
theorem lw_p42 : lw_okq (⟨"StiltWaysModel", "reaches", "(II)Z"⟩, 20) := ⟨⟨by decide +kernel, by decide +kernel⟩, List.mem_of_getElem? (i := 744) (by decide +kernel), List.mem_of_getElem? (i := 958) (by decide +kernel), List.mem_of_getElem? (i := 959) (by decide +kernel)⟩
theorem lw_p43 : lw_okq (⟨"StiltWaysModel", "go", "(III)V"⟩, 20) := ⟨⟨by decide +kernel, by decide +kernel⟩, List.mem_of_getElem? (i := 744) (by decide +kernel), List.mem_of_getElem? (i := 979) (by decide +kernel), List.mem_of_getElem? (i := 980) (by decide +kernel)⟩
theorem lw_p44 : lw_okq (⟨"StiltWaysModel", "lengthWith", "(II)I"⟩, 20) := ⟨⟨by decide +kernel, by decide +kernel⟩, List.mem_of_getElem? (i := 744) (by decide +kernel), List.mem_of_getElem? (i := 986) (by decide +kernel), List.mem_of_getElem? (i := 987) (by decide +kernel)⟩
theorem lw_p45 : lw_okq (⟨"StiltWaysModel", "postOf", "(I)I"⟩, 20) := ⟨⟨by decide +kernel, by decide +kernel⟩, List.mem_of_getElem? (i := 744) (by decide +kernel), List.mem_of_getElem? (i := 990) (by decide +kernel), List.mem_of_getElem? (i := 991) (by decide +kernel)⟩
theorem lw_p46 : lw_okq (⟨"StiltWaysModel", "arrives", "(IIII)V"⟩, 20) := ⟨⟨by decide +kernel, by decide +kernel⟩, List.mem_of_getElem? (i := 744) (by decide +kernel), List.mem_of_getElem? (i := 994) (by decide +kernel), List.mem_of_getElem? (i := 995) (by decide +kernel)⟩
theorem lw_p47 : lw_okq (⟨"StiltWaysModel", "look", "(II)V"⟩, 20) := ⟨⟨by decide +kernel, by decide +kernel⟩, List.mem_of_getElem? (i := 744) (by decide +kernel), List.mem_of_getElem? (i := 998) (by decide +kernel), List.mem_of_getElem? (i := 999) (by decide +kernel)⟩
def lw_privs_3 : List (MethodName × Nat) := [(⟨"StiltWaysModel", "takes", "(I)Z"⟩, 20), (⟨"StiltWaysModel", "next", "()I"⟩, 20), (⟨"StiltWaysModel", "number", "(IIZ)V"⟩, 20), (⟨"StiltWaysModel", "cannot", "(I)V"⟩, 20), (⟨"StiltWaysModel", "fails", "()I"⟩, 20), (⟨"StiltWaysModel", "letter", "(I)I"⟩, 20), (⟨"StiltWaysModel", "waterBy", "(III)I"⟩, 20), (⟨"StiltWaysModel", "does", "(III)Z"⟩, 20), (⟨"StiltWaysModel", "would", "(IIII)Z"⟩, 20), (⟨"StiltWaysModel", "standsBy", "(IIII)Z"⟩, 20), (⟨"StiltWaysModel", "reaches", "(II)Z"⟩, 20), (⟨"StiltWaysModel", "go", "(III)V"⟩, 20), (⟨"StiltWaysModel", "lengthWith", "(II)I"⟩, 20), (⟨"StiltWaysModel", "postOf", "(I)I"⟩, 20), (⟨"StiltWaysModel", "arrives", "(IIII)V"⟩, 20), (⟨"StiltWaysModel", "look", "(II)V"⟩, 20)]
theorem lw_r3 : ∀ q ∈ lw_privs_3, lw_okq q := List.forall_mem_cons.mpr ⟨lw_p32, List.forall_mem_cons.mpr ⟨lw_p33, List.forall_mem_cons.mpr ⟨lw_p34, List.forall_mem_cons.mpr ⟨lw_p35, List.forall_mem_cons.mpr ⟨lw_p36, List.forall_mem_cons.mpr ⟨lw_p37, List.forall_mem_cons.mpr ⟨lw_p38, List.forall_mem_cons.mpr ⟨lw_p39, List.forall_mem_cons.mpr ⟨lw_p40, List.forall_mem_cons.mpr ⟨lw_p41, List.forall_mem_cons.mpr ⟨lw_p42, List.forall_mem_cons.mpr ⟨lw_p43, List.forall_mem_cons.mpr ⟨lw_p44, List.forall_mem_cons.mpr ⟨lw_p45, List.forall_mem_cons.mpr ⟨lw_p46, List.forall_mem_cons.mpr ⟨lw_p47, fun _ h => absurd h List.not_mem_nil⟩⟩⟩⟩⟩⟩⟩⟩⟩⟩⟩⟩⟩⟩⟩⟩
theorem lw_p48 : lw_okq (⟨"StiltWaysModel", "leaves", "(IIIII)V"⟩, 20) := ⟨⟨by decide +kernel, by decide +kernel⟩, List.mem_of_getElem? (i := 744) (by decide +kernel), List.mem_of_getElem? (i := 1005) (by decide +kernel), List.mem_of_getElem? (i := 1006) (by decide +kernel)⟩
theorem lw_p49 : lw_okq (⟨"StiltWaysModel", "lasts", "(IIIII)Z"⟩, 20) := ⟨⟨by decide +kernel, by decide +kernel⟩, List.mem_of_getElem? (i := 744) (by decide +kernel), List.mem_of_getElem? (i := 1009) (by decide +kernel), List.mem_of_getElem? (i := 1010) (by decide +kernel)⟩
theorem lw_p50 : lw_okq (⟨"StiltWaysModel", "isSet", "(I)Z"⟩, 20) := ⟨⟨by decide +kernel, by decide +kernel⟩, List.mem_of_getElem? (i := 744) (by decide +kernel), List.mem_of_getElem? (i := 1017) (by decide +kernel), List.mem_of_getElem? (i := 1018) (by decide +kernel)⟩
theorem lw_p51 : lw_okq (⟨"StiltWaysModel", "fewest", "()V"⟩, 20) := ⟨⟨by decide +kernel, by decide +kernel⟩, List.mem_of_getElem? (i := 744) (by decide +kernel), List.mem_of_getElem? (i := 1033) (by decide +kernel), List.mem_of_getElem? (i := 1034) (by decide +kernel)⟩
theorem lw_p52 : lw_okq (⟨"StiltWaysModel", "doesFor", "(I)I"⟩, 20) := ⟨⟨by decide +kernel, by decide +kernel⟩, List.mem_of_getElem? (i := 744) (by decide +kernel), List.mem_of_getElem? (i := 1037) (by decide +kernel), List.mem_of_getElem? (i := 1038) (by decide +kernel)⟩
theorem lw_p53 : lw_okq (⟨"StiltWaysModel", "needy", "()I"⟩, 20) := ⟨⟨by decide +kernel, by decide +kernel⟩, List.mem_of_getElem? (i := 744) (by decide +kernel), List.mem_of_getElem? (i := 1041) (by decide +kernel), List.mem_of_getElem? (i := 1042) (by decide +kernel)⟩
theorem lw_p54 : lw_okq (⟨"StiltWaysModel", "dry", "(III)I"⟩, 20) := ⟨⟨by decide +kernel, by decide +kernel⟩, List.mem_of_getElem? (i := 744) (by decide +kernel), List.mem_of_getElem? (i := 1060) (by decide +kernel), List.mem_of_getElem? (i := 1061) (by decide +kernel)⟩
theorem lw_p55 : lw_okq (⟨"StiltWaysModel", "isDry", "(III)Z"⟩, 20) := ⟨⟨by decide +kernel, by decide +kernel⟩, List.mem_of_getElem? (i := 744) (by decide +kernel), List.mem_of_getElem? (i := 1064) (by decide +kernel), List.mem_of_getElem? (i := 1065) (by decide +kernel)⟩
theorem lw_p56 : lw_okq (⟨"StiltWaysModel", "share", "(I)V"⟩, 20) := ⟨⟨by decide +kernel, by decide +kernel⟩, List.mem_of_getElem? (i := 744) (by decide +kernel), List.mem_of_getElem? (i := 1068) (by decide +kernel), List.mem_of_getElem? (i := 1069) (by decide +kernel)⟩
def lw_privs_4 : List (MethodName × Nat) := [(⟨"StiltWaysModel", "leaves", "(IIIII)V"⟩, 20), (⟨"StiltWaysModel", "lasts", "(IIIII)Z"⟩, 20), (⟨"StiltWaysModel", "isSet", "(I)Z"⟩, 20), (⟨"StiltWaysModel", "fewest", "()V"⟩, 20), (⟨"StiltWaysModel", "doesFor", "(I)I"⟩, 20), (⟨"StiltWaysModel", "needy", "()I"⟩, 20), (⟨"StiltWaysModel", "dry", "(III)I"⟩, 20), (⟨"StiltWaysModel", "isDry", "(III)Z"⟩, 20), (⟨"StiltWaysModel", "share", "(I)V"⟩, 20)]
theorem lw_r4 : ∀ q ∈ lw_privs_4, lw_okq q := List.forall_mem_cons.mpr ⟨lw_p48, List.forall_mem_cons.mpr ⟨lw_p49, List.forall_mem_cons.mpr ⟨lw_p50, List.forall_mem_cons.mpr ⟨lw_p51, List.forall_mem_cons.mpr ⟨lw_p52, List.forall_mem_cons.mpr ⟨lw_p53, List.forall_mem_cons.mpr ⟨lw_p54, List.forall_mem_cons.mpr ⟨lw_p55, List.forall_mem_cons.mpr ⟨lw_p56, fun _ h => absurd h List.not_mem_nil⟩⟩⟩⟩⟩⟩⟩⟩⟩
def lw_privs : List (MethodName × Nat) := lw_privs_1 ++ (lw_privs_2 ++ (lw_privs_3 ++ (lw_privs_4)))
def lw_tbl : List Cond := k2_sels lw_privs ++ tables_1
theorem lw_privs_ok : ∀ q ∈ lw_privs, lw_okq q := by
  show ∀ q ∈ lw_privs_1 ++ (lw_privs_2 ++ (lw_privs_3 ++ (lw_privs_4))), lw_okq q
  exact List.forall_mem_append.mpr ⟨lw_r1, List.forall_mem_append.mpr ⟨lw_r2, List.forall_mem_append.mpr ⟨lw_r3, lw_r4⟩⟩⟩

def RX0 : String := "StiltWays$Exchange"
def TX0 : u_T := fun k => match k with
  | 0 => ("StiltWays$Exchange", "people", "I", false)
  | 1 => ("StiltWays$Exchange", "drowning", "[I", true)
  | _ => ("StiltWays$Exchange", "fewest", "[I", true)
def tyX0 : Nat → FieldType := fun k => match k with
  | 0 => .int
  | 1 => .array .int
  | _ => .array .int
abbrev wsX00 : List Cond := u_ws RX0 TX0 3
theorem nmX0 : ∀ a, a < 3 → ∀ b, b < 3 → a ≠ b → (TX0 a).2.1 ≠ (TX0 b).2.1 := by decide +kernel
theorem tyX0_ok : ∀ k, k < 3 → parseFieldDescriptor (TX0 k).2.2.1 = some (tyX0 k) := by decide +kernel
abbrev cX0_init : ByteArray := prog_2_method_1_code
def yX0_init : MethodName := ⟨RX0, "<init>", "()V"⟩
abbrev cX0_weigh : ByteArray := prog_2_method_2_code
def yX0_weigh : MethodName := ⟨RX0, "weigh", "(LStiltWays$Lagoon;I)V"⟩
abbrev cX0_drownedBehind : ByteArray := prog_2_method_3_code
def yX0_drownedBehind : MethodName := ⟨RX0, "drownedBehind", "(II)I"⟩
abbrev cX0_firstBest : ByteArray := prog_2_method_4_code
def yX0_firstBest : MethodName := ⟨RX0, "firstBest", "(I)I"⟩
abbrev cX0_drownedAsTheyAre : ByteArray := prog_2_method_5_code
def yX0_drownedAsTheyAre : MethodName := ⟨RX0, "drownedAsTheyAre", "()I"⟩
abbrev cX0_fewestDrowned : ByteArray := prog_2_method_6_code
def yX0_fewestDrowned : MethodName := ⟨RX0, "fewestDrowned", "()I"⟩
abbrev cX0_lengthGivenTo : ByteArray := prog_2_method_7_code
def yX0_lengthGivenTo : MethodName := ⟨RX0, "lengthGivenTo", "(I)I"⟩
def RX1 : String := "StiltWays$Lagoon"
def TX1 : u_T := fun k => match k with
  | 0 => ("StiltWays$Lagoon", "places", "I", false)
  | 1 => ("StiltWays$Lagoon", "depths", "[I", true)
  | 2 => ("StiltWays$Lagoon", "splices", "[I", true)
  | 3 => ("StiltWays$Lagoon", "silts", "[I", true)
  | 4 => ("StiltWays$Lagoon", "minutes", "[[I", true)
  | 5 => ("StiltWays$Lagoon", "tideAt", "[I", true)
  | 6 => ("StiltWays$Lagoon", "floodTold", "I", false)
  | 7 => ("StiltWays$Lagoon", "reach", "I", false)
  | 8 => ("StiltWays$Lagoon", "people", "I", false)
  | 9 => ("StiltWays$Lagoon", "kinds", "[I", true)
  | 10 => ("StiltWays$Lagoon", "told", "[I", true)
  | 11 => ("StiltWays$Lagoon", "homes", "[I", true)
  | 12 => ("StiltWays$Lagoon", "needs", "I", false)
  | 13 => ("StiltWays$Lagoon", "needers", "[I", true)
  | 14 => ("StiltWays$Lagoon", "needPlaces", "[I", true)
  | 15 => ("StiltWays$Lagoon", "needHours", "[I", true)
  | _ => ("StiltWays$Lagoon", "yearsGone", "I", false)
def tyX1 : Nat → FieldType := fun k => match k with
  | 0 => .int
  | 1 => .array .int
  | 2 => .array .int
  | 3 => .array .int
  | 4 => .array (.array .int)
  | 5 => .array .int
  | 6 => .int
  | 7 => .int
  | 8 => .int
  | 9 => .array .int
  | 10 => .array .int
  | 11 => .array .int
  | 12 => .int
  | 13 => .array .int
  | 14 => .array .int
  | 15 => .array .int
  | _ => .int
abbrev wsX10 : List Cond := u_ws RX1 TX1 17
theorem nmX1 : ∀ a, a < 17 → ∀ b, b < 17 → a ≠ b → (TX1 a).2.1 ≠ (TX1 b).2.1 := by decide +kernel
theorem tyX1_ok : ∀ k, k < 17 → parseFieldDescriptor (TX1 k).2.2.1 = some (tyX1 k) := by decide +kernel
abbrev cX1_init : ByteArray := prog_3_method_1_code
def yX1_init : MethodName := ⟨RX1, "<init>", "()V"⟩
abbrev cX1_become : ByteArray := prog_3_method_2_code
def yX1_become : MethodName := ⟨RX1, "become", "(LStiltWays$Lagoon;)V"⟩
abbrev cX1_hasPlace : ByteArray := prog_3_method_3_code
def yX1_hasPlace : MethodName := ⟨RX1, "hasPlace", "(I)Z"⟩
abbrev cX1_hasPerson : ByteArray := prog_3_method_4_code
def yX1_hasPerson : MethodName := ⟨RX1, "hasPerson", "(I)Z"⟩
abbrev cX1_hasPeople : ByteArray := prog_3_method_5_code
def yX1_hasPeople : MethodName := ⟨RX1, "hasPeople", "(I)Z"⟩
abbrev cX1_addPlace : ByteArray := prog_3_method_6_code
def yX1_addPlace : MethodName := ⟨RX1, "addPlace", "(II)I"⟩
abbrev cX1_addPerson : ByteArray := prog_3_method_7_code
def yX1_addPerson : MethodName := ⟨RX1, "addPerson", "(III)I"⟩
abbrev cX1_addNeed : ByteArray := prog_3_method_8_code
def yX1_addNeed : MethodName := ⟨RX1, "addNeed", "(III)I"⟩
abbrev cX1_join : ByteArray := prog_3_method_9_code
def yX1_join : MethodName := ⟨RX1, "join", "(III)V"⟩
abbrev cX1_countPaths : ByteArray := prog_3_method_10_code
def yX1_countPaths : MethodName := ⟨RX1, "countPaths", "()I"⟩
abbrev cX1_postsBeside : ByteArray := prog_3_method_11_code
def yX1_postsBeside : MethodName := ⟨RX1, "postsBeside", "(I)I"⟩
abbrev cX1_settle : ByteArray := prog_3_method_12_code
def yX1_settle : MethodName := ⟨RX1, "settle", "(LStiltWays$Tape;)V"⟩
abbrev cX1_joinAll : ByteArray := prog_3_method_13_code
def yX1_joinAll : MethodName := ⟨RX1, "joinAll", "(LStiltWays$Tape;)V"⟩
abbrev cX1_age : ByteArray := prog_3_method_14_code
def yX1_age : MethodName := ⟨RX1, "age", "(I)V"⟩
abbrev cX1_depthIn : ByteArray := prog_3_method_15_code
def yX1_depthIn : MethodName := ⟨RX1, "depthIn", "(II)I"⟩
abbrev cX1_waterAt : ByteArray := prog_3_method_16_code
def yX1_waterAt : MethodName := ⟨RX1, "waterAt", "(II)I"⟩
abbrev cX1_waterOver : ByteArray := prog_3_method_17_code
def yX1_waterOver : MethodName := ⟨RX1, "waterOver", "(III)I"⟩
abbrev cX1_lengthOf : ByteArray := prog_3_method_18_code
def yX1_lengthOf : MethodName := ⟨RX1, "lengthOf", "(I)I"⟩
abbrev cX1_lengthByKind : ByteArray := prog_3_method_19_code
def yX1_lengthByKind : MethodName := ⟨RX1, "lengthByKind", "(III)I"⟩
abbrev cX1_fits : ByteArray := prog_3_method_20_code
def yX1_fits : MethodName := ⟨RX1, "fits", "(II)Z"⟩
abbrev cX1_bears : ByteArray := prog_3_method_21_code
def yX1_bears : MethodName := ⟨RX1, "bears", "(IIII)Z"⟩
abbrev cX1_standsAt : ByteArray := prog_3_method_22_code
def yX1_standsAt : MethodName := ⟨RX1, "standsAt", "(III)Z"⟩
abbrev cX1_standsAtHomeIn : ByteArray := prog_3_method_23_code
def yX1_standsAtHomeIn : MethodName := ⟨RX1, "standsAtHomeIn", "(III)Z"⟩
abbrev cX1_isMet : ByteArray := prog_3_method_24_code
def yX1_isMet : MethodName := ⟨RX1, "isMet", "(II)Z"⟩
abbrev cX1_drownsWith : ByteArray := prog_3_method_25_code
def yX1_drownsWith : MethodName := ⟨RX1, "drownsWith", "(III)Z"⟩
abbrev cX1_countStanding : ByteArray := prog_3_method_26_code
def yX1_countStanding : MethodName := ⟨RX1, "countStanding", "(II)I"⟩
abbrev cX1_shortestOf : ByteArray := prog_3_method_27_code
def yX1_shortestOf : MethodName := ⟨RX1, "shortestOf", "(I)I"⟩
def RX2 : String := "StiltWays$Sheet"
def TX2 : u_T := fun k => match k with
  | 0 => ("StiltWays$Sheet", "there", "Z", false)
  | 1 => ("StiltWays$Sheet", "lane", "I", false)
  | 2 => ("StiltWays$Sheet", "length", "I", false)
  | _ => ("StiltWays$Sheet", "items", "[I", true)
def tyX2 : Nat → FieldType := fun k => match k with
  | 0 => .boolean
  | 1 => .int
  | 2 => .int
  | _ => .array .int
abbrev wsX20 : List Cond := u_ws RX2 TX2 4
theorem nmX2 : ∀ a, a < 4 → ∀ b, b < 4 → a ≠ b → (TX2 a).2.1 ≠ (TX2 b).2.1 := by decide +kernel
theorem tyX2_ok : ∀ k, k < 4 → parseFieldDescriptor (TX2 k).2.2.1 = some (tyX2 k) := by decide +kernel
abbrev cX2_init : ByteArray := prog_4_method_1_code
def yX2_init : MethodName := ⟨RX2, "<init>", "()V"⟩
abbrev cX2_hold : ByteArray := prog_4_method_2_code
def yX2_hold : MethodName := ⟨RX2, "hold", "(II)V"⟩
abbrev cX2_put : ByteArray := prog_4_method_3_code
def yX2_put : MethodName := ⟨RX2, "put", "(II)V"⟩
abbrev cX2_hasRange : ByteArray := prog_4_method_4_code
def yX2_hasRange : MethodName := ⟨RX2, "hasRange", "(II)Z"⟩
def RX3 : String := "StiltWays$Tape"
def TX3 : u_T := fun k => match k with
  | 0 => ("StiltWays$Tape", "length", "I", false)
  | 1 => ("StiltWays$Tape", "signs", "[I", true)
  | 2 => ("StiltWays$Tape", "next", "I", false)
  | 3 => ("StiltWays$Tape", "fault", "I", false)
  | 4 => ("StiltWays$Tape", "postsTold", "I", false)
  | 5 => ("StiltWays$Tape", "rows", "I", false)
  | 6 => ("StiltWays$Tape", "firsts", "[I", true)
  | 7 => ("StiltWays$Tape", "seconds", "[I", true)
  | _ => ("StiltWays$Tape", "lasts", "[I", true)
def tyX3 : Nat → FieldType := fun k => match k with
  | 0 => .int
  | 1 => .array .int
  | 2 => .int
  | 3 => .int
  | 4 => .int
  | 5 => .int
  | 6 => .array .int
  | 7 => .array .int
  | _ => .array .int
abbrev wsX30 : List Cond := u_ws RX3 TX3 9
theorem nmX3 : ∀ a, a < 9 → ∀ b, b < 9 → a ≠ b → (TX3 a).2.1 ≠ (TX3 b).2.1 := by decide +kernel
theorem tyX3_ok : ∀ k, k < 9 → parseFieldDescriptor (TX3 k).2.2.1 = some (tyX3 k) := by decide +kernel
abbrev cX3_init : ByteArray := prog_5_method_1_code
def yX3_init : MethodName := ⟨RX3, "<init>", "()V"⟩
abbrev cX3_append : ByteArray := prog_5_method_2_code
def yX3_append : MethodName := ⟨RX3, "append", "(I)V"⟩
abbrev cX3_readPlaces : ByteArray := prog_5_method_3_code
def yX3_readPlaces : MethodName := ⟨RX3, "readPlaces", "()I"⟩
abbrev cX3_readPaths : ByteArray := prog_5_method_4_code
def yX3_readPaths : MethodName := ⟨RX3, "readPaths", "(I)I"⟩
abbrev cX3_begin : ByteArray := prog_5_method_5_code
def yX3_begin : MethodName := ⟨RX3, "begin", "()V"⟩
abbrev cX3_outcome : ByteArray := prog_5_method_6_code
def yX3_outcome : MethodName := ⟨RX3, "outcome", "()I"⟩
abbrev cX3_readPlace : ByteArray := prog_5_method_7_code
def yX3_readPlace : MethodName := ⟨RX3, "readPlace", "()V"⟩
abbrev cX3_readDepth : ByteArray := prog_5_method_8_code
def yX3_readDepth : MethodName := ⟨RX3, "readDepth", "()I"⟩
abbrev cX3_readPath : ByteArray := prog_5_method_9_code
def yX3_readPath : MethodName := ⟨RX3, "readPath", "(I)V"⟩
abbrev cX3_goesOn : ByteArray := prog_5_method_10_code
def yX3_goesOn : MethodName := ⟨RX3, "goesOn", "(C)Z"⟩
abbrev cX3_peek : ByteArray := prog_5_method_11_code
def yX3_peek : MethodName := ⟨RX3, "peek", "()I"⟩
abbrev cX3_readLetter : ByteArray := prog_5_method_12_code
def yX3_readLetter : MethodName := ⟨RX3, "readLetter", "(II)I"⟩
abbrev cX3_readNumber : ByteArray := prog_5_method_13_code
def yX3_readNumber : MethodName := ⟨RX3, "readNumber", "(II)I"⟩
abbrev cX3_faultAt : ByteArray := prog_5_method_14_code
def yX3_faultAt : MethodName := ⟨RX3, "faultAt", "(I)V"⟩
def RX4 : String := "StiltWays$Village"
def TX4 : u_T := fun k => match k with
  | 0 => ("StiltWays$Village", "needy", "I", false)
  | 1 => ("StiltWays$Village", "suits", "[I", true)
  | _ => ("StiltWays$Village", "fewest", "[[I", true)
def tyX4 : Nat → FieldType := fun k => match k with
  | 0 => .int
  | 1 => .array .int
  | _ => .array (.array .int)
abbrev wsX40 : List Cond := u_ws RX4 TX4 3
theorem nmX4 : ∀ a, a < 3 → ∀ b, b < 3 → a ≠ b → (TX4 a).2.1 ≠ (TX4 b).2.1 := by decide +kernel
theorem tyX4_ok : ∀ k, k < 3 → parseFieldDescriptor (TX4 k).2.2.1 = some (tyX4 k) := by decide +kernel
abbrev cX4_init : ByteArray := prog_6_method_1_code
def yX4_init : MethodName := ⟨RX4, "<init>", "()V"⟩
abbrev cX4_weigh : ByteArray := prog_6_method_2_code
def yX4_weigh : MethodName := ⟨RX4, "weigh", "(LStiltWays$Lagoon;)V"⟩
abbrev cX4_suitedBy : ByteArray := prog_6_method_3_code
def yX4_suitedBy : MethodName := ⟨RX4, "suitedBy", "(LStiltWays$Lagoon;I)I"⟩
abbrev cX4_weighWith : ByteArray := prog_6_method_4_code
def yX4_weighWith : MethodName := ⟨RX4, "weighWith", "(I)V"⟩
abbrev cX4_fewestLengths : ByteArray := prog_6_method_5_code
def yX4_fewestLengths : MethodName := ⟨RX4, "fewestLengths", "()I"⟩
abbrev cX4_chosen : ByteArray := prog_6_method_6_code
def yX4_chosen : MethodName := ⟨RX4, "chosen", "(I)I"⟩
def RX5 : String := "StiltWays$Walk"
def TX5 : u_T := fun k => match k with
  | 0 => ("StiltWays$Walk", "places", "I", false)
  | 1 => ("StiltWays$Walk", "home", "I", false)
  | 2 => ("StiltWays$Walk", "start", "I", false)
  | 3 => ("StiltWays$Walk", "posts", "I", false)
  | 4 => ("StiltWays$Walk", "postAt", "[I", true)
  | 5 => ("StiltWays$Walk", "longer", "[I", true)
  | 6 => ("StiltWays$Walk", "footing", "[[I", true)
  | 7 => ("StiltWays$Walk", "at", "[[I", true)
  | 8 => ("StiltWays$Walk", "came", "[I", true)
  | 9 => ("StiltWays$Walk", "edges", "I", false)
  | 10 => ("StiltWays$Walk", "ends", "[I", true)
  | 11 => ("StiltWays$Walk", "otherEnds", "[I", true)
  | _ => ("StiltWays$Walk", "paces", "[I", true)
def tyX5 : Nat → FieldType := fun k => match k with
  | 0 => .int
  | 1 => .int
  | 2 => .int
  | 3 => .int
  | 4 => .array .int
  | 5 => .array .int
  | 6 => .array (.array .int)
  | 7 => .array (.array .int)
  | 8 => .array .int
  | 9 => .int
  | 10 => .array .int
  | 11 => .array .int
  | _ => .array .int
abbrev wsX50 : List Cond := u_ws RX5 TX5 13
theorem nmX5 : ∀ a, a < 13 → ∀ b, b < 13 → a ≠ b → (TX5 a).2.1 ≠ (TX5 b).2.1 := by decide +kernel
theorem tyX5_ok : ∀ k, k < 13 → parseFieldDescriptor (TX5 k).2.2.1 = some (tyX5 k) := by decide +kernel
abbrev cX5_init : ByteArray := prog_7_method_1_code
def yX5_init : MethodName := ⟨RX5, "<init>", "()V"⟩
abbrev cX5_prepare : ByteArray := prog_7_method_2_code
def yX5_prepare : MethodName := ⟨RX5, "prepare", "(LStiltWays$Lagoon;II)V"⟩
abbrev cX5_listPosts : ByteArray := prog_7_method_3_code
def yX5_listPosts : MethodName := ⟨RX5, "listPosts", "(LStiltWays$Lagoon;)V"⟩
abbrev cX5_listEdges : ByteArray := prog_7_method_4_code
def yX5_listEdges : MethodName := ⟨RX5, "listEdges", "(LStiltWays$Lagoon;)V"⟩
abbrev cX5_footingIn : ByteArray := prog_7_method_5_code
def yX5_footingIn : MethodName := ⟨RX5, "footingIn", "(LStiltWays$Lagoon;II)I"⟩
abbrev cX5_soonest : ByteArray := prog_7_method_6_code
def yX5_soonest : MethodName := ⟨RX5, "soonest", "(I)I"⟩
abbrev cX5_lightest : ByteArray := prog_7_method_7_code
def yX5_lightest : MethodName := ⟨RX5, "lightest", "(I)I"⟩
abbrev cX5_fewestTaken : ByteArray := prog_7_method_8_code
def yX5_fewestTaken : MethodName := ⟨RX5, "fewestTaken", "(I)I"⟩
abbrev cX5_step : ByteArray := prog_7_method_9_code
def yX5_step : MethodName := ⟨RX5, "step", "(I)Z"⟩
abbrev cX5_hourOf : ByteArray := prog_7_method_10_code
def yX5_hourOf : MethodName := ⟨RX5, "hourOf", "(I)I"⟩
abbrev cX5_arrive : ByteArray := prog_7_method_11_code
def yX5_arrive : MethodName := ⟨RX5, "arrive", "(II)V"⟩
abbrev cX5_walkAlong : ByteArray := prog_7_method_12_code
def yX5_walkAlong : MethodName := ⟨RX5, "walkAlong", "(IIII)V"⟩
abbrev cX5_withSplice : ByteArray := prog_7_method_13_code
def yX5_withSplice : MethodName := ⟨RX5, "withSplice", "(II)I"⟩
def RX6 : String := "StiltWays"
def TX6 : u_T := fun k => match k with
  | 0 => ("StiltWays", "now", "LStiltWays$Lagoon;", true)
  | 1 => ("StiltWays", "kept", "LStiltWays$Lagoon;", true)
  | 2 => ("StiltWays", "keeps", "Z", false)
  | 3 => ("StiltWays", "tape", "LStiltWays$Tape;", true)
  | 4 => ("StiltWays", "walk", "LStiltWays$Walk;", true)
  | 5 => ("StiltWays", "village", "LStiltWays$Village;", true)
  | 6 => ("StiltWays", "exchange", "LStiltWays$Exchange;", true)
  | _ => ("StiltWays", "sheets", "[LStiltWays$Sheet;", true)
def tyX6 : Nat → FieldType := fun k => match k with
  | 0 => .object "StiltWays$Lagoon"
  | 1 => .object "StiltWays$Lagoon"
  | 2 => .boolean
  | 3 => .object "StiltWays$Tape"
  | 4 => .object "StiltWays$Walk"
  | 5 => .object "StiltWays$Village"
  | 6 => .object "StiltWays$Exchange"
  | _ => .array (.object "StiltWays$Sheet")
abbrev wsX60 : List Cond := u_ws RX6 TX6 8
theorem nmX6 : ∀ a, a < 8 → ∀ b, b < 8 → a ≠ b → (TX6 a).2.1 ≠ (TX6 b).2.1 := by decide +kernel
theorem tyX6_ok : ∀ k, k < 8 → parseFieldDescriptor (TX6 k).2.2.1 = some (tyX6 k) := by decide +kernel
abbrev cX6_init : ByteArray := prog_1_method_1_code
def yX6_init : MethodName := ⟨RX6, "<init>", "()V"⟩
abbrev cX6_place : ByteArray := prog_1_method_2_code
def yX6_place : MethodName := ⟨RX6, "place", "(I)I"⟩
abbrev cX6_make : ByteArray := prog_1_method_3_code
def yX6_make : MethodName := ⟨RX6, "make", "(III)I"⟩
abbrev cX6_makeSplices : ByteArray := prog_1_method_4_code
def yX6_makeSplices : MethodName := ⟨RX6, "makeSplices", "(II)I"⟩
abbrev cX6_path : ByteArray := prog_1_method_5_code
def yX6_path : MethodName := ⟨RX6, "path", "(III)I"⟩
abbrev cX6_tide : ByteArray := prog_1_method_6_code
def yX6_tide : MethodName := ⟨RX6, "tide", "(II)I"⟩
abbrev cX6_set : ByteArray := prog_1_method_7_code
def yX6_set : MethodName := ⟨RX6, "set", "(II)I"⟩
abbrev cX6_person : ByteArray := prog_1_method_8_code
def yX6_person : MethodName := ⟨RX6, "person", "(III)I"⟩
abbrev cX6_of : ByteArray := prog_1_method_9_code
def yX6_of : MethodName := ⟨RX6, "of", "(II)I"⟩
abbrev cX6_type : ByteArray := prog_1_method_10_code
def yX6_type : MethodName := ⟨RX6, "type", "(JI)I"⟩
abbrev cX6_lagoon : ByteArray := prog_1_method_11_code
def yX6_lagoon : MethodName := ⟨RX6, "lagoon", "()I"⟩
abbrev cX6_paths : ByteArray := prog_1_method_12_code
def yX6_paths : MethodName := ⟨RX6, "paths", "()I"⟩
abbrev cX6_count : ByteArray := prog_1_method_13_code
def yX6_count : MethodName := ⟨RX6, "count", "(I)I"⟩
abbrev cX6_water : ByteArray := prog_1_method_14_code
def yX6_water : MethodName := ⟨RX6, "water", "(II)I"⟩
abbrev cX6_stands : ByteArray := prog_1_method_15_code
def yX6_stands : MethodName := ⟨RX6, "stands", "(III)I"⟩
abbrev cX6_hours : ByteArray := prog_1_method_16_code
def yX6_hours : MethodName := ⟨RX6, "hours", "(II)I"⟩
abbrev cX6_years : ByteArray := prog_1_method_17_code
def yX6_years : MethodName := ⟨RX6, "years", "(I)I"⟩
abbrev cX6_way : ByteArray := prog_1_method_18_code
def yX6_way : MethodName := ⟨RX6, "way", "(IIII)I"⟩
abbrev cX6_race : ByteArray := prog_1_method_19_code
def yX6_race : MethodName := ⟨RX6, "race", "(IIII)I"⟩
abbrev cX6_need : ByteArray := prog_1_method_20_code
def yX6_need : MethodName := ⟨RX6, "need", "(III)I"⟩
abbrev cX6_met : ByteArray := prog_1_method_21_code
def yX6_met : MethodName := ⟨RX6, "met", "()I"⟩
abbrev cX6_lengths : ByteArray := prog_1_method_22_code
def yX6_lengths : MethodName := ⟨RX6, "lengths", "(I)I"⟩
abbrev cX6_meeting : ByteArray := prog_1_method_23_code
def yX6_meeting : MethodName := ⟨RX6, "meeting", "(I)I"⟩
abbrev cX6_pairs : ByteArray := prog_1_method_24_code
def yX6_pairs : MethodName := ⟨RX6, "pairs", "(I)I"⟩
abbrev cX6_flood : ByteArray := prog_1_method_25_code
def yX6_flood : MethodName := ⟨RX6, "flood", "(II)I"⟩
abbrev cX6_carried : ByteArray := prog_1_method_26_code
def yX6_carried : MethodName := ⟨RX6, "carried", "(III)I"⟩
abbrev cX6_wrong : ByteArray := prog_1_method_27_code
def yX6_wrong : MethodName := ⟨RX6, "wrong", "(II)I"⟩
abbrev cX6_clear : ByteArray := prog_1_method_28_code
def yX6_clear : MethodName := ⟨RX6, "clear", "()I"⟩
abbrev cX6_image : ByteArray := prog_1_method_29_code
def yX6_image : MethodName := ⟨RX6, "image", "()I"⟩
abbrev cX6_restore : ByteArray := prog_1_method_30_code
def yX6_restore : MethodName := ⟨RX6, "restore", "()I"⟩
abbrev cX6_tides : ByteArray := prog_1_method_31_code
def yX6_tides : MethodName := ⟨RX6, "tides", "(II)I"⟩
abbrev cX6_sheet : ByteArray := prog_1_method_32_code
def yX6_sheet : MethodName := ⟨RX6, "sheet", "(III)I"⟩
abbrev cX6_drop : ByteArray := prog_1_method_33_code
def yX6_drop : MethodName := ⟨RX6, "drop", "(I)I"⟩
abbrev cX6_item : ByteArray := prog_1_method_34_code
def yX6_item : MethodName := ⟨RX6, "item", "(IIII)I"⟩
abbrev cX6_copy : ByteArray := prog_1_method_35_code
def yX6_copy : MethodName := ⟨RX6, "copy", "(IIIII)I"⟩
abbrev cX6_refusal : ByteArray := prog_1_method_36_code
def yX6_refusal : MethodName := ⟨RX6, "refusal", "(II)I"⟩
abbrev cX6_within : ByteArray := prog_1_method_37_code
def yX6_within : MethodName := ⟨RX6, "within", "(III)Z"⟩
abbrev cX6_isHour : ByteArray := prog_1_method_38_code
def yX6_isHour : MethodName := ⟨RX6, "isHour", "(I)Z"⟩
abbrev cX6_isMinute : ByteArray := prog_1_method_39_code
def yX6_isMinute : MethodName := ⟨RX6, "isMinute", "(I)Z"⟩
abbrev cX6_isSheet : ByteArray := prog_1_method_40_code
def yX6_isSheet : MethodName := ⟨RX6, "isSheet", "(I)Z"⟩
abbrev cX6_isLane : ByteArray := prog_1_method_41_code
def yX6_isLane : MethodName := ⟨RX6, "isLane", "(I)Z"⟩
abbrev cX6_holds : ByteArray := prog_1_method_42_code
def yX6_holds : MethodName := ⟨RX6, "holds", "(II)Z"⟩
abbrev cX6_byteOf : ByteArray := prog_1_method_43_code
def yX6_byteOf : MethodName := ⟨RX6, "byteOf", "(JI)I"⟩
abbrev cX6_changed : ByteArray := prog_1_method_44_code
def yX6_changed : MethodName := ⟨RX6, "changed", "([III)I"⟩
def RX7 : String := "StiltWaysModel"
def TX7 : u_T := fun k => match k with
  | 0 => ("StiltWaysModel", "z", "[I", true)
  | 1 => ("StiltWaysModel", "isKept", "Z", false)
  | 2 => ("StiltWaysModel", "tape", "[I", true)
  | 3 => ("StiltWaysModel", "taped", "I", false)
  | 4 => ("StiltWaysModel", "at", "I", false)
  | 5 => ("StiltWaysModel", "fault", "I", false)
  | 6 => ("StiltWaysModel", "found", "I", false)
  | 7 => ("StiltWaysModel", "told", "[I", true)
  | 8 => ("StiltWaysModel", "items", "[I", true)
  | 9 => ("StiltWaysModel", "lanes", "[I", true)
  | 10 => ("StiltWaysModel", "sizes", "[I", true)
  | 11 => ("StiltWaysModel", "moved", "[I", true)
  | 12 => ("StiltWaysModel", "is", "[Z", true)
  | 13 => ("StiltWaysModel", "comes", "[Z", true)
  | 14 => ("StiltWaysModel", "soon", "I", false)
  | 15 => ("StiltWaysModel", "light", "I", false)
  | 16 => ("StiltWaysModel", "more", "[I", true)
  | 17 => ("StiltWaysModel", "helps", "[I", true)
  | 18 => ("StiltWaysModel", "most", "[I", true)
  | _ => ("StiltWaysModel", "given", "[I", true)
def tyX7 : Nat → FieldType := fun k => match k with
  | 0 => .array .int
  | 1 => .boolean
  | 2 => .array .int
  | 3 => .int
  | 4 => .int
  | 5 => .int
  | 6 => .int
  | 7 => .array .int
  | 8 => .array .int
  | 9 => .array .int
  | 10 => .array .int
  | 11 => .array .int
  | 12 => .array .boolean
  | 13 => .array .boolean
  | 14 => .int
  | 15 => .int
  | 16 => .array .int
  | 17 => .array .int
  | 18 => .array .int
  | _ => .array .int
abbrev wsX70 : List Cond := u_ws RX7 TX7 20
theorem nmX7 : ∀ a, a < 20 → ∀ b, b < 20 → a ≠ b → (TX7 a).2.1 ≠ (TX7 b).2.1 := by decide +kernel
theorem tyX7_ok : ∀ k, k < 20 → parseFieldDescriptor (TX7 k).2.2.1 = some (tyX7 k) := by decide +kernel
abbrev cX7_init : ByteArray := prog_9_method_1_code
def yX7_init : MethodName := ⟨RX7, "<init>", "()V"⟩
abbrev cX7_in : ByteArray := prog_9_method_2_code
def yX7_in : MethodName := ⟨RX7, "in", "(JJJ)Z"⟩
abbrev cX7_isPlace : ByteArray := prog_9_method_3_code
def yX7_isPlace : MethodName := ⟨RX7, "isPlace", "(I)Z"⟩
abbrev cX7_isPerson : ByteArray := prog_9_method_4_code
def yX7_isPerson : MethodName := ⟨RX7, "isPerson", "(I)Z"⟩
abbrev cX7_isHour : ByteArray := prog_9_method_5_code
def yX7_isHour : MethodName := ⟨RX7, "isHour", "(I)Z"⟩
abbrev cX7_isSet : ByteArray := prog_9_method_6_code
def yX7_isSet : MethodName := ⟨RX7, "isSet", "(I)Z"⟩
abbrev cX7_place : ByteArray := prog_9_method_7_code
def yX7_place : MethodName := ⟨RX7, "place", "(I)I"⟩
abbrev cX7_put : ByteArray := prog_9_method_8_code
def yX7_put : MethodName := ⟨RX7, "put", "(II)V"⟩
abbrev cX7_posts : ByteArray := prog_9_method_9_code
def yX7_posts : MethodName := ⟨RX7, "posts", "(I)I"⟩
abbrev cX7_make : ByteArray := prog_9_method_10_code
def yX7_make : MethodName := ⟨RX7, "make", "(III)I"⟩
abbrev cX7_pathOf : ByteArray := prog_9_method_11_code
def yX7_pathOf : MethodName := ⟨RX7, "pathOf", "(II)I"⟩
abbrev cX7_join : ByteArray := prog_9_method_12_code
def yX7_join : MethodName := ⟨RX7, "join", "(III)V"⟩
abbrev cX7_path : ByteArray := prog_9_method_13_code
def yX7_path : MethodName := ⟨RX7, "path", "(III)I"⟩
abbrev cX7_tide : ByteArray := prog_9_method_14_code
def yX7_tide : MethodName := ⟨RX7, "tide", "(II)I"⟩
abbrev cX7_set : ByteArray := prog_9_method_15_code
def yX7_set : MethodName := ⟨RX7, "set", "(II)I"⟩
abbrev cX7_person : ByteArray := prog_9_method_16_code
def yX7_person : MethodName := ⟨RX7, "person", "(III)I"⟩
abbrev cX7_byKind : ByteArray := prog_9_method_17_code
def yX7_byKind : MethodName := ⟨RX7, "byKind", "(III)I"⟩
abbrev cX7_of : ByteArray := prog_9_method_18_code
def yX7_of : MethodName := ⟨RX7, "of", "(II)I"⟩
abbrev cX7_type : ByteArray := prog_9_method_19_code
def yX7_type : MethodName := ⟨RX7, "type", "(JI)I"⟩
abbrev cX7_next : ByteArray := prog_9_method_20_code
def yX7_next : MethodName := ⟨RX7, "next", "()I"⟩
abbrev cX7_cannot : ByteArray := prog_9_method_21_code
def yX7_cannot : MethodName := ⟨RX7, "cannot", "(I)V"⟩
abbrev cX7_takes : ByteArray := prog_9_method_22_code
def yX7_takes : MethodName := ⟨RX7, "takes", "(I)Z"⟩
abbrev cX7_number : ByteArray := prog_9_method_23_code
def yX7_number : MethodName := ⟨RX7, "number", "(IIZ)V"⟩
abbrev cX7_begin : ByteArray := prog_9_method_24_code
def yX7_begin : MethodName := ⟨RX7, "begin", "()V"⟩
abbrev cX7_fails : ByteArray := prog_9_method_25_code
def yX7_fails : MethodName := ⟨RX7, "fails", "()I"⟩
abbrev cX7_lagoon : ByteArray := prog_9_method_26_code
def yX7_lagoon : MethodName := ⟨RX7, "lagoon", "()I"⟩
abbrev cX7_letter : ByteArray := prog_9_method_27_code
def yX7_letter : MethodName := ⟨RX7, "letter", "(I)I"⟩
abbrev cX7_paths : ByteArray := prog_9_method_28_code
def yX7_paths : MethodName := ⟨RX7, "paths", "()I"⟩
abbrev cX7_count : ByteArray := prog_9_method_29_code
def yX7_count : MethodName := ⟨RX7, "count", "(I)I"⟩
abbrev cX7_waterBy : ByteArray := prog_9_method_30_code
def yX7_waterBy : MethodName := ⟨RX7, "waterBy", "(III)I"⟩
abbrev cX7_reaches : ByteArray := prog_9_method_31_code
def yX7_reaches : MethodName := ⟨RX7, "reaches", "(II)Z"⟩
abbrev cX7_standsBy : ByteArray := prog_9_method_32_code
def yX7_standsBy : MethodName := ⟨RX7, "standsBy", "(IIII)Z"⟩
abbrev cX7_would : ByteArray := prog_9_method_33_code
def yX7_would : MethodName := ⟨RX7, "would", "(IIII)Z"⟩
abbrev cX7_does : ByteArray := prog_9_method_34_code
def yX7_does : MethodName := ⟨RX7, "does", "(III)Z"⟩
abbrev cX7_water : ByteArray := prog_9_method_35_code
def yX7_water : MethodName := ⟨RX7, "water", "(II)I"⟩
abbrev cX7_stands : ByteArray := prog_9_method_36_code
def yX7_stands : MethodName := ⟨RX7, "stands", "(III)I"⟩
abbrev cX7_hours : ByteArray := prog_9_method_37_code
def yX7_hours : MethodName := ⟨RX7, "hours", "(II)I"⟩
abbrev cX7_silted : ByteArray := prog_9_method_38_code
def yX7_silted : MethodName := ⟨RX7, "silted", "(II)I"⟩
abbrev cX7_years : ByteArray := prog_9_method_39_code
def yX7_years : MethodName := ⟨RX7, "years", "(I)I"⟩
abbrev cX7_postOf : ByteArray := prog_9_method_40_code
def yX7_postOf : MethodName := ⟨RX7, "postOf", "(I)I"⟩
abbrev cX7_lengthWith : ByteArray := prog_9_method_41_code
def yX7_lengthWith : MethodName := ⟨RX7, "lengthWith", "(II)I"⟩
abbrev cX7_hourOf : ByteArray := prog_9_method_42_code
def yX7_hourOf : MethodName := ⟨RX7, "hourOf", "(I)I"⟩
abbrev cX7_lasts : ByteArray := prog_9_method_43_code
def yX7_lasts : MethodName := ⟨RX7, "lasts", "(IIIII)Z"⟩
abbrev cX7_arrives : ByteArray := prog_9_method_44_code
def yX7_arrives : MethodName := ⟨RX7, "arrives", "(IIII)V"⟩
abbrev cX7_leaves : ByteArray := prog_9_method_45_code
def yX7_leaves : MethodName := ⟨RX7, "leaves", "(IIIII)V"⟩
abbrev cX7_bits : ByteArray := prog_9_method_46_code
def yX7_bits : MethodName := ⟨RX7, "bits", "(I)I"⟩
abbrev cX7_look : ByteArray := prog_9_method_47_code
def yX7_look : MethodName := ⟨RX7, "look", "(II)V"⟩
abbrev cX7_go : ByteArray := prog_9_method_48_code
def yX7_go : MethodName := ⟨RX7, "go", "(III)V"⟩
abbrev cX7_way : ByteArray := prog_9_method_49_code
def yX7_way : MethodName := ⟨RX7, "way", "(IIII)I"⟩
abbrev cX7_race : ByteArray := prog_9_method_50_code
def yX7_race : MethodName := ⟨RX7, "race", "(IIII)I"⟩
abbrev cX7_need : ByteArray := prog_9_method_51_code
def yX7_need : MethodName := ⟨RX7, "need", "(III)I"⟩
abbrev cX7_met : ByteArray := prog_9_method_52_code
def yX7_met : MethodName := ⟨RX7, "met", "()I"⟩
abbrev cX7_needy : ByteArray := prog_9_method_53_code
def yX7_needy : MethodName := ⟨RX7, "needy", "()I"⟩
abbrev cX7_doesFor : ByteArray := prog_9_method_54_code
def yX7_doesFor : MethodName := ⟨RX7, "doesFor", "(I)I"⟩
abbrev cX7_fewest : ByteArray := prog_9_method_55_code
def yX7_fewest : MethodName := ⟨RX7, "fewest", "()V"⟩
abbrev cX7_lengths : ByteArray := prog_9_method_56_code
def yX7_lengths : MethodName := ⟨RX7, "lengths", "(I)I"⟩
abbrev cX7_meeting : ByteArray := prog_9_method_57_code
def yX7_meeting : MethodName := ⟨RX7, "meeting", "(I)I"⟩
abbrev cX7_pairs : ByteArray := prog_9_method_58_code
def yX7_pairs : MethodName := ⟨RX7, "pairs", "(I)I"⟩
abbrev cX7_isDry : ByteArray := prog_9_method_59_code
def yX7_isDry : MethodName := ⟨RX7, "isDry", "(III)Z"⟩
abbrev cX7_dry : ByteArray := prog_9_method_60_code
def yX7_dry : MethodName := ⟨RX7, "dry", "(III)I"⟩
abbrev cX7_share : ByteArray := prog_9_method_61_code
def yX7_share : MethodName := ⟨RX7, "share", "(I)V"⟩
abbrev cX7_flood : ByteArray := prog_9_method_62_code
def yX7_flood : MethodName := ⟨RX7, "flood", "(II)I"⟩
abbrev cX7_carried : ByteArray := prog_9_method_63_code
def yX7_carried : MethodName := ⟨RX7, "carried", "(III)I"⟩
abbrev cX7_wrong : ByteArray := prog_9_method_64_code
def yX7_wrong : MethodName := ⟨RX7, "wrong", "(II)I"⟩
abbrev cX7_clear : ByteArray := prog_9_method_65_code
def yX7_clear : MethodName := ⟨RX7, "clear", "()I"⟩
abbrev cX7_image : ByteArray := prog_9_method_66_code
def yX7_image : MethodName := ⟨RX7, "image", "()I"⟩
abbrev cX7_restore : ByteArray := prog_9_method_67_code
def yX7_restore : MethodName := ⟨RX7, "restore", "()I"⟩
abbrev cX7_isSheet : ByteArray := prog_9_method_68_code
def yX7_isSheet : MethodName := ⟨RX7, "isSheet", "(I)Z"⟩
abbrev cX7_isLane : ByteArray := prog_9_method_69_code
def yX7_isLane : MethodName := ⟨RX7, "isLane", "(I)Z"⟩
abbrev cX7_tides : ByteArray := prog_9_method_70_code
def yX7_tides : MethodName := ⟨RX7, "tides", "(II)I"⟩
abbrev cX7_sheet : ByteArray := prog_9_method_71_code
def yX7_sheet : MethodName := ⟨RX7, "sheet", "(III)I"⟩
abbrev cX7_drop : ByteArray := prog_9_method_72_code
def yX7_drop : MethodName := ⟨RX7, "drop", "(I)I"⟩
abbrev cX7_item : ByteArray := prog_9_method_73_code
def yX7_item : MethodName := ⟨RX7, "item", "(IIII)I"⟩
abbrev cX7_copy : ByteArray := prog_9_method_74_code
def yX7_copy : MethodName := ⟨RX7, "copy", "(IIIII)I"⟩
def RJ6 : String := "java/lang/Integer"
def TJ6 : u_T := fun k => match k with
  | _ => ("", "", "", false)
def tyJ6 : Nat → FieldType := fun k => match k with
  | _ => .int
abbrev wsJ60 : List Cond := u_ws RJ6 TJ6 0
theorem nmJ6 : ∀ a, a < 0 → ∀ b, b < 0 → a ≠ b → (TJ6 a).2.1 ≠ (TJ6 b).2.1 := by decide +kernel
theorem tyJ6_ok : ∀ k, k < 0 → parseFieldDescriptor (TJ6 k).2.2.1 = some (tyJ6 k) := by decide +kernel
abbrev cJ6_bitCount_0f7a4 : ByteArray := prog_10_method_49_code
def yJ6_bitCount_0f7a4 : MethodName := ⟨RJ6, "bitCount", "(I)I"⟩
def RJ9 : String := "java/lang/Math"
def TJ9 : u_T := fun k => match k with
  | _ => ("", "", "", false)
def tyJ9 : Nat → FieldType := fun k => match k with
  | _ => .int
abbrev wsJ90 : List Cond := u_ws RJ9 TJ9 0
theorem nmJ9 : ∀ a, a < 0 → ∀ b, b < 0 → a ≠ b → (TJ9 a).2.1 ≠ (TJ9 b).2.1 := by decide +kernel
theorem tyJ9_ok : ∀ k, k < 0 → parseFieldDescriptor (TJ9 k).2.2.1 = some (tyJ9 k) := by decide +kernel
abbrev cJ9_max_7cf53 : ByteArray := prog_11_method_65_code
def yJ9_max_7cf53 : MethodName := ⟨RJ9, "max", "(II)I"⟩
abbrev cJ9_min_7cf53 : ByteArray := prog_11_method_69_code
def yJ9_min_7cf53 : MethodName := ⟨RJ9, "min", "(II)I"⟩
def RJ10 : String := "java/lang/System"
def TJ10 : u_T := fun k => match k with
  | _ => ("", "", "", false)
def tyJ10 : Nat → FieldType := fun k => match k with
  | _ => .int
abbrev wsJ100 : List Cond := u_ws RJ10 TJ10 0
theorem nmJ10 : ∀ a, a < 0 → ∀ b, b < 0 → a ≠ b → (TJ10 a).2.1 ≠ (TJ10 b).2.1 := by decide +kernel
theorem tyJ10_ok : ∀ k, k < 0 → parseFieldDescriptor (TJ10 k).2.2.1 = some (tyJ10 k) := by decide +kernel
def RL : String := "StiltWaysLaw"
abbrev cL_law : ByteArray := code
def yL_law : MethodName := ⟨RL, "law", "([I)Z"⟩
abbrev vwCl : List vw_C := [(RX0, TX0, 3), (RX1, TX1, 17), (RX2, TX2, 4), (RX3, TX3, 9), (RX4, TX4, 3), (RX5, TX5, 13), (RX6, TX6, 8), (RX7, TX7, 20)]
/-! one list of words for all methods: what the tables say and a call may carry -/
def gBig : List Cond := lw_tbl.filter goodWord
theorem gBm {w : Cond} (i : Nat) (h : lw_tbl[i]? = some w) (hg : goodWord w = true) : w ∈ gBig := List.mem_filter.mpr ⟨List.mem_of_getElem? h, hg⟩
theorem gBin {C : String} {T : u_T} {N : Nat} (h : (u_ws C T N).all (fun w => decide (w ∈ lw_tbl) && goodWord w) = true) : ∀ w ∈ u_ws C T N, w ∈ gBig := fun w hw => by
  have := List.all_eq_true.mp h w hw
  rw [Bool.and_eq_true, decide_eq_true_eq] at this
  exact List.mem_filter.mpr this
theorem gBgood {c : Cond} {ls : List Cond} (hl : ∀ w ∈ ls, w ∈ gBig) {c2 : Cond} (h : c ∈ gBig) : GoodIn (c2 :: gBig) (ls ++ (c :: gBig)) := by
  intro w hw
  have hb : w ∈ gBig := by
    rcases List.mem_append.mp hw with q | q
    · exact hl w q
    · rcases List.mem_cons.mp q with q | q
      · rw [q]; exact h
      · exact q
  exact ⟨List.mem_cons_of_mem _ hb, good_of_word (List.mem_filter.mp hb).2⟩
theorem gBv {c2 c : Cond} {own C : String} {i : Nat} {y : MethodName} (h1 : Cond.methodLink own i y ∈ gBig) (h2 : Cond.instanceMethod y ∈ gBig) (h3 : Cond.selects C y y ∈ gBig) (h4 : Cond.initialized C ∈ gBig) (h : c ∈ gBig) : GoodIn (c2 :: gBig) (wsV own i C y (c :: gBig)) :=
  gBgood (ls := [.methodLink own i y, .instanceMethod y, .selects C y y, .initialized C]) (by
    intro w hw
    simp only [List.mem_cons, List.not_mem_nil, or_false] at hw
    rcases hw with rfl | rfl | rfl | rfl <;> assumption) h
theorem gBs {c2 c : Cond} {own : String} {i : Nat} {y : MethodName} (h1 : Cond.methodLink own i y ∈ gBig) (h2 : Cond.static y ∈ gBig) (h3 : Cond.initialized y.cls ∈ gBig) (h : c ∈ gBig) : GoodIn (c2 :: gBig) (va_wsS own i y (c :: gBig)) :=
  gBgood (ls := [.methodLink own i y, .static y, .initialized y.cls]) (by
    intro w hw
    simp only [List.mem_cons, List.not_mem_nil, or_false] at hw
    rcases hw with rfl | rfl | rfl <;> assumption) h
theorem gBn {c2 c : Cond} (h : c ∈ gBig) : GoodIn (c2 :: gBig) (c :: gBig) := gBgood (ls := []) (by intro w hw; cases hw) h
theorem gBc {c2 w : Cond} (h : w ∈ gBig) : w ∈ c2 :: gBig := List.mem_cons_of_mem _ h
theorem inB0 : ∀ w ∈ u_ws RX0 TX0 3, w ∈ gBig := gBin (by decide +kernel)
theorem inB1 : ∀ w ∈ u_ws RX1 TX1 17, w ∈ gBig := gBin (by decide +kernel)
theorem inB2 : ∀ w ∈ u_ws RX2 TX2 4, w ∈ gBig := gBin (by decide +kernel)
theorem inB3 : ∀ w ∈ u_ws RX3 TX3 9, w ∈ gBig := gBin (by decide +kernel)
theorem inB4 : ∀ w ∈ u_ws RX4 TX4 3, w ∈ gBig := gBin (by decide +kernel)
theorem inB5 : ∀ w ∈ u_ws RX5 TX5 13, w ∈ gBig := gBin (by decide +kernel)
theorem inB6 : ∀ w ∈ u_ws RX6 TX6 8, w ∈ gBig := gBin (by decide +kernel)
theorem inB7 : ∀ w ∈ u_ws RX7 TX7 20, w ∈ gBig := gBin (by decide +kernel)
theorem kini_L : Cond.initialized RL ∈ gBig := gBm 57 (by decide +kernel) rfl
theorem kini_X6 : Cond.initialized RX6 ∈ gBig := gBm 58 (by decide +kernel) rfl
theorem kini_X1 : Cond.initialized RX1 ∈ gBig := gBm 59 (by decide +kernel) rfl
theorem kini_X3 : Cond.initialized RX3 ∈ gBig := gBm 60 (by decide +kernel) rfl
theorem kini_X5 : Cond.initialized RX5 ∈ gBig := gBm 61 (by decide +kernel) rfl
theorem kini_X4 : Cond.initialized RX4 ∈ gBig := gBm 62 (by decide +kernel) rfl
theorem kini_X0 : Cond.initialized RX0 ∈ gBig := gBm 63 (by decide +kernel) rfl
theorem kini_X2 : Cond.initialized RX2 ∈ gBig := gBm 64 (by decide +kernel) rfl
theorem kini_X7 : Cond.initialized RX7 ∈ gBig := gBm 65 (by decide +kernel) rfl
theorem kini_J9 : Cond.initialized "java/lang/Math" ∈ gBig := gBm 66 (by decide +kernel) rfl
theorem kini_J6 : Cond.initialized RJ6 ∈ gBig := gBm 67 (by decide +kernel) rfl
theorem kini_J10 : Cond.initialized "java/lang/System" ∈ gBig := gBm 68 (by decide +kernel) rfl
theorem kcl_L_7 : Cond.classLink RL 7 RX6 ∈ gBig := gBm 69 (by decide +kernel) rfl
theorem kins_X6 : Cond.instantiable RX6 8 ∈ gBig := gBm 70 (by decide +kernel) rfl
theorem km_L_9 : Cond.methodLink RL 9 yX6_init ∈ gBig := gBm 71 (by decide +kernel) rfl
theorem kin_X6_init : Cond.instanceMethod yX6_init ∈ gBig := gBm 72 (by decide +kernel) rfl
theorem kc_X6_init : Cond.code yX6_init cX6_init 2 none ∈ gBig := gBm 73 (by decide +kernel) rfl
theorem km_X6_1 : Cond.methodLink RX6 1 objectInit ∈ gBig := gBm 74 (by decide +kernel) rfl
theorem kin_Obj : Cond.instanceMethod objectInit ∈ gBig := gBm 75 (by decide +kernel) rfl
theorem kc_Obj : Cond.code objectInit ⟨#[0xb1]⟩ 1 none ∈ gBig := gBm 76 (by decide +kernel) rfl
theorem kcl_X6_7 : Cond.classLink RX6 7 RX1 ∈ gBig := gBm 77 (by decide +kernel) rfl
theorem kins_X1 : Cond.instantiable RX1 17 ∈ gBig := gBm 78 (by decide +kernel) rfl
theorem kin_X1_init : Cond.instanceMethod yX1_init ∈ gBig := gBm 80 (by decide +kernel) rfl
theorem kc_X1_init : Cond.code yX1_init cX1_init 1 none ∈ gBig := gBm 81 (by decide +kernel) rfl
theorem km_X1_3 : Cond.methodLink RX1 3 objectInit ∈ gBig := gBm 82 (by decide +kernel) rfl
theorem kcl_X1_21 : Cond.classLink RX1 21 "[[I" ∈ gBig := gBm 83 (by decide +kernel) rfl
theorem kf_X5_38 : Cond.fieldLink RX5 38 RX1 "places" "I" ∈ gBig := gBm 85 (by decide +kernel) rfl
theorem kf_X1_51 : Cond.fieldLink RX1 51 RX1 "places" "I" ∈ gBig := gBm 86 (by decide +kernel) rfl
theorem kf_X6_58 : Cond.fieldLink RX6 58 RX1 "places" "I" ∈ gBig := gBm 87 (by decide +kernel) rfl
theorem kf_X1_9 : Cond.fieldLink RX1 9 RX1 "depths" "[I" ∈ gBig := gBm 88 (by decide +kernel) rfl
theorem kf_X6_71 : Cond.fieldLink RX6 71 RX1 "depths" "[I" ∈ gBig := gBm 89 (by decide +kernel) rfl
theorem kf_X1_15 : Cond.fieldLink RX1 15 RX1 "splices" "[I" ∈ gBig := gBm 90 (by decide +kernel) rfl
theorem kf_X5_72 : Cond.fieldLink RX5 72 RX1 "splices" "[I" ∈ gBig := gBm 91 (by decide +kernel) rfl
theorem kf_X6_90 : Cond.fieldLink RX6 90 RX1 "splices" "[I" ∈ gBig := gBm 92 (by decide +kernel) rfl
theorem kf_X1_18 : Cond.fieldLink RX1 18 RX1 "silts" "[I" ∈ gBig := gBm 93 (by decide +kernel) rfl
theorem kf_X6_82 : Cond.fieldLink RX6 82 RX1 "silts" "[I" ∈ gBig := gBm 94 (by decide +kernel) rfl
theorem kf_X1_23 : Cond.fieldLink RX1 23 RX1 "minutes" "[[I" ∈ gBig := gBm 95 (by decide +kernel) rfl
theorem kf_X5_78 : Cond.fieldLink RX5 78 RX1 "minutes" "[[I" ∈ gBig := gBm 96 (by decide +kernel) rfl
theorem kf_X6_93 : Cond.fieldLink RX6 93 RX1 "minutes" "[[I" ∈ gBig := gBm 97 (by decide +kernel) rfl
theorem kf_X1_26 : Cond.fieldLink RX1 26 RX1 "tideAt" "[I" ∈ gBig := gBm 98 (by decide +kernel) rfl
theorem kf_X6_104 : Cond.fieldLink RX6 104 RX1 "tideAt" "[I" ∈ gBig := gBm 99 (by decide +kernel) rfl
theorem kf_X1_54 : Cond.fieldLink RX1 54 RX1 "floodTold" "I" ∈ gBig := gBm 100 (by decide +kernel) rfl
theorem kf_X6_107 : Cond.fieldLink RX6 107 RX1 "floodTold" "I" ∈ gBig := gBm 101 (by decide +kernel) rfl
theorem kf_X1_29 : Cond.fieldLink RX1 29 RX1 "reach" "I" ∈ gBig := gBm 102 (by decide +kernel) rfl
theorem kf_X6_110 : Cond.fieldLink RX6 110 RX1 "reach" "I" ∈ gBig := gBm 103 (by decide +kernel) rfl
theorem kf_X0_18 : Cond.fieldLink RX0 18 RX1 "people" "I" ∈ gBig := gBm 104 (by decide +kernel) rfl
theorem kf_X1_57 : Cond.fieldLink RX1 57 RX1 "people" "I" ∈ gBig := gBm 105 (by decide +kernel) rfl
theorem kf_X6_113 : Cond.fieldLink RX6 113 RX1 "people" "I" ∈ gBig := gBm 106 (by decide +kernel) rfl
theorem kf_X1_33 : Cond.fieldLink RX1 33 RX1 "kinds" "[I" ∈ gBig := gBm 107 (by decide +kernel) rfl
theorem kf_X5_84 : Cond.fieldLink RX5 84 RX1 "kinds" "[I" ∈ gBig := gBm 108 (by decide +kernel) rfl
theorem kf_X6_123 : Cond.fieldLink RX6 123 RX1 "kinds" "[I" ∈ gBig := gBm 109 (by decide +kernel) rfl
theorem kf_X1_36 : Cond.fieldLink RX1 36 RX1 "told" "[I" ∈ gBig := gBm 110 (by decide +kernel) rfl
theorem kf_X0_25 : Cond.fieldLink RX0 25 RX1 "told" "[I" ∈ gBig := gBm 111 (by decide +kernel) rfl
theorem kf_X5_81 : Cond.fieldLink RX5 81 RX1 "told" "[I" ∈ gBig := gBm 112 (by decide +kernel) rfl
theorem kf_X6_126 : Cond.fieldLink RX6 126 RX1 "told" "[I" ∈ gBig := gBm 113 (by decide +kernel) rfl
theorem kf_X1_39 : Cond.fieldLink RX1 39 RX1 "homes" "[I" ∈ gBig := gBm 114 (by decide +kernel) rfl
theorem kf_X5_45 : Cond.fieldLink RX5 45 RX1 "homes" "[I" ∈ gBig := gBm 115 (by decide +kernel) rfl
theorem kf_X6_132 : Cond.fieldLink RX6 132 RX1 "homes" "[I" ∈ gBig := gBm 116 (by decide +kernel) rfl
theorem kf_X4_24 : Cond.fieldLink RX4 24 RX1 "needs" "I" ∈ gBig := gBm 117 (by decide +kernel) rfl
theorem kf_X1_60 : Cond.fieldLink RX1 60 RX1 "needs" "I" ∈ gBig := gBm 118 (by decide +kernel) rfl
theorem kf_X6_163 : Cond.fieldLink RX6 163 RX1 "needs" "I" ∈ gBig := gBm 119 (by decide +kernel) rfl
theorem kf_X1_42 : Cond.fieldLink RX1 42 RX1 "needers" "[I" ∈ gBig := gBm 120 (by decide +kernel) rfl
theorem kf_X4_29 : Cond.fieldLink RX4 29 RX1 "needers" "[I" ∈ gBig := gBm 121 (by decide +kernel) rfl
theorem kf_X6_201 : Cond.fieldLink RX6 201 RX1 "needers" "[I" ∈ gBig := gBm 122 (by decide +kernel) rfl
theorem kf_X1_45 : Cond.fieldLink RX1 45 RX1 "needPlaces" "[I" ∈ gBig := gBm 123 (by decide +kernel) rfl
theorem kf_X1_48 : Cond.fieldLink RX1 48 RX1 "needHours" "[I" ∈ gBig := gBm 124 (by decide +kernel) rfl
theorem kf_X1_63 : Cond.fieldLink RX1 63 RX1 "yearsGone" "I" ∈ gBig := gBm 125 (by decide +kernel) rfl
theorem kf_X5_87 : Cond.fieldLink RX5 87 RX1 "yearsGone" "I" ∈ gBig := gBm 126 (by decide +kernel) rfl
theorem kf_X6_166 : Cond.fieldLink RX6 166 RX1 "yearsGone" "I" ∈ gBig := gBm 127 (by decide +kernel) rfl
theorem karr_arrayClass_106 : Cond.arrayClass Jvm.ClassFile.FieldType.int ∈ gBig := gBm 163 (by decide +kernel) rfl
theorem kcl_X6_19 : Cond.classLink RX6 19 RX3 ∈ gBig := gBm 164 (by decide +kernel) rfl
theorem kins_X3 : Cond.instantiable RX3 9 ∈ gBig := gBm 165 (by decide +kernel) rfl
theorem kin_X3_init : Cond.instanceMethod yX3_init ∈ gBig := gBm 167 (by decide +kernel) rfl
theorem kc_X3_init : Cond.code yX3_init cX3_init 1 none ∈ gBig := gBm 168 (by decide +kernel) rfl
theorem km_X3_3 : Cond.methodLink RX3 3 objectInit ∈ gBig := gBm 169 (by decide +kernel) rfl
theorem kf_X3_24 : Cond.fieldLink RX3 24 RX3 "length" "I" ∈ gBig := gBm 170 (by decide +kernel) rfl
theorem kf_X6_139 : Cond.fieldLink RX6 139 RX3 "length" "I" ∈ gBig := gBm 171 (by decide +kernel) rfl
theorem kf_X3_9 : Cond.fieldLink RX3 9 RX3 "signs" "[I" ∈ gBig := gBm 172 (by decide +kernel) rfl
theorem kf_X3_49 : Cond.fieldLink RX3 49 RX3 "next" "I" ∈ gBig := gBm 173 (by decide +kernel) rfl
theorem kf_X3_55 : Cond.fieldLink RX3 55 RX3 "fault" "I" ∈ gBig := gBm 174 (by decide +kernel) rfl
theorem kf_X3_52 : Cond.fieldLink RX3 52 RX3 "postsTold" "I" ∈ gBig := gBm 175 (by decide +kernel) rfl
theorem kf_X3_31 : Cond.fieldLink RX3 31 RX3 "rows" "I" ∈ gBig := gBm 176 (by decide +kernel) rfl
theorem kf_X1_76 : Cond.fieldLink RX1 76 RX3 "rows" "I" ∈ gBig := gBm 177 (by decide +kernel) rfl
theorem kf_X3_15 : Cond.fieldLink RX3 15 RX3 "firsts" "[I" ∈ gBig := gBm 178 (by decide +kernel) rfl
theorem kf_X1_81 : Cond.fieldLink RX1 81 RX3 "firsts" "[I" ∈ gBig := gBm 179 (by decide +kernel) rfl
theorem kf_X3_18 : Cond.fieldLink RX3 18 RX3 "seconds" "[I" ∈ gBig := gBm 180 (by decide +kernel) rfl
theorem kf_X1_91 : Cond.fieldLink RX1 91 RX3 "seconds" "[I" ∈ gBig := gBm 181 (by decide +kernel) rfl
theorem kf_X3_21 : Cond.fieldLink RX3 21 RX3 "lasts" "[I" ∈ gBig := gBm 182 (by decide +kernel) rfl
theorem kf_X1_84 : Cond.fieldLink RX1 84 RX3 "lasts" "[I" ∈ gBig := gBm 183 (by decide +kernel) rfl
theorem kcl_X6_26 : Cond.classLink RX6 26 RX5 ∈ gBig := gBm 203 (by decide +kernel) rfl
theorem kins_X5 : Cond.instantiable RX5 13 ∈ gBig := gBm 204 (by decide +kernel) rfl
theorem kin_X5_init : Cond.instanceMethod yX5_init ∈ gBig := gBm 206 (by decide +kernel) rfl
theorem kc_X5_init : Cond.code yX5_init cX5_init 1 none ∈ gBig := gBm 207 (by decide +kernel) rfl
theorem km_X5_3 : Cond.methodLink RX5 3 objectInit ∈ gBig := gBm 208 (by decide +kernel) rfl
theorem kcl_X5_18 : Cond.classLink RX5 18 "[[I" ∈ gBig := gBm 209 (by decide +kernel) rfl
theorem kf_X5_44 : Cond.fieldLink RX5 44 RX5 "places" "I" ∈ gBig := gBm 210 (by decide +kernel) rfl
theorem kf_X5_48 : Cond.fieldLink RX5 48 RX5 "home" "I" ∈ gBig := gBm 211 (by decide +kernel) rfl
theorem kf_X5_51 : Cond.fieldLink RX5 51 RX5 "start" "I" ∈ gBig := gBm 212 (by decide +kernel) rfl
theorem kf_X5_69 : Cond.fieldLink RX5 69 RX5 "posts" "I" ∈ gBig := gBm 213 (by decide +kernel) rfl
theorem kf_X5_9 : Cond.fieldLink RX5 9 RX5 "postAt" "[I" ∈ gBig := gBm 214 (by decide +kernel) rfl
theorem kf_X5_15 : Cond.fieldLink RX5 15 RX5 "longer" "[I" ∈ gBig := gBm 215 (by decide +kernel) rfl
theorem kf_X5_20 : Cond.fieldLink RX5 20 RX5 "footing" "[[I" ∈ gBig := gBm 216 (by decide +kernel) rfl
theorem kf_X5_23 : Cond.fieldLink RX5 23 RX5 "at" "[[I" ∈ gBig := gBm 217 (by decide +kernel) rfl
theorem kf_X5_26 : Cond.fieldLink RX5 26 RX5 "came" "[I" ∈ gBig := gBm 218 (by decide +kernel) rfl
theorem kf_X5_75 : Cond.fieldLink RX5 75 RX5 "edges" "I" ∈ gBig := gBm 219 (by decide +kernel) rfl
theorem kf_X5_29 : Cond.fieldLink RX5 29 RX5 "ends" "[I" ∈ gBig := gBm 220 (by decide +kernel) rfl
theorem kf_X5_32 : Cond.fieldLink RX5 32 RX5 "otherEnds" "[I" ∈ gBig := gBm 221 (by decide +kernel) rfl
theorem kf_X5_35 : Cond.fieldLink RX5 35 RX5 "paces" "[I" ∈ gBig := gBm 222 (by decide +kernel) rfl
theorem kcl_X6_33 : Cond.classLink RX6 33 RX4 ∈ gBig := gBm 250 (by decide +kernel) rfl
theorem kins_X4 : Cond.instantiable RX4 3 ∈ gBig := gBm 251 (by decide +kernel) rfl
theorem kin_X4_init : Cond.instanceMethod yX4_init ∈ gBig := gBm 253 (by decide +kernel) rfl
theorem kc_X4_init : Cond.code yX4_init cX4_init 1 none ∈ gBig := gBm 254 (by decide +kernel) rfl
theorem km_X4_3 : Cond.methodLink RX4 3 objectInit ∈ gBig := gBm 255 (by decide +kernel) rfl
theorem kcl_X4_15 : Cond.classLink RX4 15 "[[I" ∈ gBig := gBm 256 (by decide +kernel) rfl
theorem kf_X4_20 : Cond.fieldLink RX4 20 RX4 "needy" "I" ∈ gBig := gBm 257 (by decide +kernel) rfl
theorem kf_X4_9 : Cond.fieldLink RX4 9 RX4 "suits" "[I" ∈ gBig := gBm 258 (by decide +kernel) rfl
theorem kf_X4_17 : Cond.fieldLink RX4 17 RX4 "fewest" "[[I" ∈ gBig := gBm 259 (by decide +kernel) rfl
theorem kcl_X6_40 : Cond.classLink RX6 40 RX0 ∈ gBig := gBm 267 (by decide +kernel) rfl
theorem kins_X0 : Cond.instantiable RX0 3 ∈ gBig := gBm 268 (by decide +kernel) rfl
theorem kin_X0_init : Cond.instanceMethod yX0_init ∈ gBig := gBm 270 (by decide +kernel) rfl
theorem kc_X0_init : Cond.code yX0_init cX0_init 1 none ∈ gBig := gBm 271 (by decide +kernel) rfl
theorem km_X0_3 : Cond.methodLink RX0 3 objectInit ∈ gBig := gBm 272 (by decide +kernel) rfl
theorem kf_X0_24 : Cond.fieldLink RX0 24 RX0 "people" "I" ∈ gBig := gBm 273 (by decide +kernel) rfl
theorem kf_X0_9 : Cond.fieldLink RX0 9 RX0 "drowning" "[I" ∈ gBig := gBm 274 (by decide +kernel) rfl
theorem kf_X0_15 : Cond.fieldLink RX0 15 RX0 "fewest" "[I" ∈ gBig := gBm 275 (by decide +kernel) rfl
theorem kcl_X6_47 : Cond.classLink RX6 47 RX2 ∈ gBig := gBm 283 (by decide +kernel) rfl
theorem kins_X2 : Cond.instantiable RX2 4 ∈ gBig := gBm 285 (by decide +kernel) rfl
theorem kin_X2_init : Cond.instanceMethod yX2_init ∈ gBig := gBm 287 (by decide +kernel) rfl
theorem kc_X2_init : Cond.code yX2_init cX2_init 1 none ∈ gBig := gBm 288 (by decide +kernel) rfl
theorem km_X2_3 : Cond.methodLink RX2 3 objectInit ∈ gBig := gBm 289 (by decide +kernel) rfl
theorem kf_X2_15 : Cond.fieldLink RX2 15 RX2 "there" "Z" ∈ gBig := gBm 290 (by decide +kernel) rfl
theorem kf_X6_273 : Cond.fieldLink RX6 273 RX2 "there" "Z" ∈ gBig := gBm 291 (by decide +kernel) rfl
theorem kf_X2_19 : Cond.fieldLink RX2 19 RX2 "lane" "I" ∈ gBig := gBm 292 (by decide +kernel) rfl
theorem kf_X6_279 : Cond.fieldLink RX6 279 RX2 "lane" "I" ∈ gBig := gBm 293 (by decide +kernel) rfl
theorem kf_X2_23 : Cond.fieldLink RX2 23 RX2 "length" "I" ∈ gBig := gBm 294 (by decide +kernel) rfl
theorem kf_X6_253 : Cond.fieldLink RX6 253 RX2 "length" "I" ∈ gBig := gBm 295 (by decide +kernel) rfl
theorem kf_X2_9 : Cond.fieldLink RX2 9 RX2 "items" "[I" ∈ gBig := gBm 296 (by decide +kernel) rfl
theorem kf_X6_254 : Cond.fieldLink RX6 254 RX2 "items" "[I" ∈ gBig := gBm 297 (by decide +kernel) rfl
theorem kf_X6_10 : Cond.fieldLink RX6 10 RX6 "now" "LStiltWays$Lagoon;" ∈ gBig := gBm 307 (by decide +kernel) rfl
theorem kf_X6_16 : Cond.fieldLink RX6 16 RX6 "kept" "LStiltWays$Lagoon;" ∈ gBig := gBm 308 (by decide +kernel) rfl
theorem kf_X6_246 : Cond.fieldLink RX6 246 RX6 "keeps" "Z" ∈ gBig := gBm 309 (by decide +kernel) rfl
theorem kf_X6_22 : Cond.fieldLink RX6 22 RX6 "tape" "LStiltWays$Tape;" ∈ gBig := gBm 310 (by decide +kernel) rfl
theorem kf_X6_29 : Cond.fieldLink RX6 29 RX6 "walk" "LStiltWays$Walk;" ∈ gBig := gBm 311 (by decide +kernel) rfl
theorem kf_X6_36 : Cond.fieldLink RX6 36 RX6 "village" "LStiltWays$Village;" ∈ gBig := gBm 312 (by decide +kernel) rfl
theorem kf_X6_43 : Cond.fieldLink RX6 43 RX6 "exchange" "LStiltWays$Exchange;" ∈ gBig := gBm 313 (by decide +kernel) rfl
theorem kf_X6_49 : Cond.fieldLink RX6 49 RX6 "sheets" "[LStiltWays$Sheet;" ∈ gBig := gBm 314 (by decide +kernel) rfl
theorem km_L_13 : Cond.methodLink RL 13 yX6_place ∈ gBig := gBm 332 (by decide +kernel) rfl
theorem kin_X6_place : Cond.instanceMethod yX6_place ∈ gBig := gBm 333 (by decide +kernel) rfl
theorem ksel_X6_place : Cond.selects RX6 yX6_place yX6_place ∈ gBig := gBm 334 (by decide +kernel) rfl
theorem kc_X6_place : Cond.code yX6_place cX6_place 2 (some .int) ∈ gBig := gBm 335 (by decide +kernel) rfl
theorem km_X6_54 : Cond.methodLink RX6 54 yX6_within ∈ gBig := gBm 336 (by decide +kernel) rfl
theorem kst_X6_within : Cond.static yX6_within ∈ gBig := gBm 337 (by decide +kernel) rfl
theorem kc_X6_within : Cond.code yX6_within cX6_within 3 (some .boolean) ∈ gBig := gBm 338 (by decide +kernel) rfl
theorem km_X6_62 : Cond.methodLink RX6 62 yX1_addPlace ∈ gBig := gBm 339 (by decide +kernel) rfl
theorem kin_X1_addPlace : Cond.instanceMethod yX1_addPlace ∈ gBig := gBm 340 (by decide +kernel) rfl
theorem ksel_X1_addPlace : Cond.selects RX1 yX1_addPlace yX1_addPlace ∈ gBig := gBm 341 (by decide +kernel) rfl
theorem kc_X1_addPlace : Cond.code yX1_addPlace cX1_addPlace 3 (some .int) ∈ gBig := gBm 342 (by decide +kernel) rfl
theorem km_L_18 : Cond.methodLink RL 18 yX6_make ∈ gBig := gBm 343 (by decide +kernel) rfl
theorem kin_X6_make : Cond.instanceMethod yX6_make ∈ gBig := gBm 344 (by decide +kernel) rfl
theorem ksel_X6_make : Cond.selects RX6 yX6_make yX6_make ∈ gBig := gBm 345 (by decide +kernel) rfl
theorem kc_X6_make : Cond.code yX6_make cX6_make 4 (some .int) ∈ gBig := gBm 346 (by decide +kernel) rfl
theorem km_X6_66 : Cond.methodLink RX6 66 yX1_hasPlace ∈ gBig := gBm 347 (by decide +kernel) rfl
theorem kin_X1_hasPlace : Cond.instanceMethod yX1_hasPlace ∈ gBig := gBm 348 (by decide +kernel) rfl
theorem ksel_X1_hasPlace : Cond.selects RX1 yX1_hasPlace yX1_hasPlace ∈ gBig := gBm 349 (by decide +kernel) rfl
theorem kc_X1_hasPlace : Cond.code yX1_hasPlace cX1_hasPlace 2 (some .boolean) ∈ gBig := gBm 350 (by decide +kernel) rfl
theorem kk_X6_70 : Cond.constant RX6 70 (-100001) ∈ gBig := gBm 352 (by decide +kernel) rfl
theorem km_X6_75 : Cond.methodLink RX6 75 yX6_changed ∈ gBig := gBm 353 (by decide +kernel) rfl
theorem kst_X6_changed : Cond.static yX6_changed ∈ gBig := gBm 354 (by decide +kernel) rfl
theorem kc_X6_changed : Cond.code yX6_changed cX6_changed 4 (some .int) ∈ gBig := gBm 355 (by decide +kernel) rfl
theorem km_X6_79 : Cond.methodLink RX6 79 yX6_makeSplices ∈ gBig := gBm 356 (by decide +kernel) rfl
theorem kin_X6_makeSplices : Cond.instanceMethod yX6_makeSplices ∈ gBig := gBm 358 (by decide +kernel) rfl
theorem kc_X6_makeSplices : Cond.code yX6_makeSplices cX6_makeSplices 3 (some .int) ∈ gBig := gBm 359 (by decide +kernel) rfl
theorem km_X6_85 : Cond.methodLink RX6 85 yX1_postsBeside ∈ gBig := gBm 360 (by decide +kernel) rfl
theorem kin_X1_postsBeside : Cond.instanceMethod yX1_postsBeside ∈ gBig := gBm 361 (by decide +kernel) rfl
theorem ksel_X1_postsBeside : Cond.selects RX1 yX1_postsBeside yX1_postsBeside ∈ gBig := gBm 362 (by decide +kernel) rfl
theorem kc_X1_postsBeside : Cond.code yX1_postsBeside cX1_postsBeside 4 (some .int) ∈ gBig := gBm 363 (by decide +kernel) rfl
theorem kk_X6_89 : Cond.constant RX6 89 (-100003) ∈ gBig := gBm 364 (by decide +kernel) rfl
theorem km_L_23 : Cond.methodLink RL 23 yX6_path ∈ gBig := gBm 365 (by decide +kernel) rfl
theorem kin_X6_path : Cond.instanceMethod yX6_path ∈ gBig := gBm 366 (by decide +kernel) rfl
theorem ksel_X6_path : Cond.selects RX6 yX6_path yX6_path ∈ gBig := gBm 367 (by decide +kernel) rfl
theorem kc_X6_path : Cond.code yX6_path cX6_path 5 (some .int) ∈ gBig := gBm 368 (by decide +kernel) rfl
theorem km_X6_97 : Cond.methodLink RX6 97 yX1_join ∈ gBig := gBm 369 (by decide +kernel) rfl
theorem kin_X1_join : Cond.instanceMethod yX1_join ∈ gBig := gBm 370 (by decide +kernel) rfl
theorem ksel_X1_join : Cond.selects RX1 yX1_join yX1_join ∈ gBig := gBm 371 (by decide +kernel) rfl
theorem kc_X1_join : Cond.code yX1_join cX1_join 4 none ∈ gBig := gBm 372 (by decide +kernel) rfl
theorem km_L_27 : Cond.methodLink RL 27 yX6_tide ∈ gBig := gBm 373 (by decide +kernel) rfl
theorem kin_X6_tide : Cond.instanceMethod yX6_tide ∈ gBig := gBm 374 (by decide +kernel) rfl
theorem ksel_X6_tide : Cond.selects RX6 yX6_tide yX6_tide ∈ gBig := gBm 375 (by decide +kernel) rfl
theorem kc_X6_tide : Cond.code yX6_tide cX6_tide 3 (some .int) ∈ gBig := gBm 376 (by decide +kernel) rfl
theorem km_X6_101 : Cond.methodLink RX6 101 yX6_isHour ∈ gBig := gBm 377 (by decide +kernel) rfl
theorem kst_X6_isHour : Cond.static yX6_isHour ∈ gBig := gBm 378 (by decide +kernel) rfl
theorem kc_X6_isHour : Cond.code yX6_isHour cX6_isHour 1 (some .boolean) ∈ gBig := gBm 379 (by decide +kernel) rfl
theorem km_L_32 : Cond.methodLink RL 32 yX6_set ∈ gBig := gBm 380 (by decide +kernel) rfl
theorem kin_X6_set : Cond.instanceMethod yX6_set ∈ gBig := gBm 381 (by decide +kernel) rfl
theorem ksel_X6_set : Cond.selects RX6 yX6_set yX6_set ∈ gBig := gBm 382 (by decide +kernel) rfl
theorem kc_X6_set : Cond.code yX6_set cX6_set 4 (some .int) ∈ gBig := gBm 383 (by decide +kernel) rfl
theorem km_L_36 : Cond.methodLink RL 36 yX6_person ∈ gBig := gBm 384 (by decide +kernel) rfl
theorem kin_X6_person : Cond.instanceMethod yX6_person ∈ gBig := gBm 385 (by decide +kernel) rfl
theorem ksel_X6_person : Cond.selects RX6 yX6_person yX6_person ∈ gBig := gBm 386 (by decide +kernel) rfl
theorem kc_X6_person : Cond.code yX6_person cX6_person 4 (some .int) ∈ gBig := gBm 387 (by decide +kernel) rfl
theorem km_X6_116 : Cond.methodLink RX6 116 yX1_addPerson ∈ gBig := gBm 388 (by decide +kernel) rfl
theorem kin_X1_addPerson : Cond.instanceMethod yX1_addPerson ∈ gBig := gBm 389 (by decide +kernel) rfl
theorem ksel_X1_addPerson : Cond.selects RX1 yX1_addPerson yX1_addPerson ∈ gBig := gBm 390 (by decide +kernel) rfl
theorem kc_X1_addPerson : Cond.code yX1_addPerson cX1_addPerson 4 (some .int) ∈ gBig := gBm 391 (by decide +kernel) rfl
theorem km_L_40 : Cond.methodLink RL 40 yX6_of ∈ gBig := gBm 392 (by decide +kernel) rfl
theorem kin_X6_of : Cond.instanceMethod yX6_of ∈ gBig := gBm 393 (by decide +kernel) rfl
theorem ksel_X6_of : Cond.selects RX6 yX6_of yX6_of ∈ gBig := gBm 394 (by decide +kernel) rfl
theorem kc_X6_of : Cond.code yX6_of cX6_of 3 (some .int) ∈ gBig := gBm 395 (by decide +kernel) rfl
theorem km_X6_120 : Cond.methodLink RX6 120 yX1_hasPerson ∈ gBig := gBm 396 (by decide +kernel) rfl
theorem kin_X1_hasPerson : Cond.instanceMethod yX1_hasPerson ∈ gBig := gBm 397 (by decide +kernel) rfl
theorem ksel_X1_hasPerson : Cond.selects RX1 yX1_hasPerson yX1_hasPerson ∈ gBig := gBm 398 (by decide +kernel) rfl
theorem kc_X1_hasPerson : Cond.code yX1_hasPerson cX1_hasPerson 2 (some .boolean) ∈ gBig := gBm 399 (by decide +kernel) rfl
theorem km_X6_129 : Cond.methodLink RX6 129 yX1_lengthOf ∈ gBig := gBm 400 (by decide +kernel) rfl
theorem kin_X1_lengthOf : Cond.instanceMethod yX1_lengthOf ∈ gBig := gBm 401 (by decide +kernel) rfl
theorem ksel_X1_lengthOf : Cond.selects RX1 yX1_lengthOf yX1_lengthOf ∈ gBig := gBm 402 (by decide +kernel) rfl
theorem kc_X1_lengthOf : Cond.code yX1_lengthOf cX1_lengthOf 2 (some .int) ∈ gBig := gBm 403 (by decide +kernel) rfl
theorem km_X1_113 : Cond.methodLink RX1 113 yX1_lengthByKind ∈ gBig := gBm 404 (by decide +kernel) rfl
theorem kin_X1_lengthByKind : Cond.instanceMethod yX1_lengthByKind ∈ gBig := gBm 405 (by decide +kernel) rfl
theorem ksel_X1_lengthByKind : Cond.selects RX1 yX1_lengthByKind yX1_lengthByKind ∈ gBig := gBm 406 (by decide +kernel) rfl
theorem kc_X1_lengthByKind : Cond.code yX1_lengthByKind cX1_lengthByKind 4 (some .int) ∈ gBig := gBm 407 (by decide +kernel) rfl
theorem km_X1_101 : Cond.methodLink RX1 101 yJ9_max_7cf53 ∈ gBig := gBm 408 (by decide +kernel) rfl
theorem kst_J9_max_7cf53 : Cond.static yJ9_max_7cf53 ∈ gBig := gBm 409 (by decide +kernel) rfl
theorem kc_J9_max_7cf53 : Cond.code yJ9_max_7cf53 cJ9_max_7cf53 2 (some .int) ∈ gBig := gBm 410 (by decide +kernel) rfl
theorem km_L_46 : Cond.methodLink RL 46 yX6_type ∈ gBig := gBm 411 (by decide +kernel) rfl
theorem kin_X6_type : Cond.instanceMethod yX6_type ∈ gBig := gBm 412 (by decide +kernel) rfl
theorem ksel_X6_type : Cond.selects RX6 yX6_type yX6_type ∈ gBig := gBm 413 (by decide +kernel) rfl
theorem kc_X6_type : Cond.code yX6_type cX6_type 5 (some .int) ∈ gBig := gBm 414 (by decide +kernel) rfl
theorem km_X6_135 : Cond.methodLink RX6 135 yX6_byteOf ∈ gBig := gBm 415 (by decide +kernel) rfl
theorem kst_X6_byteOf : Cond.static yX6_byteOf ∈ gBig := gBm 416 (by decide +kernel) rfl
theorem kc_X6_byteOf : Cond.code yX6_byteOf cX6_byteOf 3 (some .int) ∈ gBig := gBm 417 (by decide +kernel) rfl
theorem kk_X6_285 : Cond.constantLong RX6 285 (255) ∈ gBig := gBm 418 (by decide +kernel) rfl
theorem km_X6_142 : Cond.methodLink RX6 142 yX3_append ∈ gBig := gBm 419 (by decide +kernel) rfl
theorem kin_X3_append : Cond.instanceMethod yX3_append ∈ gBig := gBm 420 (by decide +kernel) rfl
theorem ksel_X3_append : Cond.selects RX3 yX3_append yX3_append ∈ gBig := gBm 421 (by decide +kernel) rfl
theorem kc_X3_append : Cond.code yX3_append cX3_append 2 none ∈ gBig := gBm 422 (by decide +kernel) rfl
theorem km_L_51 : Cond.methodLink RL 51 yX6_lagoon ∈ gBig := gBm 423 (by decide +kernel) rfl
theorem kin_X6_lagoon : Cond.instanceMethod yX6_lagoon ∈ gBig := gBm 424 (by decide +kernel) rfl
theorem ksel_X6_lagoon : Cond.selects RX6 yX6_lagoon yX6_lagoon ∈ gBig := gBm 425 (by decide +kernel) rfl
theorem kc_X6_lagoon : Cond.code yX6_lagoon cX6_lagoon 2 (some .int) ∈ gBig := gBm 426 (by decide +kernel) rfl
theorem km_X6_146 : Cond.methodLink RX6 146 yX3_readPlaces ∈ gBig := gBm 427 (by decide +kernel) rfl
theorem kin_X3_readPlaces : Cond.instanceMethod yX3_readPlaces ∈ gBig := gBm 428 (by decide +kernel) rfl
theorem ksel_X3_readPlaces : Cond.selects RX3 yX3_readPlaces yX3_readPlaces ∈ gBig := gBm 429 (by decide +kernel) rfl
theorem kc_X3_readPlaces : Cond.code yX3_readPlaces cX3_readPlaces 2 (some .int) ∈ gBig := gBm 430 (by decide +kernel) rfl
theorem km_X3_28 : Cond.methodLink RX3 28 yX3_begin ∈ gBig := gBm 431 (by decide +kernel) rfl
theorem kin_X3_begin : Cond.instanceMethod yX3_begin ∈ gBig := gBm 433 (by decide +kernel) rfl
theorem kc_X3_begin : Cond.code yX3_begin cX3_begin 1 none ∈ gBig := gBm 434 (by decide +kernel) rfl
theorem km_X3_34 : Cond.methodLink RX3 34 yX3_readPlace ∈ gBig := gBm 435 (by decide +kernel) rfl
theorem kin_X3_readPlace : Cond.instanceMethod yX3_readPlace ∈ gBig := gBm 437 (by decide +kernel) rfl
theorem kc_X3_readPlace : Cond.code yX3_readPlace cX3_readPlace 1 none ∈ gBig := gBm 438 (by decide +kernel) rfl
theorem km_X3_58 : Cond.methodLink RX3 58 yX3_readDepth ∈ gBig := gBm 439 (by decide +kernel) rfl
theorem kin_X3_readDepth : Cond.instanceMethod yX3_readDepth ∈ gBig := gBm 441 (by decide +kernel) rfl
theorem kc_X3_readDepth : Cond.code yX3_readDepth cX3_readDepth 1 (some .int) ∈ gBig := gBm 442 (by decide +kernel) rfl
theorem km_X3_61 : Cond.methodLink RX3 61 yX3_peek ∈ gBig := gBm 443 (by decide +kernel) rfl
theorem kin_X3_peek : Cond.instanceMethod yX3_peek ∈ gBig := gBm 445 (by decide +kernel) rfl
theorem kc_X3_peek : Cond.code yX3_peek cX3_peek 1 (some .int) ∈ gBig := gBm 446 (by decide +kernel) rfl
theorem km_X3_64 : Cond.methodLink RX3 64 yX3_readNumber ∈ gBig := gBm 447 (by decide +kernel) rfl
theorem kin_X3_readNumber : Cond.instanceMethod yX3_readNumber ∈ gBig := gBm 449 (by decide +kernel) rfl
theorem kc_X3_readNumber : Cond.code yX3_readNumber cX3_readNumber 5 (some .int) ∈ gBig := gBm 450 (by decide +kernel) rfl
theorem km_X3_71 : Cond.methodLink RX3 71 yX3_faultAt ∈ gBig := gBm 452 (by decide +kernel) rfl
theorem kin_X3_faultAt : Cond.instanceMethod yX3_faultAt ∈ gBig := gBm 454 (by decide +kernel) rfl
theorem kc_X3_faultAt : Cond.code yX3_faultAt cX3_faultAt 2 none ∈ gBig := gBm 455 (by decide +kernel) rfl
theorem km_X3_78 : Cond.methodLink RX3 78 yJ9_min_7cf53 ∈ gBig := gBm 456 (by decide +kernel) rfl
theorem kst_J9_min_7cf53 : Cond.static yJ9_min_7cf53 ∈ gBig := gBm 457 (by decide +kernel) rfl
theorem kc_J9_min_7cf53 : Cond.code yJ9_min_7cf53 cJ9_min_7cf53 2 (some .int) ∈ gBig := gBm 458 (by decide +kernel) rfl
theorem km_X3_37 : Cond.methodLink RX3 37 yX3_goesOn ∈ gBig := gBm 459 (by decide +kernel) rfl
theorem kin_X3_goesOn : Cond.instanceMethod yX3_goesOn ∈ gBig := gBm 461 (by decide +kernel) rfl
theorem kc_X3_goesOn : Cond.code yX3_goesOn cX3_goesOn 3 (some .boolean) ∈ gBig := gBm 462 (by decide +kernel) rfl
theorem km_X3_41 : Cond.methodLink RX3 41 yX3_outcome ∈ gBig := gBm 463 (by decide +kernel) rfl
theorem kin_X3_outcome : Cond.instanceMethod yX3_outcome ∈ gBig := gBm 465 (by decide +kernel) rfl
theorem kc_X3_outcome : Cond.code yX3_outcome cX3_outcome 1 (some .int) ∈ gBig := gBm 466 (by decide +kernel) rfl
theorem km_X6_150 : Cond.methodLink RX6 150 yX1_settle ∈ gBig := gBm 467 (by decide +kernel) rfl
theorem kin_X1_settle : Cond.instanceMethod yX1_settle ∈ gBig := gBm 468 (by decide +kernel) rfl
theorem ksel_X1_settle : Cond.selects RX1 yX1_settle yX1_settle ∈ gBig := gBm 469 (by decide +kernel) rfl
theorem kc_X1_settle : Cond.code yX1_settle cX1_settle 4 none ∈ gBig := gBm 470 (by decide +kernel) rfl
theorem km_X1_87 : Cond.methodLink RX1 87 yX1_addPlace ∈ gBig := gBm 471 (by decide +kernel) rfl
theorem km_L_56 : Cond.methodLink RL 56 yX6_paths ∈ gBig := gBm 472 (by decide +kernel) rfl
theorem kin_X6_paths : Cond.instanceMethod yX6_paths ∈ gBig := gBm 473 (by decide +kernel) rfl
theorem ksel_X6_paths : Cond.selects RX6 yX6_paths yX6_paths ∈ gBig := gBm 474 (by decide +kernel) rfl
theorem kc_X6_paths : Cond.code yX6_paths cX6_paths 2 (some .int) ∈ gBig := gBm 475 (by decide +kernel) rfl
theorem km_X6_154 : Cond.methodLink RX6 154 yX3_readPaths ∈ gBig := gBm 476 (by decide +kernel) rfl
theorem kin_X3_readPaths : Cond.instanceMethod yX3_readPaths ∈ gBig := gBm 477 (by decide +kernel) rfl
theorem ksel_X3_readPaths : Cond.selects RX3 yX3_readPaths yX3_readPaths ∈ gBig := gBm 478 (by decide +kernel) rfl
theorem kc_X3_readPaths : Cond.code yX3_readPaths cX3_readPaths 3 (some .int) ∈ gBig := gBm 479 (by decide +kernel) rfl
theorem km_X3_45 : Cond.methodLink RX3 45 yX3_readPath ∈ gBig := gBm 480 (by decide +kernel) rfl
theorem kin_X3_readPath : Cond.instanceMethod yX3_readPath ∈ gBig := gBm 482 (by decide +kernel) rfl
theorem kc_X3_readPath : Cond.code yX3_readPath cX3_readPath 2 none ∈ gBig := gBm 483 (by decide +kernel) rfl
theorem km_X3_68 : Cond.methodLink RX3 68 yX3_readLetter ∈ gBig := gBm 484 (by decide +kernel) rfl
theorem kin_X3_readLetter : Cond.instanceMethod yX3_readLetter ∈ gBig := gBm 486 (by decide +kernel) rfl
theorem kc_X3_readLetter : Cond.code yX3_readLetter cX3_readLetter 4 (some .int) ∈ gBig := gBm 487 (by decide +kernel) rfl
theorem km_X6_157 : Cond.methodLink RX6 157 yX1_joinAll ∈ gBig := gBm 488 (by decide +kernel) rfl
theorem kin_X1_joinAll : Cond.instanceMethod yX1_joinAll ∈ gBig := gBm 489 (by decide +kernel) rfl
theorem ksel_X1_joinAll : Cond.selects RX1 yX1_joinAll yX1_joinAll ∈ gBig := gBm 490 (by decide +kernel) rfl
theorem kc_X1_joinAll : Cond.code yX1_joinAll cX1_joinAll 3 none ∈ gBig := gBm 491 (by decide +kernel) rfl
theorem km_X1_94 : Cond.methodLink RX1 94 yX1_join ∈ gBig := gBm 492 (by decide +kernel) rfl
theorem km_L_60 : Cond.methodLink RL 60 yX6_count ∈ gBig := gBm 493 (by decide +kernel) rfl
theorem kin_X6_count : Cond.instanceMethod yX6_count ∈ gBig := gBm 494 (by decide +kernel) rfl
theorem ksel_X6_count : Cond.selects RX6 yX6_count yX6_count ∈ gBig := gBm 495 (by decide +kernel) rfl
theorem kc_X6_count : Cond.code yX6_count cX6_count 2 (some .int) ∈ gBig := gBm 496 (by decide +kernel) rfl
theorem km_X6_160 : Cond.methodLink RX6 160 yX1_countPaths ∈ gBig := gBm 497 (by decide +kernel) rfl
theorem kin_X1_countPaths : Cond.instanceMethod yX1_countPaths ∈ gBig := gBm 498 (by decide +kernel) rfl
theorem ksel_X1_countPaths : Cond.selects RX1 yX1_countPaths yX1_countPaths ∈ gBig := gBm 499 (by decide +kernel) rfl
theorem kc_X1_countPaths : Cond.code yX1_countPaths cX1_countPaths 4 (some .int) ∈ gBig := gBm 500 (by decide +kernel) rfl
theorem km_L_64 : Cond.methodLink RL 64 yX6_water ∈ gBig := gBm 501 (by decide +kernel) rfl
theorem kin_X6_water : Cond.instanceMethod yX6_water ∈ gBig := gBm 502 (by decide +kernel) rfl
theorem ksel_X6_water : Cond.selects RX6 yX6_water yX6_water ∈ gBig := gBm 503 (by decide +kernel) rfl
theorem kc_X6_water : Cond.code yX6_water cX6_water 3 (some .int) ∈ gBig := gBm 504 (by decide +kernel) rfl
theorem km_X6_169 : Cond.methodLink RX6 169 yX1_waterAt ∈ gBig := gBm 505 (by decide +kernel) rfl
theorem kin_X1_waterAt : Cond.instanceMethod yX1_waterAt ∈ gBig := gBm 506 (by decide +kernel) rfl
theorem ksel_X1_waterAt : Cond.selects RX1 yX1_waterAt yX1_waterAt ∈ gBig := gBm 507 (by decide +kernel) rfl
theorem kc_X1_waterAt : Cond.code yX1_waterAt cX1_waterAt 3 (some .int) ∈ gBig := gBm 508 (by decide +kernel) rfl
theorem km_X1_109 : Cond.methodLink RX1 109 yX1_waterOver ∈ gBig := gBm 509 (by decide +kernel) rfl
theorem kin_X1_waterOver : Cond.instanceMethod yX1_waterOver ∈ gBig := gBm 510 (by decide +kernel) rfl
theorem ksel_X1_waterOver : Cond.selects RX1 yX1_waterOver yX1_waterOver ∈ gBig := gBm 511 (by decide +kernel) rfl
theorem kc_X1_waterOver : Cond.code yX1_waterOver cX1_waterOver 4 (some .int) ∈ gBig := gBm 512 (by decide +kernel) rfl
theorem km_L_68 : Cond.methodLink RL 68 yX6_stands ∈ gBig := gBm 513 (by decide +kernel) rfl
theorem kin_X6_stands : Cond.instanceMethod yX6_stands ∈ gBig := gBm 514 (by decide +kernel) rfl
theorem ksel_X6_stands : Cond.selects RX6 yX6_stands yX6_stands ∈ gBig := gBm 515 (by decide +kernel) rfl
theorem kc_X6_stands : Cond.code yX6_stands cX6_stands 4 (some .int) ∈ gBig := gBm 516 (by decide +kernel) rfl
theorem km_X6_172 : Cond.methodLink RX6 172 yX1_standsAt ∈ gBig := gBm 517 (by decide +kernel) rfl
theorem kin_X1_standsAt : Cond.instanceMethod yX1_standsAt ∈ gBig := gBm 518 (by decide +kernel) rfl
theorem ksel_X1_standsAt : Cond.selects RX1 yX1_standsAt yX1_standsAt ∈ gBig := gBm 519 (by decide +kernel) rfl
theorem kc_X1_standsAt : Cond.code yX1_standsAt cX1_standsAt 4 (some .boolean) ∈ gBig := gBm 520 (by decide +kernel) rfl
theorem km_X1_120 : Cond.methodLink RX1 120 yX1_waterAt ∈ gBig := gBm 521 (by decide +kernel) rfl
theorem km_X1_123 : Cond.methodLink RX1 123 yX1_bears ∈ gBig := gBm 522 (by decide +kernel) rfl
theorem kin_X1_bears : Cond.instanceMethod yX1_bears ∈ gBig := gBm 523 (by decide +kernel) rfl
theorem ksel_X1_bears : Cond.selects RX1 yX1_bears yX1_bears ∈ gBig := gBm 524 (by decide +kernel) rfl
theorem kc_X1_bears : Cond.code yX1_bears cX1_bears 5 (some .boolean) ∈ gBig := gBm 525 (by decide +kernel) rfl
theorem km_X1_116 : Cond.methodLink RX1 116 yX1_fits ∈ gBig := gBm 526 (by decide +kernel) rfl
theorem kin_X1_fits : Cond.instanceMethod yX1_fits ∈ gBig := gBm 527 (by decide +kernel) rfl
theorem ksel_X1_fits : Cond.selects RX1 yX1_fits yX1_fits ∈ gBig := gBm 528 (by decide +kernel) rfl
theorem kc_X1_fits : Cond.code yX1_fits cX1_fits 3 (some .boolean) ∈ gBig := gBm 529 (by decide +kernel) rfl
theorem km_L_72 : Cond.methodLink RL 72 yX6_hours ∈ gBig := gBm 530 (by decide +kernel) rfl
theorem kin_X6_hours : Cond.instanceMethod yX6_hours ∈ gBig := gBm 531 (by decide +kernel) rfl
theorem ksel_X6_hours : Cond.selects RX6 yX6_hours yX6_hours ∈ gBig := gBm 532 (by decide +kernel) rfl
theorem kc_X6_hours : Cond.code yX6_hours cX6_hours 5 (some .int) ∈ gBig := gBm 533 (by decide +kernel) rfl
theorem km_L_76 : Cond.methodLink RL 76 yX6_years ∈ gBig := gBm 534 (by decide +kernel) rfl
theorem kin_X6_years : Cond.instanceMethod yX6_years ∈ gBig := gBm 535 (by decide +kernel) rfl
theorem ksel_X6_years : Cond.selects RX6 yX6_years yX6_years ∈ gBig := gBm 536 (by decide +kernel) rfl
theorem kc_X6_years : Cond.code yX6_years cX6_years 2 (some .int) ∈ gBig := gBm 537 (by decide +kernel) rfl
theorem km_X6_175 : Cond.methodLink RX6 175 yX1_age ∈ gBig := gBm 538 (by decide +kernel) rfl
theorem kin_X1_age : Cond.instanceMethod yX1_age ∈ gBig := gBm 539 (by decide +kernel) rfl
theorem ksel_X1_age : Cond.selects RX1 yX1_age yX1_age ∈ gBig := gBm 540 (by decide +kernel) rfl
theorem kc_X1_age : Cond.code yX1_age cX1_age 3 none ∈ gBig := gBm 541 (by decide +kernel) rfl
theorem km_X1_98 : Cond.methodLink RX1 98 yX1_depthIn ∈ gBig := gBm 542 (by decide +kernel) rfl
theorem kin_X1_depthIn : Cond.instanceMethod yX1_depthIn ∈ gBig := gBm 543 (by decide +kernel) rfl
theorem ksel_X1_depthIn : Cond.selects RX1 yX1_depthIn yX1_depthIn ∈ gBig := gBm 544 (by decide +kernel) rfl
theorem kc_X1_depthIn : Cond.code yX1_depthIn cX1_depthIn 3 (some .int) ∈ gBig := gBm 545 (by decide +kernel) rfl
theorem km_X1_106 : Cond.methodLink RX1 106 yJ9_min_7cf53 ∈ gBig := gBm 546 (by decide +kernel) rfl
theorem km_L_80 : Cond.methodLink RL 80 yX6_way ∈ gBig := gBm 547 (by decide +kernel) rfl
theorem kin_X6_way : Cond.instanceMethod yX6_way ∈ gBig := gBm 548 (by decide +kernel) rfl
theorem ksel_X6_way : Cond.selects RX6 yX6_way yX6_way ∈ gBig := gBm 549 (by decide +kernel) rfl
theorem kc_X6_way : Cond.code yX6_way cX6_way 5 (some .int) ∈ gBig := gBm 550 (by decide +kernel) rfl
theorem km_X6_178 : Cond.methodLink RX6 178 yX6_isMinute ∈ gBig := gBm 551 (by decide +kernel) rfl
theorem kst_X6_isMinute : Cond.static yX6_isMinute ∈ gBig := gBm 552 (by decide +kernel) rfl
theorem kc_X6_isMinute : Cond.code yX6_isMinute cX6_isMinute 1 (some .boolean) ∈ gBig := gBm 553 (by decide +kernel) rfl
theorem km_X6_181 : Cond.methodLink RX6 181 yX5_prepare ∈ gBig := gBm 554 (by decide +kernel) rfl
theorem kin_X5_prepare : Cond.instanceMethod yX5_prepare ∈ gBig := gBm 555 (by decide +kernel) rfl
theorem ksel_X5_prepare : Cond.selects RX5 yX5_prepare yX5_prepare ∈ gBig := gBm 556 (by decide +kernel) rfl
theorem kc_X5_prepare : Cond.code yX5_prepare cX5_prepare 6 none ∈ gBig := gBm 557 (by decide +kernel) rfl
theorem km_X5_54 : Cond.methodLink RX5 54 yX5_listPosts ∈ gBig := gBm 558 (by decide +kernel) rfl
theorem kin_X5_listPosts : Cond.instanceMethod yX5_listPosts ∈ gBig := gBm 560 (by decide +kernel) rfl
theorem kc_X5_listPosts : Cond.code yX5_listPosts cX5_listPosts 5 none ∈ gBig := gBm 561 (by decide +kernel) rfl
theorem km_X5_58 : Cond.methodLink RX5 58 yX5_listEdges ∈ gBig := gBm 562 (by decide +kernel) rfl
theorem kin_X5_listEdges : Cond.instanceMethod yX5_listEdges ∈ gBig := gBm 564 (by decide +kernel) rfl
theorem kc_X5_listEdges : Cond.code yX5_listEdges cX5_listEdges 4 none ∈ gBig := gBm 565 (by decide +kernel) rfl
theorem km_X5_61 : Cond.methodLink RX5 61 yX1_waterAt ∈ gBig := gBm 566 (by decide +kernel) rfl
theorem km_X5_65 : Cond.methodLink RX5 65 yX5_footingIn ∈ gBig := gBm 567 (by decide +kernel) rfl
theorem kin_X5_footingIn : Cond.instanceMethod yX5_footingIn ∈ gBig := gBm 569 (by decide +kernel) rfl
theorem kc_X5_footingIn : Cond.code yX5_footingIn cX5_footingIn 7 (some .int) ∈ gBig := gBm 570 (by decide +kernel) rfl
theorem km_X5_90 : Cond.methodLink RX5 90 yX1_bears ∈ gBig := gBm 571 (by decide +kernel) rfl
theorem km_X6_185 : Cond.methodLink RX6 185 yX5_soonest ∈ gBig := gBm 572 (by decide +kernel) rfl
theorem kin_X5_soonest : Cond.instanceMethod yX5_soonest ∈ gBig := gBm 573 (by decide +kernel) rfl
theorem ksel_X5_soonest : Cond.selects RX5 yX5_soonest yX5_soonest ∈ gBig := gBm 574 (by decide +kernel) rfl
theorem kc_X5_soonest : Cond.code yX5_soonest cX5_soonest 3 (some .int) ∈ gBig := gBm 575 (by decide +kernel) rfl
theorem km_X5_94 : Cond.methodLink RX5 94 yX5_step ∈ gBig := gBm 576 (by decide +kernel) rfl
theorem kin_X5_step : Cond.instanceMethod yX5_step ∈ gBig := gBm 578 (by decide +kernel) rfl
theorem kc_X5_step : Cond.code yX5_step cX5_step 7 (some .boolean) ∈ gBig := gBm 579 (by decide +kernel) rfl
theorem km_X5_116 : Cond.methodLink RX5 116 yX5_hourOf ∈ gBig := gBm 580 (by decide +kernel) rfl
theorem kin_X5_hourOf : Cond.instanceMethod yX5_hourOf ∈ gBig := gBm 582 (by decide +kernel) rfl
theorem kc_X5_hourOf : Cond.code yX5_hourOf cX5_hourOf 2 (some .int) ∈ gBig := gBm 583 (by decide +kernel) rfl
theorem km_X5_119 : Cond.methodLink RX5 119 yX5_arrive ∈ gBig := gBm 584 (by decide +kernel) rfl
theorem kin_X5_arrive : Cond.instanceMethod yX5_arrive ∈ gBig := gBm 586 (by decide +kernel) rfl
theorem kc_X5_arrive : Cond.code yX5_arrive cX5_arrive 4 none ∈ gBig := gBm 587 (by decide +kernel) rfl
theorem km_X5_126 : Cond.methodLink RX5 126 yX5_walkAlong ∈ gBig := gBm 588 (by decide +kernel) rfl
theorem kin_X5_walkAlong : Cond.instanceMethod yX5_walkAlong ∈ gBig := gBm 590 (by decide +kernel) rfl
theorem kc_X5_walkAlong : Cond.code yX5_walkAlong cX5_walkAlong 8 none ∈ gBig := gBm 591 (by decide +kernel) rfl
theorem km_X5_123 : Cond.methodLink RX5 123 yX5_withSplice ∈ gBig := gBm 592 (by decide +kernel) rfl
theorem kin_X5_withSplice : Cond.instanceMethod yX5_withSplice ∈ gBig := gBm 594 (by decide +kernel) rfl
theorem kc_X5_withSplice : Cond.code yX5_withSplice cX5_withSplice 4 (some .int) ∈ gBig := gBm 595 (by decide +kernel) rfl
theorem kf_X5_134 : Cond.fieldLink RX5 134 RX5 "LACKING" "[I" ∈ gBig := gBm 597 (by decide +kernel) rfl
theorem km_X6_188 : Cond.methodLink RX6 188 yX5_lightest ∈ gBig := gBm 599 (by decide +kernel) rfl
theorem kin_X5_lightest : Cond.instanceMethod yX5_lightest ∈ gBig := gBm 600 (by decide +kernel) rfl
theorem ksel_X5_lightest : Cond.selects RX5 yX5_lightest yX5_lightest ∈ gBig := gBm 601 (by decide +kernel) rfl
theorem kc_X5_lightest : Cond.code yX5_lightest cX5_lightest 4 (some .int) ∈ gBig := gBm 602 (by decide +kernel) rfl
theorem km_X5_98 : Cond.methodLink RX5 98 yX5_fewestTaken ∈ gBig := gBm 603 (by decide +kernel) rfl
theorem kin_X5_fewestTaken : Cond.instanceMethod yX5_fewestTaken ∈ gBig := gBm 605 (by decide +kernel) rfl
theorem kc_X5_fewestTaken : Cond.code yX5_fewestTaken cX5_fewestTaken 4 (some .int) ∈ gBig := gBm 606 (by decide +kernel) rfl
theorem kst_X6_holds : Cond.static yX6_holds ∈ gBig := gBm 608 (by decide +kernel) rfl
theorem kc_X6_holds : Cond.code yX6_holds cX6_holds 2 (some .boolean) ∈ gBig := gBm 609 (by decide +kernel) rfl
theorem km_X5_111 : Cond.methodLink RX5 111 yJ6_bitCount_0f7a4 ∈ gBig := gBm 610 (by decide +kernel) rfl
theorem kst_J6_bitCount_0f7a4 : Cond.static yJ6_bitCount_0f7a4 ∈ gBig := gBm 611 (by decide +kernel) rfl
theorem kc_J6_bitCount_0f7a4 : Cond.code yJ6_bitCount_0f7a4 cJ6_bitCount_0f7a4 1 (some .int) ∈ gBig := gBm 612 (by decide +kernel) rfl
theorem kk_J6_265 : Cond.constant RJ6 265 (1431655765) ∈ gBig := gBm 613 (by decide +kernel) rfl
theorem kk_J6_266 : Cond.constant RJ6 266 (858993459) ∈ gBig := gBm 614 (by decide +kernel) rfl
theorem kk_J6_267 : Cond.constant RJ6 267 (252645135) ∈ gBig := gBm 615 (by decide +kernel) rfl
theorem km_X5_102 : Cond.methodLink RX5 102 yJ9_min_7cf53 ∈ gBig := gBm 616 (by decide +kernel) rfl
theorem km_L_85 : Cond.methodLink RL 85 yX6_race ∈ gBig := gBm 617 (by decide +kernel) rfl
theorem kin_X6_race : Cond.instanceMethod yX6_race ∈ gBig := gBm 618 (by decide +kernel) rfl
theorem ksel_X6_race : Cond.selects RX6 yX6_race yX6_race ∈ gBig := gBm 619 (by decide +kernel) rfl
theorem kc_X6_race : Cond.code yX6_race cX6_race 10 (some .int) ∈ gBig := gBm 620 (by decide +kernel) rfl
theorem km_X6_191 : Cond.methodLink RX6 191 yX1_hasPeople ∈ gBig := gBm 621 (by decide +kernel) rfl
theorem kin_X1_hasPeople : Cond.instanceMethod yX1_hasPeople ∈ gBig := gBm 622 (by decide +kernel) rfl
theorem ksel_X1_hasPeople : Cond.selects RX1 yX1_hasPeople yX1_hasPeople ∈ gBig := gBm 623 (by decide +kernel) rfl
theorem kc_X1_hasPeople : Cond.code yX1_hasPeople cX1_hasPeople 2 (some .boolean) ∈ gBig := gBm 624 (by decide +kernel) rfl
theorem km_X6_194 : Cond.methodLink RX6 194 yX6_holds ∈ gBig := gBm 625 (by decide +kernel) rfl
theorem km_L_89 : Cond.methodLink RL 89 yX6_need ∈ gBig := gBm 626 (by decide +kernel) rfl
theorem kin_X6_need : Cond.instanceMethod yX6_need ∈ gBig := gBm 627 (by decide +kernel) rfl
theorem ksel_X6_need : Cond.selects RX6 yX6_need yX6_need ∈ gBig := gBm 628 (by decide +kernel) rfl
theorem kc_X6_need : Cond.code yX6_need cX6_need 4 (some .int) ∈ gBig := gBm 629 (by decide +kernel) rfl
theorem km_X6_198 : Cond.methodLink RX6 198 yX1_addNeed ∈ gBig := gBm 630 (by decide +kernel) rfl
theorem kin_X1_addNeed : Cond.instanceMethod yX1_addNeed ∈ gBig := gBm 631 (by decide +kernel) rfl
theorem ksel_X1_addNeed : Cond.selects RX1 yX1_addNeed yX1_addNeed ∈ gBig := gBm 632 (by decide +kernel) rfl
theorem kc_X1_addNeed : Cond.code yX1_addNeed cX1_addNeed 4 (some .int) ∈ gBig := gBm 633 (by decide +kernel) rfl
theorem km_L_93 : Cond.methodLink RL 93 yX6_met ∈ gBig := gBm 634 (by decide +kernel) rfl
theorem kin_X6_met : Cond.instanceMethod yX6_met ∈ gBig := gBm 635 (by decide +kernel) rfl
theorem ksel_X6_met : Cond.selects RX6 yX6_met yX6_met ∈ gBig := gBm 636 (by decide +kernel) rfl
theorem kc_X6_met : Cond.code yX6_met cX6_met 3 (some .int) ∈ gBig := gBm 637 (by decide +kernel) rfl
theorem km_X6_204 : Cond.methodLink RX6 204 yX1_isMet ∈ gBig := gBm 638 (by decide +kernel) rfl
theorem kin_X1_isMet : Cond.instanceMethod yX1_isMet ∈ gBig := gBm 639 (by decide +kernel) rfl
theorem ksel_X1_isMet : Cond.selects RX1 yX1_isMet yX1_isMet ∈ gBig := gBm 640 (by decide +kernel) rfl
theorem kc_X1_isMet : Cond.code yX1_isMet cX1_isMet 4 (some .boolean) ∈ gBig := gBm 641 (by decide +kernel) rfl
theorem km_L_97 : Cond.methodLink RL 97 yX6_lengths ∈ gBig := gBm 642 (by decide +kernel) rfl
theorem kin_X6_lengths : Cond.instanceMethod yX6_lengths ∈ gBig := gBm 643 (by decide +kernel) rfl
theorem ksel_X6_lengths : Cond.selects RX6 yX6_lengths yX6_lengths ∈ gBig := gBm 644 (by decide +kernel) rfl
theorem kc_X6_lengths : Cond.code yX6_lengths cX6_lengths 2 (some .int) ∈ gBig := gBm 645 (by decide +kernel) rfl
theorem km_X6_207 : Cond.methodLink RX6 207 yX4_weigh ∈ gBig := gBm 646 (by decide +kernel) rfl
theorem kin_X4_weigh : Cond.instanceMethod yX4_weigh ∈ gBig := gBm 647 (by decide +kernel) rfl
theorem ksel_X4_weigh : Cond.selects RX4 yX4_weigh yX4_weigh ∈ gBig := gBm 648 (by decide +kernel) rfl
theorem kc_X4_weigh : Cond.code yX4_weigh cX4_weigh 3 none ∈ gBig := gBm 649 (by decide +kernel) rfl
theorem km_X4_32 : Cond.methodLink RX4 32 yX4_suitedBy ∈ gBig := gBm 650 (by decide +kernel) rfl
theorem kin_X4_suitedBy : Cond.instanceMethod yX4_suitedBy ∈ gBig := gBm 652 (by decide +kernel) rfl
theorem kc_X4_suitedBy : Cond.code yX4_suitedBy cX4_suitedBy 5 (some .int) ∈ gBig := gBm 653 (by decide +kernel) rfl
theorem km_X4_40 : Cond.methodLink RX4 40 yX1_isMet ∈ gBig := gBm 654 (by decide +kernel) rfl
theorem km_X4_36 : Cond.methodLink RX4 36 yX4_weighWith ∈ gBig := gBm 655 (by decide +kernel) rfl
theorem kin_X4_weighWith : Cond.instanceMethod yX4_weighWith ∈ gBig := gBm 657 (by decide +kernel) rfl
theorem kc_X4_weighWith : Cond.code yX4_weighWith cX4_weighWith 4 none ∈ gBig := gBm 658 (by decide +kernel) rfl
theorem km_X4_44 : Cond.methodLink RX4 44 yJ9_min_7cf53 ∈ gBig := gBm 659 (by decide +kernel) rfl
theorem km_X6_211 : Cond.methodLink RX6 211 yX4_fewestLengths ∈ gBig := gBm 660 (by decide +kernel) rfl
theorem kin_X4_fewestLengths : Cond.instanceMethod yX4_fewestLengths ∈ gBig := gBm 661 (by decide +kernel) rfl
theorem ksel_X4_fewestLengths : Cond.selects RX4 yX4_fewestLengths yX4_fewestLengths ∈ gBig := gBm 662 (by decide +kernel) rfl
theorem kc_X4_fewestLengths : Cond.code yX4_fewestLengths cX4_fewestLengths 1 (some .int) ∈ gBig := gBm 663 (by decide +kernel) rfl
theorem km_X6_214 : Cond.methodLink RX6 214 yX4_chosen ∈ gBig := gBm 664 (by decide +kernel) rfl
theorem kin_X4_chosen : Cond.instanceMethod yX4_chosen ∈ gBig := gBm 665 (by decide +kernel) rfl
theorem ksel_X4_chosen : Cond.selects RX4 yX4_chosen yX4_chosen ∈ gBig := gBm 666 (by decide +kernel) rfl
theorem kc_X4_chosen : Cond.code yX4_chosen cX4_chosen 6 (some .int) ∈ gBig := gBm 667 (by decide +kernel) rfl
theorem km_X4_50 : Cond.methodLink RX4 50 yX4_fewestLengths ∈ gBig := gBm 668 (by decide +kernel) rfl
theorem km_L_101 : Cond.methodLink RL 101 yX6_meeting ∈ gBig := gBm 669 (by decide +kernel) rfl
theorem kin_X6_meeting : Cond.instanceMethod yX6_meeting ∈ gBig := gBm 670 (by decide +kernel) rfl
theorem ksel_X6_meeting : Cond.selects RX6 yX6_meeting yX6_meeting ∈ gBig := gBm 671 (by decide +kernel) rfl
theorem kc_X6_meeting : Cond.code yX6_meeting cX6_meeting 8 (some .int) ∈ gBig := gBm 672 (by decide +kernel) rfl
theorem km_X6_217 : Cond.methodLink RX6 217 yX1_countStanding ∈ gBig := gBm 673 (by decide +kernel) rfl
theorem kin_X1_countStanding : Cond.instanceMethod yX1_countStanding ∈ gBig := gBm 674 (by decide +kernel) rfl
theorem ksel_X1_countStanding : Cond.selects RX1 yX1_countStanding yX1_countStanding ∈ gBig := gBm 675 (by decide +kernel) rfl
theorem kc_X1_countStanding : Cond.code yX1_countStanding cX1_countStanding 5 (some .int) ∈ gBig := gBm 676 (by decide +kernel) rfl
theorem km_X1_127 : Cond.methodLink RX1 127 yX1_standsAt ∈ gBig := gBm 677 (by decide +kernel) rfl
theorem km_L_105 : Cond.methodLink RL 105 yX6_pairs ∈ gBig := gBm 678 (by decide +kernel) rfl
theorem kin_X6_pairs : Cond.instanceMethod yX6_pairs ∈ gBig := gBm 679 (by decide +kernel) rfl
theorem ksel_X6_pairs : Cond.selects RX6 yX6_pairs yX6_pairs ∈ gBig := gBm 680 (by decide +kernel) rfl
theorem kc_X6_pairs : Cond.code yX6_pairs cX6_pairs 7 (some .int) ∈ gBig := gBm 681 (by decide +kernel) rfl
theorem km_X6_220 : Cond.methodLink RX6 220 yX1_shortestOf ∈ gBig := gBm 682 (by decide +kernel) rfl
theorem kin_X1_shortestOf : Cond.instanceMethod yX1_shortestOf ∈ gBig := gBm 683 (by decide +kernel) rfl
theorem ksel_X1_shortestOf : Cond.selects RX1 yX1_shortestOf yX1_shortestOf ∈ gBig := gBm 684 (by decide +kernel) rfl
theorem kc_X1_shortestOf : Cond.code yX1_shortestOf cX1_shortestOf 4 (some .int) ∈ gBig := gBm 685 (by decide +kernel) rfl
theorem km_X1_133 : Cond.methodLink RX1 133 yX1_lengthOf ∈ gBig := gBm 687 (by decide +kernel) rfl
theorem km_L_109 : Cond.methodLink RL 109 yX6_flood ∈ gBig := gBm 688 (by decide +kernel) rfl
theorem kin_X6_flood : Cond.instanceMethod yX6_flood ∈ gBig := gBm 689 (by decide +kernel) rfl
theorem ksel_X6_flood : Cond.selects RX6 yX6_flood yX6_flood ∈ gBig := gBm 690 (by decide +kernel) rfl
theorem kc_X6_flood : Cond.code yX6_flood cX6_flood 3 (some .int) ∈ gBig := gBm 691 (by decide +kernel) rfl
theorem km_X6_223 : Cond.methodLink RX6 223 yX0_weigh ∈ gBig := gBm 692 (by decide +kernel) rfl
theorem kin_X0_weigh : Cond.instanceMethod yX0_weigh ∈ gBig := gBm 693 (by decide +kernel) rfl
theorem ksel_X0_weigh : Cond.selects RX0 yX0_weigh yX0_weigh ∈ gBig := gBm 694 (by decide +kernel) rfl
theorem kc_X0_weigh : Cond.code yX0_weigh cX0_weigh 5 none ∈ gBig := gBm 695 (by decide +kernel) rfl
theorem km_X0_28 : Cond.methodLink RX0 28 yX1_drownsWith ∈ gBig := gBm 696 (by decide +kernel) rfl
theorem kin_X1_drownsWith : Cond.instanceMethod yX1_drownsWith ∈ gBig := gBm 697 (by decide +kernel) rfl
theorem ksel_X1_drownsWith : Cond.selects RX1 yX1_drownsWith yX1_drownsWith ∈ gBig := gBm 698 (by decide +kernel) rfl
theorem kc_X1_drownsWith : Cond.code yX1_drownsWith cX1_drownsWith 6 (some .boolean) ∈ gBig := gBm 699 (by decide +kernel) rfl
theorem km_X0_32 : Cond.methodLink RX0 32 yX0_firstBest ∈ gBig := gBm 700 (by decide +kernel) rfl
theorem kin_X0_firstBest : Cond.instanceMethod yX0_firstBest ∈ gBig := gBm 702 (by decide +kernel) rfl
theorem kc_X0_firstBest : Cond.code yX0_firstBest cX0_firstBest 4 (some .int) ∈ gBig := gBm 703 (by decide +kernel) rfl
theorem km_X0_36 : Cond.methodLink RX0 36 yX0_drownedBehind ∈ gBig := gBm 705 (by decide +kernel) rfl
theorem kin_X0_drownedBehind : Cond.instanceMethod yX0_drownedBehind ∈ gBig := gBm 707 (by decide +kernel) rfl
theorem kc_X0_drownedBehind : Cond.code yX0_drownedBehind cX0_drownedBehind 4 (some .int) ∈ gBig := gBm 708 (by decide +kernel) rfl
theorem km_X0_40 : Cond.methodLink RX0 40 yJ6_bitCount_0f7a4 ∈ gBig := gBm 709 (by decide +kernel) rfl
theorem km_X0_45 : Cond.methodLink RX0 45 yJ9_min_7cf53 ∈ gBig := gBm 710 (by decide +kernel) rfl
theorem km_X0_54 : Cond.methodLink RX0 54 yJ9_max_7cf53 ∈ gBig := gBm 711 (by decide +kernel) rfl
theorem km_X6_226 : Cond.methodLink RX6 226 yX0_drownedAsTheyAre ∈ gBig := gBm 712 (by decide +kernel) rfl
theorem kin_X0_drownedAsTheyAre : Cond.instanceMethod yX0_drownedAsTheyAre ∈ gBig := gBm 713 (by decide +kernel) rfl
theorem ksel_X0_drownedAsTheyAre : Cond.selects RX0 yX0_drownedAsTheyAre yX0_drownedAsTheyAre ∈ gBig := gBm 714 (by decide +kernel) rfl
theorem kc_X0_drownedAsTheyAre : Cond.code yX0_drownedAsTheyAre cX0_drownedAsTheyAre 3 (some .int) ∈ gBig := gBm 715 (by decide +kernel) rfl
theorem km_X6_229 : Cond.methodLink RX6 229 yX0_fewestDrowned ∈ gBig := gBm 716 (by decide +kernel) rfl
theorem kin_X0_fewestDrowned : Cond.instanceMethod yX0_fewestDrowned ∈ gBig := gBm 717 (by decide +kernel) rfl
theorem ksel_X0_fewestDrowned : Cond.selects RX0 yX0_fewestDrowned yX0_fewestDrowned ∈ gBig := gBm 718 (by decide +kernel) rfl
theorem kc_X0_fewestDrowned : Cond.code yX0_fewestDrowned cX0_fewestDrowned 1 (some .int) ∈ gBig := gBm 719 (by decide +kernel) rfl
theorem km_X6_232 : Cond.methodLink RX6 232 yX0_lengthGivenTo ∈ gBig := gBm 720 (by decide +kernel) rfl
theorem kin_X0_lengthGivenTo : Cond.instanceMethod yX0_lengthGivenTo ∈ gBig := gBm 721 (by decide +kernel) rfl
theorem ksel_X0_lengthGivenTo : Cond.selects RX0 yX0_lengthGivenTo yX0_lengthGivenTo ∈ gBig := gBm 722 (by decide +kernel) rfl
theorem kc_X0_lengthGivenTo : Cond.code yX0_lengthGivenTo cX0_lengthGivenTo 4 (some .int) ∈ gBig := gBm 723 (by decide +kernel) rfl
theorem km_L_113 : Cond.methodLink RL 113 yX6_carried ∈ gBig := gBm 724 (by decide +kernel) rfl
theorem kin_X6_carried : Cond.instanceMethod yX6_carried ∈ gBig := gBm 725 (by decide +kernel) rfl
theorem ksel_X6_carried : Cond.selects RX6 yX6_carried yX6_carried ∈ gBig := gBm 726 (by decide +kernel) rfl
theorem kc_X6_carried : Cond.code yX6_carried cX6_carried 8 (some .int) ∈ gBig := gBm 727 (by decide +kernel) rfl
theorem km_X6_235 : Cond.methodLink RX6 235 yJ9_max_7cf53 ∈ gBig := gBm 728 (by decide +kernel) rfl
theorem km_L_117 : Cond.methodLink RL 117 yX6_wrong ∈ gBig := gBm 729 (by decide +kernel) rfl
theorem kin_X6_wrong : Cond.instanceMethod yX6_wrong ∈ gBig := gBm 730 (by decide +kernel) rfl
theorem ksel_X6_wrong : Cond.selects RX6 yX6_wrong yX6_wrong ∈ gBig := gBm 731 (by decide +kernel) rfl
theorem kc_X6_wrong : Cond.code yX6_wrong cX6_wrong 5 (some .int) ∈ gBig := gBm 732 (by decide +kernel) rfl
theorem km_X6_240 : Cond.methodLink RX6 240 yX1_standsAtHomeIn ∈ gBig := gBm 733 (by decide +kernel) rfl
theorem kin_X1_standsAtHomeIn : Cond.instanceMethod yX1_standsAtHomeIn ∈ gBig := gBm 734 (by decide +kernel) rfl
theorem ksel_X1_standsAtHomeIn : Cond.selects RX1 yX1_standsAtHomeIn yX1_standsAtHomeIn ∈ gBig := gBm 735 (by decide +kernel) rfl
theorem kc_X1_standsAtHomeIn : Cond.code yX1_standsAtHomeIn cX1_standsAtHomeIn 5 (some .boolean) ∈ gBig := gBm 736 (by decide +kernel) rfl
theorem km_L_121 : Cond.methodLink RL 121 yX6_clear ∈ gBig := gBm 737 (by decide +kernel) rfl
theorem kin_X6_clear : Cond.instanceMethod yX6_clear ∈ gBig := gBm 738 (by decide +kernel) rfl
theorem ksel_X6_clear : Cond.selects RX6 yX6_clear yX6_clear ∈ gBig := gBm 739 (by decide +kernel) rfl
theorem kc_X6_clear : Cond.code yX6_clear cX6_clear 2 (some .int) ∈ gBig := gBm 740 (by decide +kernel) rfl
theorem km_L_125 : Cond.methodLink RL 125 yX6_image ∈ gBig := gBm 741 (by decide +kernel) rfl
theorem kin_X6_image : Cond.instanceMethod yX6_image ∈ gBig := gBm 742 (by decide +kernel) rfl
theorem ksel_X6_image : Cond.selects RX6 yX6_image yX6_image ∈ gBig := gBm 743 (by decide +kernel) rfl
theorem kc_X6_image : Cond.code yX6_image cX6_image 1 (some .int) ∈ gBig := gBm 744 (by decide +kernel) rfl
theorem km_X6_243 : Cond.methodLink RX6 243 yX1_become ∈ gBig := gBm 745 (by decide +kernel) rfl
theorem kin_X1_become : Cond.instanceMethod yX1_become ∈ gBig := gBm 746 (by decide +kernel) rfl
theorem ksel_X1_become : Cond.selects RX1 yX1_become yX1_become ∈ gBig := gBm 747 (by decide +kernel) rfl
theorem kc_X1_become : Cond.code yX1_become cX1_become 3 none ∈ gBig := gBm 748 (by decide +kernel) rfl
theorem km_X1_66 : Cond.methodLink RX1 66 arraycopyName ∈ gBig := gBm 749 (by decide +kernel) rfl
theorem kst_System_arraycopy : Cond.static arraycopyName ∈ gBig := gBm 750 (by decide +kernel) rfl
theorem kna_System_arraycopy : Cond.native arraycopyName ∈ gBig := gBm 751 (by decide +kernel) rfl
theorem km_L_129 : Cond.methodLink RL 129 yX6_restore ∈ gBig := gBm 752 (by decide +kernel) rfl
theorem kin_X6_restore : Cond.instanceMethod yX6_restore ∈ gBig := gBm 753 (by decide +kernel) rfl
theorem ksel_X6_restore : Cond.selects RX6 yX6_restore yX6_restore ∈ gBig := gBm 754 (by decide +kernel) rfl
theorem kc_X6_restore : Cond.code yX6_restore cX6_restore 1 (some .int) ∈ gBig := gBm 755 (by decide +kernel) rfl
theorem km_L_133 : Cond.methodLink RL 133 yX6_tides ∈ gBig := gBm 756 (by decide +kernel) rfl
theorem kin_X6_tides : Cond.instanceMethod yX6_tides ∈ gBig := gBm 757 (by decide +kernel) rfl
theorem ksel_X6_tides : Cond.selects RX6 yX6_tides yX6_tides ∈ gBig := gBm 758 (by decide +kernel) rfl
theorem kc_X6_tides : Cond.code yX6_tides cX6_tides 6 (some .int) ∈ gBig := gBm 759 (by decide +kernel) rfl
theorem km_X6_250 : Cond.methodLink RX6 250 yX6_refusal ∈ gBig := gBm 760 (by decide +kernel) rfl
theorem kin_X6_refusal : Cond.instanceMethod yX6_refusal ∈ gBig := gBm 762 (by decide +kernel) rfl
theorem kc_X6_refusal : Cond.code yX6_refusal cX6_refusal 3 (some .int) ∈ gBig := gBm 763 (by decide +kernel) rfl
theorem km_X6_263 : Cond.methodLink RX6 263 yX6_isSheet ∈ gBig := gBm 764 (by decide +kernel) rfl
theorem kst_X6_isSheet : Cond.static yX6_isSheet ∈ gBig := gBm 765 (by decide +kernel) rfl
theorem kc_X6_isSheet : Cond.code yX6_isSheet cX6_isSheet 1 (some .boolean) ∈ gBig := gBm 766 (by decide +kernel) rfl
theorem km_X6_266 : Cond.methodLink RX6 266 yX6_isLane ∈ gBig := gBm 767 (by decide +kernel) rfl
theorem kst_X6_isLane : Cond.static yX6_isLane ∈ gBig := gBm 768 (by decide +kernel) rfl
theorem kc_X6_isLane : Cond.code yX6_isLane cX6_isLane 1 (some .boolean) ∈ gBig := gBm 769 (by decide +kernel) rfl
theorem km_X6_257 : Cond.methodLink RX6 257 arraycopyName ∈ gBig := gBm 770 (by decide +kernel) rfl
theorem km_L_137 : Cond.methodLink RL 137 yX6_sheet ∈ gBig := gBm 771 (by decide +kernel) rfl
theorem kin_X6_sheet : Cond.instanceMethod yX6_sheet ∈ gBig := gBm 772 (by decide +kernel) rfl
theorem ksel_X6_sheet : Cond.selects RX6 yX6_sheet yX6_sheet ∈ gBig := gBm 773 (by decide +kernel) rfl
theorem kc_X6_sheet : Cond.code yX6_sheet cX6_sheet 4 (some .int) ∈ gBig := gBm 774 (by decide +kernel) rfl
theorem km_X6_269 : Cond.methodLink RX6 269 yX2_hold ∈ gBig := gBm 775 (by decide +kernel) rfl
theorem kin_X2_hold : Cond.instanceMethod yX2_hold ∈ gBig := gBm 776 (by decide +kernel) rfl
theorem ksel_X2_hold : Cond.selects RX2 yX2_hold yX2_hold ∈ gBig := gBm 777 (by decide +kernel) rfl
theorem kc_X2_hold : Cond.code yX2_hold cX2_hold 4 none ∈ gBig := gBm 778 (by decide +kernel) rfl
theorem km_L_141 : Cond.methodLink RL 141 yX6_drop ∈ gBig := gBm 779 (by decide +kernel) rfl
theorem kin_X6_drop : Cond.instanceMethod yX6_drop ∈ gBig := gBm 780 (by decide +kernel) rfl
theorem ksel_X6_drop : Cond.selects RX6 yX6_drop yX6_drop ∈ gBig := gBm 781 (by decide +kernel) rfl
theorem kc_X6_drop : Cond.code yX6_drop cX6_drop 3 (some .int) ∈ gBig := gBm 782 (by decide +kernel) rfl
theorem km_L_145 : Cond.methodLink RL 145 yX6_item ∈ gBig := gBm 783 (by decide +kernel) rfl
theorem kin_X6_item : Cond.instanceMethod yX6_item ∈ gBig := gBm 784 (by decide +kernel) rfl
theorem ksel_X6_item : Cond.selects RX6 yX6_item yX6_item ∈ gBig := gBm 785 (by decide +kernel) rfl
theorem kc_X6_item : Cond.code yX6_item cX6_item 7 (some .int) ∈ gBig := gBm 786 (by decide +kernel) rfl
theorem km_X6_276 : Cond.methodLink RX6 276 yX2_put ∈ gBig := gBm 787 (by decide +kernel) rfl
theorem kin_X2_put : Cond.instanceMethod yX2_put ∈ gBig := gBm 788 (by decide +kernel) rfl
theorem ksel_X2_put : Cond.selects RX2 yX2_put yX2_put ∈ gBig := gBm 789 (by decide +kernel) rfl
theorem kc_X2_put : Cond.code yX2_put cX2_put 3 none ∈ gBig := gBm 790 (by decide +kernel) rfl
theorem km_L_149 : Cond.methodLink RL 149 yX6_copy ∈ gBig := gBm 791 (by decide +kernel) rfl
theorem kin_X6_copy : Cond.instanceMethod yX6_copy ∈ gBig := gBm 792 (by decide +kernel) rfl
theorem ksel_X6_copy : Cond.selects RX6 yX6_copy yX6_copy ∈ gBig := gBm 793 (by decide +kernel) rfl
theorem kc_X6_copy : Cond.code yX6_copy cX6_copy 8 (some .int) ∈ gBig := gBm 794 (by decide +kernel) rfl
theorem km_X6_282 : Cond.methodLink RX6 282 yX2_hasRange ∈ gBig := gBm 795 (by decide +kernel) rfl
theorem kin_X2_hasRange : Cond.instanceMethod yX2_hasRange ∈ gBig := gBm 796 (by decide +kernel) rfl
theorem ksel_X2_hasRange : Cond.selects RX2 yX2_hasRange yX2_hasRange ∈ gBig := gBm 797 (by decide +kernel) rfl
theorem kc_X2_hasRange : Cond.code yX2_hasRange cX2_hasRange 3 (some .boolean) ∈ gBig := gBm 798 (by decide +kernel) rfl
theorem kcl_L_10 : Cond.classLink RL 10 RX7 ∈ gBig := gBm 800 (by decide +kernel) rfl
theorem kins_X7 : Cond.instantiable RX7 20 ∈ gBig := gBm 801 (by decide +kernel) rfl
theorem km_L_12 : Cond.methodLink RL 12 yX7_init ∈ gBig := gBm 802 (by decide +kernel) rfl
theorem kin_X7_init : Cond.instanceMethod yX7_init ∈ gBig := gBm 803 (by decide +kernel) rfl
theorem kc_X7_init : Cond.code yX7_init cX7_init 2 none ∈ gBig := gBm 804 (by decide +kernel) rfl
theorem km_X7_1 : Cond.methodLink RX7 1 objectInit ∈ gBig := gBm 805 (by decide +kernel) rfl
theorem kf_X7_7 : Cond.fieldLink RX7 7 RX7 "z" "[I" ∈ gBig := gBm 806 (by decide +kernel) rfl
theorem kf_X7_242 : Cond.fieldLink RX7 242 RX7 "isKept" "Z" ∈ gBig := gBm 807 (by decide +kernel) rfl
theorem kf_X7_13 : Cond.fieldLink RX7 13 RX7 "tape" "[I" ∈ gBig := gBm 808 (by decide +kernel) rfl
theorem kf_X7_110 : Cond.fieldLink RX7 110 RX7 "taped" "I" ∈ gBig := gBm 809 (by decide +kernel) rfl
theorem kf_X7_114 : Cond.fieldLink RX7 114 RX7 "at" "I" ∈ gBig := gBm 810 (by decide +kernel) rfl
theorem kf_X7_117 : Cond.fieldLink RX7 117 RX7 "fault" "I" ∈ gBig := gBm 811 (by decide +kernel) rfl
theorem kf_X7_132 : Cond.fieldLink RX7 132 RX7 "found" "I" ∈ gBig := gBm 812 (by decide +kernel) rfl
theorem kf_X7_16 : Cond.fieldLink RX7 16 RX7 "told" "[I" ∈ gBig := gBm 813 (by decide +kernel) rfl
theorem kf_X7_19 : Cond.fieldLink RX7 19 RX7 "items" "[I" ∈ gBig := gBm 814 (by decide +kernel) rfl
theorem kf_X7_22 : Cond.fieldLink RX7 22 RX7 "lanes" "[I" ∈ gBig := gBm 815 (by decide +kernel) rfl
theorem kf_X7_25 : Cond.fieldLink RX7 25 RX7 "sizes" "[I" ∈ gBig := gBm 816 (by decide +kernel) rfl
theorem kf_X7_28 : Cond.fieldLink RX7 28 RX7 "moved" "[I" ∈ gBig := gBm 817 (by decide +kernel) rfl
theorem kf_X7_31 : Cond.fieldLink RX7 31 RX7 "is" "[Z" ∈ gBig := gBm 818 (by decide +kernel) rfl
theorem kf_X7_35 : Cond.fieldLink RX7 35 RX7 "comes" "[Z" ∈ gBig := gBm 819 (by decide +kernel) rfl
theorem kf_X7_189 : Cond.fieldLink RX7 189 RX7 "soon" "I" ∈ gBig := gBm 820 (by decide +kernel) rfl
theorem kf_X7_192 : Cond.fieldLink RX7 192 RX7 "light" "I" ∈ gBig := gBm 821 (by decide +kernel) rfl
theorem kf_X7_38 : Cond.fieldLink RX7 38 RX7 "more" "[I" ∈ gBig := gBm 822 (by decide +kernel) rfl
theorem kf_X7_41 : Cond.fieldLink RX7 41 RX7 "helps" "[I" ∈ gBig := gBm 823 (by decide +kernel) rfl
theorem kf_X7_44 : Cond.fieldLink RX7 44 RX7 "most" "[I" ∈ gBig := gBm 824 (by decide +kernel) rfl
theorem kf_X7_47 : Cond.fieldLink RX7 47 RX7 "given" "[I" ∈ gBig := gBm 825 (by decide +kernel) rfl
theorem karr_arrayClass_810 : Cond.arrayClass Jvm.ClassFile.FieldType.boolean ∈ gBig := gBm 867 (by decide +kernel) rfl
theorem km_L_17 : Cond.methodLink RL 17 yX7_place ∈ gBig := gBm 868 (by decide +kernel) rfl
theorem kin_X7_place : Cond.instanceMethod yX7_place ∈ gBig := gBm 869 (by decide +kernel) rfl
theorem ksel_X7_place : Cond.selects RX7 yX7_place yX7_place ∈ gBig := gBm 870 (by decide +kernel) rfl
theorem kc_X7_place : Cond.code yX7_place cX7_place 2 (some .int) ∈ gBig := gBm 871 (by decide +kernel) rfl
theorem kk_X7_56 : Cond.constantLong RX7 56 (-20) ∈ gBig := gBm 872 (by decide +kernel) rfl
theorem kk_X7_58 : Cond.constantLong RX7 58 (60) ∈ gBig := gBm 873 (by decide +kernel) rfl
theorem km_X7_50 : Cond.methodLink RX7 50 yX7_in ∈ gBig := gBm 874 (by decide +kernel) rfl
theorem kst_X7_in : Cond.static yX7_in ∈ gBig := gBm 875 (by decide +kernel) rfl
theorem kc_X7_in : Cond.code yX7_in cX7_in 6 (some .boolean) ∈ gBig := gBm 876 (by decide +kernel) rfl
theorem km_X7_60 : Cond.methodLink RX7 60 yX7_put ∈ gBig := gBm 877 (by decide +kernel) rfl
theorem kin_X7_put : Cond.instanceMethod yX7_put ∈ gBig := gBm 879 (by decide +kernel) rfl
theorem kc_X7_put : Cond.code yX7_put cX7_put 4 none ∈ gBig := gBm 880 (by decide +kernel) rfl
theorem km_L_22 : Cond.methodLink RL 22 yX7_make ∈ gBig := gBm 881 (by decide +kernel) rfl
theorem kin_X7_make : Cond.instanceMethod yX7_make ∈ gBig := gBm 882 (by decide +kernel) rfl
theorem ksel_X7_make : Cond.selects RX7 yX7_make yX7_make ∈ gBig := gBm 883 (by decide +kernel) rfl
theorem kc_X7_make : Cond.code yX7_make cX7_make 6 (some .int) ∈ gBig := gBm 884 (by decide +kernel) rfl
theorem kk_X7_64 : Cond.constantLong RX7 64 (20) ∈ gBig := gBm 885 (by decide +kernel) rfl
theorem kk_X7_66 : Cond.constantLong RX7 66 (-5) ∈ gBig := gBm 886 (by decide +kernel) rfl
theorem kk_X7_68 : Cond.constantLong RX7 68 (5) ∈ gBig := gBm 887 (by decide +kernel) rfl
theorem km_X7_70 : Cond.methodLink RX7 70 yX7_isPlace ∈ gBig := gBm 888 (by decide +kernel) rfl
theorem kin_X7_isPlace : Cond.instanceMethod yX7_isPlace ∈ gBig := gBm 890 (by decide +kernel) rfl
theorem kc_X7_isPlace : Cond.code yX7_isPlace cX7_isPlace 2 (some .boolean) ∈ gBig := gBm 891 (by decide +kernel) rfl
theorem kk_X7_74 : Cond.constant RX7 74 (-100001) ∈ gBig := gBm 892 (by decide +kernel) rfl
theorem km_X7_75 : Cond.methodLink RX7 75 yX7_posts ∈ gBig := gBm 893 (by decide +kernel) rfl
theorem kin_X7_posts : Cond.instanceMethod yX7_posts ∈ gBig := gBm 895 (by decide +kernel) rfl
theorem kc_X7_posts : Cond.code yX7_posts cX7_posts 4 (some .int) ∈ gBig := gBm 896 (by decide +kernel) rfl
theorem kk_X7_79 : Cond.constant RX7 79 (-100003) ∈ gBig := gBm 897 (by decide +kernel) rfl
theorem km_L_26 : Cond.methodLink RL 26 yX7_path ∈ gBig := gBm 898 (by decide +kernel) rfl
theorem kin_X7_path : Cond.instanceMethod yX7_path ∈ gBig := gBm 899 (by decide +kernel) rfl
theorem ksel_X7_path : Cond.selects RX7 yX7_path yX7_path ∈ gBig := gBm 900 (by decide +kernel) rfl
theorem kc_X7_path : Cond.code yX7_path cX7_path 5 (some .int) ∈ gBig := gBm 901 (by decide +kernel) rfl
theorem km_X7_80 : Cond.methodLink RX7 80 yX7_pathOf ∈ gBig := gBm 902 (by decide +kernel) rfl
theorem kin_X7_pathOf : Cond.instanceMethod yX7_pathOf ∈ gBig := gBm 904 (by decide +kernel) rfl
theorem kc_X7_pathOf : Cond.code yX7_pathOf cX7_pathOf 3 (some .int) ∈ gBig := gBm 905 (by decide +kernel) rfl
theorem km_X7_84 : Cond.methodLink RX7 84 yX7_join ∈ gBig := gBm 906 (by decide +kernel) rfl
theorem kin_X7_join : Cond.instanceMethod yX7_join ∈ gBig := gBm 908 (by decide +kernel) rfl
theorem kc_X7_join : Cond.code yX7_join cX7_join 4 none ∈ gBig := gBm 909 (by decide +kernel) rfl
theorem km_L_31 : Cond.methodLink RL 31 yX7_tide ∈ gBig := gBm 910 (by decide +kernel) rfl
theorem kin_X7_tide : Cond.instanceMethod yX7_tide ∈ gBig := gBm 911 (by decide +kernel) rfl
theorem ksel_X7_tide : Cond.selects RX7 yX7_tide yX7_tide ∈ gBig := gBm 912 (by decide +kernel) rfl
theorem kc_X7_tide : Cond.code yX7_tide cX7_tide 4 (some .int) ∈ gBig := gBm 913 (by decide +kernel) rfl
theorem km_X7_88 : Cond.methodLink RX7 88 yX7_isHour ∈ gBig := gBm 914 (by decide +kernel) rfl
theorem kst_X7_isHour : Cond.static yX7_isHour ∈ gBig := gBm 915 (by decide +kernel) rfl
theorem kc_X7_isHour : Cond.code yX7_isHour cX7_isHour 1 (some .boolean) ∈ gBig := gBm 916 (by decide +kernel) rfl
theorem kk_X7_54 : Cond.constantLong RX7 54 (23) ∈ gBig := gBm 917 (by decide +kernel) rfl
theorem km_L_35 : Cond.methodLink RL 35 yX7_set ∈ gBig := gBm 918 (by decide +kernel) rfl
theorem kin_X7_set : Cond.instanceMethod yX7_set ∈ gBig := gBm 919 (by decide +kernel) rfl
theorem ksel_X7_set : Cond.selects RX7 yX7_set yX7_set ∈ gBig := gBm 920 (by decide +kernel) rfl
theorem kc_X7_set : Cond.code yX7_set cX7_set 4 (some .int) ∈ gBig := gBm 921 (by decide +kernel) rfl
theorem kk_X7_91 : Cond.constantLong RX7 91 (40) ∈ gBig := gBm 922 (by decide +kernel) rfl
theorem km_L_39 : Cond.methodLink RL 39 yX7_person ∈ gBig := gBm 923 (by decide +kernel) rfl
theorem kin_X7_person : Cond.instanceMethod yX7_person ∈ gBig := gBm 924 (by decide +kernel) rfl
theorem ksel_X7_person : Cond.selects RX7 yX7_person yX7_person ∈ gBig := gBm 925 (by decide +kernel) rfl
theorem kc_X7_person : Cond.code yX7_person cX7_person 5 (some .int) ∈ gBig := gBm 926 (by decide +kernel) rfl
theorem kk_X7_93 : Cond.constantLong RX7 93 (3) ∈ gBig := gBm 927 (by decide +kernel) rfl
theorem km_L_43 : Cond.methodLink RL 43 yX7_of ∈ gBig := gBm 928 (by decide +kernel) rfl
theorem kin_X7_of : Cond.instanceMethod yX7_of ∈ gBig := gBm 929 (by decide +kernel) rfl
theorem ksel_X7_of : Cond.selects RX7 yX7_of yX7_of ∈ gBig := gBm 930 (by decide +kernel) rfl
theorem kc_X7_of : Cond.code yX7_of cX7_of 3 (some .int) ∈ gBig := gBm 931 (by decide +kernel) rfl
theorem km_X7_95 : Cond.methodLink RX7 95 yX7_isPerson ∈ gBig := gBm 932 (by decide +kernel) rfl
theorem kin_X7_isPerson : Cond.instanceMethod yX7_isPerson ∈ gBig := gBm 934 (by decide +kernel) rfl
theorem kc_X7_isPerson : Cond.code yX7_isPerson cX7_isPerson 2 (some .boolean) ∈ gBig := gBm 935 (by decide +kernel) rfl
theorem km_X7_98 : Cond.methodLink RX7 98 yX7_byKind ∈ gBig := gBm 936 (by decide +kernel) rfl
theorem kst_X7_byKind : Cond.static yX7_byKind ∈ gBig := gBm 937 (by decide +kernel) rfl
theorem kc_X7_byKind : Cond.code yX7_byKind cX7_byKind 3 (some .int) ∈ gBig := gBm 938 (by decide +kernel) rfl
theorem km_L_50 : Cond.methodLink RL 50 yX7_type ∈ gBig := gBm 939 (by decide +kernel) rfl
theorem kin_X7_type : Cond.instanceMethod yX7_type ∈ gBig := gBm 940 (by decide +kernel) rfl
theorem ksel_X7_type : Cond.selects RX7 yX7_type yX7_type ∈ gBig := gBm 941 (by decide +kernel) rfl
theorem kc_X7_type : Cond.code yX7_type cX7_type 5 (some .int) ∈ gBig := gBm 942 (by decide +kernel) rfl
theorem kk_X7_102 : Cond.constantLong RX7 102 (8) ∈ gBig := gBm 943 (by decide +kernel) rfl
theorem kk_X7_104 : Cond.constantLong RX7 104 (255) ∈ gBig := gBm 944 (by decide +kernel) rfl
theorem kk_X7_106 : Cond.constantLong RX7 106 (32) ∈ gBig := gBm 945 (by decide +kernel) rfl
theorem kk_X7_108 : Cond.constantLong RX7 108 (126) ∈ gBig := gBm 946 (by decide +kernel) rfl
theorem km_L_55 : Cond.methodLink RL 55 yX7_lagoon ∈ gBig := gBm 947 (by decide +kernel) rfl
theorem kin_X7_lagoon : Cond.instanceMethod yX7_lagoon ∈ gBig := gBm 948 (by decide +kernel) rfl
theorem ksel_X7_lagoon : Cond.selects RX7 yX7_lagoon yX7_lagoon ∈ gBig := gBm 949 (by decide +kernel) rfl
theorem kc_X7_lagoon : Cond.code yX7_lagoon cX7_lagoon 5 (some .int) ∈ gBig := gBm 950 (by decide +kernel) rfl
theorem km_X7_135 : Cond.methodLink RX7 135 yX7_begin ∈ gBig := gBm 951 (by decide +kernel) rfl
theorem kin_X7_begin : Cond.instanceMethod yX7_begin ∈ gBig := gBm 953 (by decide +kernel) rfl
theorem kc_X7_begin : Cond.code yX7_begin cX7_begin 1 none ∈ gBig := gBm 954 (by decide +kernel) rfl
theorem km_X7_138 : Cond.methodLink RX7 138 yX7_takes ∈ gBig := gBm 955 (by decide +kernel) rfl
theorem kin_X7_takes : Cond.instanceMethod yX7_takes ∈ gBig := gBm 957 (by decide +kernel) rfl
theorem kc_X7_takes : Cond.code yX7_takes cX7_takes 3 (some .boolean) ∈ gBig := gBm 958 (by decide +kernel) rfl
theorem km_X7_120 : Cond.methodLink RX7 120 yX7_next ∈ gBig := gBm 959 (by decide +kernel) rfl
theorem kin_X7_next : Cond.instanceMethod yX7_next ∈ gBig := gBm 961 (by decide +kernel) rfl
theorem kc_X7_next : Cond.code yX7_next cX7_next 1 (some .int) ∈ gBig := gBm 962 (by decide +kernel) rfl
theorem km_X7_141 : Cond.methodLink RX7 141 yX7_number ∈ gBig := gBm 963 (by decide +kernel) rfl
theorem kin_X7_number : Cond.instanceMethod yX7_number ∈ gBig := gBm 965 (by decide +kernel) rfl
theorem kc_X7_number : Cond.code yX7_number cX7_number 7 none ∈ gBig := gBm 966 (by decide +kernel) rfl
theorem kk_X7_124 : Cond.constantLong RX7 124 (48) ∈ gBig := gBm 967 (by decide +kernel) rfl
theorem kk_X7_126 : Cond.constantLong RX7 126 (57) ∈ gBig := gBm 968 (by decide +kernel) rfl
theorem km_X7_128 : Cond.methodLink RX7 128 yX7_cannot ∈ gBig := gBm 969 (by decide +kernel) rfl
theorem kin_X7_cannot : Cond.instanceMethod yX7_cannot ∈ gBig := gBm 971 (by decide +kernel) rfl
theorem kc_X7_cannot : Cond.code yX7_cannot cX7_cannot 2 none ∈ gBig := gBm 972 (by decide +kernel) rfl
theorem km_X7_145 : Cond.methodLink RX7 145 yX7_fails ∈ gBig := gBm 973 (by decide +kernel) rfl
theorem kin_X7_fails : Cond.instanceMethod yX7_fails ∈ gBig := gBm 975 (by decide +kernel) rfl
theorem kc_X7_fails : Cond.code yX7_fails cX7_fails 1 (some .int) ∈ gBig := gBm 976 (by decide +kernel) rfl
theorem km_L_59 : Cond.methodLink RL 59 yX7_paths ∈ gBig := gBm 977 (by decide +kernel) rfl
theorem kin_X7_paths : Cond.instanceMethod yX7_paths ∈ gBig := gBm 978 (by decide +kernel) rfl
theorem ksel_X7_paths : Cond.selects RX7 yX7_paths yX7_paths ∈ gBig := gBm 979 (by decide +kernel) rfl
theorem kc_X7_paths : Cond.code yX7_paths cX7_paths 5 (some .int) ∈ gBig := gBm 980 (by decide +kernel) rfl
theorem km_X7_148 : Cond.methodLink RX7 148 yX7_letter ∈ gBig := gBm 981 (by decide +kernel) rfl
theorem kin_X7_letter : Cond.instanceMethod yX7_letter ∈ gBig := gBm 983 (by decide +kernel) rfl
theorem kc_X7_letter : Cond.code yX7_letter cX7_letter 3 (some .int) ∈ gBig := gBm 984 (by decide +kernel) rfl
theorem km_L_63 : Cond.methodLink RL 63 yX7_count ∈ gBig := gBm 985 (by decide +kernel) rfl
theorem kin_X7_count : Cond.instanceMethod yX7_count ∈ gBig := gBm 986 (by decide +kernel) rfl
theorem ksel_X7_count : Cond.selects RX7 yX7_count yX7_count ∈ gBig := gBm 987 (by decide +kernel) rfl
theorem kc_X7_count : Cond.code yX7_count cX7_count 5 (some .int) ∈ gBig := gBm 988 (by decide +kernel) rfl
theorem kk_X7_151 : Cond.constantLong RX7 151 (4) ∈ gBig := gBm 989 (by decide +kernel) rfl
theorem km_L_67 : Cond.methodLink RL 67 yX7_water ∈ gBig := gBm 990 (by decide +kernel) rfl
theorem kin_X7_water : Cond.instanceMethod yX7_water ∈ gBig := gBm 991 (by decide +kernel) rfl
theorem ksel_X7_water : Cond.selects RX7 yX7_water yX7_water ∈ gBig := gBm 992 (by decide +kernel) rfl
theorem kc_X7_water : Cond.code yX7_water cX7_water 3 (some .int) ∈ gBig := gBm 993 (by decide +kernel) rfl
theorem km_X7_157 : Cond.methodLink RX7 157 yX7_waterBy ∈ gBig := gBm 994 (by decide +kernel) rfl
theorem kin_X7_waterBy : Cond.instanceMethod yX7_waterBy ∈ gBig := gBm 996 (by decide +kernel) rfl
theorem kc_X7_waterBy : Cond.code yX7_waterBy cX7_waterBy 5 (some .int) ∈ gBig := gBm 997 (by decide +kernel) rfl
theorem km_L_71 : Cond.methodLink RL 71 yX7_stands ∈ gBig := gBm 998 (by decide +kernel) rfl
theorem kin_X7_stands : Cond.instanceMethod yX7_stands ∈ gBig := gBm 999 (by decide +kernel) rfl
theorem ksel_X7_stands : Cond.selects RX7 yX7_stands yX7_stands ∈ gBig := gBm 1000 (by decide +kernel) rfl
theorem kc_X7_stands : Cond.code yX7_stands cX7_stands 4 (some .int) ∈ gBig := gBm 1001 (by decide +kernel) rfl
theorem km_X7_167 : Cond.methodLink RX7 167 yX7_does ∈ gBig := gBm 1002 (by decide +kernel) rfl
theorem kin_X7_does : Cond.instanceMethod yX7_does ∈ gBig := gBm 1004 (by decide +kernel) rfl
theorem kc_X7_does : Cond.code yX7_does cX7_does 4 (some .boolean) ∈ gBig := gBm 1005 (by decide +kernel) rfl
theorem km_X7_164 : Cond.methodLink RX7 164 yX7_would ∈ gBig := gBm 1006 (by decide +kernel) rfl
theorem kin_X7_would : Cond.instanceMethod yX7_would ∈ gBig := gBm 1008 (by decide +kernel) rfl
theorem kc_X7_would : Cond.code yX7_would cX7_would 5 (some .boolean) ∈ gBig := gBm 1009 (by decide +kernel) rfl
theorem km_X7_160 : Cond.methodLink RX7 160 yX7_standsBy ∈ gBig := gBm 1010 (by decide +kernel) rfl
theorem kin_X7_standsBy : Cond.instanceMethod yX7_standsBy ∈ gBig := gBm 1012 (by decide +kernel) rfl
theorem kc_X7_standsBy : Cond.code yX7_standsBy cX7_standsBy 5 (some .boolean) ∈ gBig := gBm 1013 (by decide +kernel) rfl
theorem km_X7_153 : Cond.methodLink RX7 153 yX7_reaches ∈ gBig := gBm 1014 (by decide +kernel) rfl
theorem kin_X7_reaches : Cond.instanceMethod yX7_reaches ∈ gBig := gBm 1016 (by decide +kernel) rfl
theorem kc_X7_reaches : Cond.code yX7_reaches cX7_reaches 3 (some .boolean) ∈ gBig := gBm 1017 (by decide +kernel) rfl
theorem km_L_75 : Cond.methodLink RL 75 yX7_hours ∈ gBig := gBm 1018 (by decide +kernel) rfl
theorem kin_X7_hours : Cond.instanceMethod yX7_hours ∈ gBig := gBm 1019 (by decide +kernel) rfl
theorem ksel_X7_hours : Cond.selects RX7 yX7_hours yX7_hours ∈ gBig := gBm 1020 (by decide +kernel) rfl
theorem kc_X7_hours : Cond.code yX7_hours cX7_hours 5 (some .int) ∈ gBig := gBm 1021 (by decide +kernel) rfl
theorem km_L_79 : Cond.methodLink RL 79 yX7_years ∈ gBig := gBm 1022 (by decide +kernel) rfl
theorem kin_X7_years : Cond.instanceMethod yX7_years ∈ gBig := gBm 1023 (by decide +kernel) rfl
theorem ksel_X7_years : Cond.selects RX7 yX7_years yX7_years ∈ gBig := gBm 1024 (by decide +kernel) rfl
theorem kc_X7_years : Cond.code yX7_years cX7_years 4 (some .int) ∈ gBig := gBm 1025 (by decide +kernel) rfl
theorem kk_X7_171 : Cond.constantLong RX7 171 (30) ∈ gBig := gBm 1026 (by decide +kernel) rfl
theorem km_X7_173 : Cond.methodLink RX7 173 yX7_silted ∈ gBig := gBm 1027 (by decide +kernel) rfl
theorem kst_X7_silted : Cond.static yX7_silted ∈ gBig := gBm 1028 (by decide +kernel) rfl
theorem kc_X7_silted : Cond.code yX7_silted cX7_silted 3 (some .int) ∈ gBig := gBm 1029 (by decide +kernel) rfl
theorem km_L_84 : Cond.methodLink RL 84 yX7_way ∈ gBig := gBm 1030 (by decide +kernel) rfl
theorem kin_X7_way : Cond.instanceMethod yX7_way ∈ gBig := gBm 1031 (by decide +kernel) rfl
theorem ksel_X7_way : Cond.selects RX7 yX7_way yX7_way ∈ gBig := gBm 1032 (by decide +kernel) rfl
theorem kc_X7_way : Cond.code yX7_way cX7_way 5 (some .int) ∈ gBig := gBm 1033 (by decide +kernel) rfl
theorem kk_X7_209 : Cond.constantLong RX7 209 (1439) ∈ gBig := gBm 1034 (by decide +kernel) rfl
theorem km_X7_211 : Cond.methodLink RX7 211 yX7_go ∈ gBig := gBm 1035 (by decide +kernel) rfl
theorem kin_X7_go : Cond.instanceMethod yX7_go ∈ gBig := gBm 1037 (by decide +kernel) rfl
theorem kc_X7_go : Cond.code yX7_go cX7_go 8 none ∈ gBig := gBm 1038 (by decide +kernel) rfl
theorem km_X7_179 : Cond.methodLink RX7 179 yX7_hourOf ∈ gBig := gBm 1039 (by decide +kernel) rfl
theorem kst_X7_hourOf : Cond.static yX7_hourOf ∈ gBig := gBm 1040 (by decide +kernel) rfl
theorem kc_X7_hourOf : Cond.code yX7_hourOf cX7_hourOf 1 (some .int) ∈ gBig := gBm 1041 (by decide +kernel) rfl
theorem km_X7_182 : Cond.methodLink RX7 182 yX7_lengthWith ∈ gBig := gBm 1042 (by decide +kernel) rfl
theorem kin_X7_lengthWith : Cond.instanceMethod yX7_lengthWith ∈ gBig := gBm 1044 (by decide +kernel) rfl
theorem kc_X7_lengthWith : Cond.code yX7_lengthWith cX7_lengthWith 6 (some .int) ∈ gBig := gBm 1045 (by decide +kernel) rfl
theorem km_X7_176 : Cond.methodLink RX7 176 yX7_postOf ∈ gBig := gBm 1046 (by decide +kernel) rfl
theorem kin_X7_postOf : Cond.instanceMethod yX7_postOf ∈ gBig := gBm 1048 (by decide +kernel) rfl
theorem kc_X7_postOf : Cond.code yX7_postOf cX7_postOf 4 (some .int) ∈ gBig := gBm 1049 (by decide +kernel) rfl
theorem km_X7_198 : Cond.methodLink RX7 198 yX7_arrives ∈ gBig := gBm 1050 (by decide +kernel) rfl
theorem kin_X7_arrives : Cond.instanceMethod yX7_arrives ∈ gBig := gBm 1052 (by decide +kernel) rfl
theorem kc_X7_arrives : Cond.code yX7_arrives cX7_arrives 7 none ∈ gBig := gBm 1053 (by decide +kernel) rfl
theorem km_X7_202 : Cond.methodLink RX7 202 yX7_look ∈ gBig := gBm 1054 (by decide +kernel) rfl
theorem kin_X7_look : Cond.instanceMethod yX7_look ∈ gBig := gBm 1056 (by decide +kernel) rfl
theorem kc_X7_look : Cond.code yX7_look cX7_look 4 none ∈ gBig := gBm 1057 (by decide +kernel) rfl
theorem km_X7_195 : Cond.methodLink RX7 195 yX7_bits ∈ gBig := gBm 1058 (by decide +kernel) rfl
theorem kst_X7_bits : Cond.static yX7_bits ∈ gBig := gBm 1059 (by decide +kernel) rfl
theorem kc_X7_bits : Cond.code yX7_bits cX7_bits 3 (some .int) ∈ gBig := gBm 1060 (by decide +kernel) rfl
theorem km_X7_205 : Cond.methodLink RX7 205 yX7_leaves ∈ gBig := gBm 1061 (by decide +kernel) rfl
theorem kin_X7_leaves : Cond.instanceMethod yX7_leaves ∈ gBig := gBm 1063 (by decide +kernel) rfl
theorem kc_X7_leaves : Cond.code yX7_leaves cX7_leaves 9 none ∈ gBig := gBm 1064 (by decide +kernel) rfl
theorem km_X7_185 : Cond.methodLink RX7 185 yX7_lasts ∈ gBig := gBm 1065 (by decide +kernel) rfl
theorem kin_X7_lasts : Cond.instanceMethod yX7_lasts ∈ gBig := gBm 1067 (by decide +kernel) rfl
theorem kc_X7_lasts : Cond.code yX7_lasts cX7_lasts 7 (some .boolean) ∈ gBig := gBm 1068 (by decide +kernel) rfl
theorem km_L_88 : Cond.methodLink RL 88 yX7_race ∈ gBig := gBm 1069 (by decide +kernel) rfl
theorem kin_X7_race : Cond.instanceMethod yX7_race ∈ gBig := gBm 1070 (by decide +kernel) rfl
theorem ksel_X7_race : Cond.selects RX7 yX7_race yX7_race ∈ gBig := gBm 1071 (by decide +kernel) rfl
theorem kc_X7_race : Cond.code yX7_race cX7_race 9 (some .int) ∈ gBig := gBm 1072 (by decide +kernel) rfl
theorem km_X7_214 : Cond.methodLink RX7 214 yX7_isSet ∈ gBig := gBm 1073 (by decide +kernel) rfl
theorem kin_X7_isSet : Cond.instanceMethod yX7_isSet ∈ gBig := gBm 1075 (by decide +kernel) rfl
theorem kc_X7_isSet : Cond.code yX7_isSet cX7_isSet 2 (some .boolean) ∈ gBig := gBm 1076 (by decide +kernel) rfl
theorem km_L_92 : Cond.methodLink RL 92 yX7_need ∈ gBig := gBm 1077 (by decide +kernel) rfl
theorem kin_X7_need : Cond.instanceMethod yX7_need ∈ gBig := gBm 1078 (by decide +kernel) rfl
theorem ksel_X7_need : Cond.selects RX7 yX7_need yX7_need ∈ gBig := gBm 1079 (by decide +kernel) rfl
theorem kc_X7_need : Cond.code yX7_need cX7_need 5 (some .int) ∈ gBig := gBm 1080 (by decide +kernel) rfl
theorem km_L_96 : Cond.methodLink RL 96 yX7_met ∈ gBig := gBm 1081 (by decide +kernel) rfl
theorem kin_X7_met : Cond.instanceMethod yX7_met ∈ gBig := gBm 1082 (by decide +kernel) rfl
theorem ksel_X7_met : Cond.selects RX7 yX7_met yX7_met ∈ gBig := gBm 1083 (by decide +kernel) rfl
theorem kc_X7_met : Cond.code yX7_met cX7_met 3 (some .int) ∈ gBig := gBm 1084 (by decide +kernel) rfl
theorem km_L_100 : Cond.methodLink RL 100 yX7_lengths ∈ gBig := gBm 1085 (by decide +kernel) rfl
theorem kin_X7_lengths : Cond.instanceMethod yX7_lengths ∈ gBig := gBm 1086 (by decide +kernel) rfl
theorem ksel_X7_lengths : Cond.selects RX7 yX7_lengths yX7_lengths ∈ gBig := gBm 1087 (by decide +kernel) rfl
theorem kc_X7_lengths : Cond.code yX7_lengths cX7_lengths 6 (some .int) ∈ gBig := gBm 1088 (by decide +kernel) rfl
theorem km_X7_223 : Cond.methodLink RX7 223 yX7_fewest ∈ gBig := gBm 1089 (by decide +kernel) rfl
theorem kin_X7_fewest : Cond.instanceMethod yX7_fewest ∈ gBig := gBm 1091 (by decide +kernel) rfl
theorem kc_X7_fewest : Cond.code yX7_fewest cX7_fewest 5 none ∈ gBig := gBm 1092 (by decide +kernel) rfl
theorem km_X7_220 : Cond.methodLink RX7 220 yX7_doesFor ∈ gBig := gBm 1093 (by decide +kernel) rfl
theorem kin_X7_doesFor : Cond.instanceMethod yX7_doesFor ∈ gBig := gBm 1095 (by decide +kernel) rfl
theorem kc_X7_doesFor : Cond.code yX7_doesFor cX7_doesFor 4 (some .int) ∈ gBig := gBm 1096 (by decide +kernel) rfl
theorem km_X7_217 : Cond.methodLink RX7 217 yX7_needy ∈ gBig := gBm 1097 (by decide +kernel) rfl
theorem kin_X7_needy : Cond.instanceMethod yX7_needy ∈ gBig := gBm 1099 (by decide +kernel) rfl
theorem kc_X7_needy : Cond.code yX7_needy cX7_needy 3 (some .int) ∈ gBig := gBm 1100 (by decide +kernel) rfl
theorem km_L_104 : Cond.methodLink RL 104 yX7_meeting ∈ gBig := gBm 1101 (by decide +kernel) rfl
theorem kin_X7_meeting : Cond.instanceMethod yX7_meeting ∈ gBig := gBm 1102 (by decide +kernel) rfl
theorem ksel_X7_meeting : Cond.selects RX7 yX7_meeting yX7_meeting ∈ gBig := gBm 1103 (by decide +kernel) rfl
theorem kc_X7_meeting : Cond.code yX7_meeting cX7_meeting 9 (some .int) ∈ gBig := gBm 1104 (by decide +kernel) rfl
theorem kk_X7_226 : Cond.constantLong RX7 226 (2) ∈ gBig := gBm 1105 (by decide +kernel) rfl
theorem km_L_108 : Cond.methodLink RL 108 yX7_pairs ∈ gBig := gBm 1106 (by decide +kernel) rfl
theorem kin_X7_pairs : Cond.instanceMethod yX7_pairs ∈ gBig := gBm 1107 (by decide +kernel) rfl
theorem ksel_X7_pairs : Cond.selects RX7 yX7_pairs yX7_pairs ∈ gBig := gBm 1108 (by decide +kernel) rfl
theorem kc_X7_pairs : Cond.code yX7_pairs cX7_pairs 8 (some .int) ∈ gBig := gBm 1109 (by decide +kernel) rfl
theorem km_X7_228 : Cond.methodLink RX7 228 yX7_of ∈ gBig := gBm 1110 (by decide +kernel) rfl
theorem km_L_112 : Cond.methodLink RL 112 yX7_flood ∈ gBig := gBm 1111 (by decide +kernel) rfl
theorem kin_X7_flood : Cond.instanceMethod yX7_flood ∈ gBig := gBm 1112 (by decide +kernel) rfl
theorem ksel_X7_flood : Cond.selects RX7 yX7_flood yX7_flood ∈ gBig := gBm 1113 (by decide +kernel) rfl
theorem kc_X7_flood : Cond.code yX7_flood cX7_flood 5 (some .int) ∈ gBig := gBm 1114 (by decide +kernel) rfl
theorem kk_X7_237 : Cond.constantLong RX7 237 (-2) ∈ gBig := gBm 1115 (by decide +kernel) rfl
theorem km_X7_234 : Cond.methodLink RX7 234 yX7_dry ∈ gBig := gBm 1116 (by decide +kernel) rfl
theorem kin_X7_dry : Cond.instanceMethod yX7_dry ∈ gBig := gBm 1118 (by decide +kernel) rfl
theorem kc_X7_dry : Cond.code yX7_dry cX7_dry 4 (some .int) ∈ gBig := gBm 1119 (by decide +kernel) rfl
theorem km_X7_231 : Cond.methodLink RX7 231 yX7_isDry ∈ gBig := gBm 1120 (by decide +kernel) rfl
theorem kin_X7_isDry : Cond.instanceMethod yX7_isDry ∈ gBig := gBm 1122 (by decide +kernel) rfl
theorem kc_X7_isDry : Cond.code yX7_isDry cX7_isDry 5 (some .boolean) ∈ gBig := gBm 1123 (by decide +kernel) rfl
theorem km_X7_239 : Cond.methodLink RX7 239 yX7_share ∈ gBig := gBm 1124 (by decide +kernel) rfl
theorem kin_X7_share : Cond.instanceMethod yX7_share ∈ gBig := gBm 1126 (by decide +kernel) rfl
theorem kc_X7_share : Cond.code yX7_share cX7_share 7 none ∈ gBig := gBm 1127 (by decide +kernel) rfl
theorem km_L_116 : Cond.methodLink RL 116 yX7_carried ∈ gBig := gBm 1128 (by decide +kernel) rfl
theorem kin_X7_carried : Cond.instanceMethod yX7_carried ∈ gBig := gBm 1129 (by decide +kernel) rfl
theorem ksel_X7_carried : Cond.selects RX7 yX7_carried yX7_carried ∈ gBig := gBm 1130 (by decide +kernel) rfl
theorem kc_X7_carried : Cond.code yX7_carried cX7_carried 8 (some .int) ∈ gBig := gBm 1131 (by decide +kernel) rfl
theorem km_L_120 : Cond.methodLink RL 120 yX7_wrong ∈ gBig := gBm 1132 (by decide +kernel) rfl
theorem kin_X7_wrong : Cond.instanceMethod yX7_wrong ∈ gBig := gBm 1133 (by decide +kernel) rfl
theorem ksel_X7_wrong : Cond.selects RX7 yX7_wrong yX7_wrong ∈ gBig := gBm 1134 (by decide +kernel) rfl
theorem kc_X7_wrong : Cond.code yX7_wrong cX7_wrong 8 (some .int) ∈ gBig := gBm 1135 (by decide +kernel) rfl
theorem km_L_124 : Cond.methodLink RL 124 yX7_clear ∈ gBig := gBm 1136 (by decide +kernel) rfl
theorem kin_X7_clear : Cond.instanceMethod yX7_clear ∈ gBig := gBm 1137 (by decide +kernel) rfl
theorem ksel_X7_clear : Cond.selects RX7 yX7_clear yX7_clear ∈ gBig := gBm 1138 (by decide +kernel) rfl
theorem kc_X7_clear : Cond.code yX7_clear cX7_clear 2 (some .int) ∈ gBig := gBm 1139 (by decide +kernel) rfl
theorem km_L_128 : Cond.methodLink RL 128 yX7_image ∈ gBig := gBm 1140 (by decide +kernel) rfl
theorem kin_X7_image : Cond.instanceMethod yX7_image ∈ gBig := gBm 1141 (by decide +kernel) rfl
theorem ksel_X7_image : Cond.selects RX7 yX7_image yX7_image ∈ gBig := gBm 1142 (by decide +kernel) rfl
theorem kc_X7_image : Cond.code yX7_image cX7_image 2 (some .int) ∈ gBig := gBm 1143 (by decide +kernel) rfl
theorem km_L_132 : Cond.methodLink RL 132 yX7_restore ∈ gBig := gBm 1144 (by decide +kernel) rfl
theorem kin_X7_restore : Cond.instanceMethod yX7_restore ∈ gBig := gBm 1145 (by decide +kernel) rfl
theorem ksel_X7_restore : Cond.selects RX7 yX7_restore yX7_restore ∈ gBig := gBm 1146 (by decide +kernel) rfl
theorem kc_X7_restore : Cond.code yX7_restore cX7_restore 2 (some .int) ∈ gBig := gBm 1147 (by decide +kernel) rfl
theorem km_L_136 : Cond.methodLink RL 136 yX7_tides ∈ gBig := gBm 1148 (by decide +kernel) rfl
theorem kin_X7_tides : Cond.instanceMethod yX7_tides ∈ gBig := gBm 1149 (by decide +kernel) rfl
theorem ksel_X7_tides : Cond.selects RX7 yX7_tides yX7_tides ∈ gBig := gBm 1150 (by decide +kernel) rfl
theorem kc_X7_tides : Cond.code yX7_tides cX7_tides 4 (some .int) ∈ gBig := gBm 1151 (by decide +kernel) rfl
theorem km_X7_246 : Cond.methodLink RX7 246 yX7_isSheet ∈ gBig := gBm 1152 (by decide +kernel) rfl
theorem kst_X7_isSheet : Cond.static yX7_isSheet ∈ gBig := gBm 1153 (by decide +kernel) rfl
theorem kc_X7_isSheet : Cond.code yX7_isSheet cX7_isSheet 1 (some .boolean) ∈ gBig := gBm 1154 (by decide +kernel) rfl
theorem km_X7_249 : Cond.methodLink RX7 249 yX7_isLane ∈ gBig := gBm 1155 (by decide +kernel) rfl
theorem kst_X7_isLane : Cond.static yX7_isLane ∈ gBig := gBm 1156 (by decide +kernel) rfl
theorem kc_X7_isLane : Cond.code yX7_isLane cX7_isLane 1 (some .boolean) ∈ gBig := gBm 1157 (by decide +kernel) rfl
theorem km_L_140 : Cond.methodLink RL 140 yX7_sheet ∈ gBig := gBm 1158 (by decide +kernel) rfl
theorem kin_X7_sheet : Cond.instanceMethod yX7_sheet ∈ gBig := gBm 1159 (by decide +kernel) rfl
theorem ksel_X7_sheet : Cond.selects RX7 yX7_sheet yX7_sheet ∈ gBig := gBm 1160 (by decide +kernel) rfl
theorem kc_X7_sheet : Cond.code yX7_sheet cX7_sheet 5 (some .int) ∈ gBig := gBm 1161 (by decide +kernel) rfl
theorem km_L_144 : Cond.methodLink RL 144 yX7_drop ∈ gBig := gBm 1162 (by decide +kernel) rfl
theorem kin_X7_drop : Cond.instanceMethod yX7_drop ∈ gBig := gBm 1163 (by decide +kernel) rfl
theorem ksel_X7_drop : Cond.selects RX7 yX7_drop yX7_drop ∈ gBig := gBm 1164 (by decide +kernel) rfl
theorem kc_X7_drop : Cond.code yX7_drop cX7_drop 2 (some .int) ∈ gBig := gBm 1165 (by decide +kernel) rfl
theorem km_L_148 : Cond.methodLink RL 148 yX7_item ∈ gBig := gBm 1166 (by decide +kernel) rfl
theorem kin_X7_item : Cond.instanceMethod yX7_item ∈ gBig := gBm 1167 (by decide +kernel) rfl
theorem ksel_X7_item : Cond.selects RX7 yX7_item yX7_item ∈ gBig := gBm 1168 (by decide +kernel) rfl
theorem kc_X7_item : Cond.code yX7_item cX7_item 5 (some .int) ∈ gBig := gBm 1169 (by decide +kernel) rfl
theorem km_L_153 : Cond.methodLink RL 153 yX7_copy ∈ gBig := gBm 1170 (by decide +kernel) rfl
theorem kin_X7_copy : Cond.instanceMethod yX7_copy ∈ gBig := gBm 1171 (by decide +kernel) rfl
theorem ksel_X7_copy : Cond.selects RX7 yX7_copy yX7_copy ∈ gBig := gBm 1172 (by decide +kernel) rfl
theorem kc_X7_copy : Cond.code yX7_copy cX7_copy 7 (some .int) ∈ gBig := gBm 1173 (by decide +kernel) rfl
theorem kk_L_44 : Cond.constantLong RL 44 (4294967295) ∈ gBig := gBm 1174 (by decide +kernel) rfl
theorem ksel_X6_makeSplices : Cond.selects RX6 yX6_makeSplices yX6_makeSplices ∈ gBig := gBm 0 (by decide +kernel) rfl
theorem ksel_X3_begin : Cond.selects RX3 yX3_begin yX3_begin ∈ gBig := gBm 1 (by decide +kernel) rfl
theorem ksel_X3_readPlace : Cond.selects RX3 yX3_readPlace yX3_readPlace ∈ gBig := gBm 2 (by decide +kernel) rfl
theorem ksel_X3_readDepth : Cond.selects RX3 yX3_readDepth yX3_readDepth ∈ gBig := gBm 3 (by decide +kernel) rfl
theorem ksel_X3_peek : Cond.selects RX3 yX3_peek yX3_peek ∈ gBig := gBm 4 (by decide +kernel) rfl
theorem ksel_X3_readNumber : Cond.selects RX3 yX3_readNumber yX3_readNumber ∈ gBig := gBm 5 (by decide +kernel) rfl
theorem ksel_X3_faultAt : Cond.selects RX3 yX3_faultAt yX3_faultAt ∈ gBig := gBm 6 (by decide +kernel) rfl
theorem ksel_X3_goesOn : Cond.selects RX3 yX3_goesOn yX3_goesOn ∈ gBig := gBm 7 (by decide +kernel) rfl
theorem ksel_X3_outcome : Cond.selects RX3 yX3_outcome yX3_outcome ∈ gBig := gBm 8 (by decide +kernel) rfl
theorem ksel_X3_readPath : Cond.selects RX3 yX3_readPath yX3_readPath ∈ gBig := gBm 9 (by decide +kernel) rfl
theorem ksel_X3_readLetter : Cond.selects RX3 yX3_readLetter yX3_readLetter ∈ gBig := gBm 10 (by decide +kernel) rfl
theorem ksel_X5_listPosts : Cond.selects RX5 yX5_listPosts yX5_listPosts ∈ gBig := gBm 11 (by decide +kernel) rfl
theorem ksel_X5_listEdges : Cond.selects RX5 yX5_listEdges yX5_listEdges ∈ gBig := gBm 12 (by decide +kernel) rfl
theorem ksel_X5_footingIn : Cond.selects RX5 yX5_footingIn yX5_footingIn ∈ gBig := gBm 13 (by decide +kernel) rfl
theorem ksel_X5_step : Cond.selects RX5 yX5_step yX5_step ∈ gBig := gBm 14 (by decide +kernel) rfl
theorem ksel_X5_hourOf : Cond.selects RX5 yX5_hourOf yX5_hourOf ∈ gBig := gBm 15 (by decide +kernel) rfl
theorem ksel_X5_arrive : Cond.selects RX5 yX5_arrive yX5_arrive ∈ gBig := gBm 16 (by decide +kernel) rfl
theorem ksel_X5_walkAlong : Cond.selects RX5 yX5_walkAlong yX5_walkAlong ∈ gBig := gBm 17 (by decide +kernel) rfl
theorem ksel_X5_withSplice : Cond.selects RX5 yX5_withSplice yX5_withSplice ∈ gBig := gBm 18 (by decide +kernel) rfl
theorem ksel_X5_fewestTaken : Cond.selects RX5 yX5_fewestTaken yX5_fewestTaken ∈ gBig := gBm 19 (by decide +kernel) rfl
theorem ksel_X4_suitedBy : Cond.selects RX4 yX4_suitedBy yX4_suitedBy ∈ gBig := gBm 20 (by decide +kernel) rfl
theorem ksel_X4_weighWith : Cond.selects RX4 yX4_weighWith yX4_weighWith ∈ gBig := gBm 21 (by decide +kernel) rfl
theorem ksel_X0_firstBest : Cond.selects RX0 yX0_firstBest yX0_firstBest ∈ gBig := gBm 22 (by decide +kernel) rfl
theorem ksel_X0_drownedBehind : Cond.selects RX0 yX0_drownedBehind yX0_drownedBehind ∈ gBig := gBm 23 (by decide +kernel) rfl
theorem ksel_X6_refusal : Cond.selects RX6 yX6_refusal yX6_refusal ∈ gBig := gBm 24 (by decide +kernel) rfl
theorem ksel_X7_put : Cond.selects RX7 yX7_put yX7_put ∈ gBig := gBm 25 (by decide +kernel) rfl
theorem ksel_X7_isPlace : Cond.selects RX7 yX7_isPlace yX7_isPlace ∈ gBig := gBm 26 (by decide +kernel) rfl
theorem ksel_X7_posts : Cond.selects RX7 yX7_posts yX7_posts ∈ gBig := gBm 27 (by decide +kernel) rfl
theorem ksel_X7_pathOf : Cond.selects RX7 yX7_pathOf yX7_pathOf ∈ gBig := gBm 28 (by decide +kernel) rfl
theorem ksel_X7_join : Cond.selects RX7 yX7_join yX7_join ∈ gBig := gBm 29 (by decide +kernel) rfl
theorem ksel_X7_isPerson : Cond.selects RX7 yX7_isPerson yX7_isPerson ∈ gBig := gBm 30 (by decide +kernel) rfl
theorem ksel_X7_begin : Cond.selects RX7 yX7_begin yX7_begin ∈ gBig := gBm 31 (by decide +kernel) rfl
theorem ksel_X7_takes : Cond.selects RX7 yX7_takes yX7_takes ∈ gBig := gBm 32 (by decide +kernel) rfl
theorem ksel_X7_next : Cond.selects RX7 yX7_next yX7_next ∈ gBig := gBm 33 (by decide +kernel) rfl
theorem ksel_X7_number : Cond.selects RX7 yX7_number yX7_number ∈ gBig := gBm 34 (by decide +kernel) rfl
theorem ksel_X7_cannot : Cond.selects RX7 yX7_cannot yX7_cannot ∈ gBig := gBm 35 (by decide +kernel) rfl
theorem ksel_X7_fails : Cond.selects RX7 yX7_fails yX7_fails ∈ gBig := gBm 36 (by decide +kernel) rfl
theorem ksel_X7_letter : Cond.selects RX7 yX7_letter yX7_letter ∈ gBig := gBm 37 (by decide +kernel) rfl
theorem ksel_X7_waterBy : Cond.selects RX7 yX7_waterBy yX7_waterBy ∈ gBig := gBm 38 (by decide +kernel) rfl
theorem ksel_X7_does : Cond.selects RX7 yX7_does yX7_does ∈ gBig := gBm 39 (by decide +kernel) rfl
theorem ksel_X7_would : Cond.selects RX7 yX7_would yX7_would ∈ gBig := gBm 40 (by decide +kernel) rfl
theorem ksel_X7_standsBy : Cond.selects RX7 yX7_standsBy yX7_standsBy ∈ gBig := gBm 41 (by decide +kernel) rfl
theorem ksel_X7_reaches : Cond.selects RX7 yX7_reaches yX7_reaches ∈ gBig := gBm 42 (by decide +kernel) rfl
theorem ksel_X7_go : Cond.selects RX7 yX7_go yX7_go ∈ gBig := gBm 43 (by decide +kernel) rfl
theorem ksel_X7_lengthWith : Cond.selects RX7 yX7_lengthWith yX7_lengthWith ∈ gBig := gBm 44 (by decide +kernel) rfl
theorem ksel_X7_postOf : Cond.selects RX7 yX7_postOf yX7_postOf ∈ gBig := gBm 45 (by decide +kernel) rfl
theorem ksel_X7_arrives : Cond.selects RX7 yX7_arrives yX7_arrives ∈ gBig := gBm 46 (by decide +kernel) rfl
theorem ksel_X7_look : Cond.selects RX7 yX7_look yX7_look ∈ gBig := gBm 47 (by decide +kernel) rfl
theorem ksel_X7_leaves : Cond.selects RX7 yX7_leaves yX7_leaves ∈ gBig := gBm 48 (by decide +kernel) rfl
theorem ksel_X7_lasts : Cond.selects RX7 yX7_lasts yX7_lasts ∈ gBig := gBm 49 (by decide +kernel) rfl
theorem ksel_X7_isSet : Cond.selects RX7 yX7_isSet yX7_isSet ∈ gBig := gBm 50 (by decide +kernel) rfl
theorem ksel_X7_fewest : Cond.selects RX7 yX7_fewest yX7_fewest ∈ gBig := gBm 51 (by decide +kernel) rfl
theorem ksel_X7_doesFor : Cond.selects RX7 yX7_doesFor yX7_doesFor ∈ gBig := gBm 52 (by decide +kernel) rfl
theorem ksel_X7_needy : Cond.selects RX7 yX7_needy yX7_needy ∈ gBig := gBm 53 (by decide +kernel) rfl
theorem ksel_X7_dry : Cond.selects RX7 yX7_dry yX7_dry ∈ gBig := gBm 54 (by decide +kernel) rfl
theorem ksel_X7_isDry : Cond.selects RX7 yX7_isDry yX7_isDry ∈ gBig := gBm 55 (by decide +kernel) rfl
theorem ksel_X7_share : Cond.selects RX7 yX7_share yX7_share ∈ gBig := gBm 56 (by decide +kernel) rfl
end
section
/-! a world of n numbered cells: cell k lies at ad k and holds what en makes of the row of ints of that number -/
abbrev gMem : Type := Nat → Nat → Int32
def grow (σ : gMem) (k : Nat) (r : Nat → Int32) : gMem := fun a => if a = k then r else σ a
def gst (σ : gMem) (k i : Nat) (x : Int32) : gMem := grow σ k (upd (σ k) i x)
abbrev gEn : Type := Nat → (Nat → Int32) → va_E
abbrev gG : Type := va_G × (Nat → Nat) × Nat × gEn × List (ClassId × FieldType) × Nat
def gsw (G : gG) (σ : gMem) : va_W := (List.range G.2.2.1).map (fun k => (G.2.1 k, G.2.2.2.1 k (σ k)))
theorem gsw_get {G : gG} {σ : gMem} {k : Nat} (hk : k < G.2.2.1) : (gsw G σ)[k]? = some (G.2.1 k, G.2.2.2.1 k (σ k)) := by
  simp [gsw, hk]
theorem gsw_at {G : gG} {σ : gMem} {k : Nat} {q : Nat × va_E} (h : (gsw G σ)[k]? = some q) : k < G.2.2.1 ∧ q = (G.2.1 k, G.2.2.2.1 k (σ k)) := by
  by_cases hk : k < G.2.2.1
  · rw [gsw_get hk] at h
    exact ⟨hk, (Option.some.inj h).symm⟩
  · rw [List.getElem?_eq_none (by simp [gsw]; omega)] at h
    cases h
theorem gsw_set {G : gG} {σ : gMem} {k : Nat} {r : Nat → Int32} {e : va_E} (hk : k < G.2.2.1) (he : e = G.2.2.2.1 k r) : (gsw G σ).set k (G.2.1 k, e) = gsw G (grow σ k r) := by
  subst he
  apply List.ext_getElem?
  intro j
  rw [List.getElem?_set]
  by_cases hj : j < G.2.2.1
  · rw [gsw_get hj]
    by_cases e : k = j
    · subst e
      simp [gsw, grow, hj]
    · rw [if_neg e, gsw_get hj]
      simp [grow, show ¬ j = k from fun q => e q.symm]
  · rw [List.getElem?_eq_none (l := gsw G (grow σ k r)) (by simp [gsw]; omega), if_neg (by omega), List.getElem?_eq_none (by simp [gsw]; omega)]
def gA (G : gG) : Nat → Prop := fun q => ∃ k : Nat, k < G.2.2.1 ∧ q = G.2.1 k
def gInj (G : gG) : Prop := ∀ i j : Nat, i < G.2.2.1 → j < G.2.2.1 → G.2.1 i = G.2.1 j → i = j
theorem gsw_D {G : gG} (h : gInj G) {A : Nat → Prop} (hA : ∀ q, gA G q → A q) (σ : gMem) : va_D A (gsw G σ) := by
  refine ⟨fun i j p q hp hq e => ?_, fun k q hq => ?_⟩
  · obtain ⟨h1, rfl⟩ := gsw_at hp
    obtain ⟨h2, rfl⟩ := gsw_at hq
    exact h i j h1 h2 e
  · obtain ⟨h1, rfl⟩ := gsw_at hq
    exact hA _ ⟨k, h1, rfl⟩
/-- the table LACKING: 0x55, 0x33, 0x0F -/
def gLk (j : Nat) : Int32 := if j = 0 then 85 else if j = 1 then 51 else 15
/-- the links between nest mates' methods -/
def gNl : List (String × Nat × MethodName) := [("StiltWays$Walk", 130, yX6_within), ("StiltWays$Walk", 107, yX6_holds), ("StiltWays$Tape", 74, yX6_within), ("StiltWays$Sheet", 26, yX6_within), ("StiltWays$Lagoon", 72, yX6_within), ("StiltWays$Lagoon", 130, yX6_holds), ("StiltWays$Exchange", 50, yX6_holds), ("StiltWays", 9, yX1_init), ("StiltWays", 53, yX2_init), ("StiltWays", 42, yX0_init), ("StiltWays", 35, yX4_init), ("StiltWays", 28, yX5_init), ("StiltWays", 21, yX3_init)]
def gNs (U : State) : Prop := ∀ q ∈ gNl, va_Nw (.methodLinkNest q.1 q.2.1 q.2.2 "StiltWays") U
def gL (b : Nat) (A : Nat → Prop) (U : State) : Prop := va_Z "StiltWays$Walk" "LACKING" "[I" (.ref b) A U U.heap ∧ va_T .int b 3 (fun j => .int (gLk j)) A U U.heap ∧ gNs U
theorem gL_at {b : Nat} {A B : Nat → Prop} {s U : State} {H : Heap} {locs : List Loc} (h : gL b A s) (hS : va_S A s.heap H locs) (hU : U.heap = H) (hW : s.WarmedH U.vm) (hB : ∀ q, B q → A q) : gL b B U := by
  subst hU
  exact ⟨((h.1.kept hS.2.1).moved hW.alike).narrow hB, ((h.2.1.kept hS.2.1).moved hW.alike).narrow hB, fun q hq => va_Nw.warmM hW (h.2.2 q hq)⟩
theorem gL_fb {b : Nat} {A : Nat → Prop} {a : Array Value} {U : State} {g : JFrame} {mk : MethodId} (h : gL b A U) : gL b A (U.calling g mk a) :=
  ⟨va_Z.moved (u := U) (U := U.calling g mk a) (Vm.Alike.refl U.vm) h.1, va_T.moved (u := U) (U := U.calling g mk a) (Vm.Alike.refl U.vm) h.2.1, fun q hq => va_Nw.same (w := .methodLinkNest q.1 q.2.1 q.2.2 "StiltWays") rfl (u := U) (U := U.calling g mk a) rfl (h.2.2 q hq)⟩
/-! what a method's frame stands on, in one name -/
abbrev gK : Type := Program × Launch × Env × Room × State × MethodId × Array Value × List Frame × Method × Code × Nat × Nat × (State → Prop)
abbrev gks (κ : gK) : State := κ.2.2.2.2.1
abbrev gkR (κ : gK) : Room := κ.2.2.2.1
abbrev gkm (κ : gK) : MethodId := κ.2.2.2.2.2.1
abbrev gka (κ : gK) : Array Value := κ.2.2.2.2.2.2.1
abbrev gkb (κ : gK) : List Frame := κ.2.2.2.2.2.2.2.1
abbrev gkh (κ : gK) : Method := κ.2.2.2.2.2.2.2.2.1
abbrev gkc (κ : gK) : Code := κ.2.2.2.2.2.2.2.2.2.1
abbrev gkn (κ : gK) : Nat := κ.2.2.2.2.2.2.2.2.2.2.1
abbrev gkz (κ : gK) : Nat := κ.2.2.2.2.2.2.2.2.2.2.2.1
abbrev gkQ (κ : gK) : State → Prop := κ.2.2.2.2.2.2.2.2.2.2.2.2
abbrev gW (κ : gK) (H : Heap) (locs : List Loc) (g : JFrame) : Prop := W κ.1 κ.2.1 κ.2.2.1 (gkR κ) (gks κ) (gkm κ) (gka κ) (gkb κ) (gkh κ) (gkc κ) H locs (gkn κ) (gkz κ) (gkQ κ) g
/-- the frame at pc, with these locals and this stack, over any heap that holds the world σ -/
def wx (κ : gK) (G : gG) (A : Nat → Prop) (nL : Nat) (σ : gMem) (pc : Nat) (lv : List (Nat × Value)) (st : List Value) : Prop :=
  ∀ (H : Heap) (locs : List Loc) (ls : Array Slot), va_P G.1 vwCl (gsw G σ) H → va_S A (gks κ).heap H locs → lv_has ls nL lv → gW κ H locs (F0 (gkm κ) pc ls st)
def gC (κ : gK) (cc : ByteArray) (own : String) (Ts : List Cond) (nL : Nat) (G : gG) (A : Nat → Prop) (rmo : Room) : Prop :=
  CallFix κ.1 (gkm κ) (gkc κ) cc nL (gks κ) (gka κ) Ts own ∧ va_K G.1 vwCl G.2.2.2.2.1 (gks κ) ∧ (∀ σ : gMem, va_D A (gsw G σ)) ∧ gL G.2.2.2.2.2 A (gks κ) ∧ gkR κ = rmo ∧ gkn κ ≤ rmo.cells ∧ gkz κ ≤ rmo.slots ∧ ∀ q, gA G q → A q
theorem gC.hts {κ : gK} {cc : ByteArray} {own : String} {Ts : List Cond} {nL : Nat} {G : gG} {A : Nat → Prop} {rmo : Room} (C : gC κ cc own Ts nL G A rmo) {w : Cond} (h : w ∈ Ts) : w.before (gka κ) (gks κ) = true := C.1.2.2.2.2 w h
/-! the values of programs: none is a step that the machine would refuse -/
def gck {β : Type} (b : Bool) (o : Option β) : Option β := match b with
  | true => o
  | false => none
theorem gck_some {β : Type} {b : Bool} {o : Option β} {y : β} (h : gck b o = some y) : b = true ∧ o = some y := by
  cases b
  · cases h
  · exact ⟨rfl, h⟩
theorem gck_t {β : Type} {b : Bool} {o : Option β} (h : b = true) : gck b o = o := by subst h; rfl
def gnm {α β : Type} (x : α) (K : α → Option β) : Option β := K x
theorem gnm_ex {α β : Type} {x : α} {K : α → Option β} {y : β} (h : gnm x K = some y) : ∃ v : α, v = x ∧ K v = some y := ⟨x, rfl, h⟩
theorem gif_pos {c : Prop} [Decidable c] {β : Type} {a b : Option β} {y : β} (h : c) (hM : (if c then a else b) = some y) : a = some y := by
  rw [if_pos h] at hM; exact hM
theorem gif_neg {c : Prop} [Decidable c] {β : Type} {a b : Option β} {y : β} (h : ¬ c) (hM : (if c then a else b) = some y) : b = some y := by
  rw [if_neg h] at hM; exact hM
def inb (i : Int32) (n : Nat) : Bool := !(decide (i < 0) || decide (n ≤ i.toNatClampNeg))
theorem inb_vp {i : Int32} {n : Nat} (h : inb i n = true) : vp_in i n := by
  intro q
  rcases q with q | q
  · simp [inb, q] at h
  · simp [inb, q] at h
theorem inb_lt {i : Int32} {n : Nat} (h : inb i n = true) : i.toNatClampNeg < n := Nat.not_le.mp fun q => inb_vp h (Or.inr q)
def izb (x : Int32) : Bool := decide (x = 0) || decide (x = 1)
theorem izb_n {x : Int32} (h : izb x = true) : narrow .boolean (.int x) = .int x := by
  simp [izb] at h
  rcases h with rfl | rfl <;> rfl
def grem (x y : Int32) : Int32 := x - x / y * y
def gus (x y : Int32) : Int32 := (x.toUInt32 >>> (y.toUInt32 &&& Int32.toUInt32 31)).toInt32
theorem gs2 {α β : Type} {a c : α} {b d : β} (h : some (a, b) = some (c, d)) : a = c ∧ b = d := by cases h; exact ⟨rfl, rfl⟩
theorem gs1 {α : Type} {a c : α} (h : some a = some c) : a = c := Option.some.inj h

def gb1 {α1 β : Type} (o : Option (α1)) (K : α1 → Option β) : Option β := match o with
  | some a1 => K a1
  | none => none
theorem gb1_some {α1 β : Type} {o : Option (α1)} {K : α1 → Option β} {y : β} (h : gb1 o K = some y) : ∃ (a1 : α1), o = some a1 ∧ K a1 = some y := by
  cases o with
  | none => cases h
  | some q => exact ⟨_, rfl, h⟩
def gb2 {α1 α2 β : Type} (o : Option (α1 × α2)) (K : α1 → α2 → Option β) : Option β := match o with
  | some (a1, a2) => K a1 a2
  | none => none
theorem gb2_some {α1 α2 β : Type} {o : Option (α1 × α2)} {K : α1 → α2 → Option β} {y : β} (h : gb2 o K = some y) : ∃ (a1 : α1) (a2 : α2), o = some (a1, a2) ∧ K a1 a2 = some y := by
  cases o with
  | none => cases h
  | some q => obtain ⟨a1, a2⟩ := q; exact ⟨a1, a2, rfl, h⟩
def gb3 {α1 α2 α3 β : Type} (o : Option (α1 × α2 × α3)) (K : α1 → α2 → α3 → Option β) : Option β := match o with
  | some (a1, a2, a3) => K a1 a2 a3
  | none => none
theorem gb3_some {α1 α2 α3 β : Type} {o : Option (α1 × α2 × α3)} {K : α1 → α2 → α3 → Option β} {y : β} (h : gb3 o K = some y) : ∃ (a1 : α1) (a2 : α2) (a3 : α3), o = some (a1, a2, a3) ∧ K a1 a2 a3 = some y := by
  cases o with
  | none => cases h
  | some q => obtain ⟨a1, a2, a3⟩ := q; exact ⟨a1, a2, a3, rfl, h⟩
def gb4 {α1 α2 α3 α4 β : Type} (o : Option (α1 × α2 × α3 × α4)) (K : α1 → α2 → α3 → α4 → Option β) : Option β := match o with
  | some (a1, a2, a3, a4) => K a1 a2 a3 a4
  | none => none
theorem gb4_some {α1 α2 α3 α4 β : Type} {o : Option (α1 × α2 × α3 × α4)} {K : α1 → α2 → α3 → α4 → Option β} {y : β} (h : gb4 o K = some y) : ∃ (a1 : α1) (a2 : α2) (a3 : α3) (a4 : α4), o = some (a1, a2, a3, a4) ∧ K a1 a2 a3 a4 = some y := by
  cases o with
  | none => cases h
  | some q => obtain ⟨a1, a2, a3, a4⟩ := q; exact ⟨a1, a2, a3, a4, rfl, h⟩
def gb5 {α1 α2 α3 α4 α5 β : Type} (o : Option (α1 × α2 × α3 × α4 × α5)) (K : α1 → α2 → α3 → α4 → α5 → Option β) : Option β := match o with
  | some (a1, a2, a3, a4, a5) => K a1 a2 a3 a4 a5
  | none => none
theorem gb5_some {α1 α2 α3 α4 α5 β : Type} {o : Option (α1 × α2 × α3 × α4 × α5)} {K : α1 → α2 → α3 → α4 → α5 → Option β} {y : β} (h : gb5 o K = some y) : ∃ (a1 : α1) (a2 : α2) (a3 : α3) (a4 : α4) (a5 : α5), o = some (a1, a2, a3, a4, a5) ∧ K a1 a2 a3 a4 a5 = some y := by
  cases o with
  | none => cases h
  | some q => obtain ⟨a1, a2, a3, a4, a5⟩ := q; exact ⟨a1, a2, a3, a4, a5, rfl, h⟩
def gb6 {α1 α2 α3 α4 α5 α6 β : Type} (o : Option (α1 × α2 × α3 × α4 × α5 × α6)) (K : α1 → α2 → α3 → α4 → α5 → α6 → Option β) : Option β := match o with
  | some (a1, a2, a3, a4, a5, a6) => K a1 a2 a3 a4 a5 a6
  | none => none
theorem gb6_some {α1 α2 α3 α4 α5 α6 β : Type} {o : Option (α1 × α2 × α3 × α4 × α5 × α6)} {K : α1 → α2 → α3 → α4 → α5 → α6 → Option β} {y : β} (h : gb6 o K = some y) : ∃ (a1 : α1) (a2 : α2) (a3 : α3) (a4 : α4) (a5 : α5) (a6 : α6), o = some (a1, a2, a3, a4, a5, a6) ∧ K a1 a2 a3 a4 a5 a6 = some y := by
  cases o with
  | none => cases h
  | some q => obtain ⟨a1, a2, a3, a4, a5, a6⟩ := q; exact ⟨a1, a2, a3, a4, a5, a6, rfl, h⟩
def gb7 {α1 α2 α3 α4 α5 α6 α7 β : Type} (o : Option (α1 × α2 × α3 × α4 × α5 × α6 × α7)) (K : α1 → α2 → α3 → α4 → α5 → α6 → α7 → Option β) : Option β := match o with
  | some (a1, a2, a3, a4, a5, a6, a7) => K a1 a2 a3 a4 a5 a6 a7
  | none => none
theorem gb7_some {α1 α2 α3 α4 α5 α6 α7 β : Type} {o : Option (α1 × α2 × α3 × α4 × α5 × α6 × α7)} {K : α1 → α2 → α3 → α4 → α5 → α6 → α7 → Option β} {y : β} (h : gb7 o K = some y) : ∃ (a1 : α1) (a2 : α2) (a3 : α3) (a4 : α4) (a5 : α5) (a6 : α6) (a7 : α7), o = some (a1, a2, a3, a4, a5, a6, a7) ∧ K a1 a2 a3 a4 a5 a6 a7 = some y := by
  cases o with
  | none => cases h
  | some q => obtain ⟨a1, a2, a3, a4, a5, a6, a7⟩ := q; exact ⟨a1, a2, a3, a4, a5, a6, a7, rfl, h⟩
def gb8 {α1 α2 α3 α4 α5 α6 α7 α8 β : Type} (o : Option (α1 × α2 × α3 × α4 × α5 × α6 × α7 × α8)) (K : α1 → α2 → α3 → α4 → α5 → α6 → α7 → α8 → Option β) : Option β := match o with
  | some (a1, a2, a3, a4, a5, a6, a7, a8) => K a1 a2 a3 a4 a5 a6 a7 a8
  | none => none
theorem gb8_some {α1 α2 α3 α4 α5 α6 α7 α8 β : Type} {o : Option (α1 × α2 × α3 × α4 × α5 × α6 × α7 × α8)} {K : α1 → α2 → α3 → α4 → α5 → α6 → α7 → α8 → Option β} {y : β} (h : gb8 o K = some y) : ∃ (a1 : α1) (a2 : α2) (a3 : α3) (a4 : α4) (a5 : α5) (a6 : α6) (a7 : α7) (a8 : α8), o = some (a1, a2, a3, a4, a5, a6, a7, a8) ∧ K a1 a2 a3 a4 a5 a6 a7 a8 = some y := by
  cases o with
  | none => cases h
  | some q => obtain ⟨a1, a2, a3, a4, a5, a6, a7, a8⟩ := q; exact ⟨a1, a2, a3, a4, a5, a6, a7, a8, rfl, h⟩
def gb9 {α1 α2 α3 α4 α5 α6 α7 α8 α9 β : Type} (o : Option (α1 × α2 × α3 × α4 × α5 × α6 × α7 × α8 × α9)) (K : α1 → α2 → α3 → α4 → α5 → α6 → α7 → α8 → α9 → Option β) : Option β := match o with
  | some (a1, a2, a3, a4, a5, a6, a7, a8, a9) => K a1 a2 a3 a4 a5 a6 a7 a8 a9
  | none => none
theorem gb9_some {α1 α2 α3 α4 α5 α6 α7 α8 α9 β : Type} {o : Option (α1 × α2 × α3 × α4 × α5 × α6 × α7 × α8 × α9)} {K : α1 → α2 → α3 → α4 → α5 → α6 → α7 → α8 → α9 → Option β} {y : β} (h : gb9 o K = some y) : ∃ (a1 : α1) (a2 : α2) (a3 : α3) (a4 : α4) (a5 : α5) (a6 : α6) (a7 : α7) (a8 : α8) (a9 : α9), o = some (a1, a2, a3, a4, a5, a6, a7, a8, a9) ∧ K a1 a2 a3 a4 a5 a6 a7 a8 a9 = some y := by
  cases o with
  | none => cases h
  | some q => obtain ⟨a1, a2, a3, a4, a5, a6, a7, a8, a9⟩ := q; exact ⟨a1, a2, a3, a4, a5, a6, a7, a8, a9, rfl, h⟩
def gb10 {α1 α2 α3 α4 α5 α6 α7 α8 α9 α10 β : Type} (o : Option (α1 × α2 × α3 × α4 × α5 × α6 × α7 × α8 × α9 × α10)) (K : α1 → α2 → α3 → α4 → α5 → α6 → α7 → α8 → α9 → α10 → Option β) : Option β := match o with
  | some (a1, a2, a3, a4, a5, a6, a7, a8, a9, a10) => K a1 a2 a3 a4 a5 a6 a7 a8 a9 a10
  | none => none
theorem gb10_some {α1 α2 α3 α4 α5 α6 α7 α8 α9 α10 β : Type} {o : Option (α1 × α2 × α3 × α4 × α5 × α6 × α7 × α8 × α9 × α10)} {K : α1 → α2 → α3 → α4 → α5 → α6 → α7 → α8 → α9 → α10 → Option β} {y : β} (h : gb10 o K = some y) : ∃ (a1 : α1) (a2 : α2) (a3 : α3) (a4 : α4) (a5 : α5) (a6 : α6) (a7 : α7) (a8 : α8) (a9 : α9) (a10 : α10), o = some (a1, a2, a3, a4, a5, a6, a7, a8, a9, a10) ∧ K a1 a2 a3 a4 a5 a6 a7 a8 a9 a10 = some y := by
  cases o with
  | none => cases h
  | some q => obtain ⟨a1, a2, a3, a4, a5, a6, a7, a8, a9, a10⟩ := q; exact ⟨a1, a2, a3, a4, a5, a6, a7, a8, a9, a10, rfl, h⟩
section GX
variable {κ : gK} {rmo : Room} {cc : ByteArray} {own : String} {Ts : List Cond} {nL : Nat} {G : gG} {A : Nat → Prop} {σ : gMem} {pc pc' : Nat} {lv lv' : List (Nat × Value)} {st : List Value}
theorem x_ic (C : gC κ cc own Ts nL G A rmo) {n : Int} {v : Int32} (hv : Int32.ofInt n = v) (hdg : decode cc pc = .ok (.iconst n, 1)) (hp : pc + 1 = pc') (k : wx κ G A nL σ pc' lv (.int v :: st)) : wx κ G A nL σ pc lv (st) := by
  subst hp
  exact fun H locs ls hP hS hl => lv_iconst C.1.1 C.1.2.1 hdg hv (k H locs ls hP hS hl)
theorem x_bi (C : gC κ cc own Ts nL G A rmo) {n : Int} {v : Int32} (hv : (Int8.ofInt n).toInt32 = v) (hdg : decode cc pc = .ok (.bipush n, 2)) (hp : pc + 2 = pc') (k : wx κ G A nL σ pc' lv (.int v :: st)) : wx κ G A nL σ pc lv (st) := by
  subst hp
  exact fun H locs ls hP hS hl => lv_bipush C.1.1 C.1.2.1 hdg hv (k H locs ls hP hS hl)
theorem x_si (C : gC κ cc own Ts nL G A rmo) {n : Int} {v : Int32} (hv : (Int16.ofInt n).toInt32 = v) (hdg : decode cc pc = .ok (.sipush n, 3)) (hp : pc + 3 = pc') (k : wx κ G A nL σ pc' lv (.int v :: st)) : wx κ G A nL σ pc lv (st) := by
  subst hp
  exact fun H locs ls hP hS hl => lv_sipush C.1.1 C.1.2.1 hdg hv (k H locs ls hP hS hl)
theorem x_lc (C : gC κ cc own Ts nL G A rmo) {n : Fin 2} {v : Int64} (hv : Int64.ofNat (n : Nat) = v) (hdg : decode cc pc = .ok (.lconst n, 1)) (hp : pc + 1 = pc') (k : wx κ G A nL σ pc' lv (.long v :: st)) : wx κ G A nL σ pc lv (st) := by
  subst hp
  exact fun H locs ls hP hS hl => lv_lconst C.1.1 C.1.2.1 hdg hv (k H locs ls hP hS hl)
theorem x_ldc (C : gC κ cc own Ts nL G A rmo) {index : Nat} {v : Int32} (hc : Jvm.Cond.constant own index v ∈ Ts) (hdg : decode cc pc = .ok (.ldc index, 2)) (hp : pc + 2 = pc') (k : wx κ G A nL σ pc' lv (.int v :: st)) : wx κ G A nL σ pc lv (st) := by
  subst hp
  exact fun H locs ls hP hS hl => lv_ldc C.1.1 C.1.2.1 C.1.2.2.2.1 (C.hts hc) hdg (k H locs ls hP hS hl)
theorem x_ldcw (C : gC κ cc own Ts nL G A rmo) {index : Nat} {v : Int32} (hc : Jvm.Cond.constant own index v ∈ Ts) (hdg : decode cc pc = .ok (.ldc_w index, 3)) (hp : pc + 3 = pc') (k : wx κ G A nL σ pc' lv (.int v :: st)) : wx κ G A nL σ pc lv (st) := by
  subst hp
  exact fun H locs ls hP hS hl => lv_ldcw C.1.1 C.1.2.1 C.1.2.2.2.1 (C.hts hc) hdg (k H locs ls hP hS hl)
theorem x_ldc2 (C : gC κ cc own Ts nL G A rmo) {index : Nat} {v : Int64} (hc : Jvm.Cond.constantLong own index v ∈ Ts) (hdg : decode cc pc = .ok (.ldc2_w index, 3)) (hp : pc + 3 = pc') (k : wx κ G A nL σ pc' lv (.long v :: st)) : wx κ G A nL σ pc lv (st) := by
  subst hp
  exact fun H locs ls hP hS hl => lv_ldc2 C.1.1 C.1.2.1 C.1.2.2.2.1 (C.hts hc) hdg (k H locs ls hP hS hl)
theorem x_iln (C : gC κ cc own Ts nL G A rmo) {k0 : Fin 4} {x : Int32} (j : Nat) (hj : lv[j]? = some ((k0 : Nat), .int x)) (hdg : decode cc pc = .ok (.iload_n k0, 1)) (hp : pc + 1 = pc') (k : wx κ G A nL σ pc' lv (.int x :: st)) : wx κ G A nL σ pc lv (st) := by
  subst hp
  exact fun H locs ls hP hS hl => lv_iload_n C.1.1 C.1.2.1 hdg rfl (lv_at hl j hj) (k H locs ls hP hS hl)
theorem x_il (C : gC κ cc own Ts nL G A rmo) {i : Nat} {x : Int32} (j : Nat) (hj : lv[j]? = some (i, .int x)) (hdg : decode cc pc = .ok (.iload i, 2)) (hp : pc + 2 = pc') (k : wx κ G A nL σ pc' lv (.int x :: st)) : wx κ G A nL σ pc lv (st) := by
  subst hp
  exact fun H locs ls hP hS hl => lv_iload C.1.1 C.1.2.1 hdg (lv_at hl j hj) (k H locs ls hP hS hl)
theorem x_lln (C : gC κ cc own Ts nL G A rmo) {k0 : Fin 4} {x : Int64} (j : Nat) (hj : lv[j]? = some ((k0 : Nat), .long x)) (hdg : decode cc pc = .ok (.lload_n k0, 1)) (hp : pc + 1 = pc') (k : wx κ G A nL σ pc' lv (.long x :: st)) : wx κ G A nL σ pc lv (st) := by
  subst hp
  exact fun H locs ls hP hS hl => lv_lload_n C.1.1 C.1.2.1 hdg rfl (lv_at hl j hj) (k H locs ls hP hS hl)
theorem x_ll (C : gC κ cc own Ts nL G A rmo) {i : Nat} {x : Int64} (j : Nat) (hj : lv[j]? = some (i, .long x)) (hdg : decode cc pc = .ok (.lload i, 2)) (hp : pc + 2 = pc') (k : wx κ G A nL σ pc' lv (.long x :: st)) : wx κ G A nL σ pc lv (st) := by
  subst hp
  exact fun H locs ls hP hS hl => lv_lload C.1.1 C.1.2.1 hdg (lv_at hl j hj) (k H locs ls hP hS hl)
theorem x_aln (C : gC κ cc own Ts nL G A rmo) {k0 : Fin 4} {x : Nat} (j : Nat) (hj : lv[j]? = some ((k0 : Nat), .ref x)) (hdg : decode cc pc = .ok (.aload_n k0, 1)) (hp : pc + 1 = pc') (k : wx κ G A nL σ pc' lv (.ref x :: st)) : wx κ G A nL σ pc lv (st) := by
  subst hp
  exact fun H locs ls hP hS hl => lv_aload_n C.1.1 C.1.2.1 hdg rfl (lv_at hl j hj) (k H locs ls hP hS hl)
theorem x_al (C : gC κ cc own Ts nL G A rmo) {i : Nat} {x : Nat} (j : Nat) (hj : lv[j]? = some (i, .ref x)) (hdg : decode cc pc = .ok (.aload i, 2)) (hp : pc + 2 = pc') (k : wx κ G A nL σ pc' lv (.ref x :: st)) : wx κ G A nL σ pc lv (st) := by
  subst hp
  exact fun H locs ls hP hS hl => lv_aload C.1.1 C.1.2.1 hdg (lv_at hl j hj) (k H locs ls hP hS hl)
theorem x_istn (C : gC κ cc own Ts nL G A rmo) {i : Nat} {k0 : Fin 4} (hi : (k0 : Nat) = i) {x v : Int32} (ev : v = x) (hn : i < nL) (hl' : (i, Value.int v) :: lv.filter (fun q => !(q.1 == i) && !(q.1 + 1 == i && q.2.category == 2)) = lv') (hdg : decode cc pc = .ok (.istore_n k0, 1)) (hp : pc + 1 = pc') (k : wx κ G A nL σ pc' lv' st) : wx κ G A nL σ pc lv (.int x :: st) := by
  subst hp
  subst ev
  exact fun H locs ls hP hS hl => lv_istore_n C.1.1 C.1.2.1 hdg hi hl hn hl' (fun ls hl => k H locs ls hP hS hl)
theorem x_astn (C : gC κ cc own Ts nL G A rmo) {i : Nat} {k0 : Fin 4} (hi : (k0 : Nat) = i) {x : Nat} (hn : i < nL) (hl' : (i, Value.ref x) :: lv.filter (fun q => !(q.1 == i) && !(q.1 + 1 == i && q.2.category == 2)) = lv') (hdg : decode cc pc = .ok (.astore_n k0, 1)) (hp : pc + 1 = pc') (k : wx κ G A nL σ pc' lv' st) : wx κ G A nL σ pc lv (.ref x :: st) := by
  subst hp
  exact fun H locs ls hP hS hl => lv_astore_n C.1.1 C.1.2.1 hdg hi hl hn hl' (fun ls hl => k H locs ls hP hS hl)
theorem x_ist (C : gC κ cc own Ts nL G A rmo) {i : Nat}  {x v : Int32} (ev : v = x) (hn : i < nL) (hl' : (i, Value.int v) :: lv.filter (fun q => !(q.1 == i) && !(q.1 + 1 == i && q.2.category == 2)) = lv') (hdg : decode cc pc = .ok (.istore i, 2)) (hp : pc + 2 = pc') (k : wx κ G A nL σ pc' lv' st) : wx κ G A nL σ pc lv (.int x :: st) := by
  subst hp
  subst ev
  exact fun H locs ls hP hS hl => lv_istore C.1.1 C.1.2.1 hdg hl hn hl' (fun ls hl => k H locs ls hP hS hl)
theorem x_ast (C : gC κ cc own Ts nL G A rmo) {i : Nat}  {x : Nat} (hn : i < nL) (hl' : (i, Value.ref x) :: lv.filter (fun q => !(q.1 == i) && !(q.1 + 1 == i && q.2.category == 2)) = lv') (hdg : decode cc pc = .ok (.astore i, 2)) (hp : pc + 2 = pc') (k : wx κ G A nL σ pc' lv' st) : wx κ G A nL σ pc lv (.ref x :: st) := by
  subst hp
  exact fun H locs ls hP hS hl => lv_astore C.1.1 C.1.2.1 hdg hl hn hl' (fun ls hl => k H locs ls hP hS hl)
theorem x_iinc (C : gC κ cc own Ts nL G A rmo) {i j : Nat} {n : Int} {x v : Int32} (hj : lv[j]? = some (i, .int x)) (ev : v = x + Int32.ofInt n) (hn : i < nL) (hl' : (i, Value.int v) :: lv.filter (fun q => !(q.1 == i) && !(q.1 + 1 == i && q.2.category == 2)) = lv') (hdg : decode cc pc = .ok (.iinc i n, 3)) (hp : pc + 3 = pc') (k : wx κ G A nL σ pc' lv' st) : wx κ G A nL σ pc lv st := by
  subst hp
  exact fun H locs ls hP hS hl => lv_iinc C.1.1 C.1.2.1 hdg hl hj ev.symm hn hl' (fun ls hl => k H locs ls hP hS hl)
theorem x_iadd (C : gC κ cc own Ts nL G A rmo) {x y : Int32} (hdg : decode cc pc = .ok (.iadd, 1)) (hp : pc + 1 = pc') (k : wx κ G A nL σ pc' lv (.int (x + y) :: st)) : wx κ G A nL σ pc lv (.int y :: .int x :: st) := by
  subst hp
  exact fun H locs ls hP hS hl => lv_iadd C.1.1 C.1.2.1 hdg (k H locs ls hP hS hl)
theorem x_isub (C : gC κ cc own Ts nL G A rmo) {x y : Int32} (hdg : decode cc pc = .ok (.isub, 1)) (hp : pc + 1 = pc') (k : wx κ G A nL σ pc' lv (.int (x - y) :: st)) : wx κ G A nL σ pc lv (.int y :: .int x :: st) := by
  subst hp
  exact fun H locs ls hP hS hl => lv_isub C.1.1 C.1.2.1 hdg (k H locs ls hP hS hl)
theorem x_imul (C : gC κ cc own Ts nL G A rmo) {x y : Int32} (hdg : decode cc pc = .ok (.imul, 1)) (hp : pc + 1 = pc') (k : wx κ G A nL σ pc' lv (.int (x * y) :: st)) : wx κ G A nL σ pc lv (.int y :: .int x :: st) := by
  subst hp
  exact fun H locs ls hP hS hl => lv_imul C.1.1 C.1.2.1 hdg (k H locs ls hP hS hl)
theorem x_iand (C : gC κ cc own Ts nL G A rmo) {x y : Int32} (hdg : decode cc pc = .ok (.iand, 1)) (hp : pc + 1 = pc') (k : wx κ G A nL σ pc' lv (.int (x &&& y) :: st)) : wx κ G A nL σ pc lv (.int y :: .int x :: st) := by
  subst hp
  exact fun H locs ls hP hS hl => lv_iand C.1.1 C.1.2.1 hdg (k H locs ls hP hS hl)
theorem x_ior (C : gC κ cc own Ts nL G A rmo) {x y : Int32} (hdg : decode cc pc = .ok (.ior, 1)) (hp : pc + 1 = pc') (k : wx κ G A nL σ pc' lv (.int (x ||| y) :: st)) : wx κ G A nL σ pc lv (.int y :: .int x :: st) := by
  subst hp
  exact fun H locs ls hP hS hl => lv_ior C.1.1 C.1.2.1 hdg (k H locs ls hP hS hl)
theorem x_ixor (C : gC κ cc own Ts nL G A rmo) {x y : Int32} (hdg : decode cc pc = .ok (.ixor, 1)) (hp : pc + 1 = pc') (k : wx κ G A nL σ pc' lv (.int (x ^^^ y) :: st)) : wx κ G A nL σ pc lv (.int y :: .int x :: st) := by
  subst hp
  exact fun H locs ls hP hS hl => lv_ixor C.1.1 C.1.2.1 hdg (k H locs ls hP hS hl)
theorem x_ishl (C : gC κ cc own Ts nL G A rmo) {x y : Int32} (hdg : decode cc pc = .ok (.ishl, 1)) (hp : pc + 1 = pc') (k : wx κ G A nL σ pc' lv (.int (x <<< (y &&& 31)) :: st)) : wx κ G A nL σ pc lv (.int y :: .int x :: st) := by
  subst hp
  exact fun H locs ls hP hS hl => lv_ishl C.1.1 C.1.2.1 hdg (k H locs ls hP hS hl)
theorem x_ishr (C : gC κ cc own Ts nL G A rmo) {x y : Int32} (hdg : decode cc pc = .ok (.ishr, 1)) (hp : pc + 1 = pc') (k : wx κ G A nL σ pc' lv (.int (x >>> (y &&& 31)) :: st)) : wx κ G A nL σ pc lv (.int y :: .int x :: st) := by
  subst hp
  exact fun H locs ls hP hS hl => lv_ishr C.1.1 C.1.2.1 hdg (k H locs ls hP hS hl)
theorem x_idiv (C : gC κ cc own Ts nL G A rmo) {x y : Int32} (hne : ¬ y = 0) (hdg : decode cc pc = .ok (.idiv, 1)) (hp : pc + 1 = pc') (k : wx κ G A nL σ pc' lv (.int (x / y) :: st)) : wx κ G A nL σ pc lv (.int y :: .int x :: st) := by
  subst hp
  exact fun H locs ls hP hS hl => lv_idiv C.1.1 C.1.2.1 hdg hne (k H locs ls hP hS hl)
theorem x_irem (C : gC κ cc own Ts nL G A rmo) {x y : Int32} (hne : ¬ y = 0) (hdg : decode cc pc = .ok (.irem, 1)) (hp : pc + 1 = pc') (k : wx κ G A nL σ pc' lv (.int (grem x y) :: st)) : wx κ G A nL σ pc lv (.int y :: .int x :: st) := by
  subst hp
  exact fun H locs ls hP hS hl => lv_irem C.1.1 C.1.2.1 hdg hne (k H locs ls hP hS hl)
theorem x_ineg (C : gC κ cc own Ts nL G A rmo) {x : Int32} (hdg : decode cc pc = .ok (.ineg, 1)) (hp : pc + 1 = pc') (k : wx κ G A nL σ pc' lv (.int (-x) :: st)) : wx κ G A nL σ pc lv (.int x :: st) := by
  subst hp
  exact fun H locs ls hP hS hl => lv_ineg C.1.1 C.1.2.1 hdg (k H locs ls hP hS hl)
theorem x_iushr (C : gC κ cc own Ts nL G A rmo) {x y : Int32} (hdg : decode cc pc = .ok (.iushr, 1)) (hp : pc + 1 = pc') (k : wx κ G A nL σ pc' lv (.int (gus x y) :: st)) : wx κ G A nL σ pc lv (.int y :: .int x :: st) := by
  subst hp
  exact fun H locs ls hP hS hl => lv_iushr C.1.1 C.1.2.1 hdg rfl (k H locs ls hP hS hl)
theorem x_ladd (C : gC κ cc own Ts nL G A rmo) {x y : Int64} (hdg : decode cc pc = .ok (.ladd, 1)) (hp : pc + 1 = pc') (k : wx κ G A nL σ pc' lv (.long (x + y) :: st)) : wx κ G A nL σ pc lv (.long y :: .long x :: st) := by
  subst hp
  exact fun H locs ls hP hS hl => lv_ladd C.1.1 C.1.2.1 hdg (k H locs ls hP hS hl)
theorem x_land (C : gC κ cc own Ts nL G A rmo) {x y : Int64} (hdg : decode cc pc = .ok (.land, 1)) (hp : pc + 1 = pc') (k : wx κ G A nL σ pc' lv (.long (x &&& y) :: st)) : wx κ G A nL σ pc lv (.long y :: .long x :: st) := by
  subst hp
  exact fun H locs ls hP hS hl => lv_land C.1.1 C.1.2.1 hdg (k H locs ls hP hS hl)
theorem x_lor (C : gC κ cc own Ts nL G A rmo) {x y : Int64} (hdg : decode cc pc = .ok (.lor, 1)) (hp : pc + 1 = pc') (k : wx κ G A nL σ pc' lv (.long (x ||| y) :: st)) : wx κ G A nL σ pc lv (.long y :: .long x :: st) := by
  subst hp
  exact fun H locs ls hP hS hl => lv_lor C.1.1 C.1.2.1 hdg (k H locs ls hP hS hl)
theorem x_lshl (C : gC κ cc own Ts nL G A rmo) {x : Int64} {y : Int32} (hdg : decode cc pc = .ok (.lshl, 1)) (hp : pc + 1 = pc') (k : wx κ G A nL σ pc' lv (.long (x <<< (y.toInt64 &&& 63)) :: st)) : wx κ G A nL σ pc lv (.int y :: .long x :: st) := by
  subst hp
  exact fun H locs ls hP hS hl => lv_lshl C.1.1 C.1.2.1 hdg rfl (k H locs ls hP hS hl)
theorem x_lshr (C : gC κ cc own Ts nL G A rmo) {x : Int64} {y : Int32} (hdg : decode cc pc = .ok (.lshr, 1)) (hp : pc + 1 = pc') (k : wx κ G A nL σ pc' lv (.long (x >>> (y.toInt64 &&& 63)) :: st)) : wx κ G A nL σ pc lv (.int y :: .long x :: st) := by
  subst hp
  exact fun H locs ls hP hS hl => lv_lshr C.1.1 C.1.2.1 hdg rfl (k H locs ls hP hS hl)
theorem x_lcmp (C : gC κ cc own Ts nL G A rmo) {x y : Int64} (hdg : decode cc pc = .ok (.lcmp, 1)) (hp : pc + 1 = pc') (k : wx κ G A nL σ pc' lv (.int (lg_cmp x y) :: st)) : wx κ G A nL σ pc lv (.long y :: .long x :: st) := by
  subst hp
  exact fun H locs ls hP hS hl => W.lcmp C.1.1 C.1.2.1 hdg (k H locs ls hP hS hl)
theorem x_i2l (C : gC κ cc own Ts nL G A rmo) {x : Int32} (hdg : decode cc pc = .ok (.i2l, 1)) (hp : pc + 1 = pc') (k : wx κ G A nL σ pc' lv (.long x.toInt64 :: st)) : wx κ G A nL σ pc lv (.int x :: st) := by
  subst hp
  exact fun H locs ls hP hS hl => lv_i2l C.1.1 C.1.2.1 hdg rfl (k H locs ls hP hS hl)
theorem x_l2i (C : gC κ cc own Ts nL G A rmo) {x : Int64} (hdg : decode cc pc = .ok (.l2i, 1)) (hp : pc + 1 = pc') (k : wx κ G A nL σ pc' lv (.int x.toInt32 :: st)) : wx κ G A nL σ pc lv (.long x :: st) := by
  subst hp
  exact fun H locs ls hP hS hl => lv_l2i C.1.1 C.1.2.1 hdg rfl (k H locs ls hP hS hl)
theorem x_i2b (C : gC κ cc own Ts nL G A rmo) {x : Int32} (hdg : decode cc pc = .ok (.i2b, 1)) (hp : pc + 1 = pc') (k : wx κ G A nL σ pc' lv (.int x.toInt8.toInt32 :: st)) : wx κ G A nL σ pc lv (.int x :: st) := by
  subst hp
  exact fun H locs ls hP hS hl => lv_i2b C.1.1 C.1.2.1 hdg rfl (k H locs ls hP hS hl)
theorem x_i2s (C : gC κ cc own Ts nL G A rmo) {x : Int32} (hdg : decode cc pc = .ok (.i2s, 1)) (hp : pc + 1 = pc') (k : wx κ G A nL σ pc' lv (.int x.toInt16.toInt32 :: st)) : wx κ G A nL σ pc lv (.int x :: st) := by
  subst hp
  exact fun H locs ls hP hS hl => lv_i2s C.1.1 C.1.2.1 hdg rfl (k H locs ls hP hS hl)
theorem x_dup (C : gC κ cc own Ts nL G A rmo) {v : Value} (hv : v.category = 1) (hdg : decode cc pc = .ok (.dup, 1)) (hp : pc + 1 = pc') (k : wx κ G A nL σ pc' lv (v :: v :: st)) : wx κ G A nL σ pc lv (v :: st) := by
  subst hp
  exact fun H locs ls hP hS hl => lv_dup C.1.1 C.1.2.1 hdg hv (k H locs ls hP hS hl)
theorem x_pop (C : gC κ cc own Ts nL G A rmo) {v : Value} (hv : v.category = 1) (hdg : decode cc pc = .ok (.pop, 1)) (hp : pc + 1 = pc') (k : wx κ G A nL σ pc' lv (st)) : wx κ G A nL σ pc lv (v :: st) := by
  subst hp
  exact fun H locs ls hP hS hl => lv_pop C.1.1 C.1.2.1 hdg hv (k H locs ls hP hS hl)
theorem x_dupx1 (C : gC κ cc own Ts nL G A rmo) {v u : Value} (hv : v.category = 1) (hu : u.category = 1) (hdg : decode cc pc = .ok (.dup_x1, 1)) (hp : pc + 1 = pc') (k : wx κ G A nL σ pc' lv (v :: u :: v :: st)) : wx κ G A nL σ pc lv (v :: u :: st) := by
  subst hp
  exact fun H locs ls hP hS hl => lv_dup_x1 C.1.1 C.1.2.1 hdg hv hu (k H locs ls hP hS hl)
theorem x_dup2 (C : gC κ cc own Ts nL G A rmo) {v u : Value} (hv : v.category = 1) (hu : u.category = 1) (hdg : decode cc pc = .ok (.dup2, 1)) (hp : pc + 1 = pc') (k : wx κ G A nL σ pc' lv (v :: u :: v :: u :: st)) : wx κ G A nL σ pc lv (v :: u :: st) := by
  subst hp
  exact fun H locs ls hP hS hl => lv_dup2 C.1.1 C.1.2.1 hdg hv hu (k H locs ls hP hS hl)
theorem x_if_eq (C : gC κ cc own Ts nL G A rmo) {x : Int32} {off : Int} {tgt : Nat} (hdg : decode cc pc = .ok (.ifCond .eq off, 3)) (ht : (pc : Int) + off = (tgt : Int)) (hp : pc + 3 = pc') (kt : x = 0 → wx κ G A nL σ tgt lv st) (kf : ¬ x = 0 → wx κ G A nL σ pc' lv st) : wx κ G A nL σ pc lv (.int x :: st) := by
  subst hp
  exact fun H locs ls hP hS hl => lv_if_eq C.1.1 C.1.2.1 hdg ht (fun h => kt h H locs ls hP hS hl) (fun h => kf h H locs ls hP hS hl)
theorem x_if_ne (C : gC κ cc own Ts nL G A rmo) {x : Int32} {off : Int} {tgt : Nat} (hdg : decode cc pc = .ok (.ifCond .ne off, 3)) (ht : (pc : Int) + off = (tgt : Int)) (hp : pc + 3 = pc') (kt : ¬ x = 0 → wx κ G A nL σ tgt lv st) (kf : x = 0 → wx κ G A nL σ pc' lv st) : wx κ G A nL σ pc lv (.int x :: st) := by
  subst hp
  exact fun H locs ls hP hS hl => lv_if_ne C.1.1 C.1.2.1 hdg ht (fun h => kt h H locs ls hP hS hl) (fun h => kf h H locs ls hP hS hl)
theorem x_if_lt (C : gC κ cc own Ts nL G A rmo) {x : Int32} {off : Int} {tgt : Nat} (hdg : decode cc pc = .ok (.ifCond .lt off, 3)) (ht : (pc : Int) + off = (tgt : Int)) (hp : pc + 3 = pc') (kt : x < 0 → wx κ G A nL σ tgt lv st) (kf : ¬ x < 0 → wx κ G A nL σ pc' lv st) : wx κ G A nL σ pc lv (.int x :: st) := by
  subst hp
  exact fun H locs ls hP hS hl => lv_if_lt C.1.1 C.1.2.1 hdg ht (fun h => kt h H locs ls hP hS hl) (fun h => kf h H locs ls hP hS hl)
theorem x_if_ge (C : gC κ cc own Ts nL G A rmo) {x : Int32} {off : Int} {tgt : Nat} (hdg : decode cc pc = .ok (.ifCond .ge off, 3)) (ht : (pc : Int) + off = (tgt : Int)) (hp : pc + 3 = pc') (kt : 0 ≤ x → wx κ G A nL σ tgt lv st) (kf : ¬ 0 ≤ x → wx κ G A nL σ pc' lv st) : wx κ G A nL σ pc lv (.int x :: st) := by
  subst hp
  exact fun H locs ls hP hS hl => lv_if_ge C.1.1 C.1.2.1 hdg ht (fun h => kt h H locs ls hP hS hl) (fun h => kf h H locs ls hP hS hl)
theorem x_if_gt (C : gC κ cc own Ts nL G A rmo) {x : Int32} {off : Int} {tgt : Nat} (hdg : decode cc pc = .ok (.ifCond .gt off, 3)) (ht : (pc : Int) + off = (tgt : Int)) (hp : pc + 3 = pc') (kt : 0 < x → wx κ G A nL σ tgt lv st) (kf : ¬ 0 < x → wx κ G A nL σ pc' lv st) : wx κ G A nL σ pc lv (.int x :: st) := by
  subst hp
  exact fun H locs ls hP hS hl => lv_if_gt C.1.1 C.1.2.1 hdg ht (fun h => kt h H locs ls hP hS hl) (fun h => kf h H locs ls hP hS hl)
theorem x_if_le (C : gC κ cc own Ts nL G A rmo) {x : Int32} {off : Int} {tgt : Nat} (hdg : decode cc pc = .ok (.ifCond .le off, 3)) (ht : (pc : Int) + off = (tgt : Int)) (hp : pc + 3 = pc') (kt : x ≤ 0 → wx κ G A nL σ tgt lv st) (kf : ¬ x ≤ 0 → wx κ G A nL σ pc' lv st) : wx κ G A nL σ pc lv (.int x :: st) := by
  subst hp
  exact fun H locs ls hP hS hl => lv_if_le C.1.1 C.1.2.1 hdg ht (fun h => kt h H locs ls hP hS hl) (fun h => kf h H locs ls hP hS hl)
theorem x_ic_eq (C : gC κ cc own Ts nL G A rmo) {x y : Int32} {off : Int} {tgt : Nat} (hdg : decode cc pc = .ok (.if_icmp .eq off, 3)) (ht : (pc : Int) + off = (tgt : Int)) (hp : pc + 3 = pc') (kt : x = y → wx κ G A nL σ tgt lv st) (kf : ¬ x = y → wx κ G A nL σ pc' lv st) : wx κ G A nL σ pc lv (.int y :: .int x :: st) := by
  subst hp
  exact fun H locs ls hP hS hl => lv_icmp_eq C.1.1 C.1.2.1 hdg ht (fun h => kt h H locs ls hP hS hl) (fun h => kf h H locs ls hP hS hl)
theorem x_ic_ne (C : gC κ cc own Ts nL G A rmo) {x y : Int32} {off : Int} {tgt : Nat} (hdg : decode cc pc = .ok (.if_icmp .ne off, 3)) (ht : (pc : Int) + off = (tgt : Int)) (hp : pc + 3 = pc') (kt : ¬ x = y → wx κ G A nL σ tgt lv st) (kf : x = y → wx κ G A nL σ pc' lv st) : wx κ G A nL σ pc lv (.int y :: .int x :: st) := by
  subst hp
  exact fun H locs ls hP hS hl => lv_icmp_ne C.1.1 C.1.2.1 hdg ht (fun h => kt h H locs ls hP hS hl) (fun h => kf h H locs ls hP hS hl)
theorem x_ic_lt (C : gC κ cc own Ts nL G A rmo) {x y : Int32} {off : Int} {tgt : Nat} (hdg : decode cc pc = .ok (.if_icmp .lt off, 3)) (ht : (pc : Int) + off = (tgt : Int)) (hp : pc + 3 = pc') (kt : x < y → wx κ G A nL σ tgt lv st) (kf : ¬ x < y → wx κ G A nL σ pc' lv st) : wx κ G A nL σ pc lv (.int y :: .int x :: st) := by
  subst hp
  exact fun H locs ls hP hS hl => lv_icmp_lt C.1.1 C.1.2.1 hdg ht (fun h => kt h H locs ls hP hS hl) (fun h => kf h H locs ls hP hS hl)
theorem x_ic_ge (C : gC κ cc own Ts nL G A rmo) {x y : Int32} {off : Int} {tgt : Nat} (hdg : decode cc pc = .ok (.if_icmp .ge off, 3)) (ht : (pc : Int) + off = (tgt : Int)) (hp : pc + 3 = pc') (kt : y ≤ x → wx κ G A nL σ tgt lv st) (kf : ¬ y ≤ x → wx κ G A nL σ pc' lv st) : wx κ G A nL σ pc lv (.int y :: .int x :: st) := by
  subst hp
  exact fun H locs ls hP hS hl => lv_icmp_ge C.1.1 C.1.2.1 hdg ht (fun h => kt h H locs ls hP hS hl) (fun h => kf h H locs ls hP hS hl)
theorem x_ic_gt (C : gC κ cc own Ts nL G A rmo) {x y : Int32} {off : Int} {tgt : Nat} (hdg : decode cc pc = .ok (.if_icmp .gt off, 3)) (ht : (pc : Int) + off = (tgt : Int)) (hp : pc + 3 = pc') (kt : y < x → wx κ G A nL σ tgt lv st) (kf : ¬ y < x → wx κ G A nL σ pc' lv st) : wx κ G A nL σ pc lv (.int y :: .int x :: st) := by
  subst hp
  exact fun H locs ls hP hS hl => lv_icmp_gt C.1.1 C.1.2.1 hdg ht (fun h => kt h H locs ls hP hS hl) (fun h => kf h H locs ls hP hS hl)
theorem x_ic_le (C : gC κ cc own Ts nL G A rmo) {x y : Int32} {off : Int} {tgt : Nat} (hdg : decode cc pc = .ok (.if_icmp .le off, 3)) (ht : (pc : Int) + off = (tgt : Int)) (hp : pc + 3 = pc') (kt : x ≤ y → wx κ G A nL σ tgt lv st) (kf : ¬ x ≤ y → wx κ G A nL σ pc' lv st) : wx κ G A nL σ pc lv (.int y :: .int x :: st) := by
  subst hp
  exact fun H locs ls hP hS hl => lv_icmp_le C.1.1 C.1.2.1 hdg ht (fun h => kt h H locs ls hP hS hl) (fun h => kf h H locs ls hP hS hl)
theorem x_goto (C : gC κ cc own Ts nL G A rmo) {off : Int} {tgt : Nat} (hdg : decode cc pc = .ok (.goto off, 3)) (ht : (pc : Int) + off = (tgt : Int)) (k : wx κ G A nL σ tgt lv st) : wx κ G A nL σ pc lv st :=
  fun H locs ls hP hS hl => lv_goto C.1.1 C.1.2.1 hdg ht (k H locs ls hP hS hl)
theorem x_swout (C : gC κ cc own Ts nL G A rmo) {dflt lo hi : Int} {offs : Array Int} {len : Nat} {x : Int32} {tgt : Nat} (hdg : decode cc pc = .ok (.tableswitch dflt lo hi offs, len)) (h : x.toInt < lo ∨ hi < x.toInt) (ht : (pc : Int) + dflt = (tgt : Int)) (k : wx κ G A nL σ tgt lv st) : wx κ G A nL σ pc lv (.int x :: st) :=
  fun H locs ls hP hS hl => lv_tableOut C.1.1 C.1.2.1 hdg h ht (k H locs ls hP hS hl)
theorem x_swin (C : gC κ cc own Ts nL G A rmo) {dflt lo hi : Int} {offs : Array Int} {len : Nat} {x : Int32} {off : Int} {tgt : Nat} (hdg : decode cc pc = .ok (.tableswitch dflt lo hi offs, len)) (h1 : ¬ x.toInt < lo) (h2 : ¬ hi < x.toInt) (ho : offs[(x.toInt - lo).toNat]? = some off) (ht : (pc : Int) + off = (tgt : Int)) (k : wx κ G A nL σ tgt lv st) : wx κ G A nL σ pc lv (.int x :: st) :=
  fun H locs ls hP hS hl => lv_tableIn C.1.1 C.1.2.1 hdg h1 h2 ho ht (k H locs ls hP hS hl)
theorem x_sub (ks : List Nat) (hl' : lv_pick lv ks = lv') (k : wx κ G A nL σ pc lv' st) : wx κ G A nL σ pc lv st :=
  fun H locs ls hP hS hl => k H locs ls hP hS (lv_sub hl ks hl')
/-! memory -/
theorem x_get (C : gC κ cc own Ts nL G A rmo) {k0 ci j index N : Nat} {Cn : String} {T : u_T} {fs : List Value} {v : Value} (hk : k0 < G.2.2.1) (he : G.2.2.2.1 k0 (σ k0) = .inr (ci, fs)) (hc : vwCl[ci]? = some (Cn, T, N)) (hin : ∀ w ∈ u_ws Cn T N, w ∈ Ts) (hj : j < N) (hv : fs[j]? = some v) (hlink : Cond.fieldLink own index (T j).1 (T j).2.1 (T j).2.2.1 ∈ Ts) (hdg : decode cc pc = .ok (.getfield index, 3)) (hp : pc + 3 = pc') (k : wx κ G A nL σ pc' lv (v :: st)) : wx κ G A nL σ pc lv (.ref (G.2.1 k0) :: st) := by
  subst hp
  exact fun H locs ls hP hS hl => va_get C.1.1 C.1.2.1 C.1.2.2.2.2 hin C.1.2.2.2.1 C.2.1 hP k0 (by rw [gsw_get hk, he]) hc j hj (C.hts hlink) (fun _ h => h) hv hdg (k H locs ls hP hS hl)
theorem x_put (C : gC κ cc own Ts nL G A rmo) {σ1 : gMem} {k0 ci j index N : Nat} {Cn : String} {T : u_T} {fs : List Value} {x : Int32} {ty : FieldType} (e1 : σ1 = gst σ k0 j x) (hk : k0 < G.2.2.1) (he : G.2.2.2.1 k0 (σ k0) = .inr (ci, fs)) (he' : G.2.2.2.1 k0 (upd (σ k0) j x) = .inr (ci, fs.set j (.int x))) (hc : vwCl[ci]? = some (Cn, T, N)) (hin : ∀ w ∈ u_ws Cn T N, w ∈ Ts) (ty0 : Nat → FieldType) (hty : ∀ k, k < N → parseFieldDescriptor (T k).2.2.1 = some (ty0 k)) (hnm : ∀ a, a < N → ∀ b, b < N → a ≠ b → (T a).2.1 ≠ (T b).2.1) (hj : j < N) (hfin : (T j).2.2.2 = false) (hd : parseFieldDescriptor (T j).2.2.1 = some ty) (hn : narrow ty (.int x) = .int x) (hfit : fits ty (.int x) = true) (hjl : j < fs.length) (hlink : Cond.fieldLink own index (T j).1 (T j).2.1 (T j).2.2.1 ∈ Ts) (hdg : decode cc pc = .ok (.putfield index, 3)) (hp : pc + 3 = pc') (k : wx κ G A nL σ1 pc' lv st) : wx κ G A nL σ pc lv (.int x :: .ref (G.2.1 k0) :: st) := by
  subst hp
  subst e1
  exact fun H locs ls hP hS hl => va_put C.1.1 C.1.2.1 C.1.2.2.2.2 hin ty0 hty hnm C.1.2.2.2.1 C.2.1 hP (C.2.2.1 σ) hS k0 (by rw [gsw_get hk, he]) hc j hj (C.hts hlink) (fun _ h => h) hfin hd hn hfit hjl hdg (fun H locs hP _ hS => k H locs ls (by rw [gsw_set hk he'.symm] at hP; exact hP) hS hl)
theorem x_iald (C : gC κ cc own Ts nL G A rmo) {k0 n : Nat} {cy : ClassId} {i : Int32} (hk : k0 < G.2.2.1) (he : G.2.2.2.1 k0 (σ k0) = .inl (cy, (n, .inl (σ k0)))) (ht : G.2.2.2.2.1[0]? = some (cy, .int)) (hin : inb i n = true) (hdg : decode cc pc = .ok (.iaload, 1)) (hp : pc + 1 = pc') (k : wx κ G A nL σ pc' lv (.int (σ k0 i.toNatClampNeg) :: st)) : wx κ G A nL σ pc lv (.int i :: .ref (G.2.1 k0) :: st) := by
  subst hp
  exact fun H locs ls hP hS hl => va_iald C.1.1 C.1.2.1 C.2.1 hP k0 0 (by rw [gsw_get hk, he]) ht (inb_vp hin) hdg (k H locs ls hP hS hl)
theorem x_iast (C : gC κ cc own Ts nL G A rmo) {σ1 : gMem} {k0 n : Nat} {cy : ClassId} {i x : Int32} (e1 : σ1 = gst σ k0 i.toNatClampNeg x) (hk : k0 < G.2.2.1) (he : ∀ r, G.2.2.2.1 k0 r = .inl (cy, (n, .inl r))) (ht : G.2.2.2.2.1[0]? = some (cy, .int)) (hin : inb i n = true) (hdg : decode cc pc = .ok (.iastore, 1)) (hp : pc + 1 = pc') (k : wx κ G A nL σ1 pc' lv st) : wx κ G A nL σ pc lv (.int x :: .int i :: .ref (G.2.1 k0) :: st) := by
  subst hp
  subst e1
  exact fun H locs ls hP hS hl => va_iast C.1.1 C.1.2.1 C.2.1 hP (C.2.2.1 σ) hS k0 0 (by rw [gsw_get hk, he]) ht (inb_vp hin) hdg (fun H locs hP _ hS => k H locs ls (by rw [gsw_set hk (he _).symm] at hP; exact hP) hS hl)
theorem x_zald (C : gC κ cc own Ts nL G A rmo) {k0 n : Nat} {cy : ClassId} {i : Int32} (hk : k0 < G.2.2.1) (he : G.2.2.2.1 k0 (σ k0) = .inl (cy, (n, .inl (σ k0)))) (ht : G.2.2.2.2.1[1]? = some (cy, .boolean)) (hin : inb i n = true) (hdg : decode cc pc = .ok (.baload, 1)) (hp : pc + 1 = pc') (k : wx κ G A nL σ pc' lv (.int (σ k0 i.toNatClampNeg) :: st)) : wx κ G A nL σ pc lv (.int i :: .ref (G.2.1 k0) :: st) := by
  subst hp
  exact fun H locs ls hP hS hl => va_zald C.1.1 C.1.2.1 C.2.1 hP k0 1 (by rw [gsw_get hk, he]) ht (inb_vp hin) hdg (k H locs ls hP hS hl)
theorem x_zast (C : gC κ cc own Ts nL G A rmo) {σ1 : gMem} {k0 n : Nat} {cy : ClassId} {i x : Int32} (e1 : σ1 = gst σ k0 i.toNatClampNeg x) (hx : vp_nar .boolean x = x) (hk : k0 < G.2.2.1) (he : ∀ r, G.2.2.2.1 k0 r = .inl (cy, (n, .inl r))) (ht : G.2.2.2.2.1[1]? = some (cy, .boolean)) (hin : inb i n = true) (hdg : decode cc pc = .ok (.bastore, 1)) (hp : pc + 1 = pc') (k : wx κ G A nL σ1 pc' lv st) : wx κ G A nL σ pc lv (.int x :: .int i :: .ref (G.2.1 k0) :: st) := by
  subst hp
  subst e1
  exact fun H locs ls hP hS hl => va_zast C.1.1 C.1.2.1 C.2.1 hP (C.2.2.1 σ) hS k0 1 (by rw [gsw_get hk, he]) ht (inb_vp hin) hdg (fun H locs hP _ hS => k H locs ls (by rw [hx, gsw_set hk (he _).symm] at hP; exact hP) hS hl)
/-- an array of references of any kind, read -/
theorem x_aald (C : gC κ cc own Ts nL G A rmo) {k0 t0 n k1 : Nat} {cy : ClassId} {ty : FieldType} {f : Nat → Option Nat} {i : Int32} (hk : k0 < G.2.2.1) (he : G.2.2.2.1 k0 (σ k0) = .inl (cy, (n, .inr (.inr (.inr (.inr f)))))) (ht : G.2.2.2.2.1[t0]? = some (cy, ty)) (hty : ty.isReference = true) (hin : inb i n = true) (hf : f i.toNatClampNeg = some (G.2.1 k1)) (hdg : decode cc pc = .ok (.aaload, 1)) (hp : pc + 1 = pc') (k : wx κ G A nL σ pc' lv (.ref (G.2.1 k1) :: st)) : wx κ G A nL σ pc lv (.int i :: .ref (G.2.1 k0) :: st) := by
  subst hp
  intro H locs ls hP hS hl
  have hlt : i.toNatClampNeg < n := inb_lt hin
  have ha : (gsw G σ)[k0]? = some (G.2.1 k0, .inl (cy, (n, .inr (.inr (.inr (.inr f)))))) := by rw [gsw_get hk, he]
  exact W.aald (v := .ref (G.2.1 k1)) (ty := ty) C.1.1 C.1.2.1 (hP k0 _ ha) ((C.2.1.2 t0 _ ht).1 n (fun j => va_rf (f j))) hty (fun q => by cases q) (by show ¬ (i < 0 ∨ (arrV _ _ _).slots.size ≤ _); rw [arrV_size]; exact inb_vp hin) (by show (arrV _ _ _).slots[_]? = _; rw [arrV_read _ _ hlt, hf]; rfl) rfl rfl hdg (k H locs ls hP hS hl)
theorem x_lack (C : gC κ cc own Ts nL G A rmo) {index : Nat} (hlink : Cond.fieldLink own index "StiltWays$Walk" "LACKING" "[I" ∈ Ts) (hdg : decode cc pc = .ok (.getstatic index, 3)) (hp : pc + 3 = pc') (k : wx κ G A nL σ pc' lv (.ref G.2.2.2.2.2 :: st)) : wx κ G A nL σ pc lv st := by
  subst hp
  exact fun H locs ls hP hS hl => va_gets C.1.1 C.1.2.1 C.2.2.2.1.1 hS C.1.2.2.2.1 (C.hts hlink) (fun _ h => h) hdg (k H locs ls hP hS hl)
theorem x_lald (C : gC κ cc own Ts nL G A rmo) {i : Int32} (hin : inb i 3 = true) (hdg : decode cc pc = .ok (.iaload, 1)) (hp : pc + 1 = pc') (k : wx κ G A nL σ pc' lv (.int (gLk i.toNatClampNeg) :: st)) : wx κ G A nL σ pc lv (.int i :: .ref G.2.2.2.2.2 :: st) := by
  subst hp
  exact fun H locs ls hP hS hl => va_ti C.1.1 C.1.2.1 C.2.2.2.1.2.1 hS (inb_vp hin) rfl hdg (k H locs ls hP hS hl)
end GX
/-! calls, ends, the entry -/
def gPre (G : gG) (σ : gMem) (U : State) : Prop := va_P G.1 vwCl (gsw G σ) U.heap ∧ va_K G.1 vwCl G.2.2.2.2.1 U ∧ gL G.2.2.2.2.2 (gA G) U
theorem gfb {G : gG} {σ : gMem} {av : List Value} : FrameBlind (va_Pc av (gPre G σ)) := fun a U g mk q => by
  obtain ⟨q0, qP, qK, qL⟩ := q
  exact ⟨q0, qP, va_K.moved (u := U) (U := U.calling g mk a) (Vm.Alike.refl U.vm) qK, gL_fb qL⟩
abbrev gQi (G : gG) (r0 : Int32) (σ0 : gMem) : Array Value → State → Outcome → State → Prop := va_Qi (fun (r : Int32) (u : gMem) => r = r0 ∧ u = σ0) (fun u t => va_P G.1 vwCl (gsw G u) t.heap) (gA G)
abbrev gQv (G : gG) (σ0 : gMem) : Array Value → State → Outcome → State → Prop := va_Qv (fun (u : gMem) => u = σ0) (fun u t => va_P G.1 vwCl (gsw G u) t.heap) (gA G)
/-- the method ends with r0 and the world σ0 -/
def gMi (l : Launch) (y : MethodName) (ws : List Cond) (rm : Room) (G : gG) (av : List Value) (σ : gMem) (r0 : Int32) (σ0 : gMem) : Prop := Met l y ws rm (va_Pc av (gPre G σ)) (gQi G r0 σ0) 0 0 (gA G)
def gMv (l : Launch) (y : MethodName) (ws : List Cond) (rm : Room) (G : gG) (av : List Value) (σ : gMem) (σ0 : gMem) : Prop := Met l y ws rm (va_Pc av (gPre G σ)) (gQv G σ0) 0 0 (gA G)
def gE (κ : gK) (G : gG) (ret : Option FieldType) (Qc : Array Value → State → Outcome → State → Prop) (l : Launch) : Prop := (gkh κ).sig.returnType = ret ∧ (gkh κ).locks = false ∧ gkn κ = 0 ∧ gkz κ = 0 ∧ gkQ κ = MQ (gkb κ) Qc (gka κ) (gks κ) 0 0 (gA G) ∧ κ.2.1 = l
theorem gIntro {l : Launch} {y : MethodName} {ws ws' : List Cond} {rm : Room} {G : gG} {av : List Value} {σ : gMem} {Qc : Array Value → State → Outcome → State → Prop} {cc : ByteArray} {own : String} {maxL : Nat} {ret : Option FieldType} {lv : List (Nat × Value)} (hG : gInj G) (hy : plainName y.cls = true) (ho : y.cls = own) (hw : ws = Cond.code y cc maxL ret :: ws') (hn : (lg_sl av).length ≤ maxL) (hlv : lv_args 0 av = lv)
    (body : ∀ κ : gK, gC κ cc own ws maxL G (gA G) rm → gE κ G ret Qc l → wx κ G (gA G) maxL σ 0 lv []) : Met l y ws rm (va_Pc av (gPre G σ)) Qc 0 0 (gA G) := by
  refine Met.ofW (cc := cc) (maxL := maxL) (ret := ret) hy hw ?_
  intro p e s m args below meth c s₁ B hml hv
  obtain ⟨rfl, hP, hK, hL⟩ := hv
  have hl := lv_entry av (n := maxL) hn
  rw [lg_entry_eq]
  subst hlv
  subst ho
  exact body (p, l, e, (headSpec ws rm).room, s, m, av.toArray, below, meth, c, 0, 0, MQ below Qc av.toArray s 0 0 (gA G)) ⟨⟨B.exec, B.bytes, hml, findClass_of_methodNamed B.named, atoms_spec (ws := ws) B.pre⟩, hK, gsw_D hG (fun _ h => h), hL, rfl, Nat.zero_le _, Nat.zero_le _, fun _ h => h⟩ ⟨B.returns, B.notSynchronized, rfl, rfl, rfl, rfl⟩ s.heap [] _ hP va_S.rf hl
section GY
variable {κ : gK} {rmo : Room} {cc : ByteArray} {own : String} {Ts : List Cond} {nL : Nat} {G : gG} {A : Nat → Prop} {σ σ0 : gMem} {r0 : Int32} {pc pc' : Nat} {lv lv' : List (Nat × Value)} {st rest : List Value} {l : Launch}
theorem x_iret (C : gC κ cc own Ts nL G (gA G) rmo) (E : gE κ G (some .int) (gQi G r0 σ0) l) {v : Int32} (h : v = r0 ∧ σ = σ0) (hdg : decode cc pc = .ok (.ireturn, 1)) : wx κ G (gA G) nL σ pc lv [.int v] := by
  obtain ⟨p, l, e, R, s, m, args, below, meth, c, n, z, Q⟩ := κ
  obtain ⟨hr, hlk, hn, hz, hQ, -⟩ := E
  dsimp only at hr hlk hn hz hQ
  subst hn
  subst hz
  subst hQ
  intro H locs ls hP hS hl
  exact W.iret (v := v) C.1.1 C.1.2.1 hr (fun t ht hW => ⟨⟨v, σ, rfl, h, by rw [ht]; exact hP⟩, hS.F ht⟩) hS.2.2 hdg hlk
theorem x_zret (C : gC κ cc own Ts nL G (gA G) rmo) (E : gE κ G (some .boolean) (gQi G r0 σ0) l) {v : Int32} (hv : izb v = true) (h : v = r0 ∧ σ = σ0) (hdg : decode cc pc = .ok (.ireturn, 1)) : wx κ G (gA G) nL σ pc lv [.int v] := by
  obtain ⟨p, l, e, R, s, m, args, below, meth, c, n, z, Q⟩ := κ
  obtain ⟨hr, hlk, hn, hz, hQ, -⟩ := E
  dsimp only at hr hlk hn hz hQ
  subst hn
  subst hz
  subst hQ
  intro H locs ls hP hS hl
  exact W.zret (v := v) C.1.1 C.1.2.1 hr (izb_n hv) (fun t ht hW => ⟨⟨v, σ, rfl, h, by rw [ht]; exact hP⟩, hS.F ht⟩) hS.2.2 hdg hlk
theorem x_vret (C : gC κ cc own Ts nL G (gA G) rmo) (E : gE κ G none (gQv G σ0) l) (h : σ = σ0) (hdg : decode cc pc = .ok (.return_, 1)) : wx κ G (gA G) nL σ pc lv [] := by
  obtain ⟨p, l, e, R, s, m, args, below, meth, c, n, z, Q⟩ := κ
  obtain ⟨hr, hlk, hn, hz, hQ, -⟩ := E
  dsimp only at hr hlk hn hz hQ
  subst hn
  subst hz
  subst hQ
  intro H locs ls hP hS hl
  exact W.vret C.1.1 C.1.2.1 hr (fun t ht hW => ⟨⟨σ, rfl, h, by rw [ht]; exact hP⟩, hS.F ht⟩) hS.2.2 hdg hlk
theorem gpreV (C : gC κ cc own Ts nL G A rmo) {k0 ci N : Nat} {Cn : String} {T : u_T} {fs : List Value} {As : List Value} {H : Heap} {locs : List Loc} (hk : k0 < G.2.2.1) (he : G.2.2.2.1 k0 (σ k0) = .inr (ci, fs)) (hc : vwCl[ci]? = some (Cn, T, N)) (hP : va_P G.1 vwCl (gsw G σ) H) (hS : va_S A (gks κ).heap H locs) : PreV (gks κ) H Cn (G.2.1 k0) (va_Pc (.ref (G.2.1 k0) :: As) (gPre G σ)) As :=
  ⟨gfb, va_recv C.2.1 hP hc (by rw [gsw_get hk, he]), fun U hU hW => ⟨rfl, by rw [hU]; exact hP, va_K.moved hW.alike C.2.1, gL_at C.2.2.2.1 hS hU hW C.2.2.2.2.2.2.2⟩⟩
theorem gpreS (C : gC κ cc own Ts nL G A rmo) {As : List Value} {H : Heap} {locs : List Loc} (hP : va_P G.1 vwCl (gsw G σ) H) (hS : va_S A (gks κ).heap H locs) : PreS (gks κ) H (va_Pc As (gPre G σ)) As :=
  ⟨gfb, fun U hU hW => ⟨rfl, by rw [hU]; exact hP, va_K.moved hW.alike C.2.1, gL_at C.2.2.2.1 hS hU hW C.2.2.2.2.2.2.2⟩⟩
theorem x_cvi (C : gC κ cc own Ts nL G A rmo) (El : κ.2.1 = l) {y : MethodName} {ws ws2 : List Cond} {rm : Room} {bytes : ByteArray} {maxL index : Nat} {ret : Option FieldType} {As : List Value} {k0 ci N : Nat} {Cn : String} {T : u_T} {fs : List Value} (n : Nat) (hM : gMi l y ws rm G (.ref (G.2.1 k0) :: As) σ r0 σ0) (hg : GoodIn Ts (wsV own index Cn y ws)) (hw : ws = Cond.code y bytes maxL ret :: ws2) (hrc : rm.cells = 0) (hrs : rm.slots = 0) (hd : y.cls = Cn ∧ y.cls ≠ "java/lang/invoke/MethodHandle" ∧ y.cls ≠ "java/lang/invoke/VarHandle" ∧ (parseMethodDescriptor y.desc).map (fun d => d.parameters.length) = some n) (hR : rm.frames + 1 ≤ rmo.frames ∧ 8 + (maxL + 11) + rm.locals ≤ rmo.locals) (hk : k0 < G.2.2.1) (he : G.2.2.2.1 k0 (σ k0) = .inr (ci, fs)) (hc : vwCl[ci]? = some (Cn, T, N)) (hn : As.length = n) (hst : st = As.reverse ++ .ref (G.2.1 k0) :: rest) (hcat : (rest.map fun v => v.category).sum ≤ 8) (hdg : decode cc pc = .ok (.invokevirtual index, 3)) (hp : pc + 3 = pc') (k : wx κ G A nL σ0 pc' lv (.int r0 :: rest)) : wx κ G A nL σ pc lv st := by
  subst hp
  subst hst
  subst El
  intro H locs ls hP hS hl
  exact va_calli (va_runV (As := As) (rest := rest) C.1 hM (cwV n C.1.2.2.2.2 hg hw hrc hrs hd (by rw [C.2.2.2.2.1]; exact hR)) (gpreV C hk he hc hP hS) rfl hn hl.1 rfl (lv_room hcat) hdg ⟨by rw [C.2.2.2.2.1]; exact C.2.2.2.2.2.1, by rw [C.2.2.2.2.1]; exact C.2.2.2.2.2.2.1⟩) hS (fun q _ h => C.2.2.2.2.2.2.2 q h) C.2.2.2.2.2.2.2 (fun r u t H1 locs1 ht hvm hw hB hz1 hk1 hS => by obtain ⟨rfl, rfl⟩ := hw; rw [ht] at hB; exact k H1 locs1 ls hB hS hl)
theorem x_csi (C : gC κ cc own Ts nL G A rmo) (El : κ.2.1 = l) {y : MethodName} {ws ws2 : List Cond} {rm : Room} {bytes : ByteArray} {maxL index : Nat} {ret : Option FieldType} {As : List Value} (n : Nat) (hM : gMi l y ws rm G As σ r0 σ0) (hg : GoodIn Ts (va_wsS own index y ws)) (hw : ws = Cond.code y bytes maxL ret :: ws2) (hrc : rm.cells = 0) (hrs : rm.slots = 0) (hd : y.cls ≠ "java/lang/invoke/MethodHandle" ∧ y.cls ≠ "java/lang/invoke/VarHandle" ∧ (parseMethodDescriptor y.desc).map (fun d => d.parameters.length) = some n) (hR : rm.frames + 1 ≤ rmo.frames ∧ 8 + (maxL + 11) + rm.locals ≤ rmo.locals) (hn : As.length = n) (hst : st = As.reverse ++ rest) (hcat : (rest.map fun v => v.category).sum ≤ 8) (hdg : decode cc pc = .ok (.invokestatic index, 3)) (hp : pc + 3 = pc') (k : wx κ G A nL σ0 pc' lv (.int r0 :: rest)) : wx κ G A nL σ pc lv st := by
  subst hp
  subst hst
  subst El
  intro H locs ls hP hS hl
  exact va_calli (va_runS (As := As) (rest := rest) C.1 hM (va_cwS n C.1.2.2.2.2 hg hw hrc hrs hd (by rw [C.2.2.2.2.1]; exact hR)) (gpreS C hP hS) rfl hn hl.1 rfl (lv_room hcat) hdg ⟨by rw [C.2.2.2.2.1]; exact C.2.2.2.2.2.1, by rw [C.2.2.2.2.1]; exact C.2.2.2.2.2.2.1⟩) hS (fun q _ h => C.2.2.2.2.2.2.2 q h) C.2.2.2.2.2.2.2 (fun r u t H1 locs1 ht hvm hw hB hz1 hk1 hS => by obtain ⟨rfl, rfl⟩ := hw; rw [ht] at hB; exact k H1 locs1 ls hB hS hl)
theorem x_csni (C : gC κ cc own Ts nL G A rmo) (El : κ.2.1 = l) {y : MethodName} {ws ws2 : List Cond} {rm : Room} {bytes : ByteArray} {maxL index : Nat} {ret : Option FieldType} {As : List Value} (n : Nat) (hM : gMi l y ws rm G As σ r0 σ0) (hg : GoodIn Ts ws) (hw : ws = Cond.code y bytes maxL ret :: ws2) (hrc : rm.cells = 0) (hrs : rm.slots = 0) (hN : (own, index, y) ∈ gNl) (hini : Cond.initialized y.cls ∈ Ts) (hsta : Cond.static y ∈ Ts) (hd : y.cls ≠ "java/lang/invoke/MethodHandle" ∧ y.cls ≠ "java/lang/invoke/VarHandle" ∧ (parseMethodDescriptor y.desc).map (fun d => d.parameters.length) = some n) (hR : rm.frames + 1 ≤ rmo.frames ∧ 8 + (maxL + 11) + rm.locals ≤ rmo.locals) (hn : As.length = n) (hst : st = As.reverse ++ rest) (hcat : (rest.map fun v => v.category).sum ≤ 8) (hdg : decode cc pc = .ok (.invokestatic index, 3)) (hp : pc + 3 = pc') (k : wx κ G A nL σ0 pc' lv (.int r0 :: rest)) : wx κ G A nL σ pc lv st := by
  subst hp
  subst hst
  subst El
  intro H locs ls hP hS hl
  exact va_calli (va_runSN (As := As) (rest := rest) C.1 hM ⟨va_cnB n C.1.2.2.2.2 hg hw hrc hrs (C.2.2.2.1.2.2 _ hN) (C.hts hini) hd (by rw [C.2.2.2.2.1]; exact hR), C.hts hsta, trivial⟩ (gpreS C hP hS) rfl hn hl.1 rfl (lv_room hcat) hdg ⟨by rw [C.2.2.2.2.1]; exact C.2.2.2.2.2.1, by rw [C.2.2.2.2.1]; exact C.2.2.2.2.2.2.1⟩) hS (fun q _ h => C.2.2.2.2.2.2.2 q h) C.2.2.2.2.2.2.2 (fun r u t H1 locs1 ht hvm hw hB hz1 hk1 hS => by obtain ⟨rfl, rfl⟩ := hw; rw [ht] at hB; exact k H1 locs1 ls hB hS hl)
theorem x_cvv (C : gC κ cc own Ts nL G A rmo) (El : κ.2.1 = l) {y : MethodName} {ws ws2 : List Cond} {rm : Room} {bytes : ByteArray} {maxL index : Nat} {ret : Option FieldType} {As : List Value} {k0 ci N : Nat} {Cn : String} {T : u_T} {fs : List Value} (n : Nat) (hM : gMv l y ws rm G (.ref (G.2.1 k0) :: As) σ σ0) (hg : GoodIn Ts (wsV own index Cn y ws)) (hw : ws = Cond.code y bytes maxL ret :: ws2) (hrc : rm.cells = 0) (hrs : rm.slots = 0) (hd : y.cls = Cn ∧ y.cls ≠ "java/lang/invoke/MethodHandle" ∧ y.cls ≠ "java/lang/invoke/VarHandle" ∧ (parseMethodDescriptor y.desc).map (fun d => d.parameters.length) = some n) (hR : rm.frames + 1 ≤ rmo.frames ∧ 8 + (maxL + 11) + rm.locals ≤ rmo.locals) (hk : k0 < G.2.2.1) (he : G.2.2.2.1 k0 (σ k0) = .inr (ci, fs)) (hc : vwCl[ci]? = some (Cn, T, N)) (hn : As.length = n) (hst : st = As.reverse ++ .ref (G.2.1 k0) :: rest) (hcat : (rest.map fun v => v.category).sum ≤ 8) (hdg : decode cc pc = .ok (.invokevirtual index, 3)) (hp : pc + 3 = pc') (k : wx κ G A nL σ0 pc' lv rest) : wx κ G A nL σ pc lv st := by
  subst hp
  subst hst
  subst El
  intro H locs ls hP hS hl
  exact va_callv (va_runV (As := As) (rest := rest) C.1 hM (cwV n C.1.2.2.2.2 hg hw hrc hrs hd (by rw [C.2.2.2.2.1]; exact hR)) (gpreV C hk he hc hP hS) rfl hn hl.1 rfl (lv_room hcat) hdg ⟨by rw [C.2.2.2.2.1]; exact C.2.2.2.2.2.1, by rw [C.2.2.2.2.1]; exact C.2.2.2.2.2.2.1⟩) hS (fun q _ h => C.2.2.2.2.2.2.2 q h) C.2.2.2.2.2.2.2 (fun u t H1 locs1 ht hvm hw hB hz1 hk1 hS => by subst hw; rw [ht] at hB; exact k H1 locs1 ls hB hS hl)
theorem x_csv (C : gC κ cc own Ts nL G A rmo) (El : κ.2.1 = l) {y : MethodName} {ws ws2 : List Cond} {rm : Room} {bytes : ByteArray} {maxL index : Nat} {ret : Option FieldType} {As : List Value} (n : Nat) (hM : gMv l y ws rm G As σ σ0) (hg : GoodIn Ts (va_wsS own index y ws)) (hw : ws = Cond.code y bytes maxL ret :: ws2) (hrc : rm.cells = 0) (hrs : rm.slots = 0) (hd : y.cls ≠ "java/lang/invoke/MethodHandle" ∧ y.cls ≠ "java/lang/invoke/VarHandle" ∧ (parseMethodDescriptor y.desc).map (fun d => d.parameters.length) = some n) (hR : rm.frames + 1 ≤ rmo.frames ∧ 8 + (maxL + 11) + rm.locals ≤ rmo.locals) (hn : As.length = n) (hst : st = As.reverse ++ rest) (hcat : (rest.map fun v => v.category).sum ≤ 8) (hdg : decode cc pc = .ok (.invokestatic index, 3)) (hp : pc + 3 = pc') (k : wx κ G A nL σ0 pc' lv rest) : wx κ G A nL σ pc lv st := by
  subst hp
  subst hst
  subst El
  intro H locs ls hP hS hl
  exact va_callv (va_runS (As := As) (rest := rest) C.1 hM (va_cwS n C.1.2.2.2.2 hg hw hrc hrs hd (by rw [C.2.2.2.2.1]; exact hR)) (gpreS C hP hS) rfl hn hl.1 rfl (lv_room hcat) hdg ⟨by rw [C.2.2.2.2.1]; exact C.2.2.2.2.2.1, by rw [C.2.2.2.2.1]; exact C.2.2.2.2.2.2.1⟩) hS (fun q _ h => C.2.2.2.2.2.2.2 q h) C.2.2.2.2.2.2.2 (fun u t H1 locs1 ht hvm hw hB hz1 hk1 hS => by subst hw; rw [ht] at hB; exact k H1 locs1 ls hB hS hl)
theorem x_csnv (C : gC κ cc own Ts nL G A rmo) (El : κ.2.1 = l) {y : MethodName} {ws ws2 : List Cond} {rm : Room} {bytes : ByteArray} {maxL index : Nat} {ret : Option FieldType} {As : List Value} (n : Nat) (hM : gMv l y ws rm G As σ σ0) (hg : GoodIn Ts ws) (hw : ws = Cond.code y bytes maxL ret :: ws2) (hrc : rm.cells = 0) (hrs : rm.slots = 0) (hN : (own, index, y) ∈ gNl) (hini : Cond.initialized y.cls ∈ Ts) (hsta : Cond.static y ∈ Ts) (hd : y.cls ≠ "java/lang/invoke/MethodHandle" ∧ y.cls ≠ "java/lang/invoke/VarHandle" ∧ (parseMethodDescriptor y.desc).map (fun d => d.parameters.length) = some n) (hR : rm.frames + 1 ≤ rmo.frames ∧ 8 + (maxL + 11) + rm.locals ≤ rmo.locals) (hn : As.length = n) (hst : st = As.reverse ++ rest) (hcat : (rest.map fun v => v.category).sum ≤ 8) (hdg : decode cc pc = .ok (.invokestatic index, 3)) (hp : pc + 3 = pc') (k : wx κ G A nL σ0 pc' lv rest) : wx κ G A nL σ pc lv st := by
  subst hp
  subst hst
  subst El
  intro H locs ls hP hS hl
  exact va_callv (va_runSN (As := As) (rest := rest) C.1 hM ⟨va_cnB n C.1.2.2.2.2 hg hw hrc hrs (C.2.2.2.1.2.2 _ hN) (C.hts hini) hd (by rw [C.2.2.2.2.1]; exact hR), C.hts hsta, trivial⟩ (gpreS C hP hS) rfl hn hl.1 rfl (lv_room hcat) hdg ⟨by rw [C.2.2.2.2.1]; exact C.2.2.2.2.2.1, by rw [C.2.2.2.2.1]; exact C.2.2.2.2.2.2.1⟩) hS (fun q _ h => C.2.2.2.2.2.2.2 q h) C.2.2.2.2.2.2.2 (fun u t H1 locs1 ht hvm hw hB hz1 hk1 hS => by subst hw; rw [ht] at hB; exact k H1 locs1 ls hB hS hl)
theorem x_mmax (C : gC κ cc own Ts nL G A rmo) {index : Nat} {x y : Int32} (hlink : Cond.methodLink own index Lib.Math.max.name ∈ Ts) (hstat : Cond.static Lib.Math.max.name ∈ Ts) (hini : Cond.initialized "java/lang/Math" ∈ Ts) (hcode : Cond.code Lib.Math.max.name Lib.Math.max.code 2 (some .int) ∈ Ts) (hf : 1 ≤ rmo.frames) (hlo : (rest.map fun v => v.category).sum + 13 ≤ rmo.locals) (hdg : decode cc pc = .ok (.invokestatic index, 3)) (hp : pc + 3 = pc') (k : wx κ G A nL σ pc' lv (.int (if x < y then y else x) :: rest)) : wx κ G A nL σ pc lv (.int y :: .int x :: rest) := by
  subst hp
  intro H locs ls hP hS hl
  exact va_mmax C.1.1 C.1.2.1 (C.1.2.2.1.trans hl.1.symm) C.1.2.2.2.1 (C.hts hlink) (C.hts hstat) (C.hts hini) (C.hts hcode) (by rw [C.2.2.2.2.1]; exact hf) (by rw [C.2.2.2.2.1]; exact hlo) (by rw [C.2.2.2.2.1]; exact C.2.2.2.2.2.1) (by rw [C.2.2.2.2.1]; exact C.2.2.2.2.2.2.1) hdg (k H locs ls hP hS hl)
theorem x_mmin (C : gC κ cc own Ts nL G A rmo) {index : Nat} {x y : Int32} (hlink : Cond.methodLink own index Lib.Math.min.name ∈ Ts) (hstat : Cond.static Lib.Math.min.name ∈ Ts) (hini : Cond.initialized "java/lang/Math" ∈ Ts) (hcode : Cond.code Lib.Math.min.name Lib.Math.min.code 2 (some .int) ∈ Ts) (hf : 1 ≤ rmo.frames) (hlo : (rest.map fun v => v.category).sum + 13 ≤ rmo.locals) (hdg : decode cc pc = .ok (.invokestatic index, 3)) (hp : pc + 3 = pc') (k : wx κ G A nL σ pc' lv (.int (if y < x then y else x) :: rest)) : wx κ G A nL σ pc lv (.int y :: .int x :: rest) := by
  subst hp
  intro H locs ls hP hS hl
  exact va_mmin C.1.1 C.1.2.1 (C.1.2.2.1.trans hl.1.symm) C.1.2.2.2.1 (C.hts hlink) (C.hts hstat) (C.hts hini) (C.hts hcode) (by rw [C.2.2.2.2.1]; exact hf) (by rw [C.2.2.2.2.1]; exact hlo) (by rw [C.2.2.2.2.1]; exact C.2.2.2.2.2.1) (by rw [C.2.2.2.2.1]; exact C.2.2.2.2.2.2.1) hdg (k H locs ls hP hS hl)
def gcpy (σ : gMem) (k0 k1 : Nat) (sp dp n : Int32) : gMem := grow σ k1 (va_cpy (σ k0) (σ k1) sp.toNatClampNeg dp.toNatClampNeg n.toNatClampNeg)
def gcok (n0 n1 : Nat) (sp dp n : Int32) : Bool := !(decide (sp < 0)) && !(decide (dp < 0)) && !(decide (n < 0)) && decide (sp.toNatClampNeg + n.toNatClampNeg ≤ n0) && decide (dp.toNatClampNeg + n.toNatClampNeg ≤ n1)
theorem x_copy (C : gC κ cc own Ts nL G A rmo) {σ1 : gMem} {index k0 k1 n0 n1 : Nat} {cy : ClassId} {sp dp n : Int32} (e1 : σ1 = gcpy σ k0 k1 sp dp n) (hlink : Cond.methodLink own index arraycopyName ∈ Ts) (hnat : Cond.native arraycopyName ∈ Ts) (hstat : Cond.static arraycopyName ∈ Ts) (hini : Cond.initialized "java/lang/System" ∈ Ts) (hk0 : k0 < G.2.2.1) (hk1 : k1 < G.2.2.1) (he0 : ∀ r, G.2.2.2.1 k0 r = .inl (cy, (n0, .inl r))) (he1 : ∀ r, G.2.2.2.1 k1 r = .inl (cy, (n1, .inl r))) (ht : G.2.2.2.2.1[0]? = some (cy, .int)) (hok : gcok n0 n1 sp dp n = true) (hf : 1 ≤ rmo.frames) (hlo : (rest.map fun v => v.category).sum + (nativeFrameWords "java/lang/System" "arraycopy" 5 + 11) ≤ rmo.locals) (hdg : decode cc pc = .ok (.invokestatic index, 3)) (hp : pc + 3 = pc') (k : wx κ G A nL σ1 pc' lv rest) : wx κ G A nL σ pc lv (.int n :: .int dp :: .ref (G.2.1 k1) :: .int sp :: .ref (G.2.1 k0) :: rest) := by
  subst hp
  subst e1
  simp only [gcok, Bool.and_eq_true, Bool.not_eq_true', decide_eq_false_iff_not, decide_eq_true_eq] at hok
  obtain ⟨⟨⟨⟨h1, h2⟩, h3⟩, h4⟩, h5⟩ := hok
  intro H locs ls hP hS hl
  exact va_copyi C.1.1 C.1.2.1 (C.1.2.2.1.trans hl.1.symm) C.1.2.2.2.1 (C.hts hlink) (C.hts hnat) (C.hts hstat) (C.hts hini) C.2.1 hP (C.2.2.1 σ) hS k0 k1 0 0 (by rw [gsw_get hk0, he0]) (by rw [gsw_get hk1, he1]) ht ht rfl h1 h2 h3 h4 h5 (fun _ _ => rfl) (by rw [C.2.2.2.2.1]; exact hf) (by rw [C.2.2.2.2.1]; exact hlo) hdg (fun H locs hP _ hS => k H locs ls (by rw [gsw_set hk1 (he1 _).symm] at hP; exact hP) hS hl)
end GY
end
