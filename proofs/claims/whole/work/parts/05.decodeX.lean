theorem dX0_init_0 : decode cX0_init 0 = .ok (.aload_n 0, 1) := by decide +kernel
theorem dX0_init_1 : decode cX0_init 1 = .ok (.invokespecial 3, 3) := by decide +kernel
theorem dX0_init_4 : decode cX0_init 4 = .ok (.aload_n 0, 1) := by decide +kernel
theorem dX0_init_5 : decode cX0_init 5 = .ok (.bipush 8, 2) := by decide +kernel
theorem dX0_init_7 : decode cX0_init 7 = .ok (.newarray .int, 2) := by decide +kernel
theorem dX0_init_9 : decode cX0_init 9 = .ok (.putfield 9, 3) := by decide +kernel
theorem dX0_init_12 : decode cX0_init 12 = .ok (.aload_n 0, 1) := by decide +kernel
theorem dX0_init_13 : decode cX0_init 13 = .ok (.sipush 256, 3) := by decide +kernel
theorem dX0_init_16 : decode cX0_init 16 = .ok (.newarray .int, 2) := by decide +kernel
theorem dX0_init_18 : decode cX0_init 18 = .ok (.putfield 15, 3) := by decide +kernel
theorem dX0_init_21 : decode cX0_init 21 = .ok (.return_, 1) := by decide +kernel
theorem dX0_weigh_0 : decode cX0_weigh 0 = .ok (.aload_n 0, 1) := by decide +kernel
theorem dX0_weigh_1 : decode cX0_weigh 1 = .ok (.aload_n 1, 1) := by decide +kernel
theorem dX0_weigh_2 : decode cX0_weigh 2 = .ok (.getfield 18, 3) := by decide +kernel
theorem dX0_weigh_5 : decode cX0_weigh 5 = .ok (.putfield 24, 3) := by decide +kernel
theorem dX0_weigh_8 : decode cX0_weigh 8 = .ok (.iconst 0, 1) := by decide +kernel
theorem dX0_weigh_9 : decode cX0_weigh 9 = .ok (.istore_n 3, 1) := by decide +kernel
theorem dX0_weigh_10 : decode cX0_weigh 10 = .ok (.iload_n 3, 1) := by decide +kernel
theorem dX0_weigh_11 : decode cX0_weigh 11 = .ok (.aload_n 0, 1) := by decide +kernel
theorem dX0_weigh_12 : decode cX0_weigh 12 = .ok (.getfield 24, 3) := by decide +kernel
theorem dX0_weigh_15 : decode cX0_weigh 15 = .ok (.if_icmp .ge 63, 3) := by decide +kernel
theorem dX0_weigh_18 : decode cX0_weigh 18 = .ok (.aload_n 0, 1) := by decide +kernel
theorem dX0_weigh_19 : decode cX0_weigh 19 = .ok (.getfield 9, 3) := by decide +kernel
theorem dX0_weigh_22 : decode cX0_weigh 22 = .ok (.iload_n 3, 1) := by decide +kernel
theorem dX0_weigh_23 : decode cX0_weigh 23 = .ok (.iconst 0, 1) := by decide +kernel
theorem dX0_weigh_24 : decode cX0_weigh 24 = .ok (.iastore, 1) := by decide +kernel
theorem dX0_weigh_25 : decode cX0_weigh 25 = .ok (.iconst 0, 1) := by decide +kernel
theorem dX0_weigh_26 : decode cX0_weigh 26 = .ok (.istore 4, 2) := by decide +kernel
theorem dX0_weigh_28 : decode cX0_weigh 28 = .ok (.iload 4, 2) := by decide +kernel
theorem dX0_weigh_30 : decode cX0_weigh 30 = .ok (.aload_n 0, 1) := by decide +kernel
theorem dX0_weigh_31 : decode cX0_weigh 31 = .ok (.getfield 24, 3) := by decide +kernel
theorem dX0_weigh_34 : decode cX0_weigh 34 = .ok (.if_icmp .ge 38, 3) := by decide +kernel
theorem dX0_weigh_37 : decode cX0_weigh 37 = .ok (.aload_n 1, 1) := by decide +kernel
theorem dX0_weigh_38 : decode cX0_weigh 38 = .ok (.iload_n 3, 1) := by decide +kernel
theorem dX0_weigh_39 : decode cX0_weigh 39 = .ok (.aload_n 1, 1) := by decide +kernel
theorem dX0_weigh_40 : decode cX0_weigh 40 = .ok (.getfield 25, 3) := by decide +kernel
theorem dX0_weigh_43 : decode cX0_weigh 43 = .ok (.iload 4, 2) := by decide +kernel
theorem dX0_weigh_45 : decode cX0_weigh 45 = .ok (.iaload, 1) := by decide +kernel
theorem dX0_weigh_46 : decode cX0_weigh 46 = .ok (.iload_n 2, 1) := by decide +kernel
theorem dX0_weigh_47 : decode cX0_weigh 47 = .ok (.invokevirtual 28, 3) := by decide +kernel
theorem dX0_weigh_50 : decode cX0_weigh 50 = .ok (.ifCond .eq 16, 3) := by decide +kernel
theorem dX0_weigh_53 : decode cX0_weigh 53 = .ok (.aload_n 0, 1) := by decide +kernel
theorem dX0_weigh_54 : decode cX0_weigh 54 = .ok (.getfield 9, 3) := by decide +kernel
theorem dX0_weigh_57 : decode cX0_weigh 57 = .ok (.iload_n 3, 1) := by decide +kernel
theorem dX0_weigh_58 : decode cX0_weigh 58 = .ok (.dup2, 1) := by decide +kernel
theorem dX0_weigh_59 : decode cX0_weigh 59 = .ok (.iaload, 1) := by decide +kernel
theorem dX0_weigh_60 : decode cX0_weigh 60 = .ok (.iconst 1, 1) := by decide +kernel
theorem dX0_weigh_61 : decode cX0_weigh 61 = .ok (.iload 4, 2) := by decide +kernel
theorem dX0_weigh_63 : decode cX0_weigh 63 = .ok (.ishl, 1) := by decide +kernel
theorem dX0_weigh_64 : decode cX0_weigh 64 = .ok (.ior, 1) := by decide +kernel
theorem dX0_weigh_65 : decode cX0_weigh 65 = .ok (.iastore, 1) := by decide +kernel
theorem dX0_weigh_66 : decode cX0_weigh 66 = .ok (.iinc 4 1, 3) := by decide +kernel
theorem dX0_weigh_69 : decode cX0_weigh 69 = .ok (.goto (-41), 3) := by decide +kernel
theorem dX0_weigh_72 : decode cX0_weigh 72 = .ok (.iinc 3 1, 3) := by decide +kernel
theorem dX0_weigh_75 : decode cX0_weigh 75 = .ok (.goto (-65), 3) := by decide +kernel
theorem dX0_weigh_78 : decode cX0_weigh 78 = .ok (.iconst 1, 1) := by decide +kernel
theorem dX0_weigh_79 : decode cX0_weigh 79 = .ok (.aload_n 0, 1) := by decide +kernel
theorem dX0_weigh_80 : decode cX0_weigh 80 = .ok (.getfield 24, 3) := by decide +kernel
theorem dX0_weigh_83 : decode cX0_weigh 83 = .ok (.ishl, 1) := by decide +kernel
theorem dX0_weigh_84 : decode cX0_weigh 84 = .ok (.iconst 1, 1) := by decide +kernel
theorem dX0_weigh_85 : decode cX0_weigh 85 = .ok (.isub, 1) := by decide +kernel
theorem dX0_weigh_86 : decode cX0_weigh 86 = .ok (.istore_n 3, 1) := by decide +kernel
theorem dX0_weigh_87 : decode cX0_weigh 87 = .ok (.aload_n 0, 1) := by decide +kernel
theorem dX0_weigh_88 : decode cX0_weigh 88 = .ok (.getfield 15, 3) := by decide +kernel
theorem dX0_weigh_91 : decode cX0_weigh 91 = .ok (.iload_n 3, 1) := by decide +kernel
theorem dX0_weigh_92 : decode cX0_weigh 92 = .ok (.iconst 0, 1) := by decide +kernel
theorem dX0_weigh_93 : decode cX0_weigh 93 = .ok (.iastore, 1) := by decide +kernel
theorem dX0_weigh_94 : decode cX0_weigh 94 = .ok (.iload_n 3, 1) := by decide +kernel
theorem dX0_weigh_95 : decode cX0_weigh 95 = .ok (.iconst 1, 1) := by decide +kernel
theorem dX0_weigh_96 : decode cX0_weigh 96 = .ok (.isub, 1) := by decide +kernel
theorem dX0_weigh_97 : decode cX0_weigh 97 = .ok (.istore 4, 2) := by decide +kernel
theorem dX0_weigh_99 : decode cX0_weigh 99 = .ok (.iload 4, 2) := by decide +kernel
theorem dX0_weigh_101 : decode cX0_weigh 101 = .ok (.ifCond .lt 28, 3) := by decide +kernel
theorem dX0_weigh_104 : decode cX0_weigh 104 = .ok (.aload_n 0, 1) := by decide +kernel
theorem dX0_weigh_105 : decode cX0_weigh 105 = .ok (.getfield 15, 3) := by decide +kernel
theorem dX0_weigh_108 : decode cX0_weigh 108 = .ok (.iload 4, 2) := by decide +kernel
theorem dX0_weigh_110 : decode cX0_weigh 110 = .ok (.aload_n 0, 1) := by decide +kernel
theorem dX0_weigh_111 : decode cX0_weigh 111 = .ok (.iload 4, 2) := by decide +kernel
theorem dX0_weigh_113 : decode cX0_weigh 113 = .ok (.aload_n 0, 1) := by decide +kernel
theorem dX0_weigh_114 : decode cX0_weigh 114 = .ok (.iload 4, 2) := by decide +kernel
theorem dX0_weigh_116 : decode cX0_weigh 116 = .ok (.invokevirtual 32, 3) := by decide +kernel
theorem dX0_weigh_119 : decode cX0_weigh 119 = .ok (.invokevirtual 36, 3) := by decide +kernel
theorem dX0_weigh_122 : decode cX0_weigh 122 = .ok (.iastore, 1) := by decide +kernel
theorem dX0_weigh_123 : decode cX0_weigh 123 = .ok (.iinc 4 (-1), 3) := by decide +kernel
theorem dX0_weigh_126 : decode cX0_weigh 126 = .ok (.goto (-27), 3) := by decide +kernel
theorem dX0_weigh_129 : decode cX0_weigh 129 = .ok (.return_, 1) := by decide +kernel
theorem dX0_drownedBehind_0 : decode cX0_drownedBehind 0 = .ok (.iload_n 1, 1) := by decide +kernel
theorem dX0_drownedBehind_1 : decode cX0_drownedBehind 1 = .ok (.invokestatic 40, 3) := by decide +kernel
theorem dX0_drownedBehind_4 : decode cX0_drownedBehind 4 = .ok (.bipush 7, 2) := by decide +kernel
theorem dX0_drownedBehind_6 : decode cX0_drownedBehind 6 = .ok (.invokestatic 45, 3) := by decide +kernel
theorem dX0_drownedBehind_9 : decode cX0_drownedBehind 9 = .ok (.istore_n 3, 1) := by decide +kernel
theorem dX0_drownedBehind_10 : decode cX0_drownedBehind 10 = .ok (.aload_n 0, 1) := by decide +kernel
theorem dX0_drownedBehind_11 : decode cX0_drownedBehind 11 = .ok (.getfield 9, 3) := by decide +kernel
theorem dX0_drownedBehind_14 : decode cX0_drownedBehind 14 = .ok (.iload_n 3, 1) := by decide +kernel
theorem dX0_drownedBehind_15 : decode cX0_drownedBehind 15 = .ok (.iaload, 1) := by decide +kernel
theorem dX0_drownedBehind_16 : decode cX0_drownedBehind 16 = .ok (.iload_n 2, 1) := by decide +kernel
theorem dX0_drownedBehind_17 : decode cX0_drownedBehind 17 = .ok (.ishr, 1) := by decide +kernel
theorem dX0_drownedBehind_18 : decode cX0_drownedBehind 18 = .ok (.iconst 1, 1) := by decide +kernel
theorem dX0_drownedBehind_19 : decode cX0_drownedBehind 19 = .ok (.iand, 1) := by decide +kernel
theorem dX0_drownedBehind_20 : decode cX0_drownedBehind 20 = .ok (.aload_n 0, 1) := by decide +kernel
theorem dX0_drownedBehind_21 : decode cX0_drownedBehind 21 = .ok (.getfield 15, 3) := by decide +kernel
theorem dX0_drownedBehind_24 : decode cX0_drownedBehind 24 = .ok (.iload_n 1, 1) := by decide +kernel
theorem dX0_drownedBehind_25 : decode cX0_drownedBehind 25 = .ok (.iconst 1, 1) := by decide +kernel
theorem dX0_drownedBehind_26 : decode cX0_drownedBehind 26 = .ok (.iload_n 2, 1) := by decide +kernel
theorem dX0_drownedBehind_27 : decode cX0_drownedBehind 27 = .ok (.ishl, 1) := by decide +kernel
theorem dX0_drownedBehind_28 : decode cX0_drownedBehind 28 = .ok (.ior, 1) := by decide +kernel
theorem dX0_drownedBehind_29 : decode cX0_drownedBehind 29 = .ok (.iaload, 1) := by decide +kernel
theorem dX0_drownedBehind_30 : decode cX0_drownedBehind 30 = .ok (.iadd, 1) := by decide +kernel
theorem dX0_drownedBehind_31 : decode cX0_drownedBehind 31 = .ok (.ireturn, 1) := by decide +kernel
theorem dX0_firstBest_0 : decode cX0_firstBest 0 = .ok (.iconst (-1), 1) := by decide +kernel
theorem dX0_firstBest_1 : decode cX0_firstBest 1 = .ok (.istore_n 2, 1) := by decide +kernel
theorem dX0_firstBest_2 : decode cX0_firstBest 2 = .ok (.iconst 0, 1) := by decide +kernel
theorem dX0_firstBest_3 : decode cX0_firstBest 3 = .ok (.istore_n 3, 1) := by decide +kernel
theorem dX0_firstBest_4 : decode cX0_firstBest 4 = .ok (.iload_n 3, 1) := by decide +kernel
theorem dX0_firstBest_5 : decode cX0_firstBest 5 = .ok (.aload_n 0, 1) := by decide +kernel
theorem dX0_firstBest_6 : decode cX0_firstBest 6 = .ok (.getfield 24, 3) := by decide +kernel
theorem dX0_firstBest_9 : decode cX0_firstBest 9 = .ok (.if_icmp .ge 41, 3) := by decide +kernel
theorem dX0_firstBest_12 : decode cX0_firstBest 12 = .ok (.iload_n 1, 1) := by decide +kernel
theorem dX0_firstBest_13 : decode cX0_firstBest 13 = .ok (.iload_n 3, 1) := by decide +kernel
theorem dX0_firstBest_14 : decode cX0_firstBest 14 = .ok (.invokestatic 50, 3) := by decide +kernel
theorem dX0_firstBest_17 : decode cX0_firstBest 17 = .ok (.ifCond .eq 6, 3) := by decide +kernel
theorem dX0_firstBest_20 : decode cX0_firstBest 20 = .ok (.goto 24, 3) := by decide +kernel
theorem dX0_firstBest_23 : decode cX0_firstBest 23 = .ok (.iload_n 2, 1) := by decide +kernel
theorem dX0_firstBest_24 : decode cX0_firstBest 24 = .ok (.ifCond .lt 18, 3) := by decide +kernel
theorem dX0_firstBest_27 : decode cX0_firstBest 27 = .ok (.aload_n 0, 1) := by decide +kernel
theorem dX0_firstBest_28 : decode cX0_firstBest 28 = .ok (.iload_n 1, 1) := by decide +kernel
theorem dX0_firstBest_29 : decode cX0_firstBest 29 = .ok (.iload_n 3, 1) := by decide +kernel
theorem dX0_firstBest_30 : decode cX0_firstBest 30 = .ok (.invokevirtual 36, 3) := by decide +kernel
theorem dX0_firstBest_33 : decode cX0_firstBest 33 = .ok (.aload_n 0, 1) := by decide +kernel
theorem dX0_firstBest_34 : decode cX0_firstBest 34 = .ok (.iload_n 1, 1) := by decide +kernel
theorem dX0_firstBest_35 : decode cX0_firstBest 35 = .ok (.iload_n 2, 1) := by decide +kernel
theorem dX0_firstBest_36 : decode cX0_firstBest 36 = .ok (.invokevirtual 36, 3) := by decide +kernel
theorem dX0_firstBest_39 : decode cX0_firstBest 39 = .ok (.if_icmp .ge 5, 3) := by decide +kernel
theorem dX0_firstBest_42 : decode cX0_firstBest 42 = .ok (.iload_n 3, 1) := by decide +kernel
theorem dX0_firstBest_43 : decode cX0_firstBest 43 = .ok (.istore_n 2, 1) := by decide +kernel
theorem dX0_firstBest_44 : decode cX0_firstBest 44 = .ok (.iinc 3 1, 3) := by decide +kernel
theorem dX0_firstBest_47 : decode cX0_firstBest 47 = .ok (.goto (-43), 3) := by decide +kernel
theorem dX0_firstBest_50 : decode cX0_firstBest 50 = .ok (.iconst 0, 1) := by decide +kernel
theorem dX0_firstBest_51 : decode cX0_firstBest 51 = .ok (.iload_n 2, 1) := by decide +kernel
theorem dX0_firstBest_52 : decode cX0_firstBest 52 = .ok (.invokestatic 54, 3) := by decide +kernel
theorem dX0_firstBest_55 : decode cX0_firstBest 55 = .ok (.ireturn, 1) := by decide +kernel
theorem dX0_drownedAsTheyAre_0 : decode cX0_drownedAsTheyAre 0 = .ok (.iconst 0, 1) := by decide +kernel
theorem dX0_drownedAsTheyAre_1 : decode cX0_drownedAsTheyAre 1 = .ok (.istore_n 1, 1) := by decide +kernel
theorem dX0_drownedAsTheyAre_2 : decode cX0_drownedAsTheyAre 2 = .ok (.iconst 0, 1) := by decide +kernel
theorem dX0_drownedAsTheyAre_3 : decode cX0_drownedAsTheyAre 3 = .ok (.istore_n 2, 1) := by decide +kernel
theorem dX0_drownedAsTheyAre_4 : decode cX0_drownedAsTheyAre 4 = .ok (.iload_n 2, 1) := by decide +kernel
theorem dX0_drownedAsTheyAre_5 : decode cX0_drownedAsTheyAre 5 = .ok (.aload_n 0, 1) := by decide +kernel
theorem dX0_drownedAsTheyAre_6 : decode cX0_drownedAsTheyAre 6 = .ok (.getfield 24, 3) := by decide +kernel
theorem dX0_drownedAsTheyAre_9 : decode cX0_drownedAsTheyAre 9 = .ok (.if_icmp .ge 28, 3) := by decide +kernel
theorem dX0_drownedAsTheyAre_12 : decode cX0_drownedAsTheyAre 12 = .ok (.aload_n 0, 1) := by decide +kernel
theorem dX0_drownedAsTheyAre_13 : decode cX0_drownedAsTheyAre 13 = .ok (.getfield 9, 3) := by decide +kernel
theorem dX0_drownedAsTheyAre_16 : decode cX0_drownedAsTheyAre 16 = .ok (.iload_n 2, 1) := by decide +kernel
theorem dX0_drownedAsTheyAre_17 : decode cX0_drownedAsTheyAre 17 = .ok (.iaload, 1) := by decide +kernel
theorem dX0_drownedAsTheyAre_18 : decode cX0_drownedAsTheyAre 18 = .ok (.iload_n 2, 1) := by decide +kernel
theorem dX0_drownedAsTheyAre_19 : decode cX0_drownedAsTheyAre 19 = .ok (.invokestatic 50, 3) := by decide +kernel
theorem dX0_drownedAsTheyAre_22 : decode cX0_drownedAsTheyAre 22 = .ok (.ifCond .eq 9, 3) := by decide +kernel
theorem dX0_drownedAsTheyAre_25 : decode cX0_drownedAsTheyAre 25 = .ok (.iload_n 1, 1) := by decide +kernel
theorem dX0_drownedAsTheyAre_26 : decode cX0_drownedAsTheyAre 26 = .ok (.iconst 1, 1) := by decide +kernel
theorem dX0_drownedAsTheyAre_27 : decode cX0_drownedAsTheyAre 27 = .ok (.iload_n 2, 1) := by decide +kernel
theorem dX0_drownedAsTheyAre_28 : decode cX0_drownedAsTheyAre 28 = .ok (.ishl, 1) := by decide +kernel
theorem dX0_drownedAsTheyAre_29 : decode cX0_drownedAsTheyAre 29 = .ok (.ior, 1) := by decide +kernel
theorem dX0_drownedAsTheyAre_30 : decode cX0_drownedAsTheyAre 30 = .ok (.istore_n 1, 1) := by decide +kernel
theorem dX0_drownedAsTheyAre_31 : decode cX0_drownedAsTheyAre 31 = .ok (.iinc 2 1, 3) := by decide +kernel
theorem dX0_drownedAsTheyAre_34 : decode cX0_drownedAsTheyAre 34 = .ok (.goto (-30), 3) := by decide +kernel
theorem dX0_drownedAsTheyAre_37 : decode cX0_drownedAsTheyAre 37 = .ok (.iload_n 1, 1) := by decide +kernel
theorem dX0_drownedAsTheyAre_38 : decode cX0_drownedAsTheyAre 38 = .ok (.ireturn, 1) := by decide +kernel
theorem dX0_fewestDrowned_0 : decode cX0_fewestDrowned 0 = .ok (.aload_n 0, 1) := by decide +kernel
theorem dX0_fewestDrowned_1 : decode cX0_fewestDrowned 1 = .ok (.getfield 15, 3) := by decide +kernel
theorem dX0_fewestDrowned_4 : decode cX0_fewestDrowned 4 = .ok (.iconst 0, 1) := by decide +kernel
theorem dX0_fewestDrowned_5 : decode cX0_fewestDrowned 5 = .ok (.iaload, 1) := by decide +kernel
theorem dX0_fewestDrowned_6 : decode cX0_fewestDrowned 6 = .ok (.ireturn, 1) := by decide +kernel
theorem dX0_lengthGivenTo_0 : decode cX0_lengthGivenTo 0 = .ok (.iconst 0, 1) := by decide +kernel
theorem dX0_lengthGivenTo_1 : decode cX0_lengthGivenTo 1 = .ok (.istore_n 2, 1) := by decide +kernel
theorem dX0_lengthGivenTo_2 : decode cX0_lengthGivenTo 2 = .ok (.iconst 0, 1) := by decide +kernel
theorem dX0_lengthGivenTo_3 : decode cX0_lengthGivenTo 3 = .ok (.istore_n 3, 1) := by decide +kernel
theorem dX0_lengthGivenTo_4 : decode cX0_lengthGivenTo 4 = .ok (.iload_n 3, 1) := by decide +kernel
theorem dX0_lengthGivenTo_5 : decode cX0_lengthGivenTo 5 = .ok (.iload_n 1, 1) := by decide +kernel
theorem dX0_lengthGivenTo_6 : decode cX0_lengthGivenTo 6 = .ok (.if_icmp .ge 19, 3) := by decide +kernel
theorem dX0_lengthGivenTo_9 : decode cX0_lengthGivenTo 9 = .ok (.iload_n 2, 1) := by decide +kernel
theorem dX0_lengthGivenTo_10 : decode cX0_lengthGivenTo 10 = .ok (.iconst 1, 1) := by decide +kernel
theorem dX0_lengthGivenTo_11 : decode cX0_lengthGivenTo 11 = .ok (.aload_n 0, 1) := by decide +kernel
theorem dX0_lengthGivenTo_12 : decode cX0_lengthGivenTo 12 = .ok (.iload_n 2, 1) := by decide +kernel
theorem dX0_lengthGivenTo_13 : decode cX0_lengthGivenTo 13 = .ok (.invokevirtual 32, 3) := by decide +kernel
theorem dX0_lengthGivenTo_16 : decode cX0_lengthGivenTo 16 = .ok (.ishl, 1) := by decide +kernel
theorem dX0_lengthGivenTo_17 : decode cX0_lengthGivenTo 17 = .ok (.ior, 1) := by decide +kernel
theorem dX0_lengthGivenTo_18 : decode cX0_lengthGivenTo 18 = .ok (.istore_n 2, 1) := by decide +kernel
theorem dX0_lengthGivenTo_19 : decode cX0_lengthGivenTo 19 = .ok (.iinc 3 1, 3) := by decide +kernel
theorem dX0_lengthGivenTo_22 : decode cX0_lengthGivenTo 22 = .ok (.goto (-18), 3) := by decide +kernel
theorem dX0_lengthGivenTo_25 : decode cX0_lengthGivenTo 25 = .ok (.aload_n 0, 1) := by decide +kernel
theorem dX0_lengthGivenTo_26 : decode cX0_lengthGivenTo 26 = .ok (.iload_n 2, 1) := by decide +kernel
theorem dX0_lengthGivenTo_27 : decode cX0_lengthGivenTo 27 = .ok (.invokevirtual 32, 3) := by decide +kernel
theorem dX0_lengthGivenTo_30 : decode cX0_lengthGivenTo 30 = .ok (.ireturn, 1) := by decide +kernel
theorem dX1_init_0 : decode cX1_init 0 = .ok (.aload_n 0, 1) := by decide +kernel
theorem dX1_init_1 : decode cX1_init 1 = .ok (.invokespecial 3, 3) := by decide +kernel
theorem dX1_init_4 : decode cX1_init 4 = .ok (.aload_n 0, 1) := by decide +kernel
theorem dX1_init_5 : decode cX1_init 5 = .ok (.bipush 12, 2) := by decide +kernel
theorem dX1_init_7 : decode cX1_init 7 = .ok (.newarray .int, 2) := by decide +kernel
theorem dX1_init_9 : decode cX1_init 9 = .ok (.putfield 9, 3) := by decide +kernel
theorem dX1_init_12 : decode cX1_init 12 = .ok (.aload_n 0, 1) := by decide +kernel
theorem dX1_init_13 : decode cX1_init 13 = .ok (.bipush 12, 2) := by decide +kernel
theorem dX1_init_15 : decode cX1_init 15 = .ok (.newarray .int, 2) := by decide +kernel
theorem dX1_init_17 : decode cX1_init 17 = .ok (.putfield 15, 3) := by decide +kernel
theorem dX1_init_20 : decode cX1_init 20 = .ok (.aload_n 0, 1) := by decide +kernel
theorem dX1_init_21 : decode cX1_init 21 = .ok (.bipush 12, 2) := by decide +kernel
theorem dX1_init_23 : decode cX1_init 23 = .ok (.newarray .int, 2) := by decide +kernel
theorem dX1_init_25 : decode cX1_init 25 = .ok (.putfield 18, 3) := by decide +kernel
theorem dX1_init_28 : decode cX1_init 28 = .ok (.aload_n 0, 1) := by decide +kernel
theorem dX1_init_29 : decode cX1_init 29 = .ok (.bipush 12, 2) := by decide +kernel
theorem dX1_init_31 : decode cX1_init 31 = .ok (.bipush 12, 2) := by decide +kernel
theorem dX1_init_33 : decode cX1_init 33 = .ok (.multianewarray 21 2, 4) := by decide +kernel
theorem dX1_init_37 : decode cX1_init 37 = .ok (.putfield 23, 3) := by decide +kernel
theorem dX1_init_40 : decode cX1_init 40 = .ok (.aload_n 0, 1) := by decide +kernel
theorem dX1_init_41 : decode cX1_init 41 = .ok (.bipush 24, 2) := by decide +kernel
theorem dX1_init_43 : decode cX1_init 43 = .ok (.newarray .int, 2) := by decide +kernel
theorem dX1_init_45 : decode cX1_init 45 = .ok (.putfield 26, 3) := by decide +kernel
theorem dX1_init_48 : decode cX1_init 48 = .ok (.aload_n 0, 1) := by decide +kernel
theorem dX1_init_49 : decode cX1_init 49 = .ok (.bipush 20, 2) := by decide +kernel
theorem dX1_init_51 : decode cX1_init 51 = .ok (.putfield 29, 3) := by decide +kernel
theorem dX1_init_54 : decode cX1_init 54 = .ok (.aload_n 0, 1) := by decide +kernel
theorem dX1_init_55 : decode cX1_init 55 = .ok (.bipush 8, 2) := by decide +kernel
theorem dX1_init_57 : decode cX1_init 57 = .ok (.newarray .int, 2) := by decide +kernel
theorem dX1_init_59 : decode cX1_init 59 = .ok (.putfield 33, 3) := by decide +kernel
theorem dX1_init_62 : decode cX1_init 62 = .ok (.aload_n 0, 1) := by decide +kernel
theorem dX1_init_63 : decode cX1_init 63 = .ok (.bipush 8, 2) := by decide +kernel
theorem dX1_init_65 : decode cX1_init 65 = .ok (.newarray .int, 2) := by decide +kernel
theorem dX1_init_67 : decode cX1_init 67 = .ok (.putfield 36, 3) := by decide +kernel
theorem dX1_init_70 : decode cX1_init 70 = .ok (.aload_n 0, 1) := by decide +kernel
theorem dX1_init_71 : decode cX1_init 71 = .ok (.bipush 8, 2) := by decide +kernel
theorem dX1_init_73 : decode cX1_init 73 = .ok (.newarray .int, 2) := by decide +kernel
theorem dX1_init_75 : decode cX1_init 75 = .ok (.putfield 39, 3) := by decide +kernel
theorem dX1_init_78 : decode cX1_init 78 = .ok (.aload_n 0, 1) := by decide +kernel
theorem dX1_init_79 : decode cX1_init 79 = .ok (.bipush 10, 2) := by decide +kernel
theorem dX1_init_81 : decode cX1_init 81 = .ok (.newarray .int, 2) := by decide +kernel
theorem dX1_init_83 : decode cX1_init 83 = .ok (.putfield 42, 3) := by decide +kernel
theorem dX1_init_86 : decode cX1_init 86 = .ok (.aload_n 0, 1) := by decide +kernel
theorem dX1_init_87 : decode cX1_init 87 = .ok (.bipush 10, 2) := by decide +kernel
theorem dX1_init_89 : decode cX1_init 89 = .ok (.newarray .int, 2) := by decide +kernel
theorem dX1_init_91 : decode cX1_init 91 = .ok (.putfield 45, 3) := by decide +kernel
theorem dX1_init_94 : decode cX1_init 94 = .ok (.aload_n 0, 1) := by decide +kernel
theorem dX1_init_95 : decode cX1_init 95 = .ok (.bipush 10, 2) := by decide +kernel
theorem dX1_init_97 : decode cX1_init 97 = .ok (.newarray .int, 2) := by decide +kernel
theorem dX1_init_99 : decode cX1_init 99 = .ok (.putfield 48, 3) := by decide +kernel
theorem dX1_init_102 : decode cX1_init 102 = .ok (.return_, 1) := by decide +kernel
theorem dX1_become_0 : decode cX1_become 0 = .ok (.aload_n 0, 1) := by decide +kernel
theorem dX1_become_1 : decode cX1_become 1 = .ok (.aload_n 1, 1) := by decide +kernel
theorem dX1_become_2 : decode cX1_become 2 = .ok (.getfield 51, 3) := by decide +kernel
theorem dX1_become_5 : decode cX1_become 5 = .ok (.putfield 51, 3) := by decide +kernel
theorem dX1_become_8 : decode cX1_become 8 = .ok (.aload_n 0, 1) := by decide +kernel
theorem dX1_become_9 : decode cX1_become 9 = .ok (.aload_n 1, 1) := by decide +kernel
theorem dX1_become_10 : decode cX1_become 10 = .ok (.getfield 54, 3) := by decide +kernel
theorem dX1_become_13 : decode cX1_become 13 = .ok (.putfield 54, 3) := by decide +kernel
theorem dX1_become_16 : decode cX1_become 16 = .ok (.aload_n 0, 1) := by decide +kernel
theorem dX1_become_17 : decode cX1_become 17 = .ok (.aload_n 1, 1) := by decide +kernel
theorem dX1_become_18 : decode cX1_become 18 = .ok (.getfield 29, 3) := by decide +kernel
theorem dX1_become_21 : decode cX1_become 21 = .ok (.putfield 29, 3) := by decide +kernel
theorem dX1_become_24 : decode cX1_become 24 = .ok (.aload_n 0, 1) := by decide +kernel
theorem dX1_become_25 : decode cX1_become 25 = .ok (.aload_n 1, 1) := by decide +kernel
theorem dX1_become_26 : decode cX1_become 26 = .ok (.getfield 57, 3) := by decide +kernel
theorem dX1_become_29 : decode cX1_become 29 = .ok (.putfield 57, 3) := by decide +kernel
theorem dX1_become_32 : decode cX1_become 32 = .ok (.aload_n 0, 1) := by decide +kernel
theorem dX1_become_33 : decode cX1_become 33 = .ok (.aload_n 1, 1) := by decide +kernel
theorem dX1_become_34 : decode cX1_become 34 = .ok (.getfield 60, 3) := by decide +kernel
theorem dX1_become_37 : decode cX1_become 37 = .ok (.putfield 60, 3) := by decide +kernel
theorem dX1_become_40 : decode cX1_become 40 = .ok (.aload_n 0, 1) := by decide +kernel
theorem dX1_become_41 : decode cX1_become 41 = .ok (.aload_n 1, 1) := by decide +kernel
theorem dX1_become_42 : decode cX1_become 42 = .ok (.getfield 63, 3) := by decide +kernel
theorem dX1_become_45 : decode cX1_become 45 = .ok (.putfield 63, 3) := by decide +kernel
theorem dX1_become_48 : decode cX1_become 48 = .ok (.aload_n 1, 1) := by decide +kernel
theorem dX1_become_49 : decode cX1_become 49 = .ok (.getfield 9, 3) := by decide +kernel
theorem dX1_become_52 : decode cX1_become 52 = .ok (.iconst 0, 1) := by decide +kernel
theorem dX1_become_53 : decode cX1_become 53 = .ok (.aload_n 0, 1) := by decide +kernel
theorem dX1_become_54 : decode cX1_become 54 = .ok (.getfield 9, 3) := by decide +kernel
theorem dX1_become_57 : decode cX1_become 57 = .ok (.iconst 0, 1) := by decide +kernel
theorem dX1_become_58 : decode cX1_become 58 = .ok (.bipush 12, 2) := by decide +kernel
theorem dX1_become_60 : decode cX1_become 60 = .ok (.invokestatic 66, 3) := by decide +kernel
theorem dX1_become_63 : decode cX1_become 63 = .ok (.aload_n 1, 1) := by decide +kernel
theorem dX1_become_64 : decode cX1_become 64 = .ok (.getfield 15, 3) := by decide +kernel
theorem dX1_become_67 : decode cX1_become 67 = .ok (.iconst 0, 1) := by decide +kernel
theorem dX1_become_68 : decode cX1_become 68 = .ok (.aload_n 0, 1) := by decide +kernel
theorem dX1_become_69 : decode cX1_become 69 = .ok (.getfield 15, 3) := by decide +kernel
theorem dX1_become_72 : decode cX1_become 72 = .ok (.iconst 0, 1) := by decide +kernel
theorem dX1_become_73 : decode cX1_become 73 = .ok (.bipush 12, 2) := by decide +kernel
theorem dX1_become_75 : decode cX1_become 75 = .ok (.invokestatic 66, 3) := by decide +kernel
theorem dX1_become_78 : decode cX1_become 78 = .ok (.aload_n 1, 1) := by decide +kernel
theorem dX1_become_79 : decode cX1_become 79 = .ok (.getfield 18, 3) := by decide +kernel
theorem dX1_become_82 : decode cX1_become 82 = .ok (.iconst 0, 1) := by decide +kernel
theorem dX1_become_83 : decode cX1_become 83 = .ok (.aload_n 0, 1) := by decide +kernel
theorem dX1_become_84 : decode cX1_become 84 = .ok (.getfield 18, 3) := by decide +kernel
theorem dX1_become_87 : decode cX1_become 87 = .ok (.iconst 0, 1) := by decide +kernel
theorem dX1_become_88 : decode cX1_become 88 = .ok (.bipush 12, 2) := by decide +kernel
theorem dX1_become_90 : decode cX1_become 90 = .ok (.invokestatic 66, 3) := by decide +kernel
theorem dX1_become_93 : decode cX1_become 93 = .ok (.aload_n 1, 1) := by decide +kernel
theorem dX1_become_94 : decode cX1_become 94 = .ok (.getfield 26, 3) := by decide +kernel
theorem dX1_become_97 : decode cX1_become 97 = .ok (.iconst 0, 1) := by decide +kernel
theorem dX1_become_98 : decode cX1_become 98 = .ok (.aload_n 0, 1) := by decide +kernel
theorem dX1_become_99 : decode cX1_become 99 = .ok (.getfield 26, 3) := by decide +kernel
theorem dX1_become_102 : decode cX1_become 102 = .ok (.iconst 0, 1) := by decide +kernel
theorem dX1_become_103 : decode cX1_become 103 = .ok (.bipush 24, 2) := by decide +kernel
theorem dX1_become_105 : decode cX1_become 105 = .ok (.invokestatic 66, 3) := by decide +kernel
theorem dX1_become_108 : decode cX1_become 108 = .ok (.aload_n 1, 1) := by decide +kernel
theorem dX1_become_109 : decode cX1_become 109 = .ok (.getfield 33, 3) := by decide +kernel
theorem dX1_become_112 : decode cX1_become 112 = .ok (.iconst 0, 1) := by decide +kernel
theorem dX1_become_113 : decode cX1_become 113 = .ok (.aload_n 0, 1) := by decide +kernel
theorem dX1_become_114 : decode cX1_become 114 = .ok (.getfield 33, 3) := by decide +kernel
theorem dX1_become_117 : decode cX1_become 117 = .ok (.iconst 0, 1) := by decide +kernel
theorem dX1_become_118 : decode cX1_become 118 = .ok (.bipush 8, 2) := by decide +kernel
theorem dX1_become_120 : decode cX1_become 120 = .ok (.invokestatic 66, 3) := by decide +kernel
theorem dX1_become_123 : decode cX1_become 123 = .ok (.aload_n 1, 1) := by decide +kernel
theorem dX1_become_124 : decode cX1_become 124 = .ok (.getfield 36, 3) := by decide +kernel
theorem dX1_become_127 : decode cX1_become 127 = .ok (.iconst 0, 1) := by decide +kernel
theorem dX1_become_128 : decode cX1_become 128 = .ok (.aload_n 0, 1) := by decide +kernel
theorem dX1_become_129 : decode cX1_become 129 = .ok (.getfield 36, 3) := by decide +kernel
theorem dX1_become_132 : decode cX1_become 132 = .ok (.iconst 0, 1) := by decide +kernel
theorem dX1_become_133 : decode cX1_become 133 = .ok (.bipush 8, 2) := by decide +kernel
theorem dX1_become_135 : decode cX1_become 135 = .ok (.invokestatic 66, 3) := by decide +kernel
theorem dX1_become_138 : decode cX1_become 138 = .ok (.aload_n 1, 1) := by decide +kernel
theorem dX1_become_139 : decode cX1_become 139 = .ok (.getfield 39, 3) := by decide +kernel
theorem dX1_become_142 : decode cX1_become 142 = .ok (.iconst 0, 1) := by decide +kernel
theorem dX1_become_143 : decode cX1_become 143 = .ok (.aload_n 0, 1) := by decide +kernel
theorem dX1_become_144 : decode cX1_become 144 = .ok (.getfield 39, 3) := by decide +kernel
theorem dX1_become_147 : decode cX1_become 147 = .ok (.iconst 0, 1) := by decide +kernel
theorem dX1_become_148 : decode cX1_become 148 = .ok (.bipush 8, 2) := by decide +kernel
theorem dX1_become_150 : decode cX1_become 150 = .ok (.invokestatic 66, 3) := by decide +kernel
theorem dX1_become_153 : decode cX1_become 153 = .ok (.aload_n 1, 1) := by decide +kernel
theorem dX1_become_154 : decode cX1_become 154 = .ok (.getfield 42, 3) := by decide +kernel
theorem dX1_become_157 : decode cX1_become 157 = .ok (.iconst 0, 1) := by decide +kernel
theorem dX1_become_158 : decode cX1_become 158 = .ok (.aload_n 0, 1) := by decide +kernel
theorem dX1_become_159 : decode cX1_become 159 = .ok (.getfield 42, 3) := by decide +kernel
theorem dX1_become_162 : decode cX1_become 162 = .ok (.iconst 0, 1) := by decide +kernel
theorem dX1_become_163 : decode cX1_become 163 = .ok (.bipush 10, 2) := by decide +kernel
theorem dX1_become_165 : decode cX1_become 165 = .ok (.invokestatic 66, 3) := by decide +kernel
theorem dX1_become_168 : decode cX1_become 168 = .ok (.aload_n 1, 1) := by decide +kernel
theorem dX1_become_169 : decode cX1_become 169 = .ok (.getfield 45, 3) := by decide +kernel
theorem dX1_become_172 : decode cX1_become 172 = .ok (.iconst 0, 1) := by decide +kernel
theorem dX1_become_173 : decode cX1_become 173 = .ok (.aload_n 0, 1) := by decide +kernel
theorem dX1_become_174 : decode cX1_become 174 = .ok (.getfield 45, 3) := by decide +kernel
theorem dX1_become_177 : decode cX1_become 177 = .ok (.iconst 0, 1) := by decide +kernel
theorem dX1_become_178 : decode cX1_become 178 = .ok (.bipush 10, 2) := by decide +kernel
theorem dX1_become_180 : decode cX1_become 180 = .ok (.invokestatic 66, 3) := by decide +kernel
theorem dX1_become_183 : decode cX1_become 183 = .ok (.aload_n 1, 1) := by decide +kernel
theorem dX1_become_184 : decode cX1_become 184 = .ok (.getfield 48, 3) := by decide +kernel
theorem dX1_become_187 : decode cX1_become 187 = .ok (.iconst 0, 1) := by decide +kernel
theorem dX1_become_188 : decode cX1_become 188 = .ok (.aload_n 0, 1) := by decide +kernel
theorem dX1_become_189 : decode cX1_become 189 = .ok (.getfield 48, 3) := by decide +kernel
theorem dX1_become_192 : decode cX1_become 192 = .ok (.iconst 0, 1) := by decide +kernel
theorem dX1_become_193 : decode cX1_become 193 = .ok (.bipush 10, 2) := by decide +kernel
theorem dX1_become_195 : decode cX1_become 195 = .ok (.invokestatic 66, 3) := by decide +kernel
theorem dX1_become_198 : decode cX1_become 198 = .ok (.iconst 0, 1) := by decide +kernel
theorem dX1_become_199 : decode cX1_become 199 = .ok (.istore_n 2, 1) := by decide +kernel
theorem dX1_become_200 : decode cX1_become 200 = .ok (.iload_n 2, 1) := by decide +kernel
theorem dX1_become_201 : decode cX1_become 201 = .ok (.bipush 12, 2) := by decide +kernel
theorem dX1_become_203 : decode cX1_become 203 = .ok (.if_icmp .ge 28, 3) := by decide +kernel
theorem dX1_become_206 : decode cX1_become 206 = .ok (.aload_n 1, 1) := by decide +kernel
theorem dX1_become_207 : decode cX1_become 207 = .ok (.getfield 23, 3) := by decide +kernel
theorem dX1_become_210 : decode cX1_become 210 = .ok (.iload_n 2, 1) := by decide +kernel
theorem dX1_become_211 : decode cX1_become 211 = .ok (.aaload, 1) := by decide +kernel
theorem dX1_become_212 : decode cX1_become 212 = .ok (.iconst 0, 1) := by decide +kernel
theorem dX1_become_213 : decode cX1_become 213 = .ok (.aload_n 0, 1) := by decide +kernel
theorem dX1_become_214 : decode cX1_become 214 = .ok (.getfield 23, 3) := by decide +kernel
theorem dX1_become_217 : decode cX1_become 217 = .ok (.iload_n 2, 1) := by decide +kernel
theorem dX1_become_218 : decode cX1_become 218 = .ok (.aaload, 1) := by decide +kernel
theorem dX1_become_219 : decode cX1_become 219 = .ok (.iconst 0, 1) := by decide +kernel
theorem dX1_become_220 : decode cX1_become 220 = .ok (.bipush 12, 2) := by decide +kernel
theorem dX1_become_222 : decode cX1_become 222 = .ok (.invokestatic 66, 3) := by decide +kernel
theorem dX1_become_225 : decode cX1_become 225 = .ok (.iinc 2 1, 3) := by decide +kernel
theorem dX1_become_228 : decode cX1_become 228 = .ok (.goto (-28), 3) := by decide +kernel
theorem dX1_become_231 : decode cX1_become 231 = .ok (.return_, 1) := by decide +kernel
theorem dX1_hasPlace_0 : decode cX1_hasPlace 0 = .ok (.iload_n 1, 1) := by decide +kernel
theorem dX1_hasPlace_1 : decode cX1_hasPlace 1 = .ok (.iconst 0, 1) := by decide +kernel
theorem dX1_hasPlace_2 : decode cX1_hasPlace 2 = .ok (.aload_n 0, 1) := by decide +kernel
theorem dX1_hasPlace_3 : decode cX1_hasPlace 3 = .ok (.getfield 51, 3) := by decide +kernel
theorem dX1_hasPlace_6 : decode cX1_hasPlace 6 = .ok (.iconst 1, 1) := by decide +kernel
theorem dX1_hasPlace_7 : decode cX1_hasPlace 7 = .ok (.isub, 1) := by decide +kernel
theorem dX1_hasPlace_8 : decode cX1_hasPlace 8 = .ok (.invokestatic 72, 3) := by decide +kernel
theorem dX1_hasPlace_11 : decode cX1_hasPlace 11 = .ok (.ireturn, 1) := by decide +kernel
theorem dX1_hasPerson_0 : decode cX1_hasPerson 0 = .ok (.iload_n 1, 1) := by decide +kernel
theorem dX1_hasPerson_1 : decode cX1_hasPerson 1 = .ok (.iconst 0, 1) := by decide +kernel
theorem dX1_hasPerson_2 : decode cX1_hasPerson 2 = .ok (.aload_n 0, 1) := by decide +kernel
theorem dX1_hasPerson_3 : decode cX1_hasPerson 3 = .ok (.getfield 57, 3) := by decide +kernel
theorem dX1_hasPerson_6 : decode cX1_hasPerson 6 = .ok (.iconst 1, 1) := by decide +kernel
theorem dX1_hasPerson_7 : decode cX1_hasPerson 7 = .ok (.isub, 1) := by decide +kernel
theorem dX1_hasPerson_8 : decode cX1_hasPerson 8 = .ok (.invokestatic 72, 3) := by decide +kernel
theorem dX1_hasPerson_11 : decode cX1_hasPerson 11 = .ok (.ireturn, 1) := by decide +kernel
theorem dX1_hasPeople_0 : decode cX1_hasPeople 0 = .ok (.iload_n 1, 1) := by decide +kernel
theorem dX1_hasPeople_1 : decode cX1_hasPeople 1 = .ok (.iconst 1, 1) := by decide +kernel
theorem dX1_hasPeople_2 : decode cX1_hasPeople 2 = .ok (.iconst 1, 1) := by decide +kernel
theorem dX1_hasPeople_3 : decode cX1_hasPeople 3 = .ok (.aload_n 0, 1) := by decide +kernel
theorem dX1_hasPeople_4 : decode cX1_hasPeople 4 = .ok (.getfield 57, 3) := by decide +kernel
theorem dX1_hasPeople_7 : decode cX1_hasPeople 7 = .ok (.ishl, 1) := by decide +kernel
theorem dX1_hasPeople_8 : decode cX1_hasPeople 8 = .ok (.iconst 1, 1) := by decide +kernel
theorem dX1_hasPeople_9 : decode cX1_hasPeople 9 = .ok (.isub, 1) := by decide +kernel
theorem dX1_hasPeople_10 : decode cX1_hasPeople 10 = .ok (.invokestatic 72, 3) := by decide +kernel
theorem dX1_hasPeople_13 : decode cX1_hasPeople 13 = .ok (.ireturn, 1) := by decide +kernel
theorem dX1_addPlace_0 : decode cX1_addPlace 0 = .ok (.aload_n 0, 1) := by decide +kernel
theorem dX1_addPlace_1 : decode cX1_addPlace 1 = .ok (.getfield 9, 3) := by decide +kernel
theorem dX1_addPlace_4 : decode cX1_addPlace 4 = .ok (.aload_n 0, 1) := by decide +kernel
theorem dX1_addPlace_5 : decode cX1_addPlace 5 = .ok (.getfield 51, 3) := by decide +kernel
theorem dX1_addPlace_8 : decode cX1_addPlace 8 = .ok (.iload_n 1, 1) := by decide +kernel
theorem dX1_addPlace_9 : decode cX1_addPlace 9 = .ok (.iastore, 1) := by decide +kernel
theorem dX1_addPlace_10 : decode cX1_addPlace 10 = .ok (.aload_n 0, 1) := by decide +kernel
theorem dX1_addPlace_11 : decode cX1_addPlace 11 = .ok (.getfield 15, 3) := by decide +kernel
theorem dX1_addPlace_14 : decode cX1_addPlace 14 = .ok (.aload_n 0, 1) := by decide +kernel
theorem dX1_addPlace_15 : decode cX1_addPlace 15 = .ok (.getfield 51, 3) := by decide +kernel
theorem dX1_addPlace_18 : decode cX1_addPlace 18 = .ok (.iload_n 2, 1) := by decide +kernel
theorem dX1_addPlace_19 : decode cX1_addPlace 19 = .ok (.iastore, 1) := by decide +kernel
theorem dX1_addPlace_20 : decode cX1_addPlace 20 = .ok (.aload_n 0, 1) := by decide +kernel
theorem dX1_addPlace_21 : decode cX1_addPlace 21 = .ok (.getfield 18, 3) := by decide +kernel
theorem dX1_addPlace_24 : decode cX1_addPlace 24 = .ok (.aload_n 0, 1) := by decide +kernel
theorem dX1_addPlace_25 : decode cX1_addPlace 25 = .ok (.getfield 51, 3) := by decide +kernel
theorem dX1_addPlace_28 : decode cX1_addPlace 28 = .ok (.iconst 0, 1) := by decide +kernel
theorem dX1_addPlace_29 : decode cX1_addPlace 29 = .ok (.iastore, 1) := by decide +kernel
theorem dX1_addPlace_30 : decode cX1_addPlace 30 = .ok (.aload_n 0, 1) := by decide +kernel
theorem dX1_addPlace_31 : decode cX1_addPlace 31 = .ok (.dup, 1) := by decide +kernel
theorem dX1_addPlace_32 : decode cX1_addPlace 32 = .ok (.getfield 51, 3) := by decide +kernel
theorem dX1_addPlace_35 : decode cX1_addPlace 35 = .ok (.dup_x1, 1) := by decide +kernel
theorem dX1_addPlace_36 : decode cX1_addPlace 36 = .ok (.iconst 1, 1) := by decide +kernel
theorem dX1_addPlace_37 : decode cX1_addPlace 37 = .ok (.iadd, 1) := by decide +kernel
theorem dX1_addPlace_38 : decode cX1_addPlace 38 = .ok (.putfield 51, 3) := by decide +kernel
theorem dX1_addPlace_41 : decode cX1_addPlace 41 = .ok (.ireturn, 1) := by decide +kernel
theorem dX1_addPerson_0 : decode cX1_addPerson 0 = .ok (.aload_n 0, 1) := by decide +kernel
theorem dX1_addPerson_1 : decode cX1_addPerson 1 = .ok (.getfield 33, 3) := by decide +kernel
theorem dX1_addPerson_4 : decode cX1_addPerson 4 = .ok (.aload_n 0, 1) := by decide +kernel
theorem dX1_addPerson_5 : decode cX1_addPerson 5 = .ok (.getfield 57, 3) := by decide +kernel
theorem dX1_addPerson_8 : decode cX1_addPerson 8 = .ok (.iload_n 1, 1) := by decide +kernel
theorem dX1_addPerson_9 : decode cX1_addPerson 9 = .ok (.iastore, 1) := by decide +kernel
theorem dX1_addPerson_10 : decode cX1_addPerson 10 = .ok (.aload_n 0, 1) := by decide +kernel
theorem dX1_addPerson_11 : decode cX1_addPerson 11 = .ok (.getfield 36, 3) := by decide +kernel
theorem dX1_addPerson_14 : decode cX1_addPerson 14 = .ok (.aload_n 0, 1) := by decide +kernel
theorem dX1_addPerson_15 : decode cX1_addPerson 15 = .ok (.getfield 57, 3) := by decide +kernel
theorem dX1_addPerson_18 : decode cX1_addPerson 18 = .ok (.iload_n 2, 1) := by decide +kernel
theorem dX1_addPerson_19 : decode cX1_addPerson 19 = .ok (.iastore, 1) := by decide +kernel
theorem dX1_addPerson_20 : decode cX1_addPerson 20 = .ok (.aload_n 0, 1) := by decide +kernel
theorem dX1_addPerson_21 : decode cX1_addPerson 21 = .ok (.getfield 39, 3) := by decide +kernel
theorem dX1_addPerson_24 : decode cX1_addPerson 24 = .ok (.aload_n 0, 1) := by decide +kernel
theorem dX1_addPerson_25 : decode cX1_addPerson 25 = .ok (.getfield 57, 3) := by decide +kernel
theorem dX1_addPerson_28 : decode cX1_addPerson 28 = .ok (.iload_n 3, 1) := by decide +kernel
theorem dX1_addPerson_29 : decode cX1_addPerson 29 = .ok (.iastore, 1) := by decide +kernel
theorem dX1_addPerson_30 : decode cX1_addPerson 30 = .ok (.aload_n 0, 1) := by decide +kernel
theorem dX1_addPerson_31 : decode cX1_addPerson 31 = .ok (.dup, 1) := by decide +kernel
theorem dX1_addPerson_32 : decode cX1_addPerson 32 = .ok (.getfield 57, 3) := by decide +kernel
theorem dX1_addPerson_35 : decode cX1_addPerson 35 = .ok (.dup_x1, 1) := by decide +kernel
theorem dX1_addPerson_36 : decode cX1_addPerson 36 = .ok (.iconst 1, 1) := by decide +kernel
theorem dX1_addPerson_37 : decode cX1_addPerson 37 = .ok (.iadd, 1) := by decide +kernel
theorem dX1_addPerson_38 : decode cX1_addPerson 38 = .ok (.putfield 57, 3) := by decide +kernel
theorem dX1_addPerson_41 : decode cX1_addPerson 41 = .ok (.ireturn, 1) := by decide +kernel
theorem dX1_addNeed_0 : decode cX1_addNeed 0 = .ok (.aload_n 0, 1) := by decide +kernel
theorem dX1_addNeed_1 : decode cX1_addNeed 1 = .ok (.getfield 42, 3) := by decide +kernel
theorem dX1_addNeed_4 : decode cX1_addNeed 4 = .ok (.aload_n 0, 1) := by decide +kernel
theorem dX1_addNeed_5 : decode cX1_addNeed 5 = .ok (.getfield 60, 3) := by decide +kernel
theorem dX1_addNeed_8 : decode cX1_addNeed 8 = .ok (.iload_n 1, 1) := by decide +kernel
theorem dX1_addNeed_9 : decode cX1_addNeed 9 = .ok (.iastore, 1) := by decide +kernel
theorem dX1_addNeed_10 : decode cX1_addNeed 10 = .ok (.aload_n 0, 1) := by decide +kernel
theorem dX1_addNeed_11 : decode cX1_addNeed 11 = .ok (.getfield 45, 3) := by decide +kernel
theorem dX1_addNeed_14 : decode cX1_addNeed 14 = .ok (.aload_n 0, 1) := by decide +kernel
theorem dX1_addNeed_15 : decode cX1_addNeed 15 = .ok (.getfield 60, 3) := by decide +kernel
theorem dX1_addNeed_18 : decode cX1_addNeed 18 = .ok (.iload_n 2, 1) := by decide +kernel
theorem dX1_addNeed_19 : decode cX1_addNeed 19 = .ok (.iastore, 1) := by decide +kernel
theorem dX1_addNeed_20 : decode cX1_addNeed 20 = .ok (.aload_n 0, 1) := by decide +kernel
theorem dX1_addNeed_21 : decode cX1_addNeed 21 = .ok (.getfield 48, 3) := by decide +kernel
theorem dX1_addNeed_24 : decode cX1_addNeed 24 = .ok (.aload_n 0, 1) := by decide +kernel
theorem dX1_addNeed_25 : decode cX1_addNeed 25 = .ok (.getfield 60, 3) := by decide +kernel
theorem dX1_addNeed_28 : decode cX1_addNeed 28 = .ok (.iload_n 3, 1) := by decide +kernel
theorem dX1_addNeed_29 : decode cX1_addNeed 29 = .ok (.iastore, 1) := by decide +kernel
theorem dX1_addNeed_30 : decode cX1_addNeed 30 = .ok (.aload_n 0, 1) := by decide +kernel
theorem dX1_addNeed_31 : decode cX1_addNeed 31 = .ok (.dup, 1) := by decide +kernel
theorem dX1_addNeed_32 : decode cX1_addNeed 32 = .ok (.getfield 60, 3) := by decide +kernel
theorem dX1_addNeed_35 : decode cX1_addNeed 35 = .ok (.dup_x1, 1) := by decide +kernel
theorem dX1_addNeed_36 : decode cX1_addNeed 36 = .ok (.iconst 1, 1) := by decide +kernel
theorem dX1_addNeed_37 : decode cX1_addNeed 37 = .ok (.iadd, 1) := by decide +kernel
theorem dX1_addNeed_38 : decode cX1_addNeed 38 = .ok (.putfield 60, 3) := by decide +kernel
theorem dX1_addNeed_41 : decode cX1_addNeed 41 = .ok (.ireturn, 1) := by decide +kernel
theorem dX1_join_0 : decode cX1_join 0 = .ok (.aload_n 0, 1) := by decide +kernel
theorem dX1_join_1 : decode cX1_join 1 = .ok (.getfield 23, 3) := by decide +kernel
theorem dX1_join_4 : decode cX1_join 4 = .ok (.iload_n 1, 1) := by decide +kernel
theorem dX1_join_5 : decode cX1_join 5 = .ok (.aaload, 1) := by decide +kernel
theorem dX1_join_6 : decode cX1_join 6 = .ok (.iload_n 2, 1) := by decide +kernel
theorem dX1_join_7 : decode cX1_join 7 = .ok (.iload_n 3, 1) := by decide +kernel
theorem dX1_join_8 : decode cX1_join 8 = .ok (.iastore, 1) := by decide +kernel
theorem dX1_join_9 : decode cX1_join 9 = .ok (.aload_n 0, 1) := by decide +kernel
theorem dX1_join_10 : decode cX1_join 10 = .ok (.getfield 23, 3) := by decide +kernel
theorem dX1_join_13 : decode cX1_join 13 = .ok (.iload_n 2, 1) := by decide +kernel
theorem dX1_join_14 : decode cX1_join 14 = .ok (.aaload, 1) := by decide +kernel
theorem dX1_join_15 : decode cX1_join 15 = .ok (.iload_n 1, 1) := by decide +kernel
theorem dX1_join_16 : decode cX1_join 16 = .ok (.iload_n 3, 1) := by decide +kernel
theorem dX1_join_17 : decode cX1_join 17 = .ok (.iastore, 1) := by decide +kernel
theorem dX1_join_18 : decode cX1_join 18 = .ok (.return_, 1) := by decide +kernel
theorem dX1_countPaths_0 : decode cX1_countPaths 0 = .ok (.iconst 0, 1) := by decide +kernel
theorem dX1_countPaths_1 : decode cX1_countPaths 1 = .ok (.istore_n 1, 1) := by decide +kernel
theorem dX1_countPaths_2 : decode cX1_countPaths 2 = .ok (.iconst 0, 1) := by decide +kernel
theorem dX1_countPaths_3 : decode cX1_countPaths 3 = .ok (.istore_n 2, 1) := by decide +kernel
theorem dX1_countPaths_4 : decode cX1_countPaths 4 = .ok (.iload_n 2, 1) := by decide +kernel
theorem dX1_countPaths_5 : decode cX1_countPaths 5 = .ok (.aload_n 0, 1) := by decide +kernel
theorem dX1_countPaths_6 : decode cX1_countPaths 6 = .ok (.getfield 51, 3) := by decide +kernel
theorem dX1_countPaths_9 : decode cX1_countPaths 9 = .ok (.if_icmp .ge 36, 3) := by decide +kernel
theorem dX1_countPaths_12 : decode cX1_countPaths 12 = .ok (.iconst 0, 1) := by decide +kernel
theorem dX1_countPaths_13 : decode cX1_countPaths 13 = .ok (.istore_n 3, 1) := by decide +kernel
theorem dX1_countPaths_14 : decode cX1_countPaths 14 = .ok (.iload_n 3, 1) := by decide +kernel
theorem dX1_countPaths_15 : decode cX1_countPaths 15 = .ok (.iload_n 2, 1) := by decide +kernel
theorem dX1_countPaths_16 : decode cX1_countPaths 16 = .ok (.if_icmp .ge 23, 3) := by decide +kernel
theorem dX1_countPaths_19 : decode cX1_countPaths 19 = .ok (.aload_n 0, 1) := by decide +kernel
theorem dX1_countPaths_20 : decode cX1_countPaths 20 = .ok (.getfield 23, 3) := by decide +kernel
theorem dX1_countPaths_23 : decode cX1_countPaths 23 = .ok (.iload_n 2, 1) := by decide +kernel
theorem dX1_countPaths_24 : decode cX1_countPaths 24 = .ok (.aaload, 1) := by decide +kernel
theorem dX1_countPaths_25 : decode cX1_countPaths 25 = .ok (.iload_n 3, 1) := by decide +kernel
theorem dX1_countPaths_26 : decode cX1_countPaths 26 = .ok (.iaload, 1) := by decide +kernel
theorem dX1_countPaths_27 : decode cX1_countPaths 27 = .ok (.ifCond .le 6, 3) := by decide +kernel
theorem dX1_countPaths_30 : decode cX1_countPaths 30 = .ok (.iinc 1 1, 3) := by decide +kernel
theorem dX1_countPaths_33 : decode cX1_countPaths 33 = .ok (.iinc 3 1, 3) := by decide +kernel
theorem dX1_countPaths_36 : decode cX1_countPaths 36 = .ok (.goto (-22), 3) := by decide +kernel
theorem dX1_countPaths_39 : decode cX1_countPaths 39 = .ok (.iinc 2 1, 3) := by decide +kernel
theorem dX1_countPaths_42 : decode cX1_countPaths 42 = .ok (.goto (-38), 3) := by decide +kernel
theorem dX1_countPaths_45 : decode cX1_countPaths 45 = .ok (.iload_n 1, 1) := by decide +kernel
theorem dX1_countPaths_46 : decode cX1_countPaths 46 = .ok (.ireturn, 1) := by decide +kernel
theorem dX1_postsBeside_0 : decode cX1_postsBeside 0 = .ok (.iconst 0, 1) := by decide +kernel
theorem dX1_postsBeside_1 : decode cX1_postsBeside 1 = .ok (.istore_n 2, 1) := by decide +kernel
theorem dX1_postsBeside_2 : decode cX1_postsBeside 2 = .ok (.iconst 0, 1) := by decide +kernel
theorem dX1_postsBeside_3 : decode cX1_postsBeside 3 = .ok (.istore_n 3, 1) := by decide +kernel
theorem dX1_postsBeside_4 : decode cX1_postsBeside 4 = .ok (.iload_n 3, 1) := by decide +kernel
theorem dX1_postsBeside_5 : decode cX1_postsBeside 5 = .ok (.aload_n 0, 1) := by decide +kernel
theorem dX1_postsBeside_6 : decode cX1_postsBeside 6 = .ok (.getfield 51, 3) := by decide +kernel
theorem dX1_postsBeside_9 : decode cX1_postsBeside 9 = .ok (.if_icmp .ge 26, 3) := by decide +kernel
theorem dX1_postsBeside_12 : decode cX1_postsBeside 12 = .ok (.iload_n 3, 1) := by decide +kernel
theorem dX1_postsBeside_13 : decode cX1_postsBeside 13 = .ok (.iload_n 1, 1) := by decide +kernel
theorem dX1_postsBeside_14 : decode cX1_postsBeside 14 = .ok (.if_icmp .eq 15, 3) := by decide +kernel
theorem dX1_postsBeside_17 : decode cX1_postsBeside 17 = .ok (.aload_n 0, 1) := by decide +kernel
theorem dX1_postsBeside_18 : decode cX1_postsBeside 18 = .ok (.getfield 15, 3) := by decide +kernel
theorem dX1_postsBeside_21 : decode cX1_postsBeside 21 = .ok (.iload_n 3, 1) := by decide +kernel
theorem dX1_postsBeside_22 : decode cX1_postsBeside 22 = .ok (.iaload, 1) := by decide +kernel
theorem dX1_postsBeside_23 : decode cX1_postsBeside 23 = .ok (.ifCond .le 6, 3) := by decide +kernel
theorem dX1_postsBeside_26 : decode cX1_postsBeside 26 = .ok (.iinc 2 1, 3) := by decide +kernel
theorem dX1_postsBeside_29 : decode cX1_postsBeside 29 = .ok (.iinc 3 1, 3) := by decide +kernel
theorem dX1_postsBeside_32 : decode cX1_postsBeside 32 = .ok (.goto (-28), 3) := by decide +kernel
theorem dX1_postsBeside_35 : decode cX1_postsBeside 35 = .ok (.iload_n 2, 1) := by decide +kernel
theorem dX1_postsBeside_36 : decode cX1_postsBeside 36 = .ok (.ireturn, 1) := by decide +kernel
theorem dX1_settle_0 : decode cX1_settle 0 = .ok (.aload_n 0, 1) := by decide +kernel
theorem dX1_settle_1 : decode cX1_settle 1 = .ok (.iconst 0, 1) := by decide +kernel
theorem dX1_settle_2 : decode cX1_settle 2 = .ok (.putfield 51, 3) := by decide +kernel
theorem dX1_settle_5 : decode cX1_settle 5 = .ok (.aload_n 0, 1) := by decide +kernel
theorem dX1_settle_6 : decode cX1_settle 6 = .ok (.iconst 0, 1) := by decide +kernel
theorem dX1_settle_7 : decode cX1_settle 7 = .ok (.putfield 57, 3) := by decide +kernel
theorem dX1_settle_10 : decode cX1_settle 10 = .ok (.aload_n 0, 1) := by decide +kernel
theorem dX1_settle_11 : decode cX1_settle 11 = .ok (.iconst 0, 1) := by decide +kernel
theorem dX1_settle_12 : decode cX1_settle 12 = .ok (.putfield 60, 3) := by decide +kernel
theorem dX1_settle_15 : decode cX1_settle 15 = .ok (.aload_n 0, 1) := by decide +kernel
theorem dX1_settle_16 : decode cX1_settle 16 = .ok (.iconst 0, 1) := by decide +kernel
theorem dX1_settle_17 : decode cX1_settle 17 = .ok (.putfield 63, 3) := by decide +kernel
theorem dX1_settle_20 : decode cX1_settle 20 = .ok (.iconst 0, 1) := by decide +kernel
theorem dX1_settle_21 : decode cX1_settle 21 = .ok (.istore_n 2, 1) := by decide +kernel
theorem dX1_settle_22 : decode cX1_settle 22 = .ok (.iload_n 2, 1) := by decide +kernel
theorem dX1_settle_23 : decode cX1_settle 23 = .ok (.bipush 12, 2) := by decide +kernel
theorem dX1_settle_25 : decode cX1_settle 25 = .ok (.if_icmp .ge 32, 3) := by decide +kernel
theorem dX1_settle_28 : decode cX1_settle 28 = .ok (.iconst 0, 1) := by decide +kernel
theorem dX1_settle_29 : decode cX1_settle 29 = .ok (.istore_n 3, 1) := by decide +kernel
theorem dX1_settle_30 : decode cX1_settle 30 = .ok (.iload_n 3, 1) := by decide +kernel
theorem dX1_settle_31 : decode cX1_settle 31 = .ok (.bipush 12, 2) := by decide +kernel
theorem dX1_settle_33 : decode cX1_settle 33 = .ok (.if_icmp .ge 18, 3) := by decide +kernel
theorem dX1_settle_36 : decode cX1_settle 36 = .ok (.aload_n 0, 1) := by decide +kernel
theorem dX1_settle_37 : decode cX1_settle 37 = .ok (.getfield 23, 3) := by decide +kernel
theorem dX1_settle_40 : decode cX1_settle 40 = .ok (.iload_n 2, 1) := by decide +kernel
theorem dX1_settle_41 : decode cX1_settle 41 = .ok (.aaload, 1) := by decide +kernel
theorem dX1_settle_42 : decode cX1_settle 42 = .ok (.iload_n 3, 1) := by decide +kernel
theorem dX1_settle_43 : decode cX1_settle 43 = .ok (.iconst 0, 1) := by decide +kernel
theorem dX1_settle_44 : decode cX1_settle 44 = .ok (.iastore, 1) := by decide +kernel
theorem dX1_settle_45 : decode cX1_settle 45 = .ok (.iinc 3 1, 3) := by decide +kernel
theorem dX1_settle_48 : decode cX1_settle 48 = .ok (.goto (-18), 3) := by decide +kernel
theorem dX1_settle_51 : decode cX1_settle 51 = .ok (.iinc 2 1, 3) := by decide +kernel
theorem dX1_settle_54 : decode cX1_settle 54 = .ok (.goto (-32), 3) := by decide +kernel
theorem dX1_settle_57 : decode cX1_settle 57 = .ok (.iconst 0, 1) := by decide +kernel
theorem dX1_settle_58 : decode cX1_settle 58 = .ok (.istore_n 2, 1) := by decide +kernel
theorem dX1_settle_59 : decode cX1_settle 59 = .ok (.iload_n 2, 1) := by decide +kernel
theorem dX1_settle_60 : decode cX1_settle 60 = .ok (.aload_n 1, 1) := by decide +kernel
theorem dX1_settle_61 : decode cX1_settle 61 = .ok (.getfield 76, 3) := by decide +kernel
theorem dX1_settle_64 : decode cX1_settle 64 = .ok (.if_icmp .ge 26, 3) := by decide +kernel
theorem dX1_settle_67 : decode cX1_settle 67 = .ok (.aload_n 0, 1) := by decide +kernel
theorem dX1_settle_68 : decode cX1_settle 68 = .ok (.aload_n 1, 1) := by decide +kernel
theorem dX1_settle_69 : decode cX1_settle 69 = .ok (.getfield 81, 3) := by decide +kernel
theorem dX1_settle_72 : decode cX1_settle 72 = .ok (.iload_n 2, 1) := by decide +kernel
theorem dX1_settle_73 : decode cX1_settle 73 = .ok (.iaload, 1) := by decide +kernel
theorem dX1_settle_74 : decode cX1_settle 74 = .ok (.aload_n 1, 1) := by decide +kernel
theorem dX1_settle_75 : decode cX1_settle 75 = .ok (.getfield 84, 3) := by decide +kernel
theorem dX1_settle_78 : decode cX1_settle 78 = .ok (.iload_n 2, 1) := by decide +kernel
theorem dX1_settle_79 : decode cX1_settle 79 = .ok (.iaload, 1) := by decide +kernel
theorem dX1_settle_80 : decode cX1_settle 80 = .ok (.invokevirtual 87, 3) := by decide +kernel
theorem dX1_settle_83 : decode cX1_settle 83 = .ok (.pop, 1) := by decide +kernel
theorem dX1_settle_84 : decode cX1_settle 84 = .ok (.iinc 2 1, 3) := by decide +kernel
theorem dX1_settle_87 : decode cX1_settle 87 = .ok (.goto (-28), 3) := by decide +kernel
theorem dX1_settle_90 : decode cX1_settle 90 = .ok (.return_, 1) := by decide +kernel
theorem dX1_joinAll_0 : decode cX1_joinAll 0 = .ok (.iconst 0, 1) := by decide +kernel
theorem dX1_joinAll_1 : decode cX1_joinAll 1 = .ok (.istore_n 2, 1) := by decide +kernel
theorem dX1_joinAll_2 : decode cX1_joinAll 2 = .ok (.iload_n 2, 1) := by decide +kernel
theorem dX1_joinAll_3 : decode cX1_joinAll 3 = .ok (.aload_n 1, 1) := by decide +kernel
theorem dX1_joinAll_4 : decode cX1_joinAll 4 = .ok (.getfield 76, 3) := by decide +kernel
theorem dX1_joinAll_7 : decode cX1_joinAll 7 = .ok (.if_icmp .ge 31, 3) := by decide +kernel
theorem dX1_joinAll_10 : decode cX1_joinAll 10 = .ok (.aload_n 0, 1) := by decide +kernel
theorem dX1_joinAll_11 : decode cX1_joinAll 11 = .ok (.aload_n 1, 1) := by decide +kernel
theorem dX1_joinAll_12 : decode cX1_joinAll 12 = .ok (.getfield 81, 3) := by decide +kernel
theorem dX1_joinAll_15 : decode cX1_joinAll 15 = .ok (.iload_n 2, 1) := by decide +kernel
theorem dX1_joinAll_16 : decode cX1_joinAll 16 = .ok (.iaload, 1) := by decide +kernel
theorem dX1_joinAll_17 : decode cX1_joinAll 17 = .ok (.aload_n 1, 1) := by decide +kernel
theorem dX1_joinAll_18 : decode cX1_joinAll 18 = .ok (.getfield 91, 3) := by decide +kernel
theorem dX1_joinAll_21 : decode cX1_joinAll 21 = .ok (.iload_n 2, 1) := by decide +kernel
theorem dX1_joinAll_22 : decode cX1_joinAll 22 = .ok (.iaload, 1) := by decide +kernel
theorem dX1_joinAll_23 : decode cX1_joinAll 23 = .ok (.aload_n 1, 1) := by decide +kernel
theorem dX1_joinAll_24 : decode cX1_joinAll 24 = .ok (.getfield 84, 3) := by decide +kernel
theorem dX1_joinAll_27 : decode cX1_joinAll 27 = .ok (.iload_n 2, 1) := by decide +kernel
theorem dX1_joinAll_28 : decode cX1_joinAll 28 = .ok (.iaload, 1) := by decide +kernel
theorem dX1_joinAll_29 : decode cX1_joinAll 29 = .ok (.invokevirtual 94, 3) := by decide +kernel
theorem dX1_joinAll_32 : decode cX1_joinAll 32 = .ok (.iinc 2 1, 3) := by decide +kernel
theorem dX1_joinAll_35 : decode cX1_joinAll 35 = .ok (.goto (-33), 3) := by decide +kernel
theorem dX1_joinAll_38 : decode cX1_joinAll 38 = .ok (.return_, 1) := by decide +kernel
theorem dX1_age_0 : decode cX1_age 0 = .ok (.iconst 0, 1) := by decide +kernel
theorem dX1_age_1 : decode cX1_age 1 = .ok (.istore_n 2, 1) := by decide +kernel
theorem dX1_age_2 : decode cX1_age 2 = .ok (.iload_n 2, 1) := by decide +kernel
theorem dX1_age_3 : decode cX1_age 3 = .ok (.aload_n 0, 1) := by decide +kernel
theorem dX1_age_4 : decode cX1_age 4 = .ok (.getfield 51, 3) := by decide +kernel
theorem dX1_age_7 : decode cX1_age 7 = .ok (.if_icmp .ge 21, 3) := by decide +kernel
theorem dX1_age_10 : decode cX1_age 10 = .ok (.aload_n 0, 1) := by decide +kernel
theorem dX1_age_11 : decode cX1_age 11 = .ok (.getfield 9, 3) := by decide +kernel
theorem dX1_age_14 : decode cX1_age 14 = .ok (.iload_n 2, 1) := by decide +kernel
theorem dX1_age_15 : decode cX1_age 15 = .ok (.aload_n 0, 1) := by decide +kernel
theorem dX1_age_16 : decode cX1_age 16 = .ok (.iload_n 2, 1) := by decide +kernel
theorem dX1_age_17 : decode cX1_age 17 = .ok (.iload_n 1, 1) := by decide +kernel
theorem dX1_age_18 : decode cX1_age 18 = .ok (.invokevirtual 98, 3) := by decide +kernel
theorem dX1_age_21 : decode cX1_age 21 = .ok (.iastore, 1) := by decide +kernel
theorem dX1_age_22 : decode cX1_age 22 = .ok (.iinc 2 1, 3) := by decide +kernel
theorem dX1_age_25 : decode cX1_age 25 = .ok (.goto (-23), 3) := by decide +kernel
theorem dX1_age_28 : decode cX1_age 28 = .ok (.aload_n 0, 1) := by decide +kernel
theorem dX1_age_29 : decode cX1_age 29 = .ok (.dup, 1) := by decide +kernel
theorem dX1_age_30 : decode cX1_age 30 = .ok (.getfield 63, 3) := by decide +kernel
theorem dX1_age_33 : decode cX1_age 33 = .ok (.iload_n 1, 1) := by decide +kernel
theorem dX1_age_34 : decode cX1_age 34 = .ok (.iadd, 1) := by decide +kernel
theorem dX1_age_35 : decode cX1_age 35 = .ok (.putfield 63, 3) := by decide +kernel
theorem dX1_age_38 : decode cX1_age 38 = .ok (.return_, 1) := by decide +kernel
theorem dX1_depthIn_0 : decode cX1_depthIn 0 = .ok (.bipush 60, 2) := by decide +kernel
theorem dX1_depthIn_2 : decode cX1_depthIn 2 = .ok (.bipush (-20), 2) := by decide +kernel
theorem dX1_depthIn_4 : decode cX1_depthIn 4 = .ok (.aload_n 0, 1) := by decide +kernel
theorem dX1_depthIn_5 : decode cX1_depthIn 5 = .ok (.getfield 9, 3) := by decide +kernel
theorem dX1_depthIn_8 : decode cX1_depthIn 8 = .ok (.iload_n 1, 1) := by decide +kernel
theorem dX1_depthIn_9 : decode cX1_depthIn 9 = .ok (.iaload, 1) := by decide +kernel
theorem dX1_depthIn_10 : decode cX1_depthIn 10 = .ok (.iload_n 2, 1) := by decide +kernel
theorem dX1_depthIn_11 : decode cX1_depthIn 11 = .ok (.aload_n 0, 1) := by decide +kernel
theorem dX1_depthIn_12 : decode cX1_depthIn 12 = .ok (.getfield 18, 3) := by decide +kernel
theorem dX1_depthIn_15 : decode cX1_depthIn 15 = .ok (.iload_n 1, 1) := by decide +kernel
theorem dX1_depthIn_16 : decode cX1_depthIn 16 = .ok (.iaload, 1) := by decide +kernel
theorem dX1_depthIn_17 : decode cX1_depthIn 17 = .ok (.imul, 1) := by decide +kernel
theorem dX1_depthIn_18 : decode cX1_depthIn 18 = .ok (.isub, 1) := by decide +kernel
theorem dX1_depthIn_19 : decode cX1_depthIn 19 = .ok (.invokestatic 101, 3) := by decide +kernel
theorem dX1_depthIn_22 : decode cX1_depthIn 22 = .ok (.invokestatic 106, 3) := by decide +kernel
theorem dX1_depthIn_25 : decode cX1_depthIn 25 = .ok (.ireturn, 1) := by decide +kernel
theorem dX1_waterAt_0 : decode cX1_waterAt 0 = .ok (.aload_n 0, 1) := by decide +kernel
theorem dX1_waterAt_1 : decode cX1_waterAt 1 = .ok (.aload_n 0, 1) := by decide +kernel
theorem dX1_waterAt_2 : decode cX1_waterAt 2 = .ok (.getfield 9, 3) := by decide +kernel
theorem dX1_waterAt_5 : decode cX1_waterAt 5 = .ok (.iload_n 1, 1) := by decide +kernel
theorem dX1_waterAt_6 : decode cX1_waterAt 6 = .ok (.iaload, 1) := by decide +kernel
theorem dX1_waterAt_7 : decode cX1_waterAt 7 = .ok (.iload_n 2, 1) := by decide +kernel
theorem dX1_waterAt_8 : decode cX1_waterAt 8 = .ok (.aload_n 0, 1) := by decide +kernel
theorem dX1_waterAt_9 : decode cX1_waterAt 9 = .ok (.getfield 54, 3) := by decide +kernel
theorem dX1_waterAt_12 : decode cX1_waterAt 12 = .ok (.invokevirtual 109, 3) := by decide +kernel
theorem dX1_waterAt_15 : decode cX1_waterAt 15 = .ok (.ireturn, 1) := by decide +kernel
theorem dX1_waterOver_0 : decode cX1_waterOver 0 = .ok (.iconst 0, 1) := by decide +kernel
theorem dX1_waterOver_1 : decode cX1_waterOver 1 = .ok (.iload_n 1, 1) := by decide +kernel
theorem dX1_waterOver_2 : decode cX1_waterOver 2 = .ok (.aload_n 0, 1) := by decide +kernel
theorem dX1_waterOver_3 : decode cX1_waterOver 3 = .ok (.getfield 26, 3) := by decide +kernel
theorem dX1_waterOver_6 : decode cX1_waterOver 6 = .ok (.iload_n 2, 1) := by decide +kernel
theorem dX1_waterOver_7 : decode cX1_waterOver 7 = .ok (.iaload, 1) := by decide +kernel
theorem dX1_waterOver_8 : decode cX1_waterOver 8 = .ok (.iadd, 1) := by decide +kernel
theorem dX1_waterOver_9 : decode cX1_waterOver 9 = .ok (.iload_n 3, 1) := by decide +kernel
theorem dX1_waterOver_10 : decode cX1_waterOver 10 = .ok (.iadd, 1) := by decide +kernel
theorem dX1_waterOver_11 : decode cX1_waterOver 11 = .ok (.invokestatic 101, 3) := by decide +kernel
theorem dX1_waterOver_14 : decode cX1_waterOver 14 = .ok (.ireturn, 1) := by decide +kernel
theorem dX1_lengthOf_0 : decode cX1_lengthOf 0 = .ok (.aload_n 0, 1) := by decide +kernel
theorem dX1_lengthOf_1 : decode cX1_lengthOf 1 = .ok (.aload_n 0, 1) := by decide +kernel
theorem dX1_lengthOf_2 : decode cX1_lengthOf 2 = .ok (.getfield 33, 3) := by decide +kernel
theorem dX1_lengthOf_5 : decode cX1_lengthOf 5 = .ok (.iload_n 1, 1) := by decide +kernel
theorem dX1_lengthOf_6 : decode cX1_lengthOf 6 = .ok (.iaload, 1) := by decide +kernel
theorem dX1_lengthOf_7 : decode cX1_lengthOf 7 = .ok (.aload_n 0, 1) := by decide +kernel
theorem dX1_lengthOf_8 : decode cX1_lengthOf 8 = .ok (.getfield 36, 3) := by decide +kernel
theorem dX1_lengthOf_11 : decode cX1_lengthOf 11 = .ok (.iload_n 1, 1) := by decide +kernel
theorem dX1_lengthOf_12 : decode cX1_lengthOf 12 = .ok (.iaload, 1) := by decide +kernel
theorem dX1_lengthOf_13 : decode cX1_lengthOf 13 = .ok (.aload_n 0, 1) := by decide +kernel
theorem dX1_lengthOf_14 : decode cX1_lengthOf 14 = .ok (.getfield 63, 3) := by decide +kernel
theorem dX1_lengthOf_17 : decode cX1_lengthOf 17 = .ok (.invokevirtual 113, 3) := by decide +kernel
theorem dX1_lengthOf_20 : decode cX1_lengthOf 20 = .ok (.ireturn, 1) := by decide +kernel
theorem dX1_lengthByKind_0 : decode cX1_lengthByKind 0 = .ok (.iload_n 1, 1) := by decide +kernel
theorem dX1_lengthByKind_1 : decode cX1_lengthByKind 1 = .ok (.iconst 2, 1) := by decide +kernel
theorem dX1_lengthByKind_2 : decode cX1_lengthByKind 2 = .ok (.if_icmp .ne 11, 3) := by decide +kernel
theorem dX1_lengthByKind_5 : decode cX1_lengthByKind 5 = .ok (.iconst 0, 1) := by decide +kernel
theorem dX1_lengthByKind_6 : decode cX1_lengthByKind 6 = .ok (.iload_n 2, 1) := by decide +kernel
theorem dX1_lengthByKind_7 : decode cX1_lengthByKind 7 = .ok (.iconst 2, 1) := by decide +kernel
theorem dX1_lengthByKind_8 : decode cX1_lengthByKind 8 = .ok (.isub, 1) := by decide +kernel
theorem dX1_lengthByKind_9 : decode cX1_lengthByKind 9 = .ok (.invokestatic 101, 3) := by decide +kernel
theorem dX1_lengthByKind_12 : decode cX1_lengthByKind 12 = .ok (.ireturn, 1) := by decide +kernel
theorem dX1_lengthByKind_13 : decode cX1_lengthByKind 13 = .ok (.iload_n 1, 1) := by decide +kernel
theorem dX1_lengthByKind_14 : decode cX1_lengthByKind 14 = .ok (.iconst 3, 1) := by decide +kernel
theorem dX1_lengthByKind_15 : decode cX1_lengthByKind 15 = .ok (.if_icmp .ne 9, 3) := by decide +kernel
theorem dX1_lengthByKind_18 : decode cX1_lengthByKind 18 = .ok (.iload_n 2, 1) := by decide +kernel
theorem dX1_lengthByKind_19 : decode cX1_lengthByKind 19 = .ok (.iload_n 3, 1) := by decide +kernel
theorem dX1_lengthByKind_20 : decode cX1_lengthByKind 20 = .ok (.iadd, 1) := by decide +kernel
theorem dX1_lengthByKind_21 : decode cX1_lengthByKind 21 = .ok (.goto 4, 3) := by decide +kernel
theorem dX1_lengthByKind_24 : decode cX1_lengthByKind 24 = .ok (.iload_n 2, 1) := by decide +kernel
theorem dX1_lengthByKind_25 : decode cX1_lengthByKind 25 = .ok (.ireturn, 1) := by decide +kernel
theorem dX1_fits_0 : decode cX1_fits 0 = .ok (.iload_n 2, 1) := by decide +kernel
theorem dX1_fits_1 : decode cX1_fits 1 = .ok (.iload_n 1, 1) := by decide +kernel
theorem dX1_fits_2 : decode cX1_fits 2 = .ok (.if_icmp .gt 17, 3) := by decide +kernel
theorem dX1_fits_5 : decode cX1_fits 5 = .ok (.iload_n 1, 1) := by decide +kernel
theorem dX1_fits_6 : decode cX1_fits 6 = .ok (.iload_n 2, 1) := by decide +kernel
theorem dX1_fits_7 : decode cX1_fits 7 = .ok (.isub, 1) := by decide +kernel
theorem dX1_fits_8 : decode cX1_fits 8 = .ok (.aload_n 0, 1) := by decide +kernel
theorem dX1_fits_9 : decode cX1_fits 9 = .ok (.getfield 29, 3) := by decide +kernel
theorem dX1_fits_12 : decode cX1_fits 12 = .ok (.if_icmp .gt 7, 3) := by decide +kernel
theorem dX1_fits_15 : decode cX1_fits 15 = .ok (.iconst 1, 1) := by decide +kernel
theorem dX1_fits_16 : decode cX1_fits 16 = .ok (.goto 4, 3) := by decide +kernel
theorem dX1_fits_19 : decode cX1_fits 19 = .ok (.iconst 0, 1) := by decide +kernel
theorem dX1_fits_20 : decode cX1_fits 20 = .ok (.ireturn, 1) := by decide +kernel
theorem dX1_bears_0 : decode cX1_bears 0 = .ok (.iload_n 1, 1) := by decide +kernel
theorem dX1_bears_1 : decode cX1_bears 1 = .ok (.iconst 1, 1) := by decide +kernel
theorem dX1_bears_2 : decode cX1_bears 2 = .ok (.if_icmp .ne 17, 3) := by decide +kernel
theorem dX1_bears_5 : decode cX1_bears 5 = .ok (.aload_n 0, 1) := by decide +kernel
theorem dX1_bears_6 : decode cX1_bears 6 = .ok (.iload_n 2, 1) := by decide +kernel
theorem dX1_bears_7 : decode cX1_bears 7 = .ok (.iconst 2, 1) := by decide +kernel
theorem dX1_bears_8 : decode cX1_bears 8 = .ok (.idiv, 1) := by decide +kernel
theorem dX1_bears_9 : decode cX1_bears 9 = .ok (.iload 4, 2) := by decide +kernel
theorem dX1_bears_11 : decode cX1_bears 11 = .ok (.invokevirtual 116, 3) := by decide +kernel
theorem dX1_bears_14 : decode cX1_bears 14 = .ok (.ifCond .eq 5, 3) := by decide +kernel
theorem dX1_bears_17 : decode cX1_bears 17 = .ok (.iconst 1, 1) := by decide +kernel
theorem dX1_bears_18 : decode cX1_bears 18 = .ok (.ireturn, 1) := by decide +kernel
theorem dX1_bears_19 : decode cX1_bears 19 = .ok (.aload_n 0, 1) := by decide +kernel
theorem dX1_bears_20 : decode cX1_bears 20 = .ok (.aload_n 0, 1) := by decide +kernel
theorem dX1_bears_21 : decode cX1_bears 21 = .ok (.iload_n 1, 1) := by decide +kernel
theorem dX1_bears_22 : decode cX1_bears 22 = .ok (.iload_n 2, 1) := by decide +kernel
theorem dX1_bears_23 : decode cX1_bears 23 = .ok (.iload_n 3, 1) := by decide +kernel
theorem dX1_bears_24 : decode cX1_bears 24 = .ok (.invokevirtual 113, 3) := by decide +kernel
theorem dX1_bears_27 : decode cX1_bears 27 = .ok (.iload 4, 2) := by decide +kernel
theorem dX1_bears_29 : decode cX1_bears 29 = .ok (.invokevirtual 116, 3) := by decide +kernel
theorem dX1_bears_32 : decode cX1_bears 32 = .ok (.ireturn, 1) := by decide +kernel
theorem dX1_standsAt_0 : decode cX1_standsAt 0 = .ok (.aload_n 0, 1) := by decide +kernel
theorem dX1_standsAt_1 : decode cX1_standsAt 1 = .ok (.aload_n 0, 1) := by decide +kernel
theorem dX1_standsAt_2 : decode cX1_standsAt 2 = .ok (.getfield 33, 3) := by decide +kernel
theorem dX1_standsAt_5 : decode cX1_standsAt 5 = .ok (.iload_n 1, 1) := by decide +kernel
theorem dX1_standsAt_6 : decode cX1_standsAt 6 = .ok (.iaload, 1) := by decide +kernel
theorem dX1_standsAt_7 : decode cX1_standsAt 7 = .ok (.aload_n 0, 1) := by decide +kernel
theorem dX1_standsAt_8 : decode cX1_standsAt 8 = .ok (.getfield 36, 3) := by decide +kernel
theorem dX1_standsAt_11 : decode cX1_standsAt 11 = .ok (.iload_n 1, 1) := by decide +kernel
theorem dX1_standsAt_12 : decode cX1_standsAt 12 = .ok (.iaload, 1) := by decide +kernel
theorem dX1_standsAt_13 : decode cX1_standsAt 13 = .ok (.aload_n 0, 1) := by decide +kernel
theorem dX1_standsAt_14 : decode cX1_standsAt 14 = .ok (.getfield 63, 3) := by decide +kernel
theorem dX1_standsAt_17 : decode cX1_standsAt 17 = .ok (.aload_n 0, 1) := by decide +kernel
theorem dX1_standsAt_18 : decode cX1_standsAt 18 = .ok (.iload_n 2, 1) := by decide +kernel
theorem dX1_standsAt_19 : decode cX1_standsAt 19 = .ok (.iload_n 3, 1) := by decide +kernel
theorem dX1_standsAt_20 : decode cX1_standsAt 20 = .ok (.invokevirtual 120, 3) := by decide +kernel
theorem dX1_standsAt_23 : decode cX1_standsAt 23 = .ok (.invokevirtual 123, 3) := by decide +kernel
theorem dX1_standsAt_26 : decode cX1_standsAt 26 = .ok (.ireturn, 1) := by decide +kernel
theorem dX1_standsAtHomeIn_0 : decode cX1_standsAtHomeIn 0 = .ok (.aload_n 0, 1) := by decide +kernel
theorem dX1_standsAtHomeIn_1 : decode cX1_standsAtHomeIn 1 = .ok (.aload_n 0, 1) := by decide +kernel
theorem dX1_standsAtHomeIn_2 : decode cX1_standsAtHomeIn 2 = .ok (.aload_n 0, 1) := by decide +kernel
theorem dX1_standsAtHomeIn_3 : decode cX1_standsAtHomeIn 3 = .ok (.getfield 39, 3) := by decide +kernel
theorem dX1_standsAtHomeIn_6 : decode cX1_standsAtHomeIn 6 = .ok (.iload_n 1, 1) := by decide +kernel
theorem dX1_standsAtHomeIn_7 : decode cX1_standsAtHomeIn 7 = .ok (.iaload, 1) := by decide +kernel
theorem dX1_standsAtHomeIn_8 : decode cX1_standsAtHomeIn 8 = .ok (.iload_n 3, 1) := by decide +kernel
theorem dX1_standsAtHomeIn_9 : decode cX1_standsAtHomeIn 9 = .ok (.invokevirtual 98, 3) := by decide +kernel
theorem dX1_standsAtHomeIn_12 : decode cX1_standsAtHomeIn 12 = .ok (.iload_n 2, 1) := by decide +kernel
theorem dX1_standsAtHomeIn_13 : decode cX1_standsAtHomeIn 13 = .ok (.aload_n 0, 1) := by decide +kernel
theorem dX1_standsAtHomeIn_14 : decode cX1_standsAtHomeIn 14 = .ok (.getfield 54, 3) := by decide +kernel
theorem dX1_standsAtHomeIn_17 : decode cX1_standsAtHomeIn 17 = .ok (.invokevirtual 109, 3) := by decide +kernel
theorem dX1_standsAtHomeIn_20 : decode cX1_standsAtHomeIn 20 = .ok (.istore 4, 2) := by decide +kernel
theorem dX1_standsAtHomeIn_22 : decode cX1_standsAtHomeIn 22 = .ok (.aload_n 0, 1) := by decide +kernel
theorem dX1_standsAtHomeIn_23 : decode cX1_standsAtHomeIn 23 = .ok (.aload_n 0, 1) := by decide +kernel
theorem dX1_standsAtHomeIn_24 : decode cX1_standsAtHomeIn 24 = .ok (.getfield 33, 3) := by decide +kernel
theorem dX1_standsAtHomeIn_27 : decode cX1_standsAtHomeIn 27 = .ok (.iload_n 1, 1) := by decide +kernel
theorem dX1_standsAtHomeIn_28 : decode cX1_standsAtHomeIn 28 = .ok (.iaload, 1) := by decide +kernel
theorem dX1_standsAtHomeIn_29 : decode cX1_standsAtHomeIn 29 = .ok (.aload_n 0, 1) := by decide +kernel
theorem dX1_standsAtHomeIn_30 : decode cX1_standsAtHomeIn 30 = .ok (.getfield 36, 3) := by decide +kernel
theorem dX1_standsAtHomeIn_33 : decode cX1_standsAtHomeIn 33 = .ok (.iload_n 1, 1) := by decide +kernel
theorem dX1_standsAtHomeIn_34 : decode cX1_standsAtHomeIn 34 = .ok (.iaload, 1) := by decide +kernel
theorem dX1_standsAtHomeIn_35 : decode cX1_standsAtHomeIn 35 = .ok (.aload_n 0, 1) := by decide +kernel
theorem dX1_standsAtHomeIn_36 : decode cX1_standsAtHomeIn 36 = .ok (.getfield 63, 3) := by decide +kernel
theorem dX1_standsAtHomeIn_39 : decode cX1_standsAtHomeIn 39 = .ok (.iload_n 3, 1) := by decide +kernel
theorem dX1_standsAtHomeIn_40 : decode cX1_standsAtHomeIn 40 = .ok (.iadd, 1) := by decide +kernel
theorem dX1_standsAtHomeIn_41 : decode cX1_standsAtHomeIn 41 = .ok (.iload 4, 2) := by decide +kernel
theorem dX1_standsAtHomeIn_43 : decode cX1_standsAtHomeIn 43 = .ok (.invokevirtual 123, 3) := by decide +kernel
theorem dX1_standsAtHomeIn_46 : decode cX1_standsAtHomeIn 46 = .ok (.ireturn, 1) := by decide +kernel
theorem dX1_isMet_0 : decode cX1_isMet 0 = .ok (.aload_n 0, 1) := by decide +kernel
theorem dX1_isMet_1 : decode cX1_isMet 1 = .ok (.aload_n 0, 1) := by decide +kernel
theorem dX1_isMet_2 : decode cX1_isMet 2 = .ok (.getfield 45, 3) := by decide +kernel
theorem dX1_isMet_5 : decode cX1_isMet 5 = .ok (.iload_n 1, 1) := by decide +kernel
theorem dX1_isMet_6 : decode cX1_isMet 6 = .ok (.iaload, 1) := by decide +kernel
theorem dX1_isMet_7 : decode cX1_isMet 7 = .ok (.aload_n 0, 1) := by decide +kernel
theorem dX1_isMet_8 : decode cX1_isMet 8 = .ok (.getfield 48, 3) := by decide +kernel
theorem dX1_isMet_11 : decode cX1_isMet 11 = .ok (.iload_n 1, 1) := by decide +kernel
theorem dX1_isMet_12 : decode cX1_isMet 12 = .ok (.iaload, 1) := by decide +kernel
theorem dX1_isMet_13 : decode cX1_isMet 13 = .ok (.invokevirtual 120, 3) := by decide +kernel
theorem dX1_isMet_16 : decode cX1_isMet 16 = .ok (.istore_n 3, 1) := by decide +kernel
theorem dX1_isMet_17 : decode cX1_isMet 17 = .ok (.aload_n 0, 1) := by decide +kernel
theorem dX1_isMet_18 : decode cX1_isMet 18 = .ok (.aload_n 0, 1) := by decide +kernel
theorem dX1_isMet_19 : decode cX1_isMet 19 = .ok (.getfield 33, 3) := by decide +kernel
theorem dX1_isMet_22 : decode cX1_isMet 22 = .ok (.aload_n 0, 1) := by decide +kernel
theorem dX1_isMet_23 : decode cX1_isMet 23 = .ok (.getfield 42, 3) := by decide +kernel
theorem dX1_isMet_26 : decode cX1_isMet 26 = .ok (.iload_n 1, 1) := by decide +kernel
theorem dX1_isMet_27 : decode cX1_isMet 27 = .ok (.iaload, 1) := by decide +kernel
theorem dX1_isMet_28 : decode cX1_isMet 28 = .ok (.iaload, 1) := by decide +kernel
theorem dX1_isMet_29 : decode cX1_isMet 29 = .ok (.iload_n 2, 1) := by decide +kernel
theorem dX1_isMet_30 : decode cX1_isMet 30 = .ok (.aload_n 0, 1) := by decide +kernel
theorem dX1_isMet_31 : decode cX1_isMet 31 = .ok (.getfield 63, 3) := by decide +kernel
theorem dX1_isMet_34 : decode cX1_isMet 34 = .ok (.iload_n 3, 1) := by decide +kernel
theorem dX1_isMet_35 : decode cX1_isMet 35 = .ok (.invokevirtual 123, 3) := by decide +kernel
theorem dX1_isMet_38 : decode cX1_isMet 38 = .ok (.ireturn, 1) := by decide +kernel
theorem dX1_drownsWith_0 : decode cX1_drownsWith 0 = .ok (.aload_n 0, 1) := by decide +kernel
theorem dX1_drownsWith_1 : decode cX1_drownsWith 1 = .ok (.getfield 9, 3) := by decide +kernel
theorem dX1_drownsWith_4 : decode cX1_drownsWith 4 = .ok (.aload_n 0, 1) := by decide +kernel
theorem dX1_drownsWith_5 : decode cX1_drownsWith 5 = .ok (.getfield 39, 3) := by decide +kernel
theorem dX1_drownsWith_8 : decode cX1_drownsWith 8 = .ok (.iload_n 1, 1) := by decide +kernel
theorem dX1_drownsWith_9 : decode cX1_drownsWith 9 = .ok (.iaload, 1) := by decide +kernel
theorem dX1_drownsWith_10 : decode cX1_drownsWith 10 = .ok (.iaload, 1) := by decide +kernel
theorem dX1_drownsWith_11 : decode cX1_drownsWith 11 = .ok (.istore 4, 2) := by decide +kernel
theorem dX1_drownsWith_13 : decode cX1_drownsWith 13 = .ok (.iconst 0, 1) := by decide +kernel
theorem dX1_drownsWith_14 : decode cX1_drownsWith 14 = .ok (.istore 5, 2) := by decide +kernel
theorem dX1_drownsWith_16 : decode cX1_drownsWith 16 = .ok (.iload 5, 2) := by decide +kernel
theorem dX1_drownsWith_18 : decode cX1_drownsWith 18 = .ok (.bipush 24, 2) := by decide +kernel
theorem dX1_drownsWith_20 : decode cX1_drownsWith 20 = .ok (.if_icmp .ge 38, 3) := by decide +kernel
theorem dX1_drownsWith_23 : decode cX1_drownsWith 23 = .ok (.aload_n 0, 1) := by decide +kernel
theorem dX1_drownsWith_24 : decode cX1_drownsWith 24 = .ok (.aload_n 0, 1) := by decide +kernel
theorem dX1_drownsWith_25 : decode cX1_drownsWith 25 = .ok (.getfield 33, 3) := by decide +kernel
theorem dX1_drownsWith_28 : decode cX1_drownsWith 28 = .ok (.iload_n 1, 1) := by decide +kernel
theorem dX1_drownsWith_29 : decode cX1_drownsWith 29 = .ok (.iaload, 1) := by decide +kernel
theorem dX1_drownsWith_30 : decode cX1_drownsWith 30 = .ok (.iload_n 2, 1) := by decide +kernel
theorem dX1_drownsWith_31 : decode cX1_drownsWith 31 = .ok (.aload_n 0, 1) := by decide +kernel
theorem dX1_drownsWith_32 : decode cX1_drownsWith 32 = .ok (.getfield 63, 3) := by decide +kernel
theorem dX1_drownsWith_35 : decode cX1_drownsWith 35 = .ok (.aload_n 0, 1) := by decide +kernel
theorem dX1_drownsWith_36 : decode cX1_drownsWith 36 = .ok (.iload 4, 2) := by decide +kernel
theorem dX1_drownsWith_38 : decode cX1_drownsWith 38 = .ok (.iload 5, 2) := by decide +kernel
theorem dX1_drownsWith_40 : decode cX1_drownsWith 40 = .ok (.iload_n 3, 1) := by decide +kernel
theorem dX1_drownsWith_41 : decode cX1_drownsWith 41 = .ok (.invokevirtual 109, 3) := by decide +kernel
theorem dX1_drownsWith_44 : decode cX1_drownsWith 44 = .ok (.invokevirtual 123, 3) := by decide +kernel
theorem dX1_drownsWith_47 : decode cX1_drownsWith 47 = .ok (.ifCond .ne 5, 3) := by decide +kernel
theorem dX1_drownsWith_50 : decode cX1_drownsWith 50 = .ok (.iconst 1, 1) := by decide +kernel
theorem dX1_drownsWith_51 : decode cX1_drownsWith 51 = .ok (.ireturn, 1) := by decide +kernel
theorem dX1_drownsWith_52 : decode cX1_drownsWith 52 = .ok (.iinc 5 1, 3) := by decide +kernel
theorem dX1_drownsWith_55 : decode cX1_drownsWith 55 = .ok (.goto (-39), 3) := by decide +kernel
theorem dX1_drownsWith_58 : decode cX1_drownsWith 58 = .ok (.iconst 0, 1) := by decide +kernel
theorem dX1_drownsWith_59 : decode cX1_drownsWith 59 = .ok (.ireturn, 1) := by decide +kernel
theorem dX1_countStanding_0 : decode cX1_countStanding 0 = .ok (.iconst 0, 1) := by decide +kernel
theorem dX1_countStanding_1 : decode cX1_countStanding 1 = .ok (.istore_n 3, 1) := by decide +kernel
theorem dX1_countStanding_2 : decode cX1_countStanding 2 = .ok (.iconst 0, 1) := by decide +kernel
theorem dX1_countStanding_3 : decode cX1_countStanding 3 = .ok (.istore 4, 2) := by decide +kernel
theorem dX1_countStanding_5 : decode cX1_countStanding 5 = .ok (.iload 4, 2) := by decide +kernel
theorem dX1_countStanding_7 : decode cX1_countStanding 7 = .ok (.aload_n 0, 1) := by decide +kernel
theorem dX1_countStanding_8 : decode cX1_countStanding 8 = .ok (.getfield 57, 3) := by decide +kernel
theorem dX1_countStanding_11 : decode cX1_countStanding 11 = .ok (.if_icmp .ge 23, 3) := by decide +kernel
theorem dX1_countStanding_14 : decode cX1_countStanding 14 = .ok (.aload_n 0, 1) := by decide +kernel
theorem dX1_countStanding_15 : decode cX1_countStanding 15 = .ok (.iload 4, 2) := by decide +kernel
theorem dX1_countStanding_17 : decode cX1_countStanding 17 = .ok (.iload_n 1, 1) := by decide +kernel
theorem dX1_countStanding_18 : decode cX1_countStanding 18 = .ok (.iload_n 2, 1) := by decide +kernel
theorem dX1_countStanding_19 : decode cX1_countStanding 19 = .ok (.invokevirtual 127, 3) := by decide +kernel
theorem dX1_countStanding_22 : decode cX1_countStanding 22 = .ok (.ifCond .eq 6, 3) := by decide +kernel
theorem dX1_countStanding_25 : decode cX1_countStanding 25 = .ok (.iinc 3 1, 3) := by decide +kernel
theorem dX1_countStanding_28 : decode cX1_countStanding 28 = .ok (.iinc 4 1, 3) := by decide +kernel
theorem dX1_countStanding_31 : decode cX1_countStanding 31 = .ok (.goto (-26), 3) := by decide +kernel
theorem dX1_countStanding_34 : decode cX1_countStanding 34 = .ok (.iload_n 3, 1) := by decide +kernel
theorem dX1_countStanding_35 : decode cX1_countStanding 35 = .ok (.ireturn, 1) := by decide +kernel
theorem dX1_shortestOf_0 : decode cX1_shortestOf 0 = .ok (.iconst (-1), 1) := by decide +kernel
theorem dX1_shortestOf_1 : decode cX1_shortestOf 1 = .ok (.istore_n 2, 1) := by decide +kernel
theorem dX1_shortestOf_2 : decode cX1_shortestOf 2 = .ok (.iconst 0, 1) := by decide +kernel
theorem dX1_shortestOf_3 : decode cX1_shortestOf 3 = .ok (.istore_n 3, 1) := by decide +kernel
theorem dX1_shortestOf_4 : decode cX1_shortestOf 4 = .ok (.iload_n 3, 1) := by decide +kernel
theorem dX1_shortestOf_5 : decode cX1_shortestOf 5 = .ok (.aload_n 0, 1) := by decide +kernel
theorem dX1_shortestOf_6 : decode cX1_shortestOf 6 = .ok (.getfield 57, 3) := by decide +kernel
theorem dX1_shortestOf_9 : decode cX1_shortestOf 9 = .ok (.if_icmp .ge 36, 3) := by decide +kernel
theorem dX1_shortestOf_12 : decode cX1_shortestOf 12 = .ok (.iload_n 1, 1) := by decide +kernel
theorem dX1_shortestOf_13 : decode cX1_shortestOf 13 = .ok (.iload_n 3, 1) := by decide +kernel
theorem dX1_shortestOf_14 : decode cX1_shortestOf 14 = .ok (.invokestatic 130, 3) := by decide +kernel
theorem dX1_shortestOf_17 : decode cX1_shortestOf 17 = .ok (.ifCond .eq 22, 3) := by decide +kernel
theorem dX1_shortestOf_20 : decode cX1_shortestOf 20 = .ok (.iload_n 2, 1) := by decide +kernel
theorem dX1_shortestOf_21 : decode cX1_shortestOf 21 = .ok (.ifCond .lt 16, 3) := by decide +kernel
theorem dX1_shortestOf_24 : decode cX1_shortestOf 24 = .ok (.aload_n 0, 1) := by decide +kernel
theorem dX1_shortestOf_25 : decode cX1_shortestOf 25 = .ok (.iload_n 3, 1) := by decide +kernel
theorem dX1_shortestOf_26 : decode cX1_shortestOf 26 = .ok (.invokevirtual 133, 3) := by decide +kernel
theorem dX1_shortestOf_29 : decode cX1_shortestOf 29 = .ok (.aload_n 0, 1) := by decide +kernel
theorem dX1_shortestOf_30 : decode cX1_shortestOf 30 = .ok (.iload_n 2, 1) := by decide +kernel
theorem dX1_shortestOf_31 : decode cX1_shortestOf 31 = .ok (.invokevirtual 133, 3) := by decide +kernel
theorem dX1_shortestOf_34 : decode cX1_shortestOf 34 = .ok (.if_icmp .ge 5, 3) := by decide +kernel
theorem dX1_shortestOf_37 : decode cX1_shortestOf 37 = .ok (.iload_n 3, 1) := by decide +kernel
theorem dX1_shortestOf_38 : decode cX1_shortestOf 38 = .ok (.istore_n 2, 1) := by decide +kernel
theorem dX1_shortestOf_39 : decode cX1_shortestOf 39 = .ok (.iinc 3 1, 3) := by decide +kernel
theorem dX1_shortestOf_42 : decode cX1_shortestOf 42 = .ok (.goto (-38), 3) := by decide +kernel
theorem dX1_shortestOf_45 : decode cX1_shortestOf 45 = .ok (.iconst 0, 1) := by decide +kernel
theorem dX1_shortestOf_46 : decode cX1_shortestOf 46 = .ok (.iload_n 2, 1) := by decide +kernel
theorem dX1_shortestOf_47 : decode cX1_shortestOf 47 = .ok (.invokestatic 101, 3) := by decide +kernel
theorem dX1_shortestOf_50 : decode cX1_shortestOf 50 = .ok (.ireturn, 1) := by decide +kernel
theorem dX2_init_0 : decode cX2_init 0 = .ok (.aload_n 0, 1) := by decide +kernel
theorem dX2_init_1 : decode cX2_init 1 = .ok (.invokespecial 3, 3) := by decide +kernel
theorem dX2_init_4 : decode cX2_init 4 = .ok (.aload_n 0, 1) := by decide +kernel
theorem dX2_init_5 : decode cX2_init 5 = .ok (.bipush 24, 2) := by decide +kernel
theorem dX2_init_7 : decode cX2_init 7 = .ok (.newarray .int, 2) := by decide +kernel
theorem dX2_init_9 : decode cX2_init 9 = .ok (.putfield 9, 3) := by decide +kernel
theorem dX2_init_12 : decode cX2_init 12 = .ok (.return_, 1) := by decide +kernel
theorem dX2_hold_0 : decode cX2_hold 0 = .ok (.aload_n 0, 1) := by decide +kernel
theorem dX2_hold_1 : decode cX2_hold 1 = .ok (.iconst 1, 1) := by decide +kernel
theorem dX2_hold_2 : decode cX2_hold 2 = .ok (.putfield 15, 3) := by decide +kernel
theorem dX2_hold_5 : decode cX2_hold 5 = .ok (.aload_n 0, 1) := by decide +kernel
theorem dX2_hold_6 : decode cX2_hold 6 = .ok (.iload_n 1, 1) := by decide +kernel
theorem dX2_hold_7 : decode cX2_hold 7 = .ok (.putfield 19, 3) := by decide +kernel
theorem dX2_hold_10 : decode cX2_hold 10 = .ok (.aload_n 0, 1) := by decide +kernel
theorem dX2_hold_11 : decode cX2_hold 11 = .ok (.iload_n 2, 1) := by decide +kernel
theorem dX2_hold_12 : decode cX2_hold 12 = .ok (.putfield 23, 3) := by decide +kernel
theorem dX2_hold_15 : decode cX2_hold 15 = .ok (.iconst 0, 1) := by decide +kernel
theorem dX2_hold_16 : decode cX2_hold 16 = .ok (.istore_n 3, 1) := by decide +kernel
theorem dX2_hold_17 : decode cX2_hold 17 = .ok (.iload_n 3, 1) := by decide +kernel
theorem dX2_hold_18 : decode cX2_hold 18 = .ok (.bipush 24, 2) := by decide +kernel
theorem dX2_hold_20 : decode cX2_hold 20 = .ok (.if_icmp .ge 16, 3) := by decide +kernel
theorem dX2_hold_23 : decode cX2_hold 23 = .ok (.aload_n 0, 1) := by decide +kernel
theorem dX2_hold_24 : decode cX2_hold 24 = .ok (.getfield 9, 3) := by decide +kernel
theorem dX2_hold_27 : decode cX2_hold 27 = .ok (.iload_n 3, 1) := by decide +kernel
theorem dX2_hold_28 : decode cX2_hold 28 = .ok (.iconst 0, 1) := by decide +kernel
theorem dX2_hold_29 : decode cX2_hold 29 = .ok (.iastore, 1) := by decide +kernel
theorem dX2_hold_30 : decode cX2_hold 30 = .ok (.iinc 3 1, 3) := by decide +kernel
theorem dX2_hold_33 : decode cX2_hold 33 = .ok (.goto (-16), 3) := by decide +kernel
theorem dX2_hold_36 : decode cX2_hold 36 = .ok (.return_, 1) := by decide +kernel
theorem dX2_put_0 : decode cX2_put 0 = .ok (.aload_n 0, 1) := by decide +kernel
theorem dX2_put_1 : decode cX2_put 1 = .ok (.getfield 9, 3) := by decide +kernel
theorem dX2_put_4 : decode cX2_put 4 = .ok (.iload_n 1, 1) := by decide +kernel
theorem dX2_put_5 : decode cX2_put 5 = .ok (.aload_n 0, 1) := by decide +kernel
theorem dX2_put_6 : decode cX2_put 6 = .ok (.getfield 19, 3) := by decide +kernel
theorem dX2_put_9 : decode cX2_put 9 = .ok (.ifCond .ne 8, 3) := by decide +kernel
theorem dX2_put_12 : decode cX2_put 12 = .ok (.iload_n 2, 1) := by decide +kernel
theorem dX2_put_13 : decode cX2_put 13 = .ok (.i2b, 1) := by decide +kernel
theorem dX2_put_14 : decode cX2_put 14 = .ok (.goto 17, 3) := by decide +kernel
theorem dX2_put_17 : decode cX2_put 17 = .ok (.aload_n 0, 1) := by decide +kernel
theorem dX2_put_18 : decode cX2_put 18 = .ok (.getfield 19, 3) := by decide +kernel
theorem dX2_put_21 : decode cX2_put 21 = .ok (.iconst 1, 1) := by decide +kernel
theorem dX2_put_22 : decode cX2_put 22 = .ok (.if_icmp .ne 8, 3) := by decide +kernel
theorem dX2_put_25 : decode cX2_put 25 = .ok (.iload_n 2, 1) := by decide +kernel
theorem dX2_put_26 : decode cX2_put 26 = .ok (.i2s, 1) := by decide +kernel
theorem dX2_put_27 : decode cX2_put 27 = .ok (.goto 4, 3) := by decide +kernel
theorem dX2_put_30 : decode cX2_put 30 = .ok (.iload_n 2, 1) := by decide +kernel
theorem dX2_put_31 : decode cX2_put 31 = .ok (.iastore, 1) := by decide +kernel
theorem dX2_put_32 : decode cX2_put 32 = .ok (.return_, 1) := by decide +kernel
theorem dX2_hasRange_0 : decode cX2_hasRange 0 = .ok (.iload_n 1, 1) := by decide +kernel
theorem dX2_hasRange_1 : decode cX2_hasRange 1 = .ok (.iconst 0, 1) := by decide +kernel
theorem dX2_hasRange_2 : decode cX2_hasRange 2 = .ok (.aload_n 0, 1) := by decide +kernel
theorem dX2_hasRange_3 : decode cX2_hasRange 3 = .ok (.getfield 23, 3) := by decide +kernel
theorem dX2_hasRange_6 : decode cX2_hasRange 6 = .ok (.invokestatic 26, 3) := by decide +kernel
theorem dX2_hasRange_9 : decode cX2_hasRange 9 = .ok (.ifCond .eq 17, 3) := by decide +kernel
theorem dX2_hasRange_12 : decode cX2_hasRange 12 = .ok (.iload_n 2, 1) := by decide +kernel
theorem dX2_hasRange_13 : decode cX2_hasRange 13 = .ok (.aload_n 0, 1) := by decide +kernel
theorem dX2_hasRange_14 : decode cX2_hasRange 14 = .ok (.getfield 23, 3) := by decide +kernel
theorem dX2_hasRange_17 : decode cX2_hasRange 17 = .ok (.iload_n 1, 1) := by decide +kernel
theorem dX2_hasRange_18 : decode cX2_hasRange 18 = .ok (.isub, 1) := by decide +kernel
theorem dX2_hasRange_19 : decode cX2_hasRange 19 = .ok (.if_icmp .gt 7, 3) := by decide +kernel
theorem dX2_hasRange_22 : decode cX2_hasRange 22 = .ok (.iconst 1, 1) := by decide +kernel
theorem dX2_hasRange_23 : decode cX2_hasRange 23 = .ok (.goto 4, 3) := by decide +kernel
theorem dX2_hasRange_26 : decode cX2_hasRange 26 = .ok (.iconst 0, 1) := by decide +kernel
theorem dX2_hasRange_27 : decode cX2_hasRange 27 = .ok (.ireturn, 1) := by decide +kernel
theorem dX3_init_0 : decode cX3_init 0 = .ok (.aload_n 0, 1) := by decide +kernel
theorem dX3_init_1 : decode cX3_init 1 = .ok (.invokespecial 3, 3) := by decide +kernel
theorem dX3_init_4 : decode cX3_init 4 = .ok (.aload_n 0, 1) := by decide +kernel
theorem dX3_init_5 : decode cX3_init 5 = .ok (.bipush 80, 2) := by decide +kernel
theorem dX3_init_7 : decode cX3_init 7 = .ok (.newarray .int, 2) := by decide +kernel
theorem dX3_init_9 : decode cX3_init 9 = .ok (.putfield 9, 3) := by decide +kernel
theorem dX3_init_12 : decode cX3_init 12 = .ok (.aload_n 0, 1) := by decide +kernel
theorem dX3_init_13 : decode cX3_init 13 = .ok (.bipush 8, 2) := by decide +kernel
theorem dX3_init_15 : decode cX3_init 15 = .ok (.newarray .int, 2) := by decide +kernel
theorem dX3_init_17 : decode cX3_init 17 = .ok (.putfield 15, 3) := by decide +kernel
theorem dX3_init_20 : decode cX3_init 20 = .ok (.aload_n 0, 1) := by decide +kernel
theorem dX3_init_21 : decode cX3_init 21 = .ok (.bipush 8, 2) := by decide +kernel
theorem dX3_init_23 : decode cX3_init 23 = .ok (.newarray .int, 2) := by decide +kernel
theorem dX3_init_25 : decode cX3_init 25 = .ok (.putfield 18, 3) := by decide +kernel
theorem dX3_init_28 : decode cX3_init 28 = .ok (.aload_n 0, 1) := by decide +kernel
theorem dX3_init_29 : decode cX3_init 29 = .ok (.bipush 8, 2) := by decide +kernel
theorem dX3_init_31 : decode cX3_init 31 = .ok (.newarray .int, 2) := by decide +kernel
theorem dX3_init_33 : decode cX3_init 33 = .ok (.putfield 21, 3) := by decide +kernel
theorem dX3_init_36 : decode cX3_init 36 = .ok (.return_, 1) := by decide +kernel
theorem dX3_append_0 : decode cX3_append 0 = .ok (.aload_n 0, 1) := by decide +kernel
theorem dX3_append_1 : decode cX3_append 1 = .ok (.getfield 24, 3) := by decide +kernel
theorem dX3_append_4 : decode cX3_append 4 = .ok (.bipush 80, 2) := by decide +kernel
theorem dX3_append_6 : decode cX3_append 6 = .ok (.if_icmp .ge 23, 3) := by decide +kernel
theorem dX3_append_9 : decode cX3_append 9 = .ok (.aload_n 0, 1) := by decide +kernel
theorem dX3_append_10 : decode cX3_append 10 = .ok (.getfield 9, 3) := by decide +kernel
theorem dX3_append_13 : decode cX3_append 13 = .ok (.aload_n 0, 1) := by decide +kernel
theorem dX3_append_14 : decode cX3_append 14 = .ok (.getfield 24, 3) := by decide +kernel
theorem dX3_append_17 : decode cX3_append 17 = .ok (.iload_n 1, 1) := by decide +kernel
theorem dX3_append_18 : decode cX3_append 18 = .ok (.iastore, 1) := by decide +kernel
theorem dX3_append_19 : decode cX3_append 19 = .ok (.aload_n 0, 1) := by decide +kernel
theorem dX3_append_20 : decode cX3_append 20 = .ok (.dup, 1) := by decide +kernel
theorem dX3_append_21 : decode cX3_append 21 = .ok (.getfield 24, 3) := by decide +kernel
theorem dX3_append_24 : decode cX3_append 24 = .ok (.iconst 1, 1) := by decide +kernel
theorem dX3_append_25 : decode cX3_append 25 = .ok (.iadd, 1) := by decide +kernel
theorem dX3_append_26 : decode cX3_append 26 = .ok (.putfield 24, 3) := by decide +kernel
theorem dX3_append_29 : decode cX3_append 29 = .ok (.return_, 1) := by decide +kernel
theorem dX3_readPlaces_0 : decode cX3_readPlaces 0 = .ok (.aload_n 0, 1) := by decide +kernel
theorem dX3_readPlaces_1 : decode cX3_readPlaces 1 = .ok (.invokevirtual 28, 3) := by decide +kernel
theorem dX3_readPlaces_4 : decode cX3_readPlaces 4 = .ok (.iconst 1, 1) := by decide +kernel
theorem dX3_readPlaces_5 : decode cX3_readPlaces 5 = .ok (.istore_n 1, 1) := by decide +kernel
theorem dX3_readPlaces_6 : decode cX3_readPlaces 6 = .ok (.iload_n 1, 1) := by decide +kernel
theorem dX3_readPlaces_7 : decode cX3_readPlaces 7 = .ok (.ifCond .eq 36, 3) := by decide +kernel
theorem dX3_readPlaces_10 : decode cX3_readPlaces 10 = .ok (.aload_n 0, 1) := by decide +kernel
theorem dX3_readPlaces_11 : decode cX3_readPlaces 11 = .ok (.getfield 31, 3) := by decide +kernel
theorem dX3_readPlaces_14 : decode cX3_readPlaces 14 = .ok (.bipush 8, 2) := by decide +kernel
theorem dX3_readPlaces_16 : decode cX3_readPlaces 16 = .ok (.if_icmp .ge 27, 3) := by decide +kernel
theorem dX3_readPlaces_19 : decode cX3_readPlaces 19 = .ok (.aload_n 0, 1) := by decide +kernel
theorem dX3_readPlaces_20 : decode cX3_readPlaces 20 = .ok (.invokevirtual 34, 3) := by decide +kernel
theorem dX3_readPlaces_23 : decode cX3_readPlaces 23 = .ok (.aload_n 0, 1) := by decide +kernel
theorem dX3_readPlaces_24 : decode cX3_readPlaces 24 = .ok (.dup, 1) := by decide +kernel
theorem dX3_readPlaces_25 : decode cX3_readPlaces 25 = .ok (.getfield 31, 3) := by decide +kernel
theorem dX3_readPlaces_28 : decode cX3_readPlaces 28 = .ok (.iconst 1, 1) := by decide +kernel
theorem dX3_readPlaces_29 : decode cX3_readPlaces 29 = .ok (.iadd, 1) := by decide +kernel
theorem dX3_readPlaces_30 : decode cX3_readPlaces 30 = .ok (.putfield 31, 3) := by decide +kernel
theorem dX3_readPlaces_33 : decode cX3_readPlaces 33 = .ok (.aload_n 0, 1) := by decide +kernel
theorem dX3_readPlaces_34 : decode cX3_readPlaces 34 = .ok (.bipush 59, 2) := by decide +kernel
theorem dX3_readPlaces_36 : decode cX3_readPlaces 36 = .ok (.invokevirtual 37, 3) := by decide +kernel
theorem dX3_readPlaces_39 : decode cX3_readPlaces 39 = .ok (.istore_n 1, 1) := by decide +kernel
theorem dX3_readPlaces_40 : decode cX3_readPlaces 40 = .ok (.goto (-34), 3) := by decide +kernel
theorem dX3_readPlaces_43 : decode cX3_readPlaces 43 = .ok (.aload_n 0, 1) := by decide +kernel
theorem dX3_readPlaces_44 : decode cX3_readPlaces 44 = .ok (.invokevirtual 41, 3) := by decide +kernel
theorem dX3_readPlaces_47 : decode cX3_readPlaces 47 = .ok (.ireturn, 1) := by decide +kernel
theorem dX3_readPaths_0 : decode cX3_readPaths 0 = .ok (.aload_n 0, 1) := by decide +kernel
theorem dX3_readPaths_1 : decode cX3_readPaths 1 = .ok (.invokevirtual 28, 3) := by decide +kernel
theorem dX3_readPaths_4 : decode cX3_readPaths 4 = .ok (.iconst 1, 1) := by decide +kernel
theorem dX3_readPaths_5 : decode cX3_readPaths 5 = .ok (.istore_n 2, 1) := by decide +kernel
theorem dX3_readPaths_6 : decode cX3_readPaths 6 = .ok (.iload_n 2, 1) := by decide +kernel
theorem dX3_readPaths_7 : decode cX3_readPaths 7 = .ok (.ifCond .eq 37, 3) := by decide +kernel
theorem dX3_readPaths_10 : decode cX3_readPaths 10 = .ok (.aload_n 0, 1) := by decide +kernel
theorem dX3_readPaths_11 : decode cX3_readPaths 11 = .ok (.getfield 31, 3) := by decide +kernel
theorem dX3_readPaths_14 : decode cX3_readPaths 14 = .ok (.bipush 8, 2) := by decide +kernel
theorem dX3_readPaths_16 : decode cX3_readPaths 16 = .ok (.if_icmp .ge 28, 3) := by decide +kernel
theorem dX3_readPaths_19 : decode cX3_readPaths 19 = .ok (.aload_n 0, 1) := by decide +kernel
theorem dX3_readPaths_20 : decode cX3_readPaths 20 = .ok (.iload_n 1, 1) := by decide +kernel
theorem dX3_readPaths_21 : decode cX3_readPaths 21 = .ok (.invokevirtual 45, 3) := by decide +kernel
theorem dX3_readPaths_24 : decode cX3_readPaths 24 = .ok (.aload_n 0, 1) := by decide +kernel
theorem dX3_readPaths_25 : decode cX3_readPaths 25 = .ok (.dup, 1) := by decide +kernel
theorem dX3_readPaths_26 : decode cX3_readPaths 26 = .ok (.getfield 31, 3) := by decide +kernel
theorem dX3_readPaths_29 : decode cX3_readPaths 29 = .ok (.iconst 1, 1) := by decide +kernel
theorem dX3_readPaths_30 : decode cX3_readPaths 30 = .ok (.iadd, 1) := by decide +kernel
theorem dX3_readPaths_31 : decode cX3_readPaths 31 = .ok (.putfield 31, 3) := by decide +kernel
theorem dX3_readPaths_34 : decode cX3_readPaths 34 = .ok (.aload_n 0, 1) := by decide +kernel
theorem dX3_readPaths_35 : decode cX3_readPaths 35 = .ok (.bipush 44, 2) := by decide +kernel
theorem dX3_readPaths_37 : decode cX3_readPaths 37 = .ok (.invokevirtual 37, 3) := by decide +kernel
theorem dX3_readPaths_40 : decode cX3_readPaths 40 = .ok (.istore_n 2, 1) := by decide +kernel
theorem dX3_readPaths_41 : decode cX3_readPaths 41 = .ok (.goto (-35), 3) := by decide +kernel
theorem dX3_readPaths_44 : decode cX3_readPaths 44 = .ok (.aload_n 0, 1) := by decide +kernel
theorem dX3_readPaths_45 : decode cX3_readPaths 45 = .ok (.invokevirtual 41, 3) := by decide +kernel
theorem dX3_readPaths_48 : decode cX3_readPaths 48 = .ok (.ireturn, 1) := by decide +kernel
theorem dX3_begin_0 : decode cX3_begin 0 = .ok (.aload_n 0, 1) := by decide +kernel
theorem dX3_begin_1 : decode cX3_begin 1 = .ok (.iconst 0, 1) := by decide +kernel
theorem dX3_begin_2 : decode cX3_begin 2 = .ok (.putfield 49, 3) := by decide +kernel
theorem dX3_begin_5 : decode cX3_begin 5 = .ok (.aload_n 0, 1) := by decide +kernel
theorem dX3_begin_6 : decode cX3_begin 6 = .ok (.iconst 0, 1) := by decide +kernel
theorem dX3_begin_7 : decode cX3_begin 7 = .ok (.putfield 31, 3) := by decide +kernel
theorem dX3_begin_10 : decode cX3_begin 10 = .ok (.aload_n 0, 1) := by decide +kernel
theorem dX3_begin_11 : decode cX3_begin 11 = .ok (.iconst 0, 1) := by decide +kernel
theorem dX3_begin_12 : decode cX3_begin 12 = .ok (.putfield 52, 3) := by decide +kernel
theorem dX3_begin_15 : decode cX3_begin 15 = .ok (.aload_n 0, 1) := by decide +kernel
theorem dX3_begin_16 : decode cX3_begin 16 = .ok (.iconst (-1), 1) := by decide +kernel
theorem dX3_begin_17 : decode cX3_begin 17 = .ok (.putfield 55, 3) := by decide +kernel
theorem dX3_begin_20 : decode cX3_begin 20 = .ok (.return_, 1) := by decide +kernel
theorem dX3_outcome_0 : decode cX3_outcome 0 = .ok (.aload_n 0, 1) := by decide +kernel
theorem dX3_outcome_1 : decode cX3_outcome 1 = .ok (.getfield 55, 3) := by decide +kernel
theorem dX3_outcome_4 : decode cX3_outcome 4 = .ok (.ifCond .ge 10, 3) := by decide +kernel
theorem dX3_outcome_7 : decode cX3_outcome 7 = .ok (.aload_n 0, 1) := by decide +kernel
theorem dX3_outcome_8 : decode cX3_outcome 8 = .ok (.getfield 31, 3) := by decide +kernel
theorem dX3_outcome_11 : decode cX3_outcome 11 = .ok (.goto 10, 3) := by decide +kernel
theorem dX3_outcome_14 : decode cX3_outcome 14 = .ok (.bipush (-20), 2) := by decide +kernel
theorem dX3_outcome_16 : decode cX3_outcome 16 = .ok (.aload_n 0, 1) := by decide +kernel
theorem dX3_outcome_17 : decode cX3_outcome 17 = .ok (.getfield 55, 3) := by decide +kernel
theorem dX3_outcome_20 : decode cX3_outcome 20 = .ok (.isub, 1) := by decide +kernel
theorem dX3_outcome_21 : decode cX3_outcome 21 = .ok (.ireturn, 1) := by decide +kernel
theorem dX3_readPlace_0 : decode cX3_readPlace 0 = .ok (.aload_n 0, 1) := by decide +kernel
theorem dX3_readPlace_1 : decode cX3_readPlace 1 = .ok (.getfield 15, 3) := by decide +kernel
theorem dX3_readPlace_4 : decode cX3_readPlace 4 = .ok (.aload_n 0, 1) := by decide +kernel
theorem dX3_readPlace_5 : decode cX3_readPlace 5 = .ok (.getfield 31, 3) := by decide +kernel
theorem dX3_readPlace_8 : decode cX3_readPlace 8 = .ok (.aload_n 0, 1) := by decide +kernel
theorem dX3_readPlace_9 : decode cX3_readPlace 9 = .ok (.invokevirtual 58, 3) := by decide +kernel
theorem dX3_readPlace_12 : decode cX3_readPlace 12 = .ok (.iastore, 1) := by decide +kernel
theorem dX3_readPlace_13 : decode cX3_readPlace 13 = .ok (.aload_n 0, 1) := by decide +kernel
theorem dX3_readPlace_14 : decode cX3_readPlace 14 = .ok (.getfield 21, 3) := by decide +kernel
theorem dX3_readPlace_17 : decode cX3_readPlace 17 = .ok (.aload_n 0, 1) := by decide +kernel
theorem dX3_readPlace_18 : decode cX3_readPlace 18 = .ok (.getfield 31, 3) := by decide +kernel
theorem dX3_readPlace_21 : decode cX3_readPlace 21 = .ok (.iconst 0, 1) := by decide +kernel
theorem dX3_readPlace_22 : decode cX3_readPlace 22 = .ok (.iastore, 1) := by decide +kernel
theorem dX3_readPlace_23 : decode cX3_readPlace 23 = .ok (.aload_n 0, 1) := by decide +kernel
theorem dX3_readPlace_24 : decode cX3_readPlace 24 = .ok (.invokevirtual 61, 3) := by decide +kernel
theorem dX3_readPlace_27 : decode cX3_readPlace 27 = .ok (.bipush 112, 2) := by decide +kernel
theorem dX3_readPlace_29 : decode cX3_readPlace 29 = .ok (.if_icmp .ne 47, 3) := by decide +kernel
theorem dX3_readPlace_32 : decode cX3_readPlace 32 = .ok (.aload_n 0, 1) := by decide +kernel
theorem dX3_readPlace_33 : decode cX3_readPlace 33 = .ok (.getfield 52, 3) := by decide +kernel
theorem dX3_readPlace_36 : decode cX3_readPlace 36 = .ok (.iconst 3, 1) := by decide +kernel
theorem dX3_readPlace_37 : decode cX3_readPlace 37 = .ok (.if_icmp .ge 39, 3) := by decide +kernel
theorem dX3_readPlace_40 : decode cX3_readPlace 40 = .ok (.aload_n 0, 1) := by decide +kernel
theorem dX3_readPlace_41 : decode cX3_readPlace 41 = .ok (.dup, 1) := by decide +kernel
theorem dX3_readPlace_42 : decode cX3_readPlace 42 = .ok (.getfield 49, 3) := by decide +kernel
theorem dX3_readPlace_45 : decode cX3_readPlace 45 = .ok (.iconst 1, 1) := by decide +kernel
theorem dX3_readPlace_46 : decode cX3_readPlace 46 = .ok (.iadd, 1) := by decide +kernel
theorem dX3_readPlace_47 : decode cX3_readPlace 47 = .ok (.putfield 49, 3) := by decide +kernel
theorem dX3_readPlace_50 : decode cX3_readPlace 50 = .ok (.aload_n 0, 1) := by decide +kernel
theorem dX3_readPlace_51 : decode cX3_readPlace 51 = .ok (.dup, 1) := by decide +kernel
theorem dX3_readPlace_52 : decode cX3_readPlace 52 = .ok (.getfield 52, 3) := by decide +kernel
theorem dX3_readPlace_55 : decode cX3_readPlace 55 = .ok (.iconst 1, 1) := by decide +kernel
theorem dX3_readPlace_56 : decode cX3_readPlace 56 = .ok (.iadd, 1) := by decide +kernel
theorem dX3_readPlace_57 : decode cX3_readPlace 57 = .ok (.putfield 52, 3) := by decide +kernel
theorem dX3_readPlace_60 : decode cX3_readPlace 60 = .ok (.aload_n 0, 1) := by decide +kernel
theorem dX3_readPlace_61 : decode cX3_readPlace 61 = .ok (.getfield 21, 3) := by decide +kernel
theorem dX3_readPlace_64 : decode cX3_readPlace 64 = .ok (.aload_n 0, 1) := by decide +kernel
theorem dX3_readPlace_65 : decode cX3_readPlace 65 = .ok (.getfield 31, 3) := by decide +kernel
theorem dX3_readPlace_68 : decode cX3_readPlace 68 = .ok (.aload_n 0, 1) := by decide +kernel
theorem dX3_readPlace_69 : decode cX3_readPlace 69 = .ok (.iconst 1, 1) := by decide +kernel
theorem dX3_readPlace_70 : decode cX3_readPlace 70 = .ok (.bipush 20, 2) := by decide +kernel
theorem dX3_readPlace_72 : decode cX3_readPlace 72 = .ok (.invokevirtual 64, 3) := by decide +kernel
theorem dX3_readPlace_75 : decode cX3_readPlace 75 = .ok (.iastore, 1) := by decide +kernel
theorem dX3_readPlace_76 : decode cX3_readPlace 76 = .ok (.return_, 1) := by decide +kernel
theorem dX3_readDepth_0 : decode cX3_readDepth 0 = .ok (.aload_n 0, 1) := by decide +kernel
theorem dX3_readDepth_1 : decode cX3_readDepth 1 = .ok (.invokevirtual 61, 3) := by decide +kernel
theorem dX3_readDepth_4 : decode cX3_readDepth 4 = .ok (.bipush 45, 2) := by decide +kernel
theorem dX3_readDepth_6 : decode cX3_readDepth 6 = .ok (.if_icmp .eq 11, 3) := by decide +kernel
theorem dX3_readDepth_9 : decode cX3_readDepth 9 = .ok (.aload_n 0, 1) := by decide +kernel
theorem dX3_readDepth_10 : decode cX3_readDepth 10 = .ok (.iconst 0, 1) := by decide +kernel
theorem dX3_readDepth_11 : decode cX3_readDepth 11 = .ok (.bipush 60, 2) := by decide +kernel
theorem dX3_readDepth_13 : decode cX3_readDepth 13 = .ok (.invokevirtual 64, 3) := by decide +kernel
theorem dX3_readDepth_16 : decode cX3_readDepth 16 = .ok (.ireturn, 1) := by decide +kernel
theorem dX3_readDepth_17 : decode cX3_readDepth 17 = .ok (.aload_n 0, 1) := by decide +kernel
theorem dX3_readDepth_18 : decode cX3_readDepth 18 = .ok (.dup, 1) := by decide +kernel
theorem dX3_readDepth_19 : decode cX3_readDepth 19 = .ok (.getfield 49, 3) := by decide +kernel
theorem dX3_readDepth_22 : decode cX3_readDepth 22 = .ok (.iconst 1, 1) := by decide +kernel
theorem dX3_readDepth_23 : decode cX3_readDepth 23 = .ok (.iadd, 1) := by decide +kernel
theorem dX3_readDepth_24 : decode cX3_readDepth 24 = .ok (.putfield 49, 3) := by decide +kernel
theorem dX3_readDepth_27 : decode cX3_readDepth 27 = .ok (.aload_n 0, 1) := by decide +kernel
theorem dX3_readDepth_28 : decode cX3_readDepth 28 = .ok (.iconst 0, 1) := by decide +kernel
theorem dX3_readDepth_29 : decode cX3_readDepth 29 = .ok (.bipush 20, 2) := by decide +kernel
theorem dX3_readDepth_31 : decode cX3_readDepth 31 = .ok (.invokevirtual 64, 3) := by decide +kernel
theorem dX3_readDepth_34 : decode cX3_readDepth 34 = .ok (.ineg, 1) := by decide +kernel
theorem dX3_readDepth_35 : decode cX3_readDepth 35 = .ok (.ireturn, 1) := by decide +kernel
theorem dX3_readPath_0 : decode cX3_readPath 0 = .ok (.aload_n 0, 1) := by decide +kernel
theorem dX3_readPath_1 : decode cX3_readPath 1 = .ok (.getfield 15, 3) := by decide +kernel
theorem dX3_readPath_4 : decode cX3_readPath 4 = .ok (.aload_n 0, 1) := by decide +kernel
theorem dX3_readPath_5 : decode cX3_readPath 5 = .ok (.getfield 31, 3) := by decide +kernel
theorem dX3_readPath_8 : decode cX3_readPath 8 = .ok (.aload_n 0, 1) := by decide +kernel
theorem dX3_readPath_9 : decode cX3_readPath 9 = .ok (.iload_n 1, 1) := by decide +kernel
theorem dX3_readPath_10 : decode cX3_readPath 10 = .ok (.iconst (-1), 1) := by decide +kernel
theorem dX3_readPath_11 : decode cX3_readPath 11 = .ok (.invokevirtual 68, 3) := by decide +kernel
theorem dX3_readPath_14 : decode cX3_readPath 14 = .ok (.iastore, 1) := by decide +kernel
theorem dX3_readPath_15 : decode cX3_readPath 15 = .ok (.aload_n 0, 1) := by decide +kernel
theorem dX3_readPath_16 : decode cX3_readPath 16 = .ok (.getfield 18, 3) := by decide +kernel
theorem dX3_readPath_19 : decode cX3_readPath 19 = .ok (.aload_n 0, 1) := by decide +kernel
theorem dX3_readPath_20 : decode cX3_readPath 20 = .ok (.getfield 31, 3) := by decide +kernel
theorem dX3_readPath_23 : decode cX3_readPath 23 = .ok (.aload_n 0, 1) := by decide +kernel
theorem dX3_readPath_24 : decode cX3_readPath 24 = .ok (.iload_n 1, 1) := by decide +kernel
theorem dX3_readPath_25 : decode cX3_readPath 25 = .ok (.aload_n 0, 1) := by decide +kernel
theorem dX3_readPath_26 : decode cX3_readPath 26 = .ok (.getfield 15, 3) := by decide +kernel
theorem dX3_readPath_29 : decode cX3_readPath 29 = .ok (.aload_n 0, 1) := by decide +kernel
theorem dX3_readPath_30 : decode cX3_readPath 30 = .ok (.getfield 31, 3) := by decide +kernel
theorem dX3_readPath_33 : decode cX3_readPath 33 = .ok (.iaload, 1) := by decide +kernel
theorem dX3_readPath_34 : decode cX3_readPath 34 = .ok (.invokevirtual 68, 3) := by decide +kernel
theorem dX3_readPath_37 : decode cX3_readPath 37 = .ok (.iastore, 1) := by decide +kernel
theorem dX3_readPath_38 : decode cX3_readPath 38 = .ok (.aload_n 0, 1) := by decide +kernel
theorem dX3_readPath_39 : decode cX3_readPath 39 = .ok (.getfield 21, 3) := by decide +kernel
theorem dX3_readPath_42 : decode cX3_readPath 42 = .ok (.aload_n 0, 1) := by decide +kernel
theorem dX3_readPath_43 : decode cX3_readPath 43 = .ok (.getfield 31, 3) := by decide +kernel
theorem dX3_readPath_46 : decode cX3_readPath 46 = .ok (.aload_n 0, 1) := by decide +kernel
theorem dX3_readPath_47 : decode cX3_readPath 47 = .ok (.iconst 1, 1) := by decide +kernel
theorem dX3_readPath_48 : decode cX3_readPath 48 = .ok (.bipush 60, 2) := by decide +kernel
theorem dX3_readPath_50 : decode cX3_readPath 50 = .ok (.invokevirtual 64, 3) := by decide +kernel
theorem dX3_readPath_53 : decode cX3_readPath 53 = .ok (.iastore, 1) := by decide +kernel
theorem dX3_readPath_54 : decode cX3_readPath 54 = .ok (.return_, 1) := by decide +kernel
theorem dX3_goesOn_0 : decode cX3_goesOn 0 = .ok (.aload_n 0, 1) := by decide +kernel
theorem dX3_goesOn_1 : decode cX3_goesOn 1 = .ok (.invokevirtual 61, 3) := by decide +kernel
theorem dX3_goesOn_4 : decode cX3_goesOn 4 = .ok (.istore_n 2, 1) := by decide +kernel
theorem dX3_goesOn_5 : decode cX3_goesOn 5 = .ok (.aload_n 0, 1) := by decide +kernel
theorem dX3_goesOn_6 : decode cX3_goesOn 6 = .ok (.getfield 55, 3) := by decide +kernel
theorem dX3_goesOn_9 : decode cX3_goesOn 9 = .ok (.ifCond .ge 7, 3) := by decide +kernel
theorem dX3_goesOn_12 : decode cX3_goesOn 12 = .ok (.iload_n 2, 1) := by decide +kernel
theorem dX3_goesOn_13 : decode cX3_goesOn 13 = .ok (.ifCond .ge 5, 3) := by decide +kernel
theorem dX3_goesOn_16 : decode cX3_goesOn 16 = .ok (.iconst 0, 1) := by decide +kernel
theorem dX3_goesOn_17 : decode cX3_goesOn 17 = .ok (.ireturn, 1) := by decide +kernel
theorem dX3_goesOn_18 : decode cX3_goesOn 18 = .ok (.iload_n 2, 1) := by decide +kernel
theorem dX3_goesOn_19 : decode cX3_goesOn 19 = .ok (.iload_n 1, 1) := by decide +kernel
theorem dX3_goesOn_20 : decode cX3_goesOn 20 = .ok (.if_icmp .ne 12, 3) := by decide +kernel
theorem dX3_goesOn_23 : decode cX3_goesOn 23 = .ok (.aload_n 0, 1) := by decide +kernel
theorem dX3_goesOn_24 : decode cX3_goesOn 24 = .ok (.getfield 31, 3) := by decide +kernel
theorem dX3_goesOn_27 : decode cX3_goesOn 27 = .ok (.bipush 8, 2) := by decide +kernel
theorem dX3_goesOn_29 : decode cX3_goesOn 29 = .ok (.if_icmp .lt 13, 3) := by decide +kernel
theorem dX3_goesOn_32 : decode cX3_goesOn 32 = .ok (.aload_n 0, 1) := by decide +kernel
theorem dX3_goesOn_33 : decode cX3_goesOn 33 = .ok (.aload_n 0, 1) := by decide +kernel
theorem dX3_goesOn_34 : decode cX3_goesOn 34 = .ok (.getfield 49, 3) := by decide +kernel
theorem dX3_goesOn_37 : decode cX3_goesOn 37 = .ok (.invokevirtual 71, 3) := by decide +kernel
theorem dX3_goesOn_40 : decode cX3_goesOn 40 = .ok (.iconst 0, 1) := by decide +kernel
theorem dX3_goesOn_41 : decode cX3_goesOn 41 = .ok (.ireturn, 1) := by decide +kernel
theorem dX3_goesOn_42 : decode cX3_goesOn 42 = .ok (.aload_n 0, 1) := by decide +kernel
theorem dX3_goesOn_43 : decode cX3_goesOn 43 = .ok (.dup, 1) := by decide +kernel
theorem dX3_goesOn_44 : decode cX3_goesOn 44 = .ok (.getfield 49, 3) := by decide +kernel
theorem dX3_goesOn_47 : decode cX3_goesOn 47 = .ok (.iconst 1, 1) := by decide +kernel
theorem dX3_goesOn_48 : decode cX3_goesOn 48 = .ok (.iadd, 1) := by decide +kernel
theorem dX3_goesOn_49 : decode cX3_goesOn 49 = .ok (.putfield 49, 3) := by decide +kernel
theorem dX3_goesOn_52 : decode cX3_goesOn 52 = .ok (.iconst 1, 1) := by decide +kernel
theorem dX3_goesOn_53 : decode cX3_goesOn 53 = .ok (.ireturn, 1) := by decide +kernel
theorem dX3_peek_0 : decode cX3_peek 0 = .ok (.aload_n 0, 1) := by decide +kernel
theorem dX3_peek_1 : decode cX3_peek 1 = .ok (.getfield 49, 3) := by decide +kernel
theorem dX3_peek_4 : decode cX3_peek 4 = .ok (.aload_n 0, 1) := by decide +kernel
theorem dX3_peek_5 : decode cX3_peek 5 = .ok (.getfield 24, 3) := by decide +kernel
theorem dX3_peek_8 : decode cX3_peek 8 = .ok (.if_icmp .ge 30, 3) := by decide +kernel
theorem dX3_peek_11 : decode cX3_peek 11 = .ok (.aload_n 0, 1) := by decide +kernel
theorem dX3_peek_12 : decode cX3_peek 12 = .ok (.getfield 9, 3) := by decide +kernel
theorem dX3_peek_15 : decode cX3_peek 15 = .ok (.aload_n 0, 1) := by decide +kernel
theorem dX3_peek_16 : decode cX3_peek 16 = .ok (.getfield 49, 3) := by decide +kernel
theorem dX3_peek_19 : decode cX3_peek 19 = .ok (.iaload, 1) := by decide +kernel
theorem dX3_peek_20 : decode cX3_peek 20 = .ok (.bipush 32, 2) := by decide +kernel
theorem dX3_peek_22 : decode cX3_peek 22 = .ok (.if_icmp .ne 16, 3) := by decide +kernel
theorem dX3_peek_25 : decode cX3_peek 25 = .ok (.aload_n 0, 1) := by decide +kernel
theorem dX3_peek_26 : decode cX3_peek 26 = .ok (.dup, 1) := by decide +kernel
theorem dX3_peek_27 : decode cX3_peek 27 = .ok (.getfield 49, 3) := by decide +kernel
theorem dX3_peek_30 : decode cX3_peek 30 = .ok (.iconst 1, 1) := by decide +kernel
theorem dX3_peek_31 : decode cX3_peek 31 = .ok (.iadd, 1) := by decide +kernel
theorem dX3_peek_32 : decode cX3_peek 32 = .ok (.putfield 49, 3) := by decide +kernel
theorem dX3_peek_35 : decode cX3_peek 35 = .ok (.goto (-35), 3) := by decide +kernel
theorem dX3_peek_38 : decode cX3_peek 38 = .ok (.aload_n 0, 1) := by decide +kernel
theorem dX3_peek_39 : decode cX3_peek 39 = .ok (.getfield 49, 3) := by decide +kernel
theorem dX3_peek_42 : decode cX3_peek 42 = .ok (.aload_n 0, 1) := by decide +kernel
theorem dX3_peek_43 : decode cX3_peek 43 = .ok (.getfield 24, 3) := by decide +kernel
theorem dX3_peek_46 : decode cX3_peek 46 = .ok (.if_icmp .ge 15, 3) := by decide +kernel
theorem dX3_peek_49 : decode cX3_peek 49 = .ok (.aload_n 0, 1) := by decide +kernel
theorem dX3_peek_50 : decode cX3_peek 50 = .ok (.getfield 9, 3) := by decide +kernel
theorem dX3_peek_53 : decode cX3_peek 53 = .ok (.aload_n 0, 1) := by decide +kernel
theorem dX3_peek_54 : decode cX3_peek 54 = .ok (.getfield 49, 3) := by decide +kernel
theorem dX3_peek_57 : decode cX3_peek 57 = .ok (.iaload, 1) := by decide +kernel
theorem dX3_peek_58 : decode cX3_peek 58 = .ok (.goto 4, 3) := by decide +kernel
theorem dX3_peek_61 : decode cX3_peek 61 = .ok (.iconst (-1), 1) := by decide +kernel
theorem dX3_peek_62 : decode cX3_peek 62 = .ok (.ireturn, 1) := by decide +kernel
theorem dX3_readLetter_0 : decode cX3_readLetter 0 = .ok (.aload_n 0, 1) := by decide +kernel
theorem dX3_readLetter_1 : decode cX3_readLetter 1 = .ok (.invokevirtual 61, 3) := by decide +kernel
theorem dX3_readLetter_4 : decode cX3_readLetter 4 = .ok (.bipush 97, 2) := by decide +kernel
theorem dX3_readLetter_6 : decode cX3_readLetter 6 = .ok (.isub, 1) := by decide +kernel
theorem dX3_readLetter_7 : decode cX3_readLetter 7 = .ok (.istore_n 3, 1) := by decide +kernel
theorem dX3_readLetter_8 : decode cX3_readLetter 8 = .ok (.iload_n 3, 1) := by decide +kernel
theorem dX3_readLetter_9 : decode cX3_readLetter 9 = .ok (.iconst 0, 1) := by decide +kernel
theorem dX3_readLetter_10 : decode cX3_readLetter 10 = .ok (.iload_n 1, 1) := by decide +kernel
theorem dX3_readLetter_11 : decode cX3_readLetter 11 = .ok (.iconst 1, 1) := by decide +kernel
theorem dX3_readLetter_12 : decode cX3_readLetter 12 = .ok (.isub, 1) := by decide +kernel
theorem dX3_readLetter_13 : decode cX3_readLetter 13 = .ok (.invokestatic 74, 3) := by decide +kernel
theorem dX3_readLetter_16 : decode cX3_readLetter 16 = .ok (.ifCond .eq 8, 3) := by decide +kernel
theorem dX3_readLetter_19 : decode cX3_readLetter 19 = .ok (.iload_n 3, 1) := by decide +kernel
theorem dX3_readLetter_20 : decode cX3_readLetter 20 = .ok (.iload_n 2, 1) := by decide +kernel
theorem dX3_readLetter_21 : decode cX3_readLetter 21 = .ok (.if_icmp .ne 13, 3) := by decide +kernel
theorem dX3_readLetter_24 : decode cX3_readLetter 24 = .ok (.aload_n 0, 1) := by decide +kernel
theorem dX3_readLetter_25 : decode cX3_readLetter 25 = .ok (.aload_n 0, 1) := by decide +kernel
theorem dX3_readLetter_26 : decode cX3_readLetter 26 = .ok (.getfield 49, 3) := by decide +kernel
theorem dX3_readLetter_29 : decode cX3_readLetter 29 = .ok (.invokevirtual 71, 3) := by decide +kernel
theorem dX3_readLetter_32 : decode cX3_readLetter 32 = .ok (.iconst 0, 1) := by decide +kernel
theorem dX3_readLetter_33 : decode cX3_readLetter 33 = .ok (.ireturn, 1) := by decide +kernel
theorem dX3_readLetter_34 : decode cX3_readLetter 34 = .ok (.aload_n 0, 1) := by decide +kernel
theorem dX3_readLetter_35 : decode cX3_readLetter 35 = .ok (.dup, 1) := by decide +kernel
theorem dX3_readLetter_36 : decode cX3_readLetter 36 = .ok (.getfield 49, 3) := by decide +kernel
theorem dX3_readLetter_39 : decode cX3_readLetter 39 = .ok (.iconst 1, 1) := by decide +kernel
theorem dX3_readLetter_40 : decode cX3_readLetter 40 = .ok (.iadd, 1) := by decide +kernel
theorem dX3_readLetter_41 : decode cX3_readLetter 41 = .ok (.putfield 49, 3) := by decide +kernel
theorem dX3_readLetter_44 : decode cX3_readLetter 44 = .ok (.iload_n 3, 1) := by decide +kernel
theorem dX3_readLetter_45 : decode cX3_readLetter 45 = .ok (.ireturn, 1) := by decide +kernel
theorem dX3_readNumber_0 : decode cX3_readNumber 0 = .ok (.aload_n 0, 1) := by decide +kernel
theorem dX3_readNumber_1 : decode cX3_readNumber 1 = .ok (.invokevirtual 61, 3) := by decide +kernel
theorem dX3_readNumber_4 : decode cX3_readNumber 4 = .ok (.bipush 48, 2) := by decide +kernel
theorem dX3_readNumber_6 : decode cX3_readNumber 6 = .ok (.bipush 57, 2) := by decide +kernel
theorem dX3_readNumber_8 : decode cX3_readNumber 8 = .ok (.invokestatic 74, 3) := by decide +kernel
theorem dX3_readNumber_11 : decode cX3_readNumber 11 = .ok (.ifCond .ne 13, 3) := by decide +kernel
theorem dX3_readNumber_14 : decode cX3_readNumber 14 = .ok (.aload_n 0, 1) := by decide +kernel
theorem dX3_readNumber_15 : decode cX3_readNumber 15 = .ok (.aload_n 0, 1) := by decide +kernel
theorem dX3_readNumber_16 : decode cX3_readNumber 16 = .ok (.getfield 49, 3) := by decide +kernel
theorem dX3_readNumber_19 : decode cX3_readNumber 19 = .ok (.invokevirtual 71, 3) := by decide +kernel
theorem dX3_readNumber_22 : decode cX3_readNumber 22 = .ok (.iload_n 1, 1) := by decide +kernel
theorem dX3_readNumber_23 : decode cX3_readNumber 23 = .ok (.ireturn, 1) := by decide +kernel
theorem dX3_readNumber_24 : decode cX3_readNumber 24 = .ok (.aload_n 0, 1) := by decide +kernel
theorem dX3_readNumber_25 : decode cX3_readNumber 25 = .ok (.getfield 49, 3) := by decide +kernel
theorem dX3_readNumber_28 : decode cX3_readNumber 28 = .ok (.istore_n 3, 1) := by decide +kernel
theorem dX3_readNumber_29 : decode cX3_readNumber 29 = .ok (.iconst 0, 1) := by decide +kernel
theorem dX3_readNumber_30 : decode cX3_readNumber 30 = .ok (.istore 4, 2) := by decide +kernel
theorem dX3_readNumber_32 : decode cX3_readNumber 32 = .ok (.aload_n 0, 1) := by decide +kernel
theorem dX3_readNumber_33 : decode cX3_readNumber 33 = .ok (.getfield 49, 3) := by decide +kernel
theorem dX3_readNumber_36 : decode cX3_readNumber 36 = .ok (.aload_n 0, 1) := by decide +kernel
theorem dX3_readNumber_37 : decode cX3_readNumber 37 = .ok (.getfield 24, 3) := by decide +kernel
theorem dX3_readNumber_40 : decode cX3_readNumber 40 = .ok (.if_icmp .ge 60, 3) := by decide +kernel
theorem dX3_readNumber_43 : decode cX3_readNumber 43 = .ok (.aload_n 0, 1) := by decide +kernel
theorem dX3_readNumber_44 : decode cX3_readNumber 44 = .ok (.getfield 9, 3) := by decide +kernel
theorem dX3_readNumber_47 : decode cX3_readNumber 47 = .ok (.aload_n 0, 1) := by decide +kernel
theorem dX3_readNumber_48 : decode cX3_readNumber 48 = .ok (.getfield 49, 3) := by decide +kernel
theorem dX3_readNumber_51 : decode cX3_readNumber 51 = .ok (.iaload, 1) := by decide +kernel
theorem dX3_readNumber_52 : decode cX3_readNumber 52 = .ok (.bipush 48, 2) := by decide +kernel
theorem dX3_readNumber_54 : decode cX3_readNumber 54 = .ok (.bipush 57, 2) := by decide +kernel
theorem dX3_readNumber_56 : decode cX3_readNumber 56 = .ok (.invokestatic 74, 3) := by decide +kernel
theorem dX3_readNumber_59 : decode cX3_readNumber 59 = .ok (.ifCond .eq 41, 3) := by decide +kernel
theorem dX3_readNumber_62 : decode cX3_readNumber 62 = .ok (.bipush 100, 2) := by decide +kernel
theorem dX3_readNumber_64 : decode cX3_readNumber 64 = .ok (.iload 4, 2) := by decide +kernel
theorem dX3_readNumber_66 : decode cX3_readNumber 66 = .ok (.bipush 10, 2) := by decide +kernel
theorem dX3_readNumber_68 : decode cX3_readNumber 68 = .ok (.imul, 1) := by decide +kernel
theorem dX3_readNumber_69 : decode cX3_readNumber 69 = .ok (.aload_n 0, 1) := by decide +kernel
theorem dX3_readNumber_70 : decode cX3_readNumber 70 = .ok (.getfield 9, 3) := by decide +kernel
theorem dX3_readNumber_73 : decode cX3_readNumber 73 = .ok (.aload_n 0, 1) := by decide +kernel
theorem dX3_readNumber_74 : decode cX3_readNumber 74 = .ok (.getfield 49, 3) := by decide +kernel
theorem dX3_readNumber_77 : decode cX3_readNumber 77 = .ok (.iaload, 1) := by decide +kernel
theorem dX3_readNumber_78 : decode cX3_readNumber 78 = .ok (.iadd, 1) := by decide +kernel
theorem dX3_readNumber_79 : decode cX3_readNumber 79 = .ok (.bipush 48, 2) := by decide +kernel
theorem dX3_readNumber_81 : decode cX3_readNumber 81 = .ok (.isub, 1) := by decide +kernel
theorem dX3_readNumber_82 : decode cX3_readNumber 82 = .ok (.invokestatic 78, 3) := by decide +kernel
theorem dX3_readNumber_85 : decode cX3_readNumber 85 = .ok (.istore 4, 2) := by decide +kernel
theorem dX3_readNumber_87 : decode cX3_readNumber 87 = .ok (.aload_n 0, 1) := by decide +kernel
theorem dX3_readNumber_88 : decode cX3_readNumber 88 = .ok (.dup, 1) := by decide +kernel
theorem dX3_readNumber_89 : decode cX3_readNumber 89 = .ok (.getfield 49, 3) := by decide +kernel
theorem dX3_readNumber_92 : decode cX3_readNumber 92 = .ok (.iconst 1, 1) := by decide +kernel
theorem dX3_readNumber_93 : decode cX3_readNumber 93 = .ok (.iadd, 1) := by decide +kernel
theorem dX3_readNumber_94 : decode cX3_readNumber 94 = .ok (.putfield 49, 3) := by decide +kernel
theorem dX3_readNumber_97 : decode cX3_readNumber 97 = .ok (.goto (-65), 3) := by decide +kernel
theorem dX3_readNumber_100 : decode cX3_readNumber 100 = .ok (.iload 4, 2) := by decide +kernel
theorem dX3_readNumber_102 : decode cX3_readNumber 102 = .ok (.iload_n 1, 1) := by decide +kernel
theorem dX3_readNumber_103 : decode cX3_readNumber 103 = .ok (.iload_n 2, 1) := by decide +kernel
theorem dX3_readNumber_104 : decode cX3_readNumber 104 = .ok (.invokestatic 74, 3) := by decide +kernel
theorem dX3_readNumber_107 : decode cX3_readNumber 107 = .ok (.ifCond .ne 10, 3) := by decide +kernel
theorem dX3_readNumber_110 : decode cX3_readNumber 110 = .ok (.aload_n 0, 1) := by decide +kernel
theorem dX3_readNumber_111 : decode cX3_readNumber 111 = .ok (.iload_n 3, 1) := by decide +kernel
theorem dX3_readNumber_112 : decode cX3_readNumber 112 = .ok (.invokevirtual 71, 3) := by decide +kernel
theorem dX3_readNumber_115 : decode cX3_readNumber 115 = .ok (.iload_n 1, 1) := by decide +kernel
theorem dX3_readNumber_116 : decode cX3_readNumber 116 = .ok (.ireturn, 1) := by decide +kernel
theorem dX3_readNumber_117 : decode cX3_readNumber 117 = .ok (.iload 4, 2) := by decide +kernel
theorem dX3_readNumber_119 : decode cX3_readNumber 119 = .ok (.ireturn, 1) := by decide +kernel
theorem dX3_faultAt_0 : decode cX3_faultAt 0 = .ok (.aload_n 0, 1) := by decide +kernel
theorem dX3_faultAt_1 : decode cX3_faultAt 1 = .ok (.getfield 55, 3) := by decide +kernel
theorem dX3_faultAt_4 : decode cX3_faultAt 4 = .ok (.ifCond .ge 8, 3) := by decide +kernel
theorem dX3_faultAt_7 : decode cX3_faultAt 7 = .ok (.aload_n 0, 1) := by decide +kernel
theorem dX3_faultAt_8 : decode cX3_faultAt 8 = .ok (.iload_n 1, 1) := by decide +kernel
theorem dX3_faultAt_9 : decode cX3_faultAt 9 = .ok (.putfield 55, 3) := by decide +kernel
theorem dX3_faultAt_12 : decode cX3_faultAt 12 = .ok (.return_, 1) := by decide +kernel
theorem dX4_init_0 : decode cX4_init 0 = .ok (.aload_n 0, 1) := by decide +kernel
theorem dX4_init_1 : decode cX4_init 1 = .ok (.invokespecial 3, 3) := by decide +kernel
theorem dX4_init_4 : decode cX4_init 4 = .ok (.aload_n 0, 1) := by decide +kernel
theorem dX4_init_5 : decode cX4_init 5 = .ok (.bipush 61, 2) := by decide +kernel
theorem dX4_init_7 : decode cX4_init 7 = .ok (.newarray .int, 2) := by decide +kernel
theorem dX4_init_9 : decode cX4_init 9 = .ok (.putfield 9, 3) := by decide +kernel
theorem dX4_init_12 : decode cX4_init 12 = .ok (.aload_n 0, 1) := by decide +kernel
theorem dX4_init_13 : decode cX4_init 13 = .ok (.bipush 62, 2) := by decide +kernel
theorem dX4_init_15 : decode cX4_init 15 = .ok (.sipush 256, 3) := by decide +kernel
theorem dX4_init_18 : decode cX4_init 18 = .ok (.multianewarray 15 2, 4) := by decide +kernel
theorem dX4_init_22 : decode cX4_init 22 = .ok (.putfield 17, 3) := by decide +kernel
theorem dX4_init_25 : decode cX4_init 25 = .ok (.return_, 1) := by decide +kernel
theorem dX4_weigh_0 : decode cX4_weigh 0 = .ok (.aload_n 0, 1) := by decide +kernel
theorem dX4_weigh_1 : decode cX4_weigh 1 = .ok (.iconst 0, 1) := by decide +kernel
theorem dX4_weigh_2 : decode cX4_weigh 2 = .ok (.putfield 20, 3) := by decide +kernel
theorem dX4_weigh_5 : decode cX4_weigh 5 = .ok (.iconst 0, 1) := by decide +kernel
theorem dX4_weigh_6 : decode cX4_weigh 6 = .ok (.istore_n 2, 1) := by decide +kernel
theorem dX4_weigh_7 : decode cX4_weigh 7 = .ok (.iload_n 2, 1) := by decide +kernel
theorem dX4_weigh_8 : decode cX4_weigh 8 = .ok (.aload_n 1, 1) := by decide +kernel
theorem dX4_weigh_9 : decode cX4_weigh 9 = .ok (.getfield 24, 3) := by decide +kernel
theorem dX4_weigh_12 : decode cX4_weigh 12 = .ok (.if_icmp .ge 26, 3) := by decide +kernel
theorem dX4_weigh_15 : decode cX4_weigh 15 = .ok (.aload_n 0, 1) := by decide +kernel
theorem dX4_weigh_16 : decode cX4_weigh 16 = .ok (.dup, 1) := by decide +kernel
theorem dX4_weigh_17 : decode cX4_weigh 17 = .ok (.getfield 20, 3) := by decide +kernel
theorem dX4_weigh_20 : decode cX4_weigh 20 = .ok (.iconst 1, 1) := by decide +kernel
theorem dX4_weigh_21 : decode cX4_weigh 21 = .ok (.aload_n 1, 1) := by decide +kernel
theorem dX4_weigh_22 : decode cX4_weigh 22 = .ok (.getfield 29, 3) := by decide +kernel
theorem dX4_weigh_25 : decode cX4_weigh 25 = .ok (.iload_n 2, 1) := by decide +kernel
theorem dX4_weigh_26 : decode cX4_weigh 26 = .ok (.iaload, 1) := by decide +kernel
theorem dX4_weigh_27 : decode cX4_weigh 27 = .ok (.ishl, 1) := by decide +kernel
theorem dX4_weigh_28 : decode cX4_weigh 28 = .ok (.ior, 1) := by decide +kernel
theorem dX4_weigh_29 : decode cX4_weigh 29 = .ok (.putfield 20, 3) := by decide +kernel
theorem dX4_weigh_32 : decode cX4_weigh 32 = .ok (.iinc 2 1, 3) := by decide +kernel
theorem dX4_weigh_35 : decode cX4_weigh 35 = .ok (.goto (-28), 3) := by decide +kernel
theorem dX4_weigh_38 : decode cX4_weigh 38 = .ok (.iconst 0, 1) := by decide +kernel
theorem dX4_weigh_39 : decode cX4_weigh 39 = .ok (.istore_n 2, 1) := by decide +kernel
theorem dX4_weigh_40 : decode cX4_weigh 40 = .ok (.iload_n 2, 1) := by decide +kernel
theorem dX4_weigh_41 : decode cX4_weigh 41 = .ok (.sipush 256, 3) := by decide +kernel
theorem dX4_weigh_44 : decode cX4_weigh 44 = .ok (.if_icmp .ge 28, 3) := by decide +kernel
theorem dX4_weigh_47 : decode cX4_weigh 47 = .ok (.aload_n 0, 1) := by decide +kernel
theorem dX4_weigh_48 : decode cX4_weigh 48 = .ok (.getfield 17, 3) := by decide +kernel
theorem dX4_weigh_51 : decode cX4_weigh 51 = .ok (.bipush 61, 2) := by decide +kernel
theorem dX4_weigh_53 : decode cX4_weigh 53 = .ok (.aaload, 1) := by decide +kernel
theorem dX4_weigh_54 : decode cX4_weigh 54 = .ok (.iload_n 2, 1) := by decide +kernel
theorem dX4_weigh_55 : decode cX4_weigh 55 = .ok (.iload_n 2, 1) := by decide +kernel
theorem dX4_weigh_56 : decode cX4_weigh 56 = .ok (.ifCond .ne 7, 3) := by decide +kernel
theorem dX4_weigh_59 : decode cX4_weigh 59 = .ok (.iconst 0, 1) := by decide +kernel
theorem dX4_weigh_60 : decode cX4_weigh 60 = .ok (.goto 5, 3) := by decide +kernel
theorem dX4_weigh_63 : decode cX4_weigh 63 = .ok (.bipush 100, 2) := by decide +kernel
theorem dX4_weigh_65 : decode cX4_weigh 65 = .ok (.iastore, 1) := by decide +kernel
theorem dX4_weigh_66 : decode cX4_weigh 66 = .ok (.iinc 2 1, 3) := by decide +kernel
theorem dX4_weigh_69 : decode cX4_weigh 69 = .ok (.goto (-29), 3) := by decide +kernel
theorem dX4_weigh_72 : decode cX4_weigh 72 = .ok (.bipush 60, 2) := by decide +kernel
theorem dX4_weigh_74 : decode cX4_weigh 74 = .ok (.istore_n 2, 1) := by decide +kernel
theorem dX4_weigh_75 : decode cX4_weigh 75 = .ok (.iload_n 2, 1) := by decide +kernel
theorem dX4_weigh_76 : decode cX4_weigh 76 = .ok (.ifCond .lt 26, 3) := by decide +kernel
theorem dX4_weigh_79 : decode cX4_weigh 79 = .ok (.aload_n 0, 1) := by decide +kernel
theorem dX4_weigh_80 : decode cX4_weigh 80 = .ok (.getfield 9, 3) := by decide +kernel
theorem dX4_weigh_83 : decode cX4_weigh 83 = .ok (.iload_n 2, 1) := by decide +kernel
theorem dX4_weigh_84 : decode cX4_weigh 84 = .ok (.aload_n 0, 1) := by decide +kernel
theorem dX4_weigh_85 : decode cX4_weigh 85 = .ok (.aload_n 1, 1) := by decide +kernel
theorem dX4_weigh_86 : decode cX4_weigh 86 = .ok (.iload_n 2, 1) := by decide +kernel
theorem dX4_weigh_87 : decode cX4_weigh 87 = .ok (.invokevirtual 32, 3) := by decide +kernel
theorem dX4_weigh_90 : decode cX4_weigh 90 = .ok (.iastore, 1) := by decide +kernel
theorem dX4_weigh_91 : decode cX4_weigh 91 = .ok (.aload_n 0, 1) := by decide +kernel
theorem dX4_weigh_92 : decode cX4_weigh 92 = .ok (.iload_n 2, 1) := by decide +kernel
theorem dX4_weigh_93 : decode cX4_weigh 93 = .ok (.invokevirtual 36, 3) := by decide +kernel
theorem dX4_weigh_96 : decode cX4_weigh 96 = .ok (.iinc 2 (-1), 3) := by decide +kernel
theorem dX4_weigh_99 : decode cX4_weigh 99 = .ok (.goto (-24), 3) := by decide +kernel
theorem dX4_weigh_102 : decode cX4_weigh 102 = .ok (.return_, 1) := by decide +kernel
theorem dX4_suitedBy_0 : decode cX4_suitedBy 0 = .ok (.aload_n 0, 1) := by decide +kernel
theorem dX4_suitedBy_1 : decode cX4_suitedBy 1 = .ok (.getfield 20, 3) := by decide +kernel
theorem dX4_suitedBy_4 : decode cX4_suitedBy 4 = .ok (.istore_n 3, 1) := by decide +kernel
theorem dX4_suitedBy_5 : decode cX4_suitedBy 5 = .ok (.iconst 0, 1) := by decide +kernel
theorem dX4_suitedBy_6 : decode cX4_suitedBy 6 = .ok (.istore 4, 2) := by decide +kernel
theorem dX4_suitedBy_8 : decode cX4_suitedBy 8 = .ok (.iload 4, 2) := by decide +kernel
theorem dX4_suitedBy_10 : decode cX4_suitedBy 10 = .ok (.aload_n 1, 1) := by decide +kernel
theorem dX4_suitedBy_11 : decode cX4_suitedBy 11 = .ok (.getfield 24, 3) := by decide +kernel
theorem dX4_suitedBy_14 : decode cX4_suitedBy 14 = .ok (.if_icmp .ge 33, 3) := by decide +kernel
theorem dX4_suitedBy_17 : decode cX4_suitedBy 17 = .ok (.aload_n 1, 1) := by decide +kernel
theorem dX4_suitedBy_18 : decode cX4_suitedBy 18 = .ok (.iload 4, 2) := by decide +kernel
theorem dX4_suitedBy_20 : decode cX4_suitedBy 20 = .ok (.iload_n 2, 1) := by decide +kernel
theorem dX4_suitedBy_21 : decode cX4_suitedBy 21 = .ok (.invokevirtual 40, 3) := by decide +kernel
theorem dX4_suitedBy_24 : decode cX4_suitedBy 24 = .ok (.ifCond .ne 17, 3) := by decide +kernel
theorem dX4_suitedBy_27 : decode cX4_suitedBy 27 = .ok (.iload_n 3, 1) := by decide +kernel
theorem dX4_suitedBy_28 : decode cX4_suitedBy 28 = .ok (.iconst 1, 1) := by decide +kernel
theorem dX4_suitedBy_29 : decode cX4_suitedBy 29 = .ok (.aload_n 1, 1) := by decide +kernel
theorem dX4_suitedBy_30 : decode cX4_suitedBy 30 = .ok (.getfield 29, 3) := by decide +kernel
theorem dX4_suitedBy_33 : decode cX4_suitedBy 33 = .ok (.iload 4, 2) := by decide +kernel
theorem dX4_suitedBy_35 : decode cX4_suitedBy 35 = .ok (.iaload, 1) := by decide +kernel
theorem dX4_suitedBy_36 : decode cX4_suitedBy 36 = .ok (.ishl, 1) := by decide +kernel
theorem dX4_suitedBy_37 : decode cX4_suitedBy 37 = .ok (.iconst (-1), 1) := by decide +kernel
theorem dX4_suitedBy_38 : decode cX4_suitedBy 38 = .ok (.ixor, 1) := by decide +kernel
theorem dX4_suitedBy_39 : decode cX4_suitedBy 39 = .ok (.iand, 1) := by decide +kernel
theorem dX4_suitedBy_40 : decode cX4_suitedBy 40 = .ok (.istore_n 3, 1) := by decide +kernel
theorem dX4_suitedBy_41 : decode cX4_suitedBy 41 = .ok (.iinc 4 1, 3) := by decide +kernel
theorem dX4_suitedBy_44 : decode cX4_suitedBy 44 = .ok (.goto (-36), 3) := by decide +kernel
theorem dX4_suitedBy_47 : decode cX4_suitedBy 47 = .ok (.iload_n 3, 1) := by decide +kernel
theorem dX4_suitedBy_48 : decode cX4_suitedBy 48 = .ok (.ireturn, 1) := by decide +kernel
theorem dX4_weighWith_0 : decode cX4_weighWith 0 = .ok (.aload_n 0, 1) := by decide +kernel
theorem dX4_weighWith_1 : decode cX4_weighWith 1 = .ok (.getfield 17, 3) := by decide +kernel
theorem dX4_weighWith_4 : decode cX4_weighWith 4 = .ok (.iload_n 1, 1) := by decide +kernel
theorem dX4_weighWith_5 : decode cX4_weighWith 5 = .ok (.iconst 1, 1) := by decide +kernel
theorem dX4_weighWith_6 : decode cX4_weighWith 6 = .ok (.iadd, 1) := by decide +kernel
theorem dX4_weighWith_7 : decode cX4_weighWith 7 = .ok (.aaload, 1) := by decide +kernel
theorem dX4_weighWith_8 : decode cX4_weighWith 8 = .ok (.astore_n 2, 1) := by decide +kernel
theorem dX4_weighWith_9 : decode cX4_weighWith 9 = .ok (.iconst 0, 1) := by decide +kernel
theorem dX4_weighWith_10 : decode cX4_weighWith 10 = .ok (.istore_n 3, 1) := by decide +kernel
theorem dX4_weighWith_11 : decode cX4_weighWith 11 = .ok (.iload_n 3, 1) := by decide +kernel
theorem dX4_weighWith_12 : decode cX4_weighWith 12 = .ok (.aload_n 0, 1) := by decide +kernel
theorem dX4_weighWith_13 : decode cX4_weighWith 13 = .ok (.getfield 20, 3) := by decide +kernel
theorem dX4_weighWith_16 : decode cX4_weighWith 16 = .ok (.if_icmp .gt 37, 3) := by decide +kernel
theorem dX4_weighWith_19 : decode cX4_weighWith 19 = .ok (.aload_n 0, 1) := by decide +kernel
theorem dX4_weighWith_20 : decode cX4_weighWith 20 = .ok (.getfield 17, 3) := by decide +kernel
theorem dX4_weighWith_23 : decode cX4_weighWith 23 = .ok (.iload_n 1, 1) := by decide +kernel
theorem dX4_weighWith_24 : decode cX4_weighWith 24 = .ok (.aaload, 1) := by decide +kernel
theorem dX4_weighWith_25 : decode cX4_weighWith 25 = .ok (.iload_n 3, 1) := by decide +kernel
theorem dX4_weighWith_26 : decode cX4_weighWith 26 = .ok (.aload_n 2, 1) := by decide +kernel
theorem dX4_weighWith_27 : decode cX4_weighWith 27 = .ok (.iload_n 3, 1) := by decide +kernel
theorem dX4_weighWith_28 : decode cX4_weighWith 28 = .ok (.iaload, 1) := by decide +kernel
theorem dX4_weighWith_29 : decode cX4_weighWith 29 = .ok (.iconst 1, 1) := by decide +kernel
theorem dX4_weighWith_30 : decode cX4_weighWith 30 = .ok (.aload_n 2, 1) := by decide +kernel
theorem dX4_weighWith_31 : decode cX4_weighWith 31 = .ok (.iload_n 3, 1) := by decide +kernel
theorem dX4_weighWith_32 : decode cX4_weighWith 32 = .ok (.aload_n 0, 1) := by decide +kernel
theorem dX4_weighWith_33 : decode cX4_weighWith 33 = .ok (.getfield 9, 3) := by decide +kernel
theorem dX4_weighWith_36 : decode cX4_weighWith 36 = .ok (.iload_n 1, 1) := by decide +kernel
theorem dX4_weighWith_37 : decode cX4_weighWith 37 = .ok (.iaload, 1) := by decide +kernel
theorem dX4_weighWith_38 : decode cX4_weighWith 38 = .ok (.iconst (-1), 1) := by decide +kernel
theorem dX4_weighWith_39 : decode cX4_weighWith 39 = .ok (.ixor, 1) := by decide +kernel
theorem dX4_weighWith_40 : decode cX4_weighWith 40 = .ok (.iand, 1) := by decide +kernel
theorem dX4_weighWith_41 : decode cX4_weighWith 41 = .ok (.iaload, 1) := by decide +kernel
theorem dX4_weighWith_42 : decode cX4_weighWith 42 = .ok (.iadd, 1) := by decide +kernel
theorem dX4_weighWith_43 : decode cX4_weighWith 43 = .ok (.invokestatic 44, 3) := by decide +kernel
theorem dX4_weighWith_46 : decode cX4_weighWith 46 = .ok (.iastore, 1) := by decide +kernel
theorem dX4_weighWith_47 : decode cX4_weighWith 47 = .ok (.iinc 3 1, 3) := by decide +kernel
theorem dX4_weighWith_50 : decode cX4_weighWith 50 = .ok (.goto (-39), 3) := by decide +kernel
theorem dX4_weighWith_53 : decode cX4_weighWith 53 = .ok (.return_, 1) := by decide +kernel
theorem dX4_fewestLengths_0 : decode cX4_fewestLengths 0 = .ok (.aload_n 0, 1) := by decide +kernel
theorem dX4_fewestLengths_1 : decode cX4_fewestLengths 1 = .ok (.getfield 17, 3) := by decide +kernel
theorem dX4_fewestLengths_4 : decode cX4_fewestLengths 4 = .ok (.iconst 0, 1) := by decide +kernel
theorem dX4_fewestLengths_5 : decode cX4_fewestLengths 5 = .ok (.aaload, 1) := by decide +kernel
theorem dX4_fewestLengths_6 : decode cX4_fewestLengths 6 = .ok (.aload_n 0, 1) := by decide +kernel
theorem dX4_fewestLengths_7 : decode cX4_fewestLengths 7 = .ok (.getfield 20, 3) := by decide +kernel
theorem dX4_fewestLengths_10 : decode cX4_fewestLengths 10 = .ok (.iaload, 1) := by decide +kernel
theorem dX4_fewestLengths_11 : decode cX4_fewestLengths 11 = .ok (.bipush 100, 2) := by decide +kernel
theorem dX4_fewestLengths_13 : decode cX4_fewestLengths 13 = .ok (.if_icmp .ge 17, 3) := by decide +kernel
theorem dX4_fewestLengths_16 : decode cX4_fewestLengths 16 = .ok (.aload_n 0, 1) := by decide +kernel
theorem dX4_fewestLengths_17 : decode cX4_fewestLengths 17 = .ok (.getfield 17, 3) := by decide +kernel
theorem dX4_fewestLengths_20 : decode cX4_fewestLengths 20 = .ok (.iconst 0, 1) := by decide +kernel
theorem dX4_fewestLengths_21 : decode cX4_fewestLengths 21 = .ok (.aaload, 1) := by decide +kernel
theorem dX4_fewestLengths_22 : decode cX4_fewestLengths 22 = .ok (.aload_n 0, 1) := by decide +kernel
theorem dX4_fewestLengths_23 : decode cX4_fewestLengths 23 = .ok (.getfield 20, 3) := by decide +kernel
theorem dX4_fewestLengths_26 : decode cX4_fewestLengths 26 = .ok (.iaload, 1) := by decide +kernel
theorem dX4_fewestLengths_27 : decode cX4_fewestLengths 27 = .ok (.goto 5, 3) := by decide +kernel
theorem dX4_fewestLengths_30 : decode cX4_fewestLengths 30 = .ok (.bipush (-4), 2) := by decide +kernel
theorem dX4_fewestLengths_32 : decode cX4_fewestLengths 32 = .ok (.ireturn, 1) := by decide +kernel
theorem dX4_chosen_0 : decode cX4_chosen 0 = .ok (.iload_n 1, 1) := by decide +kernel
theorem dX4_chosen_1 : decode cX4_chosen 1 = .ok (.aload_n 0, 1) := by decide +kernel
theorem dX4_chosen_2 : decode cX4_chosen 2 = .ok (.invokevirtual 50, 3) := by decide +kernel
theorem dX4_chosen_5 : decode cX4_chosen 5 = .ok (.if_icmp .lt 6, 3) := by decide +kernel
theorem dX4_chosen_8 : decode cX4_chosen 8 = .ok (.bipush (-4), 2) := by decide +kernel
theorem dX4_chosen_10 : decode cX4_chosen 10 = .ok (.ireturn, 1) := by decide +kernel
theorem dX4_chosen_11 : decode cX4_chosen 11 = .ok (.aload_n 0, 1) := by decide +kernel
theorem dX4_chosen_12 : decode cX4_chosen 12 = .ok (.getfield 20, 3) := by decide +kernel
theorem dX4_chosen_15 : decode cX4_chosen 15 = .ok (.istore_n 2, 1) := by decide +kernel
theorem dX4_chosen_16 : decode cX4_chosen 16 = .ok (.iconst 0, 1) := by decide +kernel
theorem dX4_chosen_17 : decode cX4_chosen 17 = .ok (.istore_n 3, 1) := by decide +kernel
theorem dX4_chosen_18 : decode cX4_chosen 18 = .ok (.iconst 0, 1) := by decide +kernel
theorem dX4_chosen_19 : decode cX4_chosen 19 = .ok (.istore 4, 2) := by decide +kernel
theorem dX4_chosen_21 : decode cX4_chosen 21 = .ok (.iload 4, 2) := by decide +kernel
theorem dX4_chosen_23 : decode cX4_chosen 23 = .ok (.bipush 60, 2) := by decide +kernel
theorem dX4_chosen_25 : decode cX4_chosen 25 = .ok (.if_icmp .gt 62, 3) := by decide +kernel
theorem dX4_chosen_28 : decode cX4_chosen 28 = .ok (.iload_n 2, 1) := by decide +kernel
theorem dX4_chosen_29 : decode cX4_chosen 29 = .ok (.aload_n 0, 1) := by decide +kernel
theorem dX4_chosen_30 : decode cX4_chosen 30 = .ok (.getfield 9, 3) := by decide +kernel
theorem dX4_chosen_33 : decode cX4_chosen 33 = .ok (.iload 4, 2) := by decide +kernel
theorem dX4_chosen_35 : decode cX4_chosen 35 = .ok (.iaload, 1) := by decide +kernel
theorem dX4_chosen_36 : decode cX4_chosen 36 = .ok (.iconst (-1), 1) := by decide +kernel
theorem dX4_chosen_37 : decode cX4_chosen 37 = .ok (.ixor, 1) := by decide +kernel
theorem dX4_chosen_38 : decode cX4_chosen 38 = .ok (.iand, 1) := by decide +kernel
theorem dX4_chosen_39 : decode cX4_chosen 39 = .ok (.istore 5, 2) := by decide +kernel
theorem dX4_chosen_41 : decode cX4_chosen 41 = .ok (.aload_n 0, 1) := by decide +kernel
theorem dX4_chosen_42 : decode cX4_chosen 42 = .ok (.getfield 17, 3) := by decide +kernel
theorem dX4_chosen_45 : decode cX4_chosen 45 = .ok (.iload 4, 2) := by decide +kernel
theorem dX4_chosen_47 : decode cX4_chosen 47 = .ok (.aaload, 1) := by decide +kernel
theorem dX4_chosen_48 : decode cX4_chosen 48 = .ok (.iload_n 2, 1) := by decide +kernel
theorem dX4_chosen_49 : decode cX4_chosen 49 = .ok (.iaload, 1) := by decide +kernel
theorem dX4_chosen_50 : decode cX4_chosen 50 = .ok (.iconst 1, 1) := by decide +kernel
theorem dX4_chosen_51 : decode cX4_chosen 51 = .ok (.aload_n 0, 1) := by decide +kernel
theorem dX4_chosen_52 : decode cX4_chosen 52 = .ok (.getfield 17, 3) := by decide +kernel
theorem dX4_chosen_55 : decode cX4_chosen 55 = .ok (.iload 4, 2) := by decide +kernel
theorem dX4_chosen_57 : decode cX4_chosen 57 = .ok (.iconst 1, 1) := by decide +kernel
theorem dX4_chosen_58 : decode cX4_chosen 58 = .ok (.iadd, 1) := by decide +kernel
theorem dX4_chosen_59 : decode cX4_chosen 59 = .ok (.aaload, 1) := by decide +kernel
theorem dX4_chosen_60 : decode cX4_chosen 60 = .ok (.iload 5, 2) := by decide +kernel
theorem dX4_chosen_62 : decode cX4_chosen 62 = .ok (.iaload, 1) := by decide +kernel
theorem dX4_chosen_63 : decode cX4_chosen 63 = .ok (.iadd, 1) := by decide +kernel
theorem dX4_chosen_64 : decode cX4_chosen 64 = .ok (.if_icmp .ne 17, 3) := by decide +kernel
theorem dX4_chosen_67 : decode cX4_chosen 67 = .ok (.iload_n 3, 1) := by decide +kernel
theorem dX4_chosen_68 : decode cX4_chosen 68 = .ok (.iload_n 1, 1) := by decide +kernel
theorem dX4_chosen_69 : decode cX4_chosen 69 = .ok (.if_icmp .ne 6, 3) := by decide +kernel
theorem dX4_chosen_72 : decode cX4_chosen 72 = .ok (.iload 4, 2) := by decide +kernel
theorem dX4_chosen_74 : decode cX4_chosen 74 = .ok (.ireturn, 1) := by decide +kernel
theorem dX4_chosen_75 : decode cX4_chosen 75 = .ok (.iinc 3 1, 3) := by decide +kernel
theorem dX4_chosen_78 : decode cX4_chosen 78 = .ok (.iload 5, 2) := by decide +kernel
theorem dX4_chosen_80 : decode cX4_chosen 80 = .ok (.istore_n 2, 1) := by decide +kernel
theorem dX4_chosen_81 : decode cX4_chosen 81 = .ok (.iinc 4 1, 3) := by decide +kernel
theorem dX4_chosen_84 : decode cX4_chosen 84 = .ok (.goto (-63), 3) := by decide +kernel
theorem dX4_chosen_87 : decode cX4_chosen 87 = .ok (.bipush (-4), 2) := by decide +kernel
theorem dX4_chosen_89 : decode cX4_chosen 89 = .ok (.ireturn, 1) := by decide +kernel
theorem dX5_init_0 : decode cX5_init 0 = .ok (.aload_n 0, 1) := by decide +kernel
theorem dX5_init_1 : decode cX5_init 1 = .ok (.invokespecial 3, 3) := by decide +kernel
theorem dX5_init_4 : decode cX5_init 4 = .ok (.aload_n 0, 1) := by decide +kernel
theorem dX5_init_5 : decode cX5_init 5 = .ok (.bipush 12, 2) := by decide +kernel
theorem dX5_init_7 : decode cX5_init 7 = .ok (.newarray .int, 2) := by decide +kernel
theorem dX5_init_9 : decode cX5_init 9 = .ok (.putfield 9, 3) := by decide +kernel
theorem dX5_init_12 : decode cX5_init 12 = .ok (.aload_n 0, 1) := by decide +kernel
theorem dX5_init_13 : decode cX5_init 13 = .ok (.bipush 8, 2) := by decide +kernel
theorem dX5_init_15 : decode cX5_init 15 = .ok (.newarray .int, 2) := by decide +kernel
theorem dX5_init_17 : decode cX5_init 17 = .ok (.putfield 15, 3) := by decide +kernel
theorem dX5_init_20 : decode cX5_init 20 = .ok (.aload_n 0, 1) := by decide +kernel
theorem dX5_init_21 : decode cX5_init 21 = .ok (.bipush 12, 2) := by decide +kernel
theorem dX5_init_23 : decode cX5_init 23 = .ok (.bipush 24, 2) := by decide +kernel
theorem dX5_init_25 : decode cX5_init 25 = .ok (.multianewarray 18 2, 4) := by decide +kernel
theorem dX5_init_29 : decode cX5_init 29 = .ok (.putfield 20, 3) := by decide +kernel
theorem dX5_init_32 : decode cX5_init 32 = .ok (.aload_n 0, 1) := by decide +kernel
theorem dX5_init_33 : decode cX5_init 33 = .ok (.bipush 61, 2) := by decide +kernel
theorem dX5_init_35 : decode cX5_init 35 = .ok (.bipush 12, 2) := by decide +kernel
theorem dX5_init_37 : decode cX5_init 37 = .ok (.multianewarray 18 2, 4) := by decide +kernel
theorem dX5_init_41 : decode cX5_init 41 = .ok (.putfield 23, 3) := by decide +kernel
theorem dX5_init_44 : decode cX5_init 44 = .ok (.aload_n 0, 1) := by decide +kernel
theorem dX5_init_45 : decode cX5_init 45 = .ok (.bipush 12, 2) := by decide +kernel
theorem dX5_init_47 : decode cX5_init 47 = .ok (.newarray .int, 2) := by decide +kernel
theorem dX5_init_49 : decode cX5_init 49 = .ok (.putfield 26, 3) := by decide +kernel
theorem dX5_init_52 : decode cX5_init 52 = .ok (.aload_n 0, 1) := by decide +kernel
theorem dX5_init_53 : decode cX5_init 53 = .ok (.sipush 144, 3) := by decide +kernel
theorem dX5_init_56 : decode cX5_init 56 = .ok (.newarray .int, 2) := by decide +kernel
theorem dX5_init_58 : decode cX5_init 58 = .ok (.putfield 29, 3) := by decide +kernel
theorem dX5_init_61 : decode cX5_init 61 = .ok (.aload_n 0, 1) := by decide +kernel
theorem dX5_init_62 : decode cX5_init 62 = .ok (.sipush 144, 3) := by decide +kernel
theorem dX5_init_65 : decode cX5_init 65 = .ok (.newarray .int, 2) := by decide +kernel
theorem dX5_init_67 : decode cX5_init 67 = .ok (.putfield 32, 3) := by decide +kernel
theorem dX5_init_70 : decode cX5_init 70 = .ok (.aload_n 0, 1) := by decide +kernel
theorem dX5_init_71 : decode cX5_init 71 = .ok (.sipush 144, 3) := by decide +kernel
theorem dX5_init_74 : decode cX5_init 74 = .ok (.newarray .int, 2) := by decide +kernel
theorem dX5_init_76 : decode cX5_init 76 = .ok (.putfield 35, 3) := by decide +kernel
theorem dX5_init_79 : decode cX5_init 79 = .ok (.return_, 1) := by decide +kernel
theorem dX5_prepare_0 : decode cX5_prepare 0 = .ok (.aload_n 0, 1) := by decide +kernel
theorem dX5_prepare_1 : decode cX5_prepare 1 = .ok (.aload_n 1, 1) := by decide +kernel
theorem dX5_prepare_2 : decode cX5_prepare 2 = .ok (.getfield 38, 3) := by decide +kernel
theorem dX5_prepare_5 : decode cX5_prepare 5 = .ok (.putfield 44, 3) := by decide +kernel
theorem dX5_prepare_8 : decode cX5_prepare 8 = .ok (.aload_n 0, 1) := by decide +kernel
theorem dX5_prepare_9 : decode cX5_prepare 9 = .ok (.aload_n 1, 1) := by decide +kernel
theorem dX5_prepare_10 : decode cX5_prepare 10 = .ok (.getfield 45, 3) := by decide +kernel
theorem dX5_prepare_13 : decode cX5_prepare 13 = .ok (.iload_n 2, 1) := by decide +kernel
theorem dX5_prepare_14 : decode cX5_prepare 14 = .ok (.iaload, 1) := by decide +kernel
theorem dX5_prepare_15 : decode cX5_prepare 15 = .ok (.putfield 48, 3) := by decide +kernel
theorem dX5_prepare_18 : decode cX5_prepare 18 = .ok (.aload_n 0, 1) := by decide +kernel
theorem dX5_prepare_19 : decode cX5_prepare 19 = .ok (.iload_n 3, 1) := by decide +kernel
theorem dX5_prepare_20 : decode cX5_prepare 20 = .ok (.putfield 51, 3) := by decide +kernel
theorem dX5_prepare_23 : decode cX5_prepare 23 = .ok (.aload_n 0, 1) := by decide +kernel
theorem dX5_prepare_24 : decode cX5_prepare 24 = .ok (.aload_n 1, 1) := by decide +kernel
theorem dX5_prepare_25 : decode cX5_prepare 25 = .ok (.invokevirtual 54, 3) := by decide +kernel
theorem dX5_prepare_28 : decode cX5_prepare 28 = .ok (.aload_n 0, 1) := by decide +kernel
theorem dX5_prepare_29 : decode cX5_prepare 29 = .ok (.aload_n 1, 1) := by decide +kernel
theorem dX5_prepare_30 : decode cX5_prepare 30 = .ok (.invokevirtual 58, 3) := by decide +kernel
theorem dX5_prepare_33 : decode cX5_prepare 33 = .ok (.iconst 0, 1) := by decide +kernel
theorem dX5_prepare_34 : decode cX5_prepare 34 = .ok (.istore 4, 2) := by decide +kernel
theorem dX5_prepare_36 : decode cX5_prepare 36 = .ok (.iload 4, 2) := by decide +kernel
theorem dX5_prepare_38 : decode cX5_prepare 38 = .ok (.aload_n 0, 1) := by decide +kernel
theorem dX5_prepare_39 : decode cX5_prepare 39 = .ok (.getfield 44, 3) := by decide +kernel
theorem dX5_prepare_42 : decode cX5_prepare 42 = .ok (.if_icmp .ge 49, 3) := by decide +kernel
theorem dX5_prepare_45 : decode cX5_prepare 45 = .ok (.iconst 0, 1) := by decide +kernel
theorem dX5_prepare_46 : decode cX5_prepare 46 = .ok (.istore 5, 2) := by decide +kernel
theorem dX5_prepare_48 : decode cX5_prepare 48 = .ok (.iload 5, 2) := by decide +kernel
theorem dX5_prepare_50 : decode cX5_prepare 50 = .ok (.bipush 24, 2) := by decide +kernel
theorem dX5_prepare_52 : decode cX5_prepare 52 = .ok (.if_icmp .ge 33, 3) := by decide +kernel
theorem dX5_prepare_55 : decode cX5_prepare 55 = .ok (.aload_n 0, 1) := by decide +kernel
theorem dX5_prepare_56 : decode cX5_prepare 56 = .ok (.getfield 20, 3) := by decide +kernel
theorem dX5_prepare_59 : decode cX5_prepare 59 = .ok (.iload 4, 2) := by decide +kernel
theorem dX5_prepare_61 : decode cX5_prepare 61 = .ok (.aaload, 1) := by decide +kernel
theorem dX5_prepare_62 : decode cX5_prepare 62 = .ok (.iload 5, 2) := by decide +kernel
theorem dX5_prepare_64 : decode cX5_prepare 64 = .ok (.aload_n 0, 1) := by decide +kernel
theorem dX5_prepare_65 : decode cX5_prepare 65 = .ok (.aload_n 1, 1) := by decide +kernel
theorem dX5_prepare_66 : decode cX5_prepare 66 = .ok (.iload_n 2, 1) := by decide +kernel
theorem dX5_prepare_67 : decode cX5_prepare 67 = .ok (.aload_n 1, 1) := by decide +kernel
theorem dX5_prepare_68 : decode cX5_prepare 68 = .ok (.iload 4, 2) := by decide +kernel
theorem dX5_prepare_70 : decode cX5_prepare 70 = .ok (.iload 5, 2) := by decide +kernel
theorem dX5_prepare_72 : decode cX5_prepare 72 = .ok (.invokevirtual 61, 3) := by decide +kernel
theorem dX5_prepare_75 : decode cX5_prepare 75 = .ok (.invokevirtual 65, 3) := by decide +kernel
theorem dX5_prepare_78 : decode cX5_prepare 78 = .ok (.iastore, 1) := by decide +kernel
theorem dX5_prepare_79 : decode cX5_prepare 79 = .ok (.iinc 5 1, 3) := by decide +kernel
theorem dX5_prepare_82 : decode cX5_prepare 82 = .ok (.goto (-34), 3) := by decide +kernel
theorem dX5_prepare_85 : decode cX5_prepare 85 = .ok (.iinc 4 1, 3) := by decide +kernel
theorem dX5_prepare_88 : decode cX5_prepare 88 = .ok (.goto (-52), 3) := by decide +kernel
theorem dX5_prepare_91 : decode cX5_prepare 91 = .ok (.return_, 1) := by decide +kernel
theorem dX5_listPosts_0 : decode cX5_listPosts 0 = .ok (.aload_n 0, 1) := by decide +kernel
theorem dX5_listPosts_1 : decode cX5_listPosts 1 = .ok (.iconst 0, 1) := by decide +kernel
theorem dX5_listPosts_2 : decode cX5_listPosts 2 = .ok (.putfield 69, 3) := by decide +kernel
theorem dX5_listPosts_5 : decode cX5_listPosts 5 = .ok (.aload_n 0, 1) := by decide +kernel
theorem dX5_listPosts_6 : decode cX5_listPosts 6 = .ok (.getfield 15, 3) := by decide +kernel
theorem dX5_listPosts_9 : decode cX5_listPosts 9 = .ok (.iconst 0, 1) := by decide +kernel
theorem dX5_listPosts_10 : decode cX5_listPosts 10 = .ok (.iconst 0, 1) := by decide +kernel
theorem dX5_listPosts_11 : decode cX5_listPosts 11 = .ok (.iastore, 1) := by decide +kernel
theorem dX5_listPosts_12 : decode cX5_listPosts 12 = .ok (.iconst 0, 1) := by decide +kernel
theorem dX5_listPosts_13 : decode cX5_listPosts 13 = .ok (.istore_n 2, 1) := by decide +kernel
theorem dX5_listPosts_14 : decode cX5_listPosts 14 = .ok (.iload_n 2, 1) := by decide +kernel
theorem dX5_listPosts_15 : decode cX5_listPosts 15 = .ok (.aload_n 0, 1) := by decide +kernel
theorem dX5_listPosts_16 : decode cX5_listPosts 16 = .ok (.getfield 44, 3) := by decide +kernel
theorem dX5_listPosts_19 : decode cX5_listPosts 19 = .ok (.if_icmp .ge 98, 3) := by decide +kernel
theorem dX5_listPosts_22 : decode cX5_listPosts 22 = .ok (.aload_n 0, 1) := by decide +kernel
theorem dX5_listPosts_23 : decode cX5_listPosts 23 = .ok (.getfield 9, 3) := by decide +kernel
theorem dX5_listPosts_26 : decode cX5_listPosts 26 = .ok (.iload_n 2, 1) := by decide +kernel
theorem dX5_listPosts_27 : decode cX5_listPosts 27 = .ok (.iconst (-1), 1) := by decide +kernel
theorem dX5_listPosts_28 : decode cX5_listPosts 28 = .ok (.iastore, 1) := by decide +kernel
theorem dX5_listPosts_29 : decode cX5_listPosts 29 = .ok (.aload_n 1, 1) := by decide +kernel
theorem dX5_listPosts_30 : decode cX5_listPosts 30 = .ok (.getfield 72, 3) := by decide +kernel
theorem dX5_listPosts_33 : decode cX5_listPosts 33 = .ok (.iload_n 2, 1) := by decide +kernel
theorem dX5_listPosts_34 : decode cX5_listPosts 34 = .ok (.iaload, 1) := by decide +kernel
theorem dX5_listPosts_35 : decode cX5_listPosts 35 = .ok (.ifCond .le 76, 3) := by decide +kernel
theorem dX5_listPosts_38 : decode cX5_listPosts 38 = .ok (.aload_n 0, 1) := by decide +kernel
theorem dX5_listPosts_39 : decode cX5_listPosts 39 = .ok (.getfield 69, 3) := by decide +kernel
theorem dX5_listPosts_42 : decode cX5_listPosts 42 = .ok (.iconst 3, 1) := by decide +kernel
theorem dX5_listPosts_43 : decode cX5_listPosts 43 = .ok (.if_icmp .ge 68, 3) := by decide +kernel
theorem dX5_listPosts_46 : decode cX5_listPosts 46 = .ok (.aload_n 0, 1) := by decide +kernel
theorem dX5_listPosts_47 : decode cX5_listPosts 47 = .ok (.getfield 9, 3) := by decide +kernel
theorem dX5_listPosts_50 : decode cX5_listPosts 50 = .ok (.iload_n 2, 1) := by decide +kernel
theorem dX5_listPosts_51 : decode cX5_listPosts 51 = .ok (.aload_n 0, 1) := by decide +kernel
theorem dX5_listPosts_52 : decode cX5_listPosts 52 = .ok (.getfield 69, 3) := by decide +kernel
theorem dX5_listPosts_55 : decode cX5_listPosts 55 = .ok (.iastore, 1) := by decide +kernel
theorem dX5_listPosts_56 : decode cX5_listPosts 56 = .ok (.iconst 1, 1) := by decide +kernel
theorem dX5_listPosts_57 : decode cX5_listPosts 57 = .ok (.aload_n 0, 1) := by decide +kernel
theorem dX5_listPosts_58 : decode cX5_listPosts 58 = .ok (.getfield 69, 3) := by decide +kernel
theorem dX5_listPosts_61 : decode cX5_listPosts 61 = .ok (.ishl, 1) := by decide +kernel
theorem dX5_listPosts_62 : decode cX5_listPosts 62 = .ok (.istore_n 3, 1) := by decide +kernel
theorem dX5_listPosts_63 : decode cX5_listPosts 63 = .ok (.iconst 0, 1) := by decide +kernel
theorem dX5_listPosts_64 : decode cX5_listPosts 64 = .ok (.istore 4, 2) := by decide +kernel
theorem dX5_listPosts_66 : decode cX5_listPosts 66 = .ok (.iload 4, 2) := by decide +kernel
theorem dX5_listPosts_68 : decode cX5_listPosts 68 = .ok (.iload_n 3, 1) := by decide +kernel
theorem dX5_listPosts_69 : decode cX5_listPosts 69 = .ok (.if_icmp .ge 32, 3) := by decide +kernel
theorem dX5_listPosts_72 : decode cX5_listPosts 72 = .ok (.aload_n 0, 1) := by decide +kernel
theorem dX5_listPosts_73 : decode cX5_listPosts 73 = .ok (.getfield 15, 3) := by decide +kernel
theorem dX5_listPosts_76 : decode cX5_listPosts 76 = .ok (.iload_n 3, 1) := by decide +kernel
theorem dX5_listPosts_77 : decode cX5_listPosts 77 = .ok (.iload 4, 2) := by decide +kernel
theorem dX5_listPosts_79 : decode cX5_listPosts 79 = .ok (.iadd, 1) := by decide +kernel
theorem dX5_listPosts_80 : decode cX5_listPosts 80 = .ok (.aload_n 0, 1) := by decide +kernel
theorem dX5_listPosts_81 : decode cX5_listPosts 81 = .ok (.getfield 15, 3) := by decide +kernel
theorem dX5_listPosts_84 : decode cX5_listPosts 84 = .ok (.iload 4, 2) := by decide +kernel
theorem dX5_listPosts_86 : decode cX5_listPosts 86 = .ok (.iaload, 1) := by decide +kernel
theorem dX5_listPosts_87 : decode cX5_listPosts 87 = .ok (.aload_n 1, 1) := by decide +kernel
theorem dX5_listPosts_88 : decode cX5_listPosts 88 = .ok (.getfield 72, 3) := by decide +kernel
theorem dX5_listPosts_91 : decode cX5_listPosts 91 = .ok (.iload_n 2, 1) := by decide +kernel
theorem dX5_listPosts_92 : decode cX5_listPosts 92 = .ok (.iaload, 1) := by decide +kernel
theorem dX5_listPosts_93 : decode cX5_listPosts 93 = .ok (.iadd, 1) := by decide +kernel
theorem dX5_listPosts_94 : decode cX5_listPosts 94 = .ok (.iastore, 1) := by decide +kernel
theorem dX5_listPosts_95 : decode cX5_listPosts 95 = .ok (.iinc 4 1, 3) := by decide +kernel
theorem dX5_listPosts_98 : decode cX5_listPosts 98 = .ok (.goto (-32), 3) := by decide +kernel
theorem dX5_listPosts_101 : decode cX5_listPosts 101 = .ok (.aload_n 0, 1) := by decide +kernel
theorem dX5_listPosts_102 : decode cX5_listPosts 102 = .ok (.dup, 1) := by decide +kernel
theorem dX5_listPosts_103 : decode cX5_listPosts 103 = .ok (.getfield 69, 3) := by decide +kernel
theorem dX5_listPosts_106 : decode cX5_listPosts 106 = .ok (.iconst 1, 1) := by decide +kernel
theorem dX5_listPosts_107 : decode cX5_listPosts 107 = .ok (.iadd, 1) := by decide +kernel
theorem dX5_listPosts_108 : decode cX5_listPosts 108 = .ok (.putfield 69, 3) := by decide +kernel
theorem dX5_listPosts_111 : decode cX5_listPosts 111 = .ok (.iinc 2 1, 3) := by decide +kernel
theorem dX5_listPosts_114 : decode cX5_listPosts 114 = .ok (.goto (-100), 3) := by decide +kernel
theorem dX5_listPosts_117 : decode cX5_listPosts 117 = .ok (.return_, 1) := by decide +kernel
theorem dX5_listEdges_0 : decode cX5_listEdges 0 = .ok (.aload_n 0, 1) := by decide +kernel
theorem dX5_listEdges_1 : decode cX5_listEdges 1 = .ok (.iconst 0, 1) := by decide +kernel
theorem dX5_listEdges_2 : decode cX5_listEdges 2 = .ok (.putfield 75, 3) := by decide +kernel
theorem dX5_listEdges_5 : decode cX5_listEdges 5 = .ok (.iconst 0, 1) := by decide +kernel
theorem dX5_listEdges_6 : decode cX5_listEdges 6 = .ok (.istore_n 2, 1) := by decide +kernel
theorem dX5_listEdges_7 : decode cX5_listEdges 7 = .ok (.iload_n 2, 1) := by decide +kernel
theorem dX5_listEdges_8 : decode cX5_listEdges 8 = .ok (.aload_n 0, 1) := by decide +kernel
theorem dX5_listEdges_9 : decode cX5_listEdges 9 = .ok (.getfield 44, 3) := by decide +kernel
theorem dX5_listEdges_12 : decode cX5_listEdges 12 = .ok (.if_icmp .ge 80, 3) := by decide +kernel
theorem dX5_listEdges_15 : decode cX5_listEdges 15 = .ok (.iconst 0, 1) := by decide +kernel
theorem dX5_listEdges_16 : decode cX5_listEdges 16 = .ok (.istore_n 3, 1) := by decide +kernel
theorem dX5_listEdges_17 : decode cX5_listEdges 17 = .ok (.iload_n 3, 1) := by decide +kernel
theorem dX5_listEdges_18 : decode cX5_listEdges 18 = .ok (.iload_n 2, 1) := by decide +kernel
theorem dX5_listEdges_19 : decode cX5_listEdges 19 = .ok (.if_icmp .ge 67, 3) := by decide +kernel
theorem dX5_listEdges_22 : decode cX5_listEdges 22 = .ok (.aload_n 1, 1) := by decide +kernel
theorem dX5_listEdges_23 : decode cX5_listEdges 23 = .ok (.getfield 78, 3) := by decide +kernel
theorem dX5_listEdges_26 : decode cX5_listEdges 26 = .ok (.iload_n 2, 1) := by decide +kernel
theorem dX5_listEdges_27 : decode cX5_listEdges 27 = .ok (.aaload, 1) := by decide +kernel
theorem dX5_listEdges_28 : decode cX5_listEdges 28 = .ok (.iload_n 3, 1) := by decide +kernel
theorem dX5_listEdges_29 : decode cX5_listEdges 29 = .ok (.iaload, 1) := by decide +kernel
theorem dX5_listEdges_30 : decode cX5_listEdges 30 = .ok (.ifCond .le 50, 3) := by decide +kernel
theorem dX5_listEdges_33 : decode cX5_listEdges 33 = .ok (.aload_n 0, 1) := by decide +kernel
theorem dX5_listEdges_34 : decode cX5_listEdges 34 = .ok (.getfield 29, 3) := by decide +kernel
theorem dX5_listEdges_37 : decode cX5_listEdges 37 = .ok (.aload_n 0, 1) := by decide +kernel
theorem dX5_listEdges_38 : decode cX5_listEdges 38 = .ok (.getfield 75, 3) := by decide +kernel
theorem dX5_listEdges_41 : decode cX5_listEdges 41 = .ok (.iload_n 2, 1) := by decide +kernel
theorem dX5_listEdges_42 : decode cX5_listEdges 42 = .ok (.iastore, 1) := by decide +kernel
theorem dX5_listEdges_43 : decode cX5_listEdges 43 = .ok (.aload_n 0, 1) := by decide +kernel
theorem dX5_listEdges_44 : decode cX5_listEdges 44 = .ok (.getfield 32, 3) := by decide +kernel
theorem dX5_listEdges_47 : decode cX5_listEdges 47 = .ok (.aload_n 0, 1) := by decide +kernel
theorem dX5_listEdges_48 : decode cX5_listEdges 48 = .ok (.getfield 75, 3) := by decide +kernel
theorem dX5_listEdges_51 : decode cX5_listEdges 51 = .ok (.iload_n 3, 1) := by decide +kernel
theorem dX5_listEdges_52 : decode cX5_listEdges 52 = .ok (.iastore, 1) := by decide +kernel
theorem dX5_listEdges_53 : decode cX5_listEdges 53 = .ok (.aload_n 0, 1) := by decide +kernel
theorem dX5_listEdges_54 : decode cX5_listEdges 54 = .ok (.getfield 35, 3) := by decide +kernel
theorem dX5_listEdges_57 : decode cX5_listEdges 57 = .ok (.aload_n 0, 1) := by decide +kernel
theorem dX5_listEdges_58 : decode cX5_listEdges 58 = .ok (.getfield 75, 3) := by decide +kernel
theorem dX5_listEdges_61 : decode cX5_listEdges 61 = .ok (.aload_n 1, 1) := by decide +kernel
theorem dX5_listEdges_62 : decode cX5_listEdges 62 = .ok (.getfield 78, 3) := by decide +kernel
theorem dX5_listEdges_65 : decode cX5_listEdges 65 = .ok (.iload_n 2, 1) := by decide +kernel
theorem dX5_listEdges_66 : decode cX5_listEdges 66 = .ok (.aaload, 1) := by decide +kernel
theorem dX5_listEdges_67 : decode cX5_listEdges 67 = .ok (.iload_n 3, 1) := by decide +kernel
theorem dX5_listEdges_68 : decode cX5_listEdges 68 = .ok (.iaload, 1) := by decide +kernel
theorem dX5_listEdges_69 : decode cX5_listEdges 69 = .ok (.iastore, 1) := by decide +kernel
theorem dX5_listEdges_70 : decode cX5_listEdges 70 = .ok (.aload_n 0, 1) := by decide +kernel
theorem dX5_listEdges_71 : decode cX5_listEdges 71 = .ok (.dup, 1) := by decide +kernel
theorem dX5_listEdges_72 : decode cX5_listEdges 72 = .ok (.getfield 75, 3) := by decide +kernel
theorem dX5_listEdges_75 : decode cX5_listEdges 75 = .ok (.iconst 1, 1) := by decide +kernel
theorem dX5_listEdges_76 : decode cX5_listEdges 76 = .ok (.iadd, 1) := by decide +kernel
theorem dX5_listEdges_77 : decode cX5_listEdges 77 = .ok (.putfield 75, 3) := by decide +kernel
theorem dX5_listEdges_80 : decode cX5_listEdges 80 = .ok (.iinc 3 1, 3) := by decide +kernel
theorem dX5_listEdges_83 : decode cX5_listEdges 83 = .ok (.goto (-66), 3) := by decide +kernel
theorem dX5_listEdges_86 : decode cX5_listEdges 86 = .ok (.iinc 2 1, 3) := by decide +kernel
theorem dX5_listEdges_89 : decode cX5_listEdges 89 = .ok (.goto (-82), 3) := by decide +kernel
theorem dX5_listEdges_92 : decode cX5_listEdges 92 = .ok (.return_, 1) := by decide +kernel
theorem dX5_footingIn_0 : decode cX5_footingIn 0 = .ok (.iconst 0, 1) := by decide +kernel
theorem dX5_footingIn_1 : decode cX5_footingIn 1 = .ok (.istore 4, 2) := by decide +kernel
theorem dX5_footingIn_3 : decode cX5_footingIn 3 = .ok (.iconst 0, 1) := by decide +kernel
theorem dX5_footingIn_4 : decode cX5_footingIn 4 = .ok (.istore 5, 2) := by decide +kernel
theorem dX5_footingIn_6 : decode cX5_footingIn 6 = .ok (.iload 5, 2) := by decide +kernel
theorem dX5_footingIn_8 : decode cX5_footingIn 8 = .ok (.iconst 1, 1) := by decide +kernel
theorem dX5_footingIn_9 : decode cX5_footingIn 9 = .ok (.aload_n 0, 1) := by decide +kernel
theorem dX5_footingIn_10 : decode cX5_footingIn 10 = .ok (.getfield 69, 3) := by decide +kernel
theorem dX5_footingIn_13 : decode cX5_footingIn 13 = .ok (.ishl, 1) := by decide +kernel
theorem dX5_footingIn_14 : decode cX5_footingIn 14 = .ok (.if_icmp .ge 54, 3) := by decide +kernel
theorem dX5_footingIn_17 : decode cX5_footingIn 17 = .ok (.aload_n 1, 1) := by decide +kernel
theorem dX5_footingIn_18 : decode cX5_footingIn 18 = .ok (.getfield 81, 3) := by decide +kernel
theorem dX5_footingIn_21 : decode cX5_footingIn 21 = .ok (.iload_n 2, 1) := by decide +kernel
theorem dX5_footingIn_22 : decode cX5_footingIn 22 = .ok (.iaload, 1) := by decide +kernel
theorem dX5_footingIn_23 : decode cX5_footingIn 23 = .ok (.aload_n 0, 1) := by decide +kernel
theorem dX5_footingIn_24 : decode cX5_footingIn 24 = .ok (.getfield 15, 3) := by decide +kernel
theorem dX5_footingIn_27 : decode cX5_footingIn 27 = .ok (.iload 5, 2) := by decide +kernel
theorem dX5_footingIn_29 : decode cX5_footingIn 29 = .ok (.iaload, 1) := by decide +kernel
theorem dX5_footingIn_30 : decode cX5_footingIn 30 = .ok (.iadd, 1) := by decide +kernel
theorem dX5_footingIn_31 : decode cX5_footingIn 31 = .ok (.istore 6, 2) := by decide +kernel
theorem dX5_footingIn_33 : decode cX5_footingIn 33 = .ok (.aload_n 1, 1) := by decide +kernel
theorem dX5_footingIn_34 : decode cX5_footingIn 34 = .ok (.aload_n 1, 1) := by decide +kernel
theorem dX5_footingIn_35 : decode cX5_footingIn 35 = .ok (.getfield 84, 3) := by decide +kernel
theorem dX5_footingIn_38 : decode cX5_footingIn 38 = .ok (.iload_n 2, 1) := by decide +kernel
theorem dX5_footingIn_39 : decode cX5_footingIn 39 = .ok (.iaload, 1) := by decide +kernel
theorem dX5_footingIn_40 : decode cX5_footingIn 40 = .ok (.iload 6, 2) := by decide +kernel
theorem dX5_footingIn_42 : decode cX5_footingIn 42 = .ok (.aload_n 1, 1) := by decide +kernel
theorem dX5_footingIn_43 : decode cX5_footingIn 43 = .ok (.getfield 87, 3) := by decide +kernel
theorem dX5_footingIn_46 : decode cX5_footingIn 46 = .ok (.iload_n 3, 1) := by decide +kernel
theorem dX5_footingIn_47 : decode cX5_footingIn 47 = .ok (.invokevirtual 90, 3) := by decide +kernel
theorem dX5_footingIn_50 : decode cX5_footingIn 50 = .ok (.ifCond .eq 12, 3) := by decide +kernel
theorem dX5_footingIn_53 : decode cX5_footingIn 53 = .ok (.iload 4, 2) := by decide +kernel
theorem dX5_footingIn_55 : decode cX5_footingIn 55 = .ok (.iconst 1, 1) := by decide +kernel
theorem dX5_footingIn_56 : decode cX5_footingIn 56 = .ok (.iload 5, 2) := by decide +kernel
theorem dX5_footingIn_58 : decode cX5_footingIn 58 = .ok (.ishl, 1) := by decide +kernel
theorem dX5_footingIn_59 : decode cX5_footingIn 59 = .ok (.ior, 1) := by decide +kernel
theorem dX5_footingIn_60 : decode cX5_footingIn 60 = .ok (.istore 4, 2) := by decide +kernel
theorem dX5_footingIn_62 : decode cX5_footingIn 62 = .ok (.iinc 5 1, 3) := by decide +kernel
theorem dX5_footingIn_65 : decode cX5_footingIn 65 = .ok (.goto (-59), 3) := by decide +kernel
theorem dX5_footingIn_68 : decode cX5_footingIn 68 = .ok (.iload 4, 2) := by decide +kernel
theorem dX5_footingIn_70 : decode cX5_footingIn 70 = .ok (.ireturn, 1) := by decide +kernel
theorem dX5_soonest_0 : decode cX5_soonest 0 = .ok (.iconst 0, 1) := by decide +kernel
theorem dX5_soonest_1 : decode cX5_soonest 1 = .ok (.istore_n 2, 1) := by decide +kernel
theorem dX5_soonest_2 : decode cX5_soonest 2 = .ok (.iload_n 2, 1) := by decide +kernel
theorem dX5_soonest_3 : decode cX5_soonest 3 = .ok (.sipush 600, 3) := by decide +kernel
theorem dX5_soonest_6 : decode cX5_soonest 6 = .ok (.if_icmp .gt 33, 3) := by decide +kernel
theorem dX5_soonest_9 : decode cX5_soonest 9 = .ok (.aload_n 0, 1) := by decide +kernel
theorem dX5_soonest_10 : decode cX5_soonest 10 = .ok (.iload_n 2, 1) := by decide +kernel
theorem dX5_soonest_11 : decode cX5_soonest 11 = .ok (.invokevirtual 94, 3) := by decide +kernel
theorem dX5_soonest_14 : decode cX5_soonest 14 = .ok (.ifCond .eq 25, 3) := by decide +kernel
theorem dX5_soonest_17 : decode cX5_soonest 17 = .ok (.aload_n 0, 1) := by decide +kernel
theorem dX5_soonest_18 : decode cX5_soonest 18 = .ok (.getfield 23, 3) := by decide +kernel
theorem dX5_soonest_21 : decode cX5_soonest 21 = .ok (.iload_n 2, 1) := by decide +kernel
theorem dX5_soonest_22 : decode cX5_soonest 22 = .ok (.bipush 61, 2) := by decide +kernel
theorem dX5_soonest_24 : decode cX5_soonest 24 = .ok (.irem, 1) := by decide +kernel
theorem dX5_soonest_25 : decode cX5_soonest 25 = .ok (.aaload, 1) := by decide +kernel
theorem dX5_soonest_26 : decode cX5_soonest 26 = .ok (.iload_n 1, 1) := by decide +kernel
theorem dX5_soonest_27 : decode cX5_soonest 27 = .ok (.iaload, 1) := by decide +kernel
theorem dX5_soonest_28 : decode cX5_soonest 28 = .ok (.ifCond .eq 5, 3) := by decide +kernel
theorem dX5_soonest_31 : decode cX5_soonest 31 = .ok (.iload_n 2, 1) := by decide +kernel
theorem dX5_soonest_32 : decode cX5_soonest 32 = .ok (.ireturn, 1) := by decide +kernel
theorem dX5_soonest_33 : decode cX5_soonest 33 = .ok (.iinc 2 1, 3) := by decide +kernel
theorem dX5_soonest_36 : decode cX5_soonest 36 = .ok (.goto (-34), 3) := by decide +kernel
theorem dX5_soonest_39 : decode cX5_soonest 39 = .ok (.bipush (-4), 2) := by decide +kernel
theorem dX5_soonest_41 : decode cX5_soonest 41 = .ok (.ireturn, 1) := by decide +kernel
theorem dX5_lightest_0 : decode cX5_lightest 0 = .ok (.iconst 4, 1) := by decide +kernel
theorem dX5_lightest_1 : decode cX5_lightest 1 = .ok (.istore_n 2, 1) := by decide +kernel
theorem dX5_lightest_2 : decode cX5_lightest 2 = .ok (.iconst 0, 1) := by decide +kernel
theorem dX5_lightest_3 : decode cX5_lightest 3 = .ok (.istore_n 3, 1) := by decide +kernel
theorem dX5_lightest_4 : decode cX5_lightest 4 = .ok (.iload_n 3, 1) := by decide +kernel
theorem dX5_lightest_5 : decode cX5_lightest 5 = .ok (.sipush 600, 3) := by decide +kernel
theorem dX5_lightest_8 : decode cX5_lightest 8 = .ok (.if_icmp .gt 41, 3) := by decide +kernel
theorem dX5_lightest_11 : decode cX5_lightest 11 = .ok (.iload_n 2, 1) := by decide +kernel
theorem dX5_lightest_12 : decode cX5_lightest 12 = .ok (.ifCond .le 37, 3) := by decide +kernel
theorem dX5_lightest_15 : decode cX5_lightest 15 = .ok (.aload_n 0, 1) := by decide +kernel
theorem dX5_lightest_16 : decode cX5_lightest 16 = .ok (.iload_n 3, 1) := by decide +kernel
theorem dX5_lightest_17 : decode cX5_lightest 17 = .ok (.invokevirtual 94, 3) := by decide +kernel
theorem dX5_lightest_20 : decode cX5_lightest 20 = .ok (.ifCond .eq 29, 3) := by decide +kernel
theorem dX5_lightest_23 : decode cX5_lightest 23 = .ok (.iload_n 2, 1) := by decide +kernel
theorem dX5_lightest_24 : decode cX5_lightest 24 = .ok (.aload_n 0, 1) := by decide +kernel
theorem dX5_lightest_25 : decode cX5_lightest 25 = .ok (.aload_n 0, 1) := by decide +kernel
theorem dX5_lightest_26 : decode cX5_lightest 26 = .ok (.getfield 23, 3) := by decide +kernel
theorem dX5_lightest_29 : decode cX5_lightest 29 = .ok (.iload_n 3, 1) := by decide +kernel
theorem dX5_lightest_30 : decode cX5_lightest 30 = .ok (.bipush 61, 2) := by decide +kernel
theorem dX5_lightest_32 : decode cX5_lightest 32 = .ok (.irem, 1) := by decide +kernel
theorem dX5_lightest_33 : decode cX5_lightest 33 = .ok (.aaload, 1) := by decide +kernel
theorem dX5_lightest_34 : decode cX5_lightest 34 = .ok (.iload_n 1, 1) := by decide +kernel
theorem dX5_lightest_35 : decode cX5_lightest 35 = .ok (.iaload, 1) := by decide +kernel
theorem dX5_lightest_36 : decode cX5_lightest 36 = .ok (.invokevirtual 98, 3) := by decide +kernel
theorem dX5_lightest_39 : decode cX5_lightest 39 = .ok (.invokestatic 102, 3) := by decide +kernel
theorem dX5_lightest_42 : decode cX5_lightest 42 = .ok (.istore_n 2, 1) := by decide +kernel
theorem dX5_lightest_43 : decode cX5_lightest 43 = .ok (.iinc 3 1, 3) := by decide +kernel
theorem dX5_lightest_46 : decode cX5_lightest 46 = .ok (.goto (-42), 3) := by decide +kernel
theorem dX5_lightest_49 : decode cX5_lightest 49 = .ok (.iload_n 2, 1) := by decide +kernel
theorem dX5_lightest_50 : decode cX5_lightest 50 = .ok (.iconst 3, 1) := by decide +kernel
theorem dX5_lightest_51 : decode cX5_lightest 51 = .ok (.if_icmp .le 8, 3) := by decide +kernel
theorem dX5_lightest_54 : decode cX5_lightest 54 = .ok (.bipush (-4), 2) := by decide +kernel
theorem dX5_lightest_56 : decode cX5_lightest 56 = .ok (.goto 4, 3) := by decide +kernel
theorem dX5_lightest_59 : decode cX5_lightest 59 = .ok (.iload_n 2, 1) := by decide +kernel
theorem dX5_lightest_60 : decode cX5_lightest 60 = .ok (.ireturn, 1) := by decide +kernel
theorem dX5_fewestTaken_0 : decode cX5_fewestTaken 0 = .ok (.iconst 4, 1) := by decide +kernel
theorem dX5_fewestTaken_1 : decode cX5_fewestTaken 1 = .ok (.istore_n 2, 1) := by decide +kernel
theorem dX5_fewestTaken_2 : decode cX5_fewestTaken 2 = .ok (.iconst 0, 1) := by decide +kernel
theorem dX5_fewestTaken_3 : decode cX5_fewestTaken 3 = .ok (.istore_n 3, 1) := by decide +kernel
theorem dX5_fewestTaken_4 : decode cX5_fewestTaken 4 = .ok (.iload_n 3, 1) := by decide +kernel
theorem dX5_fewestTaken_5 : decode cX5_fewestTaken 5 = .ok (.bipush 8, 2) := by decide +kernel
theorem dX5_fewestTaken_7 : decode cX5_fewestTaken 7 = .ok (.if_icmp .ge 26, 3) := by decide +kernel
theorem dX5_fewestTaken_10 : decode cX5_fewestTaken 10 = .ok (.iload_n 1, 1) := by decide +kernel
theorem dX5_fewestTaken_11 : decode cX5_fewestTaken 11 = .ok (.iload_n 3, 1) := by decide +kernel
theorem dX5_fewestTaken_12 : decode cX5_fewestTaken 12 = .ok (.invokestatic 107, 3) := by decide +kernel
theorem dX5_fewestTaken_15 : decode cX5_fewestTaken 15 = .ok (.ifCond .eq 12, 3) := by decide +kernel
theorem dX5_fewestTaken_18 : decode cX5_fewestTaken 18 = .ok (.iload_n 2, 1) := by decide +kernel
theorem dX5_fewestTaken_19 : decode cX5_fewestTaken 19 = .ok (.iload_n 3, 1) := by decide +kernel
theorem dX5_fewestTaken_20 : decode cX5_fewestTaken 20 = .ok (.invokestatic 111, 3) := by decide +kernel
theorem dX5_fewestTaken_23 : decode cX5_fewestTaken 23 = .ok (.invokestatic 102, 3) := by decide +kernel
theorem dX5_fewestTaken_26 : decode cX5_fewestTaken 26 = .ok (.istore_n 2, 1) := by decide +kernel
theorem dX5_fewestTaken_27 : decode cX5_fewestTaken 27 = .ok (.iinc 3 1, 3) := by decide +kernel
theorem dX5_fewestTaken_30 : decode cX5_fewestTaken 30 = .ok (.goto (-26), 3) := by decide +kernel
theorem dX5_fewestTaken_33 : decode cX5_fewestTaken 33 = .ok (.iload_n 2, 1) := by decide +kernel
theorem dX5_fewestTaken_34 : decode cX5_fewestTaken 34 = .ok (.ireturn, 1) := by decide +kernel
theorem dX5_step_0 : decode cX5_step 0 = .ok (.aload_n 0, 1) := by decide +kernel
theorem dX5_step_1 : decode cX5_step 1 = .ok (.iload_n 1, 1) := by decide +kernel
theorem dX5_step_2 : decode cX5_step 2 = .ok (.invokevirtual 116, 3) := by decide +kernel
theorem dX5_step_5 : decode cX5_step 5 = .ok (.istore_n 2, 1) := by decide +kernel
theorem dX5_step_6 : decode cX5_step 6 = .ok (.aload_n 0, 1) := by decide +kernel
theorem dX5_step_7 : decode cX5_step 7 = .ok (.iload_n 1, 1) := by decide +kernel
theorem dX5_step_8 : decode cX5_step 8 = .ok (.iload_n 2, 1) := by decide +kernel
theorem dX5_step_9 : decode cX5_step 9 = .ok (.invokevirtual 119, 3) := by decide +kernel
theorem dX5_step_12 : decode cX5_step 12 = .ok (.aload_n 0, 1) := by decide +kernel
theorem dX5_step_13 : decode cX5_step 13 = .ok (.getfield 23, 3) := by decide +kernel
theorem dX5_step_16 : decode cX5_step 16 = .ok (.iload_n 1, 1) := by decide +kernel
theorem dX5_step_17 : decode cX5_step 17 = .ok (.bipush 61, 2) := by decide +kernel
theorem dX5_step_19 : decode cX5_step 19 = .ok (.irem, 1) := by decide +kernel
theorem dX5_step_20 : decode cX5_step 20 = .ok (.aaload, 1) := by decide +kernel
theorem dX5_step_21 : decode cX5_step 21 = .ok (.astore_n 3, 1) := by decide +kernel
theorem dX5_step_22 : decode cX5_step 22 = .ok (.iconst 0, 1) := by decide +kernel
theorem dX5_step_23 : decode cX5_step 23 = .ok (.istore 4, 2) := by decide +kernel
theorem dX5_step_25 : decode cX5_step 25 = .ok (.iconst 0, 1) := by decide +kernel
theorem dX5_step_26 : decode cX5_step 26 = .ok (.istore 5, 2) := by decide +kernel
theorem dX5_step_28 : decode cX5_step 28 = .ok (.iload 5, 2) := by decide +kernel
theorem dX5_step_30 : decode cX5_step 30 = .ok (.aload_n 0, 1) := by decide +kernel
theorem dX5_step_31 : decode cX5_step 31 = .ok (.getfield 44, 3) := by decide +kernel
theorem dX5_step_34 : decode cX5_step 34 = .ok (.if_icmp .ge 88, 3) := by decide +kernel
theorem dX5_step_37 : decode cX5_step 37 = .ok (.iload_n 1, 1) := by decide +kernel
theorem dX5_step_38 : decode cX5_step 38 = .ok (.ifCond .le 20, 3) := by decide +kernel
theorem dX5_step_41 : decode cX5_step 41 = .ok (.aload_n 0, 1) := by decide +kernel
theorem dX5_step_42 : decode cX5_step 42 = .ok (.getfield 23, 3) := by decide +kernel
theorem dX5_step_45 : decode cX5_step 45 = .ok (.iload_n 1, 1) := by decide +kernel
theorem dX5_step_46 : decode cX5_step 46 = .ok (.iconst 1, 1) := by decide +kernel
theorem dX5_step_47 : decode cX5_step 47 = .ok (.isub, 1) := by decide +kernel
theorem dX5_step_48 : decode cX5_step 48 = .ok (.bipush 61, 2) := by decide +kernel
theorem dX5_step_50 : decode cX5_step 50 = .ok (.irem, 1) := by decide +kernel
theorem dX5_step_51 : decode cX5_step 51 = .ok (.aaload, 1) := by decide +kernel
theorem dX5_step_52 : decode cX5_step 52 = .ok (.iload 5, 2) := by decide +kernel
theorem dX5_step_54 : decode cX5_step 54 = .ok (.iaload, 1) := by decide +kernel
theorem dX5_step_55 : decode cX5_step 55 = .ok (.goto 4, 3) := by decide +kernel
theorem dX5_step_58 : decode cX5_step 58 = .ok (.iconst 0, 1) := by decide +kernel
theorem dX5_step_59 : decode cX5_step 59 = .ok (.istore 6, 2) := by decide +kernel
theorem dX5_step_61 : decode cX5_step 61 = .ok (.aload_n 3, 1) := by decide +kernel
theorem dX5_step_62 : decode cX5_step 62 = .ok (.iload 5, 2) := by decide +kernel
theorem dX5_step_64 : decode cX5_step 64 = .ok (.iload 6, 2) := by decide +kernel
theorem dX5_step_66 : decode cX5_step 66 = .ok (.aload_n 0, 1) := by decide +kernel
theorem dX5_step_67 : decode cX5_step 67 = .ok (.getfield 26, 3) := by decide +kernel
theorem dX5_step_70 : decode cX5_step 70 = .ok (.iload 5, 2) := by decide +kernel
theorem dX5_step_72 : decode cX5_step 72 = .ok (.iaload, 1) := by decide +kernel
theorem dX5_step_73 : decode cX5_step 73 = .ok (.ior, 1) := by decide +kernel
theorem dX5_step_74 : decode cX5_step 74 = .ok (.aload_n 0, 1) := by decide +kernel
theorem dX5_step_75 : decode cX5_step 75 = .ok (.iload 5, 2) := by decide +kernel
theorem dX5_step_77 : decode cX5_step 77 = .ok (.aload_n 0, 1) := by decide +kernel
theorem dX5_step_78 : decode cX5_step 78 = .ok (.getfield 26, 3) := by decide +kernel
theorem dX5_step_81 : decode cX5_step 81 = .ok (.iload 5, 2) := by decide +kernel
theorem dX5_step_83 : decode cX5_step 83 = .ok (.iaload, 1) := by decide +kernel
theorem dX5_step_84 : decode cX5_step 84 = .ok (.invokevirtual 123, 3) := by decide +kernel
theorem dX5_step_87 : decode cX5_step 87 = .ok (.ior, 1) := by decide +kernel
theorem dX5_step_88 : decode cX5_step 88 = .ok (.aload_n 0, 1) := by decide +kernel
theorem dX5_step_89 : decode cX5_step 89 = .ok (.getfield 20, 3) := by decide +kernel
theorem dX5_step_92 : decode cX5_step 92 = .ok (.iload 5, 2) := by decide +kernel
theorem dX5_step_94 : decode cX5_step 94 = .ok (.aaload, 1) := by decide +kernel
theorem dX5_step_95 : decode cX5_step 95 = .ok (.iload_n 2, 1) := by decide +kernel
theorem dX5_step_96 : decode cX5_step 96 = .ok (.iaload, 1) := by decide +kernel
theorem dX5_step_97 : decode cX5_step 97 = .ok (.iand, 1) := by decide +kernel
theorem dX5_step_98 : decode cX5_step 98 = .ok (.iastore, 1) := by decide +kernel
theorem dX5_step_99 : decode cX5_step 99 = .ok (.iload 4, 2) := by decide +kernel
theorem dX5_step_101 : decode cX5_step 101 = .ok (.aload_n 3, 1) := by decide +kernel
theorem dX5_step_102 : decode cX5_step 102 = .ok (.iload 5, 2) := by decide +kernel
theorem dX5_step_104 : decode cX5_step 104 = .ok (.iaload, 1) := by decide +kernel
theorem dX5_step_105 : decode cX5_step 105 = .ok (.ifCond .eq 7, 3) := by decide +kernel
theorem dX5_step_108 : decode cX5_step 108 = .ok (.iconst 1, 1) := by decide +kernel
theorem dX5_step_109 : decode cX5_step 109 = .ok (.goto 4, 3) := by decide +kernel
theorem dX5_step_112 : decode cX5_step 112 = .ok (.iconst 0, 1) := by decide +kernel
theorem dX5_step_113 : decode cX5_step 113 = .ok (.ior, 1) := by decide +kernel
theorem dX5_step_114 : decode cX5_step 114 = .ok (.istore 4, 2) := by decide +kernel
theorem dX5_step_116 : decode cX5_step 116 = .ok (.iinc 5 1, 3) := by decide +kernel
theorem dX5_step_119 : decode cX5_step 119 = .ok (.goto (-91), 3) := by decide +kernel
theorem dX5_step_122 : decode cX5_step 122 = .ok (.iload 4, 2) := by decide +kernel
theorem dX5_step_124 : decode cX5_step 124 = .ok (.ireturn, 1) := by decide +kernel
theorem dX5_hourOf_0 : decode cX5_hourOf 0 = .ok (.aload_n 0, 1) := by decide +kernel
theorem dX5_hourOf_1 : decode cX5_hourOf 1 = .ok (.getfield 51, 3) := by decide +kernel
theorem dX5_hourOf_4 : decode cX5_hourOf 4 = .ok (.iload_n 1, 1) := by decide +kernel
theorem dX5_hourOf_5 : decode cX5_hourOf 5 = .ok (.iadd, 1) := by decide +kernel
theorem dX5_hourOf_6 : decode cX5_hourOf 6 = .ok (.bipush 60, 2) := by decide +kernel
theorem dX5_hourOf_8 : decode cX5_hourOf 8 = .ok (.idiv, 1) := by decide +kernel
theorem dX5_hourOf_9 : decode cX5_hourOf 9 = .ok (.bipush 24, 2) := by decide +kernel
theorem dX5_hourOf_11 : decode cX5_hourOf 11 = .ok (.irem, 1) := by decide +kernel
theorem dX5_hourOf_12 : decode cX5_hourOf 12 = .ok (.ireturn, 1) := by decide +kernel
theorem dX5_arrive_0 : decode cX5_arrive 0 = .ok (.iconst 0, 1) := by decide +kernel
theorem dX5_arrive_1 : decode cX5_arrive 1 = .ok (.istore_n 3, 1) := by decide +kernel
theorem dX5_arrive_2 : decode cX5_arrive 2 = .ok (.iload_n 3, 1) := by decide +kernel
theorem dX5_arrive_3 : decode cX5_arrive 3 = .ok (.aload_n 0, 1) := by decide +kernel
theorem dX5_arrive_4 : decode cX5_arrive 4 = .ok (.getfield 44, 3) := by decide +kernel
theorem dX5_arrive_7 : decode cX5_arrive 7 = .ok (.if_icmp .ge 16, 3) := by decide +kernel
theorem dX5_arrive_10 : decode cX5_arrive 10 = .ok (.aload_n 0, 1) := by decide +kernel
theorem dX5_arrive_11 : decode cX5_arrive 11 = .ok (.getfield 26, 3) := by decide +kernel
theorem dX5_arrive_14 : decode cX5_arrive 14 = .ok (.iload_n 3, 1) := by decide +kernel
theorem dX5_arrive_15 : decode cX5_arrive 15 = .ok (.iconst 0, 1) := by decide +kernel
theorem dX5_arrive_16 : decode cX5_arrive 16 = .ok (.iastore, 1) := by decide +kernel
theorem dX5_arrive_17 : decode cX5_arrive 17 = .ok (.iinc 3 1, 3) := by decide +kernel
theorem dX5_arrive_20 : decode cX5_arrive 20 = .ok (.goto (-18), 3) := by decide +kernel
theorem dX5_arrive_23 : decode cX5_arrive 23 = .ok (.iload_n 1, 1) := by decide +kernel
theorem dX5_arrive_24 : decode cX5_arrive 24 = .ok (.ifCond .ne 25, 3) := by decide +kernel
theorem dX5_arrive_27 : decode cX5_arrive 27 = .ok (.aload_n 0, 1) := by decide +kernel
theorem dX5_arrive_28 : decode cX5_arrive 28 = .ok (.getfield 26, 3) := by decide +kernel
theorem dX5_arrive_31 : decode cX5_arrive 31 = .ok (.aload_n 0, 1) := by decide +kernel
theorem dX5_arrive_32 : decode cX5_arrive 32 = .ok (.getfield 48, 3) := by decide +kernel
theorem dX5_arrive_35 : decode cX5_arrive 35 = .ok (.iconst 1, 1) := by decide +kernel
theorem dX5_arrive_36 : decode cX5_arrive 36 = .ok (.aload_n 0, 1) := by decide +kernel
theorem dX5_arrive_37 : decode cX5_arrive 37 = .ok (.getfield 20, 3) := by decide +kernel
theorem dX5_arrive_40 : decode cX5_arrive 40 = .ok (.aload_n 0, 1) := by decide +kernel
theorem dX5_arrive_41 : decode cX5_arrive 41 = .ok (.getfield 48, 3) := by decide +kernel
theorem dX5_arrive_44 : decode cX5_arrive 44 = .ok (.aaload, 1) := by decide +kernel
theorem dX5_arrive_45 : decode cX5_arrive 45 = .ok (.iload_n 2, 1) := by decide +kernel
theorem dX5_arrive_46 : decode cX5_arrive 46 = .ok (.iaload, 1) := by decide +kernel
theorem dX5_arrive_47 : decode cX5_arrive 47 = .ok (.iand, 1) := by decide +kernel
theorem dX5_arrive_48 : decode cX5_arrive 48 = .ok (.iastore, 1) := by decide +kernel
theorem dX5_arrive_49 : decode cX5_arrive 49 = .ok (.iconst 0, 1) := by decide +kernel
theorem dX5_arrive_50 : decode cX5_arrive 50 = .ok (.istore_n 3, 1) := by decide +kernel
theorem dX5_arrive_51 : decode cX5_arrive 51 = .ok (.iload_n 3, 1) := by decide +kernel
theorem dX5_arrive_52 : decode cX5_arrive 52 = .ok (.aload_n 0, 1) := by decide +kernel
theorem dX5_arrive_53 : decode cX5_arrive 53 = .ok (.getfield 75, 3) := by decide +kernel
theorem dX5_arrive_56 : decode cX5_arrive 56 = .ok (.if_icmp .ge 44, 3) := by decide +kernel
theorem dX5_arrive_59 : decode cX5_arrive 59 = .ok (.aload_n 0, 1) := by decide +kernel
theorem dX5_arrive_60 : decode cX5_arrive 60 = .ok (.getfield 35, 3) := by decide +kernel
theorem dX5_arrive_63 : decode cX5_arrive 63 = .ok (.iload_n 3, 1) := by decide +kernel
theorem dX5_arrive_64 : decode cX5_arrive 64 = .ok (.iaload, 1) := by decide +kernel
theorem dX5_arrive_65 : decode cX5_arrive 65 = .ok (.iload_n 1, 1) := by decide +kernel
theorem dX5_arrive_66 : decode cX5_arrive 66 = .ok (.if_icmp .gt 28, 3) := by decide +kernel
theorem dX5_arrive_69 : decode cX5_arrive 69 = .ok (.aload_n 0, 1) := by decide +kernel
theorem dX5_arrive_70 : decode cX5_arrive 70 = .ok (.aload_n 0, 1) := by decide +kernel
theorem dX5_arrive_71 : decode cX5_arrive 71 = .ok (.getfield 29, 3) := by decide +kernel
theorem dX5_arrive_74 : decode cX5_arrive 74 = .ok (.iload_n 3, 1) := by decide +kernel
theorem dX5_arrive_75 : decode cX5_arrive 75 = .ok (.iaload, 1) := by decide +kernel
theorem dX5_arrive_76 : decode cX5_arrive 76 = .ok (.aload_n 0, 1) := by decide +kernel
theorem dX5_arrive_77 : decode cX5_arrive 77 = .ok (.getfield 32, 3) := by decide +kernel
theorem dX5_arrive_80 : decode cX5_arrive 80 = .ok (.iload_n 3, 1) := by decide +kernel
theorem dX5_arrive_81 : decode cX5_arrive 81 = .ok (.iaload, 1) := by decide +kernel
theorem dX5_arrive_82 : decode cX5_arrive 82 = .ok (.iload_n 1, 1) := by decide +kernel
theorem dX5_arrive_83 : decode cX5_arrive 83 = .ok (.aload_n 0, 1) := by decide +kernel
theorem dX5_arrive_84 : decode cX5_arrive 84 = .ok (.getfield 35, 3) := by decide +kernel
theorem dX5_arrive_87 : decode cX5_arrive 87 = .ok (.iload_n 3, 1) := by decide +kernel
theorem dX5_arrive_88 : decode cX5_arrive 88 = .ok (.iaload, 1) := by decide +kernel
theorem dX5_arrive_89 : decode cX5_arrive 89 = .ok (.isub, 1) := by decide +kernel
theorem dX5_arrive_90 : decode cX5_arrive 90 = .ok (.iload_n 2, 1) := by decide +kernel
theorem dX5_arrive_91 : decode cX5_arrive 91 = .ok (.invokevirtual 126, 3) := by decide +kernel
theorem dX5_arrive_94 : decode cX5_arrive 94 = .ok (.iinc 3 1, 3) := by decide +kernel
theorem dX5_arrive_97 : decode cX5_arrive 97 = .ok (.goto (-46), 3) := by decide +kernel
theorem dX5_arrive_100 : decode cX5_arrive 100 = .ok (.return_, 1) := by decide +kernel
theorem dX5_walkAlong_0 : decode cX5_walkAlong 0 = .ok (.aload_n 0, 1) := by decide +kernel
theorem dX5_walkAlong_1 : decode cX5_walkAlong 1 = .ok (.iload_n 3, 1) := by decide +kernel
theorem dX5_walkAlong_2 : decode cX5_walkAlong 2 = .ok (.invokevirtual 116, 3) := by decide +kernel
theorem dX5_walkAlong_5 : decode cX5_walkAlong 5 = .ok (.istore 5, 2) := by decide +kernel
theorem dX5_walkAlong_7 : decode cX5_walkAlong 7 = .ok (.aload_n 0, 1) := by decide +kernel
theorem dX5_walkAlong_8 : decode cX5_walkAlong 8 = .ok (.getfield 20, 3) := by decide +kernel
theorem dX5_walkAlong_11 : decode cX5_walkAlong 11 = .ok (.iload_n 1, 1) := by decide +kernel
theorem dX5_walkAlong_12 : decode cX5_walkAlong 12 = .ok (.aaload, 1) := by decide +kernel
theorem dX5_walkAlong_13 : decode cX5_walkAlong 13 = .ok (.iload 5, 2) := by decide +kernel
theorem dX5_walkAlong_15 : decode cX5_walkAlong 15 = .ok (.iaload, 1) := by decide +kernel
theorem dX5_walkAlong_16 : decode cX5_walkAlong 16 = .ok (.aload_n 0, 1) := by decide +kernel
theorem dX5_walkAlong_17 : decode cX5_walkAlong 17 = .ok (.getfield 20, 3) := by decide +kernel
theorem dX5_walkAlong_20 : decode cX5_walkAlong 20 = .ok (.iload_n 2, 1) := by decide +kernel
theorem dX5_walkAlong_21 : decode cX5_walkAlong 21 = .ok (.aaload, 1) := by decide +kernel
theorem dX5_walkAlong_22 : decode cX5_walkAlong 22 = .ok (.iload 5, 2) := by decide +kernel
theorem dX5_walkAlong_24 : decode cX5_walkAlong 24 = .ok (.iaload, 1) := by decide +kernel
theorem dX5_walkAlong_25 : decode cX5_walkAlong 25 = .ok (.iand, 1) := by decide +kernel
theorem dX5_walkAlong_26 : decode cX5_walkAlong 26 = .ok (.aload_n 0, 1) := by decide +kernel
theorem dX5_walkAlong_27 : decode cX5_walkAlong 27 = .ok (.getfield 20, 3) := by decide +kernel
theorem dX5_walkAlong_30 : decode cX5_walkAlong 30 = .ok (.iload_n 1, 1) := by decide +kernel
theorem dX5_walkAlong_31 : decode cX5_walkAlong 31 = .ok (.aaload, 1) := by decide +kernel
theorem dX5_walkAlong_32 : decode cX5_walkAlong 32 = .ok (.iload 4, 2) := by decide +kernel
theorem dX5_walkAlong_34 : decode cX5_walkAlong 34 = .ok (.iaload, 1) := by decide +kernel
theorem dX5_walkAlong_35 : decode cX5_walkAlong 35 = .ok (.iand, 1) := by decide +kernel
theorem dX5_walkAlong_36 : decode cX5_walkAlong 36 = .ok (.aload_n 0, 1) := by decide +kernel
theorem dX5_walkAlong_37 : decode cX5_walkAlong 37 = .ok (.getfield 20, 3) := by decide +kernel
theorem dX5_walkAlong_40 : decode cX5_walkAlong 40 = .ok (.iload_n 2, 1) := by decide +kernel
theorem dX5_walkAlong_41 : decode cX5_walkAlong 41 = .ok (.aaload, 1) := by decide +kernel
theorem dX5_walkAlong_42 : decode cX5_walkAlong 42 = .ok (.iload 4, 2) := by decide +kernel
theorem dX5_walkAlong_44 : decode cX5_walkAlong 44 = .ok (.iaload, 1) := by decide +kernel
theorem dX5_walkAlong_45 : decode cX5_walkAlong 45 = .ok (.iand, 1) := by decide +kernel
theorem dX5_walkAlong_46 : decode cX5_walkAlong 46 = .ok (.istore 6, 2) := by decide +kernel
theorem dX5_walkAlong_48 : decode cX5_walkAlong 48 = .ok (.aload_n 0, 1) := by decide +kernel
theorem dX5_walkAlong_49 : decode cX5_walkAlong 49 = .ok (.getfield 23, 3) := by decide +kernel
theorem dX5_walkAlong_52 : decode cX5_walkAlong 52 = .ok (.iload_n 3, 1) := by decide +kernel
theorem dX5_walkAlong_53 : decode cX5_walkAlong 53 = .ok (.bipush 61, 2) := by decide +kernel
theorem dX5_walkAlong_55 : decode cX5_walkAlong 55 = .ok (.irem, 1) := by decide +kernel
theorem dX5_walkAlong_56 : decode cX5_walkAlong 56 = .ok (.aaload, 1) := by decide +kernel
theorem dX5_walkAlong_57 : decode cX5_walkAlong 57 = .ok (.astore 7, 2) := by decide +kernel
theorem dX5_walkAlong_59 : decode cX5_walkAlong 59 = .ok (.aload_n 0, 1) := by decide +kernel
theorem dX5_walkAlong_60 : decode cX5_walkAlong 60 = .ok (.getfield 26, 3) := by decide +kernel
theorem dX5_walkAlong_63 : decode cX5_walkAlong 63 = .ok (.iload_n 1, 1) := by decide +kernel
theorem dX5_walkAlong_64 : decode cX5_walkAlong 64 = .ok (.dup2, 1) := by decide +kernel
theorem dX5_walkAlong_65 : decode cX5_walkAlong 65 = .ok (.iaload, 1) := by decide +kernel
theorem dX5_walkAlong_66 : decode cX5_walkAlong 66 = .ok (.aload 7, 2) := by decide +kernel
theorem dX5_walkAlong_68 : decode cX5_walkAlong 68 = .ok (.iload_n 2, 1) := by decide +kernel
theorem dX5_walkAlong_69 : decode cX5_walkAlong 69 = .ok (.iaload, 1) := by decide +kernel
theorem dX5_walkAlong_70 : decode cX5_walkAlong 70 = .ok (.iload 6, 2) := by decide +kernel
theorem dX5_walkAlong_72 : decode cX5_walkAlong 72 = .ok (.iand, 1) := by decide +kernel
theorem dX5_walkAlong_73 : decode cX5_walkAlong 73 = .ok (.ior, 1) := by decide +kernel
theorem dX5_walkAlong_74 : decode cX5_walkAlong 74 = .ok (.iastore, 1) := by decide +kernel
theorem dX5_walkAlong_75 : decode cX5_walkAlong 75 = .ok (.aload_n 0, 1) := by decide +kernel
theorem dX5_walkAlong_76 : decode cX5_walkAlong 76 = .ok (.getfield 26, 3) := by decide +kernel
theorem dX5_walkAlong_79 : decode cX5_walkAlong 79 = .ok (.iload_n 2, 1) := by decide +kernel
theorem dX5_walkAlong_80 : decode cX5_walkAlong 80 = .ok (.dup2, 1) := by decide +kernel
theorem dX5_walkAlong_81 : decode cX5_walkAlong 81 = .ok (.iaload, 1) := by decide +kernel
theorem dX5_walkAlong_82 : decode cX5_walkAlong 82 = .ok (.aload 7, 2) := by decide +kernel
theorem dX5_walkAlong_84 : decode cX5_walkAlong 84 = .ok (.iload_n 1, 1) := by decide +kernel
theorem dX5_walkAlong_85 : decode cX5_walkAlong 85 = .ok (.iaload, 1) := by decide +kernel
theorem dX5_walkAlong_86 : decode cX5_walkAlong 86 = .ok (.iload 6, 2) := by decide +kernel
theorem dX5_walkAlong_88 : decode cX5_walkAlong 88 = .ok (.iand, 1) := by decide +kernel
theorem dX5_walkAlong_89 : decode cX5_walkAlong 89 = .ok (.ior, 1) := by decide +kernel
theorem dX5_walkAlong_90 : decode cX5_walkAlong 90 = .ok (.iastore, 1) := by decide +kernel
theorem dX5_walkAlong_91 : decode cX5_walkAlong 91 = .ok (.return_, 1) := by decide +kernel
theorem dX5_withSplice_0 : decode cX5_withSplice 0 = .ok (.aload_n 0, 1) := by decide +kernel
theorem dX5_withSplice_1 : decode cX5_withSplice 1 = .ok (.getfield 9, 3) := by decide +kernel
theorem dX5_withSplice_4 : decode cX5_withSplice 4 = .ok (.iload_n 1, 1) := by decide +kernel
theorem dX5_withSplice_5 : decode cX5_withSplice 5 = .ok (.iaload, 1) := by decide +kernel
theorem dX5_withSplice_6 : decode cX5_withSplice 6 = .ok (.istore_n 3, 1) := by decide +kernel
theorem dX5_withSplice_7 : decode cX5_withSplice 7 = .ok (.iload_n 3, 1) := by decide +kernel
theorem dX5_withSplice_8 : decode cX5_withSplice 8 = .ok (.iconst 0, 1) := by decide +kernel
theorem dX5_withSplice_9 : decode cX5_withSplice 9 = .ok (.iconst 2, 1) := by decide +kernel
theorem dX5_withSplice_10 : decode cX5_withSplice 10 = .ok (.invokestatic 130, 3) := by decide +kernel
theorem dX5_withSplice_13 : decode cX5_withSplice 13 = .ok (.ifCond .ne 5, 3) := by decide +kernel
theorem dX5_withSplice_16 : decode cX5_withSplice 16 = .ok (.iconst 0, 1) := by decide +kernel
theorem dX5_withSplice_17 : decode cX5_withSplice 17 = .ok (.ireturn, 1) := by decide +kernel
theorem dX5_withSplice_18 : decode cX5_withSplice 18 = .ok (.iload_n 2, 1) := by decide +kernel
theorem dX5_withSplice_19 : decode cX5_withSplice 19 = .ok (.getstatic 134, 3) := by decide +kernel
theorem dX5_withSplice_22 : decode cX5_withSplice 22 = .ok (.iload_n 3, 1) := by decide +kernel
theorem dX5_withSplice_23 : decode cX5_withSplice 23 = .ok (.iaload, 1) := by decide +kernel
theorem dX5_withSplice_24 : decode cX5_withSplice 24 = .ok (.iand, 1) := by decide +kernel
theorem dX5_withSplice_25 : decode cX5_withSplice 25 = .ok (.iconst 1, 1) := by decide +kernel
theorem dX5_withSplice_26 : decode cX5_withSplice 26 = .ok (.iload_n 3, 1) := by decide +kernel
theorem dX5_withSplice_27 : decode cX5_withSplice 27 = .ok (.ishl, 1) := by decide +kernel
theorem dX5_withSplice_28 : decode cX5_withSplice 28 = .ok (.ishl, 1) := by decide +kernel
theorem dX5_withSplice_29 : decode cX5_withSplice 29 = .ok (.ireturn, 1) := by decide +kernel
theorem dX6_init_0 : decode cX6_init 0 = .ok (.aload_n 0, 1) := by decide +kernel
theorem dX6_init_1 : decode cX6_init 1 = .ok (.invokespecial 1, 3) := by decide +kernel
theorem dX6_init_4 : decode cX6_init 4 = .ok (.aload_n 0, 1) := by decide +kernel
theorem dX6_init_5 : decode cX6_init 5 = .ok (.new 7, 3) := by decide +kernel
theorem dX6_init_8 : decode cX6_init 8 = .ok (.dup, 1) := by decide +kernel
theorem dX6_init_9 : decode cX6_init 9 = .ok (.invokespecial 9, 3) := by decide +kernel
theorem dX6_init_12 : decode cX6_init 12 = .ok (.putfield 10, 3) := by decide +kernel
theorem dX6_init_15 : decode cX6_init 15 = .ok (.aload_n 0, 1) := by decide +kernel
theorem dX6_init_16 : decode cX6_init 16 = .ok (.new 7, 3) := by decide +kernel
theorem dX6_init_19 : decode cX6_init 19 = .ok (.dup, 1) := by decide +kernel
theorem dX6_init_20 : decode cX6_init 20 = .ok (.invokespecial 9, 3) := by decide +kernel
theorem dX6_init_23 : decode cX6_init 23 = .ok (.putfield 16, 3) := by decide +kernel
theorem dX6_init_26 : decode cX6_init 26 = .ok (.aload_n 0, 1) := by decide +kernel
theorem dX6_init_27 : decode cX6_init 27 = .ok (.new 19, 3) := by decide +kernel
theorem dX6_init_30 : decode cX6_init 30 = .ok (.dup, 1) := by decide +kernel
theorem dX6_init_31 : decode cX6_init 31 = .ok (.invokespecial 21, 3) := by decide +kernel
theorem dX6_init_34 : decode cX6_init 34 = .ok (.putfield 22, 3) := by decide +kernel
theorem dX6_init_37 : decode cX6_init 37 = .ok (.aload_n 0, 1) := by decide +kernel
theorem dX6_init_38 : decode cX6_init 38 = .ok (.new 26, 3) := by decide +kernel
theorem dX6_init_41 : decode cX6_init 41 = .ok (.dup, 1) := by decide +kernel
theorem dX6_init_42 : decode cX6_init 42 = .ok (.invokespecial 28, 3) := by decide +kernel
theorem dX6_init_45 : decode cX6_init 45 = .ok (.putfield 29, 3) := by decide +kernel
theorem dX6_init_48 : decode cX6_init 48 = .ok (.aload_n 0, 1) := by decide +kernel
theorem dX6_init_49 : decode cX6_init 49 = .ok (.new 33, 3) := by decide +kernel
theorem dX6_init_52 : decode cX6_init 52 = .ok (.dup, 1) := by decide +kernel
theorem dX6_init_53 : decode cX6_init 53 = .ok (.invokespecial 35, 3) := by decide +kernel
theorem dX6_init_56 : decode cX6_init 56 = .ok (.putfield 36, 3) := by decide +kernel
theorem dX6_init_59 : decode cX6_init 59 = .ok (.aload_n 0, 1) := by decide +kernel
theorem dX6_init_60 : decode cX6_init 60 = .ok (.new 40, 3) := by decide +kernel
theorem dX6_init_63 : decode cX6_init 63 = .ok (.dup, 1) := by decide +kernel
theorem dX6_init_64 : decode cX6_init 64 = .ok (.invokespecial 42, 3) := by decide +kernel
theorem dX6_init_67 : decode cX6_init 67 = .ok (.putfield 43, 3) := by decide +kernel
theorem dX6_init_70 : decode cX6_init 70 = .ok (.aload_n 0, 1) := by decide +kernel
theorem dX6_init_71 : decode cX6_init 71 = .ok (.iconst 4, 1) := by decide +kernel
theorem dX6_init_72 : decode cX6_init 72 = .ok (.anewarray 47, 3) := by decide +kernel
theorem dX6_init_75 : decode cX6_init 75 = .ok (.putfield 49, 3) := by decide +kernel
theorem dX6_init_78 : decode cX6_init 78 = .ok (.iconst 0, 1) := by decide +kernel
theorem dX6_init_79 : decode cX6_init 79 = .ok (.istore_n 1, 1) := by decide +kernel
theorem dX6_init_80 : decode cX6_init 80 = .ok (.iload_n 1, 1) := by decide +kernel
theorem dX6_init_81 : decode cX6_init 81 = .ok (.iconst 4, 1) := by decide +kernel
theorem dX6_init_82 : decode cX6_init 82 = .ok (.if_icmp .ge 22, 3) := by decide +kernel
theorem dX6_init_85 : decode cX6_init 85 = .ok (.aload_n 0, 1) := by decide +kernel
theorem dX6_init_86 : decode cX6_init 86 = .ok (.getfield 49, 3) := by decide +kernel
theorem dX6_init_89 : decode cX6_init 89 = .ok (.iload_n 1, 1) := by decide +kernel
theorem dX6_init_90 : decode cX6_init 90 = .ok (.new 47, 3) := by decide +kernel
theorem dX6_init_93 : decode cX6_init 93 = .ok (.dup, 1) := by decide +kernel
theorem dX6_init_94 : decode cX6_init 94 = .ok (.invokespecial 53, 3) := by decide +kernel
theorem dX6_init_97 : decode cX6_init 97 = .ok (.aastore, 1) := by decide +kernel
theorem dX6_init_98 : decode cX6_init 98 = .ok (.iinc 1 1, 3) := by decide +kernel
theorem dX6_init_101 : decode cX6_init 101 = .ok (.goto (-21), 3) := by decide +kernel
theorem dX6_init_104 : decode cX6_init 104 = .ok (.return_, 1) := by decide +kernel
theorem dX6_place_0 : decode cX6_place 0 = .ok (.iload_n 1, 1) := by decide +kernel
theorem dX6_place_1 : decode cX6_place 1 = .ok (.bipush (-20), 2) := by decide +kernel
theorem dX6_place_3 : decode cX6_place 3 = .ok (.bipush 60, 2) := by decide +kernel
theorem dX6_place_5 : decode cX6_place 5 = .ok (.invokestatic 54, 3) := by decide +kernel
theorem dX6_place_8 : decode cX6_place 8 = .ok (.ifCond .ne 5, 3) := by decide +kernel
theorem dX6_place_11 : decode cX6_place 11 = .ok (.iconst (-1), 1) := by decide +kernel
theorem dX6_place_12 : decode cX6_place 12 = .ok (.ireturn, 1) := by decide +kernel
theorem dX6_place_13 : decode cX6_place 13 = .ok (.aload_n 0, 1) := by decide +kernel
theorem dX6_place_14 : decode cX6_place 14 = .ok (.getfield 10, 3) := by decide +kernel
theorem dX6_place_17 : decode cX6_place 17 = .ok (.getfield 58, 3) := by decide +kernel
theorem dX6_place_20 : decode cX6_place 20 = .ok (.bipush 12, 2) := by decide +kernel
theorem dX6_place_22 : decode cX6_place 22 = .ok (.if_icmp .lt 6, 3) := by decide +kernel
theorem dX6_place_25 : decode cX6_place 25 = .ok (.bipush (-3), 2) := by decide +kernel
theorem dX6_place_27 : decode cX6_place 27 = .ok (.ireturn, 1) := by decide +kernel
theorem dX6_place_28 : decode cX6_place 28 = .ok (.aload_n 0, 1) := by decide +kernel
theorem dX6_place_29 : decode cX6_place 29 = .ok (.getfield 10, 3) := by decide +kernel
theorem dX6_place_32 : decode cX6_place 32 = .ok (.iload_n 1, 1) := by decide +kernel
theorem dX6_place_33 : decode cX6_place 33 = .ok (.iconst 0, 1) := by decide +kernel
theorem dX6_place_34 : decode cX6_place 34 = .ok (.invokevirtual 62, 3) := by decide +kernel
theorem dX6_place_37 : decode cX6_place 37 = .ok (.ireturn, 1) := by decide +kernel
theorem dX6_make_0 : decode cX6_make 0 = .ok (.aload_n 0, 1) := by decide +kernel
theorem dX6_make_1 : decode cX6_make 1 = .ok (.getfield 10, 3) := by decide +kernel
theorem dX6_make_4 : decode cX6_make 4 = .ok (.iload_n 1, 1) := by decide +kernel
theorem dX6_make_5 : decode cX6_make 5 = .ok (.invokevirtual 66, 3) := by decide +kernel
theorem dX6_make_8 : decode cX6_make 8 = .ok (.ifCond .ne 6, 3) := by decide +kernel
theorem dX6_make_11 : decode cX6_make 11 = .ok (.ldc 70, 2) := by decide +kernel
theorem dX6_make_13 : decode cX6_make 13 = .ok (.ireturn, 1) := by decide +kernel
theorem dX6_make_14 : decode cX6_make 14 = .ok (.iload_n 2, 1) := by decide +kernel
theorem dX6_make_15 : decode cX6_make 15 = .ok (.tableswitch 89 0 2 #[25, 54, 61], 25) := by decide +kernel
theorem dX6_make_40 : decode cX6_make 40 = .ok (.iload_n 3, 1) := by decide +kernel
theorem dX6_make_41 : decode cX6_make 41 = .ok (.bipush (-20), 2) := by decide +kernel
theorem dX6_make_43 : decode cX6_make 43 = .ok (.bipush 60, 2) := by decide +kernel
theorem dX6_make_45 : decode cX6_make 45 = .ok (.invokestatic 54, 3) := by decide +kernel
theorem dX6_make_48 : decode cX6_make 48 = .ok (.ifCond .eq 18, 3) := by decide +kernel
theorem dX6_make_51 : decode cX6_make 51 = .ok (.aload_n 0, 1) := by decide +kernel
theorem dX6_make_52 : decode cX6_make 52 = .ok (.getfield 10, 3) := by decide +kernel
theorem dX6_make_55 : decode cX6_make 55 = .ok (.getfield 71, 3) := by decide +kernel
theorem dX6_make_58 : decode cX6_make 58 = .ok (.iload_n 1, 1) := by decide +kernel
theorem dX6_make_59 : decode cX6_make 59 = .ok (.iload_n 3, 1) := by decide +kernel
theorem dX6_make_60 : decode cX6_make 60 = .ok (.invokestatic 75, 3) := by decide +kernel
theorem dX6_make_63 : decode cX6_make 63 = .ok (.goto 5, 3) := by decide +kernel
theorem dX6_make_66 : decode cX6_make 66 = .ok (.ldc 70, 2) := by decide +kernel
theorem dX6_make_68 : decode cX6_make 68 = .ok (.ireturn, 1) := by decide +kernel
theorem dX6_make_69 : decode cX6_make 69 = .ok (.aload_n 0, 1) := by decide +kernel
theorem dX6_make_70 : decode cX6_make 70 = .ok (.iload_n 1, 1) := by decide +kernel
theorem dX6_make_71 : decode cX6_make 71 = .ok (.iload_n 3, 1) := by decide +kernel
theorem dX6_make_72 : decode cX6_make 72 = .ok (.invokevirtual 79, 3) := by decide +kernel
theorem dX6_make_75 : decode cX6_make 75 = .ok (.ireturn, 1) := by decide +kernel
theorem dX6_make_76 : decode cX6_make 76 = .ok (.iload_n 3, 1) := by decide +kernel
theorem dX6_make_77 : decode cX6_make 77 = .ok (.bipush (-5), 2) := by decide +kernel
theorem dX6_make_79 : decode cX6_make 79 = .ok (.iconst 5, 1) := by decide +kernel
theorem dX6_make_80 : decode cX6_make 80 = .ok (.invokestatic 54, 3) := by decide +kernel
theorem dX6_make_83 : decode cX6_make 83 = .ok (.ifCond .eq 18, 3) := by decide +kernel
theorem dX6_make_86 : decode cX6_make 86 = .ok (.aload_n 0, 1) := by decide +kernel
theorem dX6_make_87 : decode cX6_make 87 = .ok (.getfield 10, 3) := by decide +kernel
theorem dX6_make_90 : decode cX6_make 90 = .ok (.getfield 82, 3) := by decide +kernel
theorem dX6_make_93 : decode cX6_make 93 = .ok (.iload_n 1, 1) := by decide +kernel
theorem dX6_make_94 : decode cX6_make 94 = .ok (.iload_n 3, 1) := by decide +kernel
theorem dX6_make_95 : decode cX6_make 95 = .ok (.invokestatic 75, 3) := by decide +kernel
theorem dX6_make_98 : decode cX6_make 98 = .ok (.goto 5, 3) := by decide +kernel
theorem dX6_make_101 : decode cX6_make 101 = .ok (.ldc 70, 2) := by decide +kernel
theorem dX6_make_103 : decode cX6_make 103 = .ok (.ireturn, 1) := by decide +kernel
theorem dX6_make_104 : decode cX6_make 104 = .ok (.ldc 70, 2) := by decide +kernel
theorem dX6_make_106 : decode cX6_make 106 = .ok (.ireturn, 1) := by decide +kernel
theorem dX6_makeSplices_0 : decode cX6_makeSplices 0 = .ok (.iload_n 2, 1) := by decide +kernel
theorem dX6_makeSplices_1 : decode cX6_makeSplices 1 = .ok (.iconst 0, 1) := by decide +kernel
theorem dX6_makeSplices_2 : decode cX6_makeSplices 2 = .ok (.bipush 20, 2) := by decide +kernel
theorem dX6_makeSplices_4 : decode cX6_makeSplices 4 = .ok (.invokestatic 54, 3) := by decide +kernel
theorem dX6_makeSplices_7 : decode cX6_makeSplices 7 = .ok (.ifCond .ne 6, 3) := by decide +kernel
theorem dX6_makeSplices_10 : decode cX6_makeSplices 10 = .ok (.ldc 70, 2) := by decide +kernel
theorem dX6_makeSplices_12 : decode cX6_makeSplices 12 = .ok (.ireturn, 1) := by decide +kernel
theorem dX6_makeSplices_13 : decode cX6_makeSplices 13 = .ok (.iload_n 2, 1) := by decide +kernel
theorem dX6_makeSplices_14 : decode cX6_makeSplices 14 = .ok (.ifCond .le 18, 3) := by decide +kernel
theorem dX6_makeSplices_17 : decode cX6_makeSplices 17 = .ok (.aload_n 0, 1) := by decide +kernel
theorem dX6_makeSplices_18 : decode cX6_makeSplices 18 = .ok (.getfield 10, 3) := by decide +kernel
theorem dX6_makeSplices_21 : decode cX6_makeSplices 21 = .ok (.iload_n 1, 1) := by decide +kernel
theorem dX6_makeSplices_22 : decode cX6_makeSplices 22 = .ok (.invokevirtual 85, 3) := by decide +kernel
theorem dX6_makeSplices_25 : decode cX6_makeSplices 25 = .ok (.iconst 3, 1) := by decide +kernel
theorem dX6_makeSplices_26 : decode cX6_makeSplices 26 = .ok (.if_icmp .lt 6, 3) := by decide +kernel
theorem dX6_makeSplices_29 : decode cX6_makeSplices 29 = .ok (.ldc 89, 2) := by decide +kernel
theorem dX6_makeSplices_31 : decode cX6_makeSplices 31 = .ok (.ireturn, 1) := by decide +kernel
theorem dX6_makeSplices_32 : decode cX6_makeSplices 32 = .ok (.aload_n 0, 1) := by decide +kernel
theorem dX6_makeSplices_33 : decode cX6_makeSplices 33 = .ok (.getfield 10, 3) := by decide +kernel
theorem dX6_makeSplices_36 : decode cX6_makeSplices 36 = .ok (.getfield 90, 3) := by decide +kernel
theorem dX6_makeSplices_39 : decode cX6_makeSplices 39 = .ok (.iload_n 1, 1) := by decide +kernel
theorem dX6_makeSplices_40 : decode cX6_makeSplices 40 = .ok (.iload_n 2, 1) := by decide +kernel
theorem dX6_makeSplices_41 : decode cX6_makeSplices 41 = .ok (.invokestatic 75, 3) := by decide +kernel
theorem dX6_makeSplices_44 : decode cX6_makeSplices 44 = .ok (.ireturn, 1) := by decide +kernel
theorem dX6_path_0 : decode cX6_path 0 = .ok (.aload_n 0, 1) := by decide +kernel
theorem dX6_path_1 : decode cX6_path 1 = .ok (.getfield 10, 3) := by decide +kernel
theorem dX6_path_4 : decode cX6_path 4 = .ok (.iload_n 1, 1) := by decide +kernel
theorem dX6_path_5 : decode cX6_path 5 = .ok (.invokevirtual 66, 3) := by decide +kernel
theorem dX6_path_8 : decode cX6_path 8 = .ok (.ifCond .eq 29, 3) := by decide +kernel
theorem dX6_path_11 : decode cX6_path 11 = .ok (.aload_n 0, 1) := by decide +kernel
theorem dX6_path_12 : decode cX6_path 12 = .ok (.getfield 10, 3) := by decide +kernel
theorem dX6_path_15 : decode cX6_path 15 = .ok (.iload_n 2, 1) := by decide +kernel
theorem dX6_path_16 : decode cX6_path 16 = .ok (.invokevirtual 66, 3) := by decide +kernel
theorem dX6_path_19 : decode cX6_path 19 = .ok (.ifCond .eq 18, 3) := by decide +kernel
theorem dX6_path_22 : decode cX6_path 22 = .ok (.iload_n 1, 1) := by decide +kernel
theorem dX6_path_23 : decode cX6_path 23 = .ok (.iload_n 2, 1) := by decide +kernel
theorem dX6_path_24 : decode cX6_path 24 = .ok (.if_icmp .eq 13, 3) := by decide +kernel
theorem dX6_path_27 : decode cX6_path 27 = .ok (.iload_n 3, 1) := by decide +kernel
theorem dX6_path_28 : decode cX6_path 28 = .ok (.iconst 0, 1) := by decide +kernel
theorem dX6_path_29 : decode cX6_path 29 = .ok (.bipush 60, 2) := by decide +kernel
theorem dX6_path_31 : decode cX6_path 31 = .ok (.invokestatic 54, 3) := by decide +kernel
theorem dX6_path_34 : decode cX6_path 34 = .ok (.ifCond .ne 5, 3) := by decide +kernel
theorem dX6_path_37 : decode cX6_path 37 = .ok (.iconst (-1), 1) := by decide +kernel
theorem dX6_path_38 : decode cX6_path 38 = .ok (.ireturn, 1) := by decide +kernel
theorem dX6_path_39 : decode cX6_path 39 = .ok (.aload_n 0, 1) := by decide +kernel
theorem dX6_path_40 : decode cX6_path 40 = .ok (.getfield 10, 3) := by decide +kernel
theorem dX6_path_43 : decode cX6_path 43 = .ok (.getfield 93, 3) := by decide +kernel
theorem dX6_path_46 : decode cX6_path 46 = .ok (.iload_n 1, 1) := by decide +kernel
theorem dX6_path_47 : decode cX6_path 47 = .ok (.aaload, 1) := by decide +kernel
theorem dX6_path_48 : decode cX6_path 48 = .ok (.iload_n 2, 1) := by decide +kernel
theorem dX6_path_49 : decode cX6_path 49 = .ok (.iaload, 1) := by decide +kernel
theorem dX6_path_50 : decode cX6_path 50 = .ok (.istore 4, 2) := by decide +kernel
theorem dX6_path_52 : decode cX6_path 52 = .ok (.aload_n 0, 1) := by decide +kernel
theorem dX6_path_53 : decode cX6_path 53 = .ok (.getfield 10, 3) := by decide +kernel
theorem dX6_path_56 : decode cX6_path 56 = .ok (.iload_n 1, 1) := by decide +kernel
theorem dX6_path_57 : decode cX6_path 57 = .ok (.iload_n 2, 1) := by decide +kernel
theorem dX6_path_58 : decode cX6_path 58 = .ok (.iload_n 3, 1) := by decide +kernel
theorem dX6_path_59 : decode cX6_path 59 = .ok (.invokevirtual 97, 3) := by decide +kernel
theorem dX6_path_62 : decode cX6_path 62 = .ok (.iload 4, 2) := by decide +kernel
theorem dX6_path_64 : decode cX6_path 64 = .ok (.ireturn, 1) := by decide +kernel
theorem dX6_tide_0 : decode cX6_tide 0 = .ok (.iload_n 1, 1) := by decide +kernel
theorem dX6_tide_1 : decode cX6_tide 1 = .ok (.invokestatic 101, 3) := by decide +kernel
theorem dX6_tide_4 : decode cX6_tide 4 = .ok (.ifCond .eq 14, 3) := by decide +kernel
theorem dX6_tide_7 : decode cX6_tide 7 = .ok (.iload_n 2, 1) := by decide +kernel
theorem dX6_tide_8 : decode cX6_tide 8 = .ok (.bipush (-20), 2) := by decide +kernel
theorem dX6_tide_10 : decode cX6_tide 10 = .ok (.bipush 20, 2) := by decide +kernel
theorem dX6_tide_12 : decode cX6_tide 12 = .ok (.invokestatic 54, 3) := by decide +kernel
theorem dX6_tide_15 : decode cX6_tide 15 = .ok (.ifCond .ne 6, 3) := by decide +kernel
theorem dX6_tide_18 : decode cX6_tide 18 = .ok (.ldc 70, 2) := by decide +kernel
theorem dX6_tide_20 : decode cX6_tide 20 = .ok (.ireturn, 1) := by decide +kernel
theorem dX6_tide_21 : decode cX6_tide 21 = .ok (.aload_n 0, 1) := by decide +kernel
theorem dX6_tide_22 : decode cX6_tide 22 = .ok (.getfield 10, 3) := by decide +kernel
theorem dX6_tide_25 : decode cX6_tide 25 = .ok (.getfield 104, 3) := by decide +kernel
theorem dX6_tide_28 : decode cX6_tide 28 = .ok (.iload_n 1, 1) := by decide +kernel
theorem dX6_tide_29 : decode cX6_tide 29 = .ok (.iload_n 2, 1) := by decide +kernel
theorem dX6_tide_30 : decode cX6_tide 30 = .ok (.invokestatic 75, 3) := by decide +kernel
theorem dX6_tide_33 : decode cX6_tide 33 = .ok (.ireturn, 1) := by decide +kernel
theorem dX6_set_0 : decode cX6_set 0 = .ok (.iload_n 1, 1) := by decide +kernel
theorem dX6_set_1 : decode cX6_set 1 = .ok (.ifCond .ne 31, 3) := by decide +kernel
theorem dX6_set_4 : decode cX6_set 4 = .ok (.iload_n 2, 1) := by decide +kernel
theorem dX6_set_5 : decode cX6_set 5 = .ok (.iconst 0, 1) := by decide +kernel
theorem dX6_set_6 : decode cX6_set 6 = .ok (.bipush 40, 2) := by decide +kernel
theorem dX6_set_8 : decode cX6_set 8 = .ok (.invokestatic 54, 3) := by decide +kernel
theorem dX6_set_11 : decode cX6_set 11 = .ok (.ifCond .eq 21, 3) := by decide +kernel
theorem dX6_set_14 : decode cX6_set 14 = .ok (.aload_n 0, 1) := by decide +kernel
theorem dX6_set_15 : decode cX6_set 15 = .ok (.getfield 10, 3) := by decide +kernel
theorem dX6_set_18 : decode cX6_set 18 = .ok (.getfield 107, 3) := by decide +kernel
theorem dX6_set_21 : decode cX6_set 21 = .ok (.istore_n 3, 1) := by decide +kernel
theorem dX6_set_22 : decode cX6_set 22 = .ok (.aload_n 0, 1) := by decide +kernel
theorem dX6_set_23 : decode cX6_set 23 = .ok (.getfield 10, 3) := by decide +kernel
theorem dX6_set_26 : decode cX6_set 26 = .ok (.iload_n 2, 1) := by decide +kernel
theorem dX6_set_27 : decode cX6_set 27 = .ok (.putfield 107, 3) := by decide +kernel
theorem dX6_set_30 : decode cX6_set 30 = .ok (.iload_n 3, 1) := by decide +kernel
theorem dX6_set_31 : decode cX6_set 31 = .ok (.ireturn, 1) := by decide +kernel
theorem dX6_set_32 : decode cX6_set 32 = .ok (.iload_n 1, 1) := by decide +kernel
theorem dX6_set_33 : decode cX6_set 33 = .ok (.iconst 1, 1) := by decide +kernel
theorem dX6_set_34 : decode cX6_set 34 = .ok (.if_icmp .ne 31, 3) := by decide +kernel
theorem dX6_set_37 : decode cX6_set 37 = .ok (.iload_n 2, 1) := by decide +kernel
theorem dX6_set_38 : decode cX6_set 38 = .ok (.iconst 0, 1) := by decide +kernel
theorem dX6_set_39 : decode cX6_set 39 = .ok (.bipush 60, 2) := by decide +kernel
theorem dX6_set_41 : decode cX6_set 41 = .ok (.invokestatic 54, 3) := by decide +kernel
theorem dX6_set_44 : decode cX6_set 44 = .ok (.ifCond .eq 21, 3) := by decide +kernel
theorem dX6_set_47 : decode cX6_set 47 = .ok (.aload_n 0, 1) := by decide +kernel
theorem dX6_set_48 : decode cX6_set 48 = .ok (.getfield 10, 3) := by decide +kernel
theorem dX6_set_51 : decode cX6_set 51 = .ok (.getfield 110, 3) := by decide +kernel
theorem dX6_set_54 : decode cX6_set 54 = .ok (.istore_n 3, 1) := by decide +kernel
theorem dX6_set_55 : decode cX6_set 55 = .ok (.aload_n 0, 1) := by decide +kernel
theorem dX6_set_56 : decode cX6_set 56 = .ok (.getfield 10, 3) := by decide +kernel
theorem dX6_set_59 : decode cX6_set 59 = .ok (.iload_n 2, 1) := by decide +kernel
theorem dX6_set_60 : decode cX6_set 60 = .ok (.putfield 110, 3) := by decide +kernel
theorem dX6_set_63 : decode cX6_set 63 = .ok (.iload_n 3, 1) := by decide +kernel
theorem dX6_set_64 : decode cX6_set 64 = .ok (.ireturn, 1) := by decide +kernel
theorem dX6_set_65 : decode cX6_set 65 = .ok (.iconst (-1), 1) := by decide +kernel
theorem dX6_set_66 : decode cX6_set 66 = .ok (.ireturn, 1) := by decide +kernel
theorem dX6_person_0 : decode cX6_person 0 = .ok (.iload_n 1, 1) := by decide +kernel
theorem dX6_person_1 : decode cX6_person 1 = .ok (.iconst 0, 1) := by decide +kernel
theorem dX6_person_2 : decode cX6_person 2 = .ok (.iconst 3, 1) := by decide +kernel
theorem dX6_person_3 : decode cX6_person 3 = .ok (.invokestatic 54, 3) := by decide +kernel
theorem dX6_person_6 : decode cX6_person 6 = .ok (.ifCond .eq 24, 3) := by decide +kernel
theorem dX6_person_9 : decode cX6_person 9 = .ok (.iload_n 2, 1) := by decide +kernel
theorem dX6_person_10 : decode cX6_person 10 = .ok (.iconst 0, 1) := by decide +kernel
theorem dX6_person_11 : decode cX6_person 11 = .ok (.bipush 60, 2) := by decide +kernel
theorem dX6_person_13 : decode cX6_person 13 = .ok (.invokestatic 54, 3) := by decide +kernel
theorem dX6_person_16 : decode cX6_person 16 = .ok (.ifCond .eq 14, 3) := by decide +kernel
theorem dX6_person_19 : decode cX6_person 19 = .ok (.aload_n 0, 1) := by decide +kernel
theorem dX6_person_20 : decode cX6_person 20 = .ok (.getfield 10, 3) := by decide +kernel
theorem dX6_person_23 : decode cX6_person 23 = .ok (.iload_n 3, 1) := by decide +kernel
theorem dX6_person_24 : decode cX6_person 24 = .ok (.invokevirtual 66, 3) := by decide +kernel
theorem dX6_person_27 : decode cX6_person 27 = .ok (.ifCond .ne 5, 3) := by decide +kernel
theorem dX6_person_30 : decode cX6_person 30 = .ok (.iconst (-1), 1) := by decide +kernel
theorem dX6_person_31 : decode cX6_person 31 = .ok (.ireturn, 1) := by decide +kernel
theorem dX6_person_32 : decode cX6_person 32 = .ok (.aload_n 0, 1) := by decide +kernel
theorem dX6_person_33 : decode cX6_person 33 = .ok (.getfield 10, 3) := by decide +kernel
theorem dX6_person_36 : decode cX6_person 36 = .ok (.getfield 113, 3) := by decide +kernel
theorem dX6_person_39 : decode cX6_person 39 = .ok (.bipush 8, 2) := by decide +kernel
theorem dX6_person_41 : decode cX6_person 41 = .ok (.if_icmp .lt 6, 3) := by decide +kernel
theorem dX6_person_44 : decode cX6_person 44 = .ok (.bipush (-3), 2) := by decide +kernel
theorem dX6_person_46 : decode cX6_person 46 = .ok (.ireturn, 1) := by decide +kernel
theorem dX6_person_47 : decode cX6_person 47 = .ok (.aload_n 0, 1) := by decide +kernel
theorem dX6_person_48 : decode cX6_person 48 = .ok (.getfield 10, 3) := by decide +kernel
theorem dX6_person_51 : decode cX6_person 51 = .ok (.iload_n 1, 1) := by decide +kernel
theorem dX6_person_52 : decode cX6_person 52 = .ok (.iload_n 2, 1) := by decide +kernel
theorem dX6_person_53 : decode cX6_person 53 = .ok (.iload_n 3, 1) := by decide +kernel
theorem dX6_person_54 : decode cX6_person 54 = .ok (.invokevirtual 116, 3) := by decide +kernel
theorem dX6_person_57 : decode cX6_person 57 = .ok (.ireturn, 1) := by decide +kernel
theorem dX6_of_0 : decode cX6_of 0 = .ok (.aload_n 0, 1) := by decide +kernel
theorem dX6_of_1 : decode cX6_of 1 = .ok (.getfield 10, 3) := by decide +kernel
theorem dX6_of_4 : decode cX6_of 4 = .ok (.iload_n 1, 1) := by decide +kernel
theorem dX6_of_5 : decode cX6_of 5 = .ok (.invokevirtual 120, 3) := by decide +kernel
theorem dX6_of_8 : decode cX6_of 8 = .ok (.ifCond .ne 5, 3) := by decide +kernel
theorem dX6_of_11 : decode cX6_of 11 = .ok (.iconst (-1), 1) := by decide +kernel
theorem dX6_of_12 : decode cX6_of 12 = .ok (.ireturn, 1) := by decide +kernel
theorem dX6_of_13 : decode cX6_of 13 = .ok (.iload_n 2, 1) := by decide +kernel
theorem dX6_of_14 : decode cX6_of 14 = .ok (.tableswitch 69 0 3 #[30, 40, 50, 59], 30) := by decide +kernel
theorem dX6_of_44 : decode cX6_of 44 = .ok (.aload_n 0, 1) := by decide +kernel
theorem dX6_of_45 : decode cX6_of 45 = .ok (.getfield 10, 3) := by decide +kernel
theorem dX6_of_48 : decode cX6_of 48 = .ok (.getfield 123, 3) := by decide +kernel
theorem dX6_of_51 : decode cX6_of 51 = .ok (.iload_n 1, 1) := by decide +kernel
theorem dX6_of_52 : decode cX6_of 52 = .ok (.iaload, 1) := by decide +kernel
theorem dX6_of_53 : decode cX6_of 53 = .ok (.ireturn, 1) := by decide +kernel
theorem dX6_of_54 : decode cX6_of 54 = .ok (.aload_n 0, 1) := by decide +kernel
theorem dX6_of_55 : decode cX6_of 55 = .ok (.getfield 10, 3) := by decide +kernel
theorem dX6_of_58 : decode cX6_of 58 = .ok (.getfield 126, 3) := by decide +kernel
theorem dX6_of_61 : decode cX6_of 61 = .ok (.iload_n 1, 1) := by decide +kernel
theorem dX6_of_62 : decode cX6_of 62 = .ok (.iaload, 1) := by decide +kernel
theorem dX6_of_63 : decode cX6_of 63 = .ok (.ireturn, 1) := by decide +kernel
theorem dX6_of_64 : decode cX6_of 64 = .ok (.aload_n 0, 1) := by decide +kernel
theorem dX6_of_65 : decode cX6_of 65 = .ok (.getfield 10, 3) := by decide +kernel
theorem dX6_of_68 : decode cX6_of 68 = .ok (.iload_n 1, 1) := by decide +kernel
theorem dX6_of_69 : decode cX6_of 69 = .ok (.invokevirtual 129, 3) := by decide +kernel
theorem dX6_of_72 : decode cX6_of 72 = .ok (.ireturn, 1) := by decide +kernel
theorem dX6_of_73 : decode cX6_of 73 = .ok (.aload_n 0, 1) := by decide +kernel
theorem dX6_of_74 : decode cX6_of 74 = .ok (.getfield 10, 3) := by decide +kernel
theorem dX6_of_77 : decode cX6_of 77 = .ok (.getfield 132, 3) := by decide +kernel
theorem dX6_of_80 : decode cX6_of 80 = .ok (.iload_n 1, 1) := by decide +kernel
theorem dX6_of_81 : decode cX6_of 81 = .ok (.iaload, 1) := by decide +kernel
theorem dX6_of_82 : decode cX6_of 82 = .ok (.ireturn, 1) := by decide +kernel
theorem dX6_of_83 : decode cX6_of 83 = .ok (.iconst (-1), 1) := by decide +kernel
theorem dX6_of_84 : decode cX6_of 84 = .ok (.ireturn, 1) := by decide +kernel
theorem dX6_type_0 : decode cX6_type 0 = .ok (.iload_n 3, 1) := by decide +kernel
theorem dX6_type_1 : decode cX6_type 1 = .ok (.iconst 1, 1) := by decide +kernel
theorem dX6_type_2 : decode cX6_type 2 = .ok (.bipush 8, 2) := by decide +kernel
theorem dX6_type_4 : decode cX6_type 4 = .ok (.invokestatic 54, 3) := by decide +kernel
theorem dX6_type_7 : decode cX6_type 7 = .ok (.ifCond .ne 5, 3) := by decide +kernel
theorem dX6_type_10 : decode cX6_type 10 = .ok (.iconst (-1), 1) := by decide +kernel
theorem dX6_type_11 : decode cX6_type 11 = .ok (.ireturn, 1) := by decide +kernel
theorem dX6_type_12 : decode cX6_type 12 = .ok (.iconst 0, 1) := by decide +kernel
theorem dX6_type_13 : decode cX6_type 13 = .ok (.istore 4, 2) := by decide +kernel
theorem dX6_type_15 : decode cX6_type 15 = .ok (.iload 4, 2) := by decide +kernel
theorem dX6_type_17 : decode cX6_type 17 = .ok (.iload_n 3, 1) := by decide +kernel
theorem dX6_type_18 : decode cX6_type 18 = .ok (.if_icmp .ge 27, 3) := by decide +kernel
theorem dX6_type_21 : decode cX6_type 21 = .ok (.lload_n 1, 1) := by decide +kernel
theorem dX6_type_22 : decode cX6_type 22 = .ok (.iload 4, 2) := by decide +kernel
theorem dX6_type_24 : decode cX6_type 24 = .ok (.invokestatic 135, 3) := by decide +kernel
theorem dX6_type_27 : decode cX6_type 27 = .ok (.bipush 32, 2) := by decide +kernel
theorem dX6_type_29 : decode cX6_type 29 = .ok (.bipush 126, 2) := by decide +kernel
theorem dX6_type_31 : decode cX6_type 31 = .ok (.invokestatic 54, 3) := by decide +kernel
theorem dX6_type_34 : decode cX6_type 34 = .ok (.ifCond .ne 5, 3) := by decide +kernel
theorem dX6_type_37 : decode cX6_type 37 = .ok (.iconst (-1), 1) := by decide +kernel
theorem dX6_type_38 : decode cX6_type 38 = .ok (.ireturn, 1) := by decide +kernel
theorem dX6_type_39 : decode cX6_type 39 = .ok (.iinc 4 1, 3) := by decide +kernel
theorem dX6_type_42 : decode cX6_type 42 = .ok (.goto (-27), 3) := by decide +kernel
theorem dX6_type_45 : decode cX6_type 45 = .ok (.aload_n 0, 1) := by decide +kernel
theorem dX6_type_46 : decode cX6_type 46 = .ok (.getfield 22, 3) := by decide +kernel
theorem dX6_type_49 : decode cX6_type 49 = .ok (.getfield 139, 3) := by decide +kernel
theorem dX6_type_52 : decode cX6_type 52 = .ok (.bipush 80, 2) := by decide +kernel
theorem dX6_type_54 : decode cX6_type 54 = .ok (.iload_n 3, 1) := by decide +kernel
theorem dX6_type_55 : decode cX6_type 55 = .ok (.isub, 1) := by decide +kernel
theorem dX6_type_56 : decode cX6_type 56 = .ok (.if_icmp .le 6, 3) := by decide +kernel
theorem dX6_type_59 : decode cX6_type 59 = .ok (.bipush (-3), 2) := by decide +kernel
theorem dX6_type_61 : decode cX6_type 61 = .ok (.ireturn, 1) := by decide +kernel
theorem dX6_type_62 : decode cX6_type 62 = .ok (.iload_n 3, 1) := by decide +kernel
theorem dX6_type_63 : decode cX6_type 63 = .ok (.iconst 1, 1) := by decide +kernel
theorem dX6_type_64 : decode cX6_type 64 = .ok (.isub, 1) := by decide +kernel
theorem dX6_type_65 : decode cX6_type 65 = .ok (.istore 4, 2) := by decide +kernel
theorem dX6_type_67 : decode cX6_type 67 = .ok (.iload 4, 2) := by decide +kernel
theorem dX6_type_69 : decode cX6_type 69 = .ok (.ifCond .lt 22, 3) := by decide +kernel
theorem dX6_type_72 : decode cX6_type 72 = .ok (.aload_n 0, 1) := by decide +kernel
theorem dX6_type_73 : decode cX6_type 73 = .ok (.getfield 22, 3) := by decide +kernel
theorem dX6_type_76 : decode cX6_type 76 = .ok (.lload_n 1, 1) := by decide +kernel
theorem dX6_type_77 : decode cX6_type 77 = .ok (.iload 4, 2) := by decide +kernel
theorem dX6_type_79 : decode cX6_type 79 = .ok (.invokestatic 135, 3) := by decide +kernel
theorem dX6_type_82 : decode cX6_type 82 = .ok (.invokevirtual 142, 3) := by decide +kernel
theorem dX6_type_85 : decode cX6_type 85 = .ok (.iinc 4 (-1), 3) := by decide +kernel
theorem dX6_type_88 : decode cX6_type 88 = .ok (.goto (-21), 3) := by decide +kernel
theorem dX6_type_91 : decode cX6_type 91 = .ok (.aload_n 0, 1) := by decide +kernel
theorem dX6_type_92 : decode cX6_type 92 = .ok (.getfield 22, 3) := by decide +kernel
theorem dX6_type_95 : decode cX6_type 95 = .ok (.getfield 139, 3) := by decide +kernel
theorem dX6_type_98 : decode cX6_type 98 = .ok (.ireturn, 1) := by decide +kernel
theorem dX6_lagoon_0 : decode cX6_lagoon 0 = .ok (.aload_n 0, 1) := by decide +kernel
theorem dX6_lagoon_1 : decode cX6_lagoon 1 = .ok (.getfield 22, 3) := by decide +kernel
theorem dX6_lagoon_4 : decode cX6_lagoon 4 = .ok (.invokevirtual 146, 3) := by decide +kernel
theorem dX6_lagoon_7 : decode cX6_lagoon 7 = .ok (.istore_n 1, 1) := by decide +kernel
theorem dX6_lagoon_8 : decode cX6_lagoon 8 = .ok (.iload_n 1, 1) := by decide +kernel
theorem dX6_lagoon_9 : decode cX6_lagoon 9 = .ok (.ifCond .le 14, 3) := by decide +kernel
theorem dX6_lagoon_12 : decode cX6_lagoon 12 = .ok (.aload_n 0, 1) := by decide +kernel
theorem dX6_lagoon_13 : decode cX6_lagoon 13 = .ok (.getfield 10, 3) := by decide +kernel
theorem dX6_lagoon_16 : decode cX6_lagoon 16 = .ok (.aload_n 0, 1) := by decide +kernel
theorem dX6_lagoon_17 : decode cX6_lagoon 17 = .ok (.getfield 22, 3) := by decide +kernel
theorem dX6_lagoon_20 : decode cX6_lagoon 20 = .ok (.invokevirtual 150, 3) := by decide +kernel
theorem dX6_lagoon_23 : decode cX6_lagoon 23 = .ok (.aload_n 0, 1) := by decide +kernel
theorem dX6_lagoon_24 : decode cX6_lagoon 24 = .ok (.getfield 22, 3) := by decide +kernel
theorem dX6_lagoon_27 : decode cX6_lagoon 27 = .ok (.iconst 0, 1) := by decide +kernel
theorem dX6_lagoon_28 : decode cX6_lagoon 28 = .ok (.putfield 139, 3) := by decide +kernel
theorem dX6_lagoon_31 : decode cX6_lagoon 31 = .ok (.iload_n 1, 1) := by decide +kernel
theorem dX6_lagoon_32 : decode cX6_lagoon 32 = .ok (.ireturn, 1) := by decide +kernel
theorem dX6_paths_0 : decode cX6_paths 0 = .ok (.aload_n 0, 1) := by decide +kernel
theorem dX6_paths_1 : decode cX6_paths 1 = .ok (.getfield 22, 3) := by decide +kernel
theorem dX6_paths_4 : decode cX6_paths 4 = .ok (.aload_n 0, 1) := by decide +kernel
theorem dX6_paths_5 : decode cX6_paths 5 = .ok (.getfield 10, 3) := by decide +kernel
theorem dX6_paths_8 : decode cX6_paths 8 = .ok (.getfield 58, 3) := by decide +kernel
theorem dX6_paths_11 : decode cX6_paths 11 = .ok (.invokevirtual 154, 3) := by decide +kernel
theorem dX6_paths_14 : decode cX6_paths 14 = .ok (.istore_n 1, 1) := by decide +kernel
theorem dX6_paths_15 : decode cX6_paths 15 = .ok (.iload_n 1, 1) := by decide +kernel
theorem dX6_paths_16 : decode cX6_paths 16 = .ok (.ifCond .le 14, 3) := by decide +kernel
theorem dX6_paths_19 : decode cX6_paths 19 = .ok (.aload_n 0, 1) := by decide +kernel
theorem dX6_paths_20 : decode cX6_paths 20 = .ok (.getfield 10, 3) := by decide +kernel
theorem dX6_paths_23 : decode cX6_paths 23 = .ok (.aload_n 0, 1) := by decide +kernel
theorem dX6_paths_24 : decode cX6_paths 24 = .ok (.getfield 22, 3) := by decide +kernel
theorem dX6_paths_27 : decode cX6_paths 27 = .ok (.invokevirtual 157, 3) := by decide +kernel
theorem dX6_paths_30 : decode cX6_paths 30 = .ok (.aload_n 0, 1) := by decide +kernel
theorem dX6_paths_31 : decode cX6_paths 31 = .ok (.getfield 22, 3) := by decide +kernel
theorem dX6_paths_34 : decode cX6_paths 34 = .ok (.iconst 0, 1) := by decide +kernel
theorem dX6_paths_35 : decode cX6_paths 35 = .ok (.putfield 139, 3) := by decide +kernel
theorem dX6_paths_38 : decode cX6_paths 38 = .ok (.iload_n 1, 1) := by decide +kernel
theorem dX6_paths_39 : decode cX6_paths 39 = .ok (.ireturn, 1) := by decide +kernel
theorem dX6_count_0 : decode cX6_count 0 = .ok (.iload_n 1, 1) := by decide +kernel
theorem dX6_count_1 : decode cX6_count 1 = .ok (.tableswitch 75 0 4 #[35, 43, 51, 59, 67], 35) := by decide +kernel
theorem dX6_count_36 : decode cX6_count 36 = .ok (.aload_n 0, 1) := by decide +kernel
theorem dX6_count_37 : decode cX6_count 37 = .ok (.getfield 10, 3) := by decide +kernel
theorem dX6_count_40 : decode cX6_count 40 = .ok (.getfield 58, 3) := by decide +kernel
theorem dX6_count_43 : decode cX6_count 43 = .ok (.ireturn, 1) := by decide +kernel
theorem dX6_count_44 : decode cX6_count 44 = .ok (.aload_n 0, 1) := by decide +kernel
theorem dX6_count_45 : decode cX6_count 45 = .ok (.getfield 10, 3) := by decide +kernel
theorem dX6_count_48 : decode cX6_count 48 = .ok (.invokevirtual 160, 3) := by decide +kernel
theorem dX6_count_51 : decode cX6_count 51 = .ok (.ireturn, 1) := by decide +kernel
theorem dX6_count_52 : decode cX6_count 52 = .ok (.aload_n 0, 1) := by decide +kernel
theorem dX6_count_53 : decode cX6_count 53 = .ok (.getfield 10, 3) := by decide +kernel
theorem dX6_count_56 : decode cX6_count 56 = .ok (.getfield 113, 3) := by decide +kernel
theorem dX6_count_59 : decode cX6_count 59 = .ok (.ireturn, 1) := by decide +kernel
theorem dX6_count_60 : decode cX6_count 60 = .ok (.aload_n 0, 1) := by decide +kernel
theorem dX6_count_61 : decode cX6_count 61 = .ok (.getfield 10, 3) := by decide +kernel
theorem dX6_count_64 : decode cX6_count 64 = .ok (.getfield 163, 3) := by decide +kernel
theorem dX6_count_67 : decode cX6_count 67 = .ok (.ireturn, 1) := by decide +kernel
theorem dX6_count_68 : decode cX6_count 68 = .ok (.aload_n 0, 1) := by decide +kernel
theorem dX6_count_69 : decode cX6_count 69 = .ok (.getfield 10, 3) := by decide +kernel
theorem dX6_count_72 : decode cX6_count 72 = .ok (.getfield 166, 3) := by decide +kernel
theorem dX6_count_75 : decode cX6_count 75 = .ok (.ireturn, 1) := by decide +kernel
theorem dX6_count_76 : decode cX6_count 76 = .ok (.iconst (-1), 1) := by decide +kernel
theorem dX6_count_77 : decode cX6_count 77 = .ok (.ireturn, 1) := by decide +kernel
theorem dX6_water_0 : decode cX6_water 0 = .ok (.aload_n 0, 1) := by decide +kernel
theorem dX6_water_1 : decode cX6_water 1 = .ok (.getfield 10, 3) := by decide +kernel
theorem dX6_water_4 : decode cX6_water 4 = .ok (.iload_n 1, 1) := by decide +kernel
theorem dX6_water_5 : decode cX6_water 5 = .ok (.invokevirtual 66, 3) := by decide +kernel
theorem dX6_water_8 : decode cX6_water 8 = .ok (.ifCond .eq 10, 3) := by decide +kernel
theorem dX6_water_11 : decode cX6_water 11 = .ok (.iload_n 2, 1) := by decide +kernel
theorem dX6_water_12 : decode cX6_water 12 = .ok (.invokestatic 101, 3) := by decide +kernel
theorem dX6_water_15 : decode cX6_water 15 = .ok (.ifCond .ne 5, 3) := by decide +kernel
theorem dX6_water_18 : decode cX6_water 18 = .ok (.iconst (-1), 1) := by decide +kernel
theorem dX6_water_19 : decode cX6_water 19 = .ok (.ireturn, 1) := by decide +kernel
theorem dX6_water_20 : decode cX6_water 20 = .ok (.aload_n 0, 1) := by decide +kernel
theorem dX6_water_21 : decode cX6_water 21 = .ok (.getfield 10, 3) := by decide +kernel
theorem dX6_water_24 : decode cX6_water 24 = .ok (.iload_n 1, 1) := by decide +kernel
theorem dX6_water_25 : decode cX6_water 25 = .ok (.iload_n 2, 1) := by decide +kernel
theorem dX6_water_26 : decode cX6_water 26 = .ok (.invokevirtual 169, 3) := by decide +kernel
theorem dX6_water_29 : decode cX6_water 29 = .ok (.ireturn, 1) := by decide +kernel
theorem dX6_stands_0 : decode cX6_stands 0 = .ok (.aload_n 0, 1) := by decide +kernel
theorem dX6_stands_1 : decode cX6_stands 1 = .ok (.getfield 10, 3) := by decide +kernel
theorem dX6_stands_4 : decode cX6_stands 4 = .ok (.iload_n 1, 1) := by decide +kernel
theorem dX6_stands_5 : decode cX6_stands 5 = .ok (.invokevirtual 120, 3) := by decide +kernel
theorem dX6_stands_8 : decode cX6_stands 8 = .ok (.ifCond .eq 21, 3) := by decide +kernel
theorem dX6_stands_11 : decode cX6_stands 11 = .ok (.aload_n 0, 1) := by decide +kernel
theorem dX6_stands_12 : decode cX6_stands 12 = .ok (.getfield 10, 3) := by decide +kernel
theorem dX6_stands_15 : decode cX6_stands 15 = .ok (.iload_n 2, 1) := by decide +kernel
theorem dX6_stands_16 : decode cX6_stands 16 = .ok (.invokevirtual 66, 3) := by decide +kernel
theorem dX6_stands_19 : decode cX6_stands 19 = .ok (.ifCond .eq 10, 3) := by decide +kernel
theorem dX6_stands_22 : decode cX6_stands 22 = .ok (.iload_n 3, 1) := by decide +kernel
theorem dX6_stands_23 : decode cX6_stands 23 = .ok (.invokestatic 101, 3) := by decide +kernel
theorem dX6_stands_26 : decode cX6_stands 26 = .ok (.ifCond .ne 5, 3) := by decide +kernel
theorem dX6_stands_29 : decode cX6_stands 29 = .ok (.iconst (-1), 1) := by decide +kernel
theorem dX6_stands_30 : decode cX6_stands 30 = .ok (.ireturn, 1) := by decide +kernel
theorem dX6_stands_31 : decode cX6_stands 31 = .ok (.aload_n 0, 1) := by decide +kernel
theorem dX6_stands_32 : decode cX6_stands 32 = .ok (.getfield 10, 3) := by decide +kernel
theorem dX6_stands_35 : decode cX6_stands 35 = .ok (.iload_n 1, 1) := by decide +kernel
theorem dX6_stands_36 : decode cX6_stands 36 = .ok (.iload_n 2, 1) := by decide +kernel
theorem dX6_stands_37 : decode cX6_stands 37 = .ok (.iload_n 3, 1) := by decide +kernel
theorem dX6_stands_38 : decode cX6_stands 38 = .ok (.invokevirtual 172, 3) := by decide +kernel
theorem dX6_stands_41 : decode cX6_stands 41 = .ok (.ifCond .eq 7, 3) := by decide +kernel
theorem dX6_stands_44 : decode cX6_stands 44 = .ok (.iconst 1, 1) := by decide +kernel
theorem dX6_stands_45 : decode cX6_stands 45 = .ok (.goto 4, 3) := by decide +kernel
theorem dX6_stands_48 : decode cX6_stands 48 = .ok (.iconst 0, 1) := by decide +kernel
theorem dX6_stands_49 : decode cX6_stands 49 = .ok (.ireturn, 1) := by decide +kernel
theorem dX6_hours_0 : decode cX6_hours 0 = .ok (.aload_n 0, 1) := by decide +kernel
theorem dX6_hours_1 : decode cX6_hours 1 = .ok (.getfield 10, 3) := by decide +kernel
theorem dX6_hours_4 : decode cX6_hours 4 = .ok (.iload_n 1, 1) := by decide +kernel
theorem dX6_hours_5 : decode cX6_hours 5 = .ok (.invokevirtual 120, 3) := by decide +kernel
theorem dX6_hours_8 : decode cX6_hours 8 = .ok (.ifCond .eq 14, 3) := by decide +kernel
theorem dX6_hours_11 : decode cX6_hours 11 = .ok (.aload_n 0, 1) := by decide +kernel
theorem dX6_hours_12 : decode cX6_hours 12 = .ok (.getfield 10, 3) := by decide +kernel
theorem dX6_hours_15 : decode cX6_hours 15 = .ok (.iload_n 2, 1) := by decide +kernel
theorem dX6_hours_16 : decode cX6_hours 16 = .ok (.invokevirtual 66, 3) := by decide +kernel
theorem dX6_hours_19 : decode cX6_hours 19 = .ok (.ifCond .ne 5, 3) := by decide +kernel
theorem dX6_hours_22 : decode cX6_hours 22 = .ok (.iconst (-1), 1) := by decide +kernel
theorem dX6_hours_23 : decode cX6_hours 23 = .ok (.ireturn, 1) := by decide +kernel
theorem dX6_hours_24 : decode cX6_hours 24 = .ok (.iconst 0, 1) := by decide +kernel
theorem dX6_hours_25 : decode cX6_hours 25 = .ok (.istore_n 3, 1) := by decide +kernel
theorem dX6_hours_26 : decode cX6_hours 26 = .ok (.iconst 0, 1) := by decide +kernel
theorem dX6_hours_27 : decode cX6_hours 27 = .ok (.istore 4, 2) := by decide +kernel
theorem dX6_hours_29 : decode cX6_hours 29 = .ok (.iload 4, 2) := by decide +kernel
theorem dX6_hours_31 : decode cX6_hours 31 = .ok (.bipush 24, 2) := by decide +kernel
theorem dX6_hours_33 : decode cX6_hours 33 = .ok (.if_icmp .ge 30, 3) := by decide +kernel
theorem dX6_hours_36 : decode cX6_hours 36 = .ok (.aload_n 0, 1) := by decide +kernel
theorem dX6_hours_37 : decode cX6_hours 37 = .ok (.getfield 10, 3) := by decide +kernel
theorem dX6_hours_40 : decode cX6_hours 40 = .ok (.iload_n 1, 1) := by decide +kernel
theorem dX6_hours_41 : decode cX6_hours 41 = .ok (.iload_n 2, 1) := by decide +kernel
theorem dX6_hours_42 : decode cX6_hours 42 = .ok (.iload 4, 2) := by decide +kernel
theorem dX6_hours_44 : decode cX6_hours 44 = .ok (.invokevirtual 172, 3) := by decide +kernel
theorem dX6_hours_47 : decode cX6_hours 47 = .ok (.ifCond .eq 10, 3) := by decide +kernel
theorem dX6_hours_50 : decode cX6_hours 50 = .ok (.iload_n 3, 1) := by decide +kernel
theorem dX6_hours_51 : decode cX6_hours 51 = .ok (.iconst 1, 1) := by decide +kernel
theorem dX6_hours_52 : decode cX6_hours 52 = .ok (.iload 4, 2) := by decide +kernel
theorem dX6_hours_54 : decode cX6_hours 54 = .ok (.ishl, 1) := by decide +kernel
theorem dX6_hours_55 : decode cX6_hours 55 = .ok (.ior, 1) := by decide +kernel
theorem dX6_hours_56 : decode cX6_hours 56 = .ok (.istore_n 3, 1) := by decide +kernel
theorem dX6_hours_57 : decode cX6_hours 57 = .ok (.iinc 4 1, 3) := by decide +kernel
theorem dX6_hours_60 : decode cX6_hours 60 = .ok (.goto (-31), 3) := by decide +kernel
theorem dX6_hours_63 : decode cX6_hours 63 = .ok (.iload_n 3, 1) := by decide +kernel
theorem dX6_hours_64 : decode cX6_hours 64 = .ok (.ireturn, 1) := by decide +kernel
theorem dX6_years_0 : decode cX6_years 0 = .ok (.iload_n 1, 1) := by decide +kernel
theorem dX6_years_1 : decode cX6_years 1 = .ok (.iconst 1, 1) := by decide +kernel
theorem dX6_years_2 : decode cX6_years 2 = .ok (.bipush 30, 2) := by decide +kernel
theorem dX6_years_4 : decode cX6_years 4 = .ok (.invokestatic 54, 3) := by decide +kernel
theorem dX6_years_7 : decode cX6_years 7 = .ok (.ifCond .ne 5, 3) := by decide +kernel
theorem dX6_years_10 : decode cX6_years 10 = .ok (.iconst (-1), 1) := by decide +kernel
theorem dX6_years_11 : decode cX6_years 11 = .ok (.ireturn, 1) := by decide +kernel
theorem dX6_years_12 : decode cX6_years 12 = .ok (.aload_n 0, 1) := by decide +kernel
theorem dX6_years_13 : decode cX6_years 13 = .ok (.getfield 10, 3) := by decide +kernel
theorem dX6_years_16 : decode cX6_years 16 = .ok (.getfield 166, 3) := by decide +kernel
theorem dX6_years_19 : decode cX6_years 19 = .ok (.sipush 999, 3) := by decide +kernel
theorem dX6_years_22 : decode cX6_years 22 = .ok (.iload_n 1, 1) := by decide +kernel
theorem dX6_years_23 : decode cX6_years 23 = .ok (.isub, 1) := by decide +kernel
theorem dX6_years_24 : decode cX6_years 24 = .ok (.if_icmp .le 6, 3) := by decide +kernel
theorem dX6_years_27 : decode cX6_years 27 = .ok (.bipush (-3), 2) := by decide +kernel
theorem dX6_years_29 : decode cX6_years 29 = .ok (.ireturn, 1) := by decide +kernel
theorem dX6_years_30 : decode cX6_years 30 = .ok (.aload_n 0, 1) := by decide +kernel
theorem dX6_years_31 : decode cX6_years 31 = .ok (.getfield 10, 3) := by decide +kernel
theorem dX6_years_34 : decode cX6_years 34 = .ok (.iload_n 1, 1) := by decide +kernel
theorem dX6_years_35 : decode cX6_years 35 = .ok (.invokevirtual 175, 3) := by decide +kernel
theorem dX6_years_38 : decode cX6_years 38 = .ok (.aload_n 0, 1) := by decide +kernel
theorem dX6_years_39 : decode cX6_years 39 = .ok (.getfield 10, 3) := by decide +kernel
theorem dX6_years_42 : decode cX6_years 42 = .ok (.getfield 166, 3) := by decide +kernel
theorem dX6_years_45 : decode cX6_years 45 = .ok (.ireturn, 1) := by decide +kernel
theorem dX6_way_0 : decode cX6_way 0 = .ok (.aload_n 0, 1) := by decide +kernel
theorem dX6_way_1 : decode cX6_way 1 = .ok (.getfield 10, 3) := by decide +kernel
theorem dX6_way_4 : decode cX6_way 4 = .ok (.iload_n 1, 1) := by decide +kernel
theorem dX6_way_5 : decode cX6_way 5 = .ok (.invokevirtual 120, 3) := by decide +kernel
theorem dX6_way_8 : decode cX6_way 8 = .ok (.ifCond .eq 31, 3) := by decide +kernel
theorem dX6_way_11 : decode cX6_way 11 = .ok (.aload_n 0, 1) := by decide +kernel
theorem dX6_way_12 : decode cX6_way 12 = .ok (.getfield 10, 3) := by decide +kernel
theorem dX6_way_15 : decode cX6_way 15 = .ok (.iload_n 2, 1) := by decide +kernel
theorem dX6_way_16 : decode cX6_way 16 = .ok (.invokevirtual 66, 3) := by decide +kernel
theorem dX6_way_19 : decode cX6_way 19 = .ok (.ifCond .eq 20, 3) := by decide +kernel
theorem dX6_way_22 : decode cX6_way 22 = .ok (.iload_n 3, 1) := by decide +kernel
theorem dX6_way_23 : decode cX6_way 23 = .ok (.invokestatic 178, 3) := by decide +kernel
theorem dX6_way_26 : decode cX6_way 26 = .ok (.ifCond .eq 13, 3) := by decide +kernel
theorem dX6_way_29 : decode cX6_way 29 = .ok (.iload 4, 2) := by decide +kernel
theorem dX6_way_31 : decode cX6_way 31 = .ok (.iconst 0, 1) := by decide +kernel
theorem dX6_way_32 : decode cX6_way 32 = .ok (.iconst 1, 1) := by decide +kernel
theorem dX6_way_33 : decode cX6_way 33 = .ok (.invokestatic 54, 3) := by decide +kernel
theorem dX6_way_36 : decode cX6_way 36 = .ok (.ifCond .ne 5, 3) := by decide +kernel
theorem dX6_way_39 : decode cX6_way 39 = .ok (.iconst (-1), 1) := by decide +kernel
theorem dX6_way_40 : decode cX6_way 40 = .ok (.ireturn, 1) := by decide +kernel
theorem dX6_way_41 : decode cX6_way 41 = .ok (.aload_n 0, 1) := by decide +kernel
theorem dX6_way_42 : decode cX6_way 42 = .ok (.getfield 29, 3) := by decide +kernel
theorem dX6_way_45 : decode cX6_way 45 = .ok (.aload_n 0, 1) := by decide +kernel
theorem dX6_way_46 : decode cX6_way 46 = .ok (.getfield 10, 3) := by decide +kernel
theorem dX6_way_49 : decode cX6_way 49 = .ok (.iload_n 1, 1) := by decide +kernel
theorem dX6_way_50 : decode cX6_way 50 = .ok (.iload_n 3, 1) := by decide +kernel
theorem dX6_way_51 : decode cX6_way 51 = .ok (.invokevirtual 181, 3) := by decide +kernel
theorem dX6_way_54 : decode cX6_way 54 = .ok (.iload 4, 2) := by decide +kernel
theorem dX6_way_56 : decode cX6_way 56 = .ok (.ifCond .ne 14, 3) := by decide +kernel
theorem dX6_way_59 : decode cX6_way 59 = .ok (.aload_n 0, 1) := by decide +kernel
theorem dX6_way_60 : decode cX6_way 60 = .ok (.getfield 29, 3) := by decide +kernel
theorem dX6_way_63 : decode cX6_way 63 = .ok (.iload_n 2, 1) := by decide +kernel
theorem dX6_way_64 : decode cX6_way 64 = .ok (.invokevirtual 185, 3) := by decide +kernel
theorem dX6_way_67 : decode cX6_way 67 = .ok (.goto 11, 3) := by decide +kernel
theorem dX6_way_70 : decode cX6_way 70 = .ok (.aload_n 0, 1) := by decide +kernel
theorem dX6_way_71 : decode cX6_way 71 = .ok (.getfield 29, 3) := by decide +kernel
theorem dX6_way_74 : decode cX6_way 74 = .ok (.iload_n 2, 1) := by decide +kernel
theorem dX6_way_75 : decode cX6_way 75 = .ok (.invokevirtual 188, 3) := by decide +kernel
theorem dX6_way_78 : decode cX6_way 78 = .ok (.ireturn, 1) := by decide +kernel
theorem dX6_race_0 : decode cX6_race 0 = .ok (.aload_n 0, 1) := by decide +kernel
theorem dX6_race_1 : decode cX6_race 1 = .ok (.getfield 10, 3) := by decide +kernel
theorem dX6_race_4 : decode cX6_race 4 = .ok (.iload_n 1, 1) := by decide +kernel
theorem dX6_race_5 : decode cX6_race 5 = .ok (.invokevirtual 191, 3) := by decide +kernel
theorem dX6_race_8 : decode cX6_race 8 = .ok (.ifCond .eq 31, 3) := by decide +kernel
theorem dX6_race_11 : decode cX6_race 11 = .ok (.aload_n 0, 1) := by decide +kernel
theorem dX6_race_12 : decode cX6_race 12 = .ok (.getfield 10, 3) := by decide +kernel
theorem dX6_race_15 : decode cX6_race 15 = .ok (.iload_n 2, 1) := by decide +kernel
theorem dX6_race_16 : decode cX6_race 16 = .ok (.invokevirtual 66, 3) := by decide +kernel
theorem dX6_race_19 : decode cX6_race 19 = .ok (.ifCond .eq 20, 3) := by decide +kernel
theorem dX6_race_22 : decode cX6_race 22 = .ok (.iload_n 3, 1) := by decide +kernel
theorem dX6_race_23 : decode cX6_race 23 = .ok (.invokestatic 178, 3) := by decide +kernel
theorem dX6_race_26 : decode cX6_race 26 = .ok (.ifCond .eq 13, 3) := by decide +kernel
theorem dX6_race_29 : decode cX6_race 29 = .ok (.iload 4, 2) := by decide +kernel
theorem dX6_race_31 : decode cX6_race 31 = .ok (.iconst 0, 1) := by decide +kernel
theorem dX6_race_32 : decode cX6_race 32 = .ok (.iconst 1, 1) := by decide +kernel
theorem dX6_race_33 : decode cX6_race 33 = .ok (.invokestatic 54, 3) := by decide +kernel
theorem dX6_race_36 : decode cX6_race 36 = .ok (.ifCond .ne 5, 3) := by decide +kernel
theorem dX6_race_39 : decode cX6_race 39 = .ok (.iconst (-1), 1) := by decide +kernel
theorem dX6_race_40 : decode cX6_race 40 = .ok (.ireturn, 1) := by decide +kernel
theorem dX6_race_41 : decode cX6_race 41 = .ok (.bipush (-4), 2) := by decide +kernel
theorem dX6_race_43 : decode cX6_race 43 = .ok (.istore 5, 2) := by decide +kernel
theorem dX6_race_45 : decode cX6_race 45 = .ok (.sipush 601, 3) := by decide +kernel
theorem dX6_race_48 : decode cX6_race 48 = .ok (.istore 6, 2) := by decide +kernel
theorem dX6_race_50 : decode cX6_race 50 = .ok (.iconst 0, 1) := by decide +kernel
theorem dX6_race_51 : decode cX6_race 51 = .ok (.istore 7, 2) := by decide +kernel
theorem dX6_race_53 : decode cX6_race 53 = .ok (.iconst 0, 1) := by decide +kernel
theorem dX6_race_54 : decode cX6_race 54 = .ok (.istore 8, 2) := by decide +kernel
theorem dX6_race_56 : decode cX6_race 56 = .ok (.iload 8, 2) := by decide +kernel
theorem dX6_race_58 : decode cX6_race 58 = .ok (.aload_n 0, 1) := by decide +kernel
theorem dX6_race_59 : decode cX6_race 59 = .ok (.getfield 10, 3) := by decide +kernel
theorem dX6_race_62 : decode cX6_race 62 = .ok (.getfield 113, 3) := by decide +kernel
theorem dX6_race_65 : decode cX6_race 65 = .ok (.if_icmp .ge 73, 3) := by decide +kernel
theorem dX6_race_68 : decode cX6_race 68 = .ok (.iload_n 1, 1) := by decide +kernel
theorem dX6_race_69 : decode cX6_race 69 = .ok (.iload 8, 2) := by decide +kernel
theorem dX6_race_71 : decode cX6_race 71 = .ok (.invokestatic 194, 3) := by decide +kernel
theorem dX6_race_74 : decode cX6_race 74 = .ok (.ifCond .ne 6, 3) := by decide +kernel
theorem dX6_race_77 : decode cX6_race 77 = .ok (.goto 55, 3) := by decide +kernel
theorem dX6_race_80 : decode cX6_race 80 = .ok (.aload_n 0, 1) := by decide +kernel
theorem dX6_race_81 : decode cX6_race 81 = .ok (.getfield 29, 3) := by decide +kernel
theorem dX6_race_84 : decode cX6_race 84 = .ok (.aload_n 0, 1) := by decide +kernel
theorem dX6_race_85 : decode cX6_race 85 = .ok (.getfield 10, 3) := by decide +kernel
theorem dX6_race_88 : decode cX6_race 88 = .ok (.iload 8, 2) := by decide +kernel
theorem dX6_race_90 : decode cX6_race 90 = .ok (.iload_n 3, 1) := by decide +kernel
theorem dX6_race_91 : decode cX6_race 91 = .ok (.invokevirtual 181, 3) := by decide +kernel
theorem dX6_race_94 : decode cX6_race 94 = .ok (.aload_n 0, 1) := by decide +kernel
theorem dX6_race_95 : decode cX6_race 95 = .ok (.getfield 29, 3) := by decide +kernel
theorem dX6_race_98 : decode cX6_race 98 = .ok (.iload_n 2, 1) := by decide +kernel
theorem dX6_race_99 : decode cX6_race 99 = .ok (.invokevirtual 185, 3) := by decide +kernel
theorem dX6_race_102 : decode cX6_race 102 = .ok (.istore 9, 2) := by decide +kernel
theorem dX6_race_104 : decode cX6_race 104 = .ok (.iload 9, 2) := by decide +kernel
theorem dX6_race_106 : decode cX6_race 106 = .ok (.bipush (-4), 2) := by decide +kernel
theorem dX6_race_108 : decode cX6_race 108 = .ok (.if_icmp .ne 6, 3) := by decide +kernel
theorem dX6_race_111 : decode cX6_race 111 = .ok (.goto 21, 3) := by decide +kernel
theorem dX6_race_114 : decode cX6_race 114 = .ok (.iinc 7 1, 3) := by decide +kernel
theorem dX6_race_117 : decode cX6_race 117 = .ok (.iload 9, 2) := by decide +kernel
theorem dX6_race_119 : decode cX6_race 119 = .ok (.iload 6, 2) := by decide +kernel
theorem dX6_race_121 : decode cX6_race 121 = .ok (.if_icmp .ge 11, 3) := by decide +kernel
theorem dX6_race_124 : decode cX6_race 124 = .ok (.iload 9, 2) := by decide +kernel
theorem dX6_race_126 : decode cX6_race 126 = .ok (.istore 6, 2) := by decide +kernel
theorem dX6_race_128 : decode cX6_race 128 = .ok (.iload 8, 2) := by decide +kernel
theorem dX6_race_130 : decode cX6_race 130 = .ok (.istore 5, 2) := by decide +kernel
theorem dX6_race_132 : decode cX6_race 132 = .ok (.iinc 8 1, 3) := by decide +kernel
theorem dX6_race_135 : decode cX6_race 135 = .ok (.goto (-79), 3) := by decide +kernel
theorem dX6_race_138 : decode cX6_race 138 = .ok (.iload 4, 2) := by decide +kernel
theorem dX6_race_140 : decode cX6_race 140 = .ok (.ifCond .ne 8, 3) := by decide +kernel
theorem dX6_race_143 : decode cX6_race 143 = .ok (.iload 5, 2) := by decide +kernel
theorem dX6_race_145 : decode cX6_race 145 = .ok (.goto 5, 3) := by decide +kernel
theorem dX6_race_148 : decode cX6_race 148 = .ok (.iload 7, 2) := by decide +kernel
theorem dX6_race_150 : decode cX6_race 150 = .ok (.ireturn, 1) := by decide +kernel
theorem dX6_need_0 : decode cX6_need 0 = .ok (.aload_n 0, 1) := by decide +kernel
theorem dX6_need_1 : decode cX6_need 1 = .ok (.getfield 10, 3) := by decide +kernel
theorem dX6_need_4 : decode cX6_need 4 = .ok (.iload_n 1, 1) := by decide +kernel
theorem dX6_need_5 : decode cX6_need 5 = .ok (.invokevirtual 120, 3) := by decide +kernel
theorem dX6_need_8 : decode cX6_need 8 = .ok (.ifCond .eq 21, 3) := by decide +kernel
theorem dX6_need_11 : decode cX6_need 11 = .ok (.aload_n 0, 1) := by decide +kernel
theorem dX6_need_12 : decode cX6_need 12 = .ok (.getfield 10, 3) := by decide +kernel
theorem dX6_need_15 : decode cX6_need 15 = .ok (.iload_n 2, 1) := by decide +kernel
theorem dX6_need_16 : decode cX6_need 16 = .ok (.invokevirtual 66, 3) := by decide +kernel
theorem dX6_need_19 : decode cX6_need 19 = .ok (.ifCond .eq 10, 3) := by decide +kernel
theorem dX6_need_22 : decode cX6_need 22 = .ok (.iload_n 3, 1) := by decide +kernel
theorem dX6_need_23 : decode cX6_need 23 = .ok (.invokestatic 101, 3) := by decide +kernel
theorem dX6_need_26 : decode cX6_need 26 = .ok (.ifCond .ne 5, 3) := by decide +kernel
theorem dX6_need_29 : decode cX6_need 29 = .ok (.iconst (-1), 1) := by decide +kernel
theorem dX6_need_30 : decode cX6_need 30 = .ok (.ireturn, 1) := by decide +kernel
theorem dX6_need_31 : decode cX6_need 31 = .ok (.aload_n 0, 1) := by decide +kernel
theorem dX6_need_32 : decode cX6_need 32 = .ok (.getfield 10, 3) := by decide +kernel
theorem dX6_need_35 : decode cX6_need 35 = .ok (.getfield 163, 3) := by decide +kernel
theorem dX6_need_38 : decode cX6_need 38 = .ok (.bipush 10, 2) := by decide +kernel
theorem dX6_need_40 : decode cX6_need 40 = .ok (.if_icmp .lt 6, 3) := by decide +kernel
theorem dX6_need_43 : decode cX6_need 43 = .ok (.bipush (-3), 2) := by decide +kernel
theorem dX6_need_45 : decode cX6_need 45 = .ok (.ireturn, 1) := by decide +kernel
theorem dX6_need_46 : decode cX6_need 46 = .ok (.aload_n 0, 1) := by decide +kernel
theorem dX6_need_47 : decode cX6_need 47 = .ok (.getfield 10, 3) := by decide +kernel
theorem dX6_need_50 : decode cX6_need 50 = .ok (.iload_n 1, 1) := by decide +kernel
theorem dX6_need_51 : decode cX6_need 51 = .ok (.iload_n 2, 1) := by decide +kernel
theorem dX6_need_52 : decode cX6_need 52 = .ok (.iload_n 3, 1) := by decide +kernel
theorem dX6_need_53 : decode cX6_need 53 = .ok (.invokevirtual 198, 3) := by decide +kernel
theorem dX6_need_56 : decode cX6_need 56 = .ok (.ireturn, 1) := by decide +kernel
theorem dX6_met_0 : decode cX6_met 0 = .ok (.iconst 0, 1) := by decide +kernel
theorem dX6_met_1 : decode cX6_met 1 = .ok (.istore_n 1, 1) := by decide +kernel
theorem dX6_met_2 : decode cX6_met 2 = .ok (.iconst 0, 1) := by decide +kernel
theorem dX6_met_3 : decode cX6_met 3 = .ok (.istore_n 2, 1) := by decide +kernel
theorem dX6_met_4 : decode cX6_met 4 = .ok (.iload_n 2, 1) := by decide +kernel
theorem dX6_met_5 : decode cX6_met 5 = .ok (.aload_n 0, 1) := by decide +kernel
theorem dX6_met_6 : decode cX6_met 6 = .ok (.getfield 10, 3) := by decide +kernel
theorem dX6_met_9 : decode cX6_met 9 = .ok (.getfield 163, 3) := by decide +kernel
theorem dX6_met_12 : decode cX6_met 12 = .ok (.if_icmp .ge 43, 3) := by decide +kernel
theorem dX6_met_15 : decode cX6_met 15 = .ok (.aload_n 0, 1) := by decide +kernel
theorem dX6_met_16 : decode cX6_met 16 = .ok (.getfield 10, 3) := by decide +kernel
theorem dX6_met_19 : decode cX6_met 19 = .ok (.iload_n 2, 1) := by decide +kernel
theorem dX6_met_20 : decode cX6_met 20 = .ok (.aload_n 0, 1) := by decide +kernel
theorem dX6_met_21 : decode cX6_met 21 = .ok (.getfield 10, 3) := by decide +kernel
theorem dX6_met_24 : decode cX6_met 24 = .ok (.getfield 126, 3) := by decide +kernel
theorem dX6_met_27 : decode cX6_met 27 = .ok (.aload_n 0, 1) := by decide +kernel
theorem dX6_met_28 : decode cX6_met 28 = .ok (.getfield 10, 3) := by decide +kernel
theorem dX6_met_31 : decode cX6_met 31 = .ok (.getfield 201, 3) := by decide +kernel
theorem dX6_met_34 : decode cX6_met 34 = .ok (.iload_n 2, 1) := by decide +kernel
theorem dX6_met_35 : decode cX6_met 35 = .ok (.iaload, 1) := by decide +kernel
theorem dX6_met_36 : decode cX6_met 36 = .ok (.iaload, 1) := by decide +kernel
theorem dX6_met_37 : decode cX6_met 37 = .ok (.invokevirtual 204, 3) := by decide +kernel
theorem dX6_met_40 : decode cX6_met 40 = .ok (.ifCond .eq 9, 3) := by decide +kernel
theorem dX6_met_43 : decode cX6_met 43 = .ok (.iload_n 1, 1) := by decide +kernel
theorem dX6_met_44 : decode cX6_met 44 = .ok (.iconst 1, 1) := by decide +kernel
theorem dX6_met_45 : decode cX6_met 45 = .ok (.iload_n 2, 1) := by decide +kernel
theorem dX6_met_46 : decode cX6_met 46 = .ok (.ishl, 1) := by decide +kernel
theorem dX6_met_47 : decode cX6_met 47 = .ok (.ior, 1) := by decide +kernel
theorem dX6_met_48 : decode cX6_met 48 = .ok (.istore_n 1, 1) := by decide +kernel
theorem dX6_met_49 : decode cX6_met 49 = .ok (.iinc 2 1, 3) := by decide +kernel
theorem dX6_met_52 : decode cX6_met 52 = .ok (.goto (-48), 3) := by decide +kernel
theorem dX6_met_55 : decode cX6_met 55 = .ok (.iload_n 1, 1) := by decide +kernel
theorem dX6_met_56 : decode cX6_met 56 = .ok (.ireturn, 1) := by decide +kernel
theorem dX6_lengths_0 : decode cX6_lengths 0 = .ok (.iload_n 1, 1) := by decide +kernel
theorem dX6_lengths_1 : decode cX6_lengths 1 = .ok (.iconst (-1), 1) := by decide +kernel
theorem dX6_lengths_2 : decode cX6_lengths 2 = .ok (.if_icmp .ge 5, 3) := by decide +kernel
theorem dX6_lengths_5 : decode cX6_lengths 5 = .ok (.iconst (-1), 1) := by decide +kernel
theorem dX6_lengths_6 : decode cX6_lengths 6 = .ok (.ireturn, 1) := by decide +kernel
theorem dX6_lengths_7 : decode cX6_lengths 7 = .ok (.aload_n 0, 1) := by decide +kernel
theorem dX6_lengths_8 : decode cX6_lengths 8 = .ok (.getfield 10, 3) := by decide +kernel
theorem dX6_lengths_11 : decode cX6_lengths 11 = .ok (.getfield 163, 3) := by decide +kernel
theorem dX6_lengths_14 : decode cX6_lengths 14 = .ok (.ifCond .ne 6, 3) := by decide +kernel
theorem dX6_lengths_17 : decode cX6_lengths 17 = .ok (.bipush (-2), 2) := by decide +kernel
theorem dX6_lengths_19 : decode cX6_lengths 19 = .ok (.ireturn, 1) := by decide +kernel
theorem dX6_lengths_20 : decode cX6_lengths 20 = .ok (.aload_n 0, 1) := by decide +kernel
theorem dX6_lengths_21 : decode cX6_lengths 21 = .ok (.getfield 36, 3) := by decide +kernel
theorem dX6_lengths_24 : decode cX6_lengths 24 = .ok (.aload_n 0, 1) := by decide +kernel
theorem dX6_lengths_25 : decode cX6_lengths 25 = .ok (.getfield 10, 3) := by decide +kernel
theorem dX6_lengths_28 : decode cX6_lengths 28 = .ok (.invokevirtual 207, 3) := by decide +kernel
theorem dX6_lengths_31 : decode cX6_lengths 31 = .ok (.iload_n 1, 1) := by decide +kernel
theorem dX6_lengths_32 : decode cX6_lengths 32 = .ok (.iconst (-1), 1) := by decide +kernel
theorem dX6_lengths_33 : decode cX6_lengths 33 = .ok (.if_icmp .ne 13, 3) := by decide +kernel
theorem dX6_lengths_36 : decode cX6_lengths 36 = .ok (.aload_n 0, 1) := by decide +kernel
theorem dX6_lengths_37 : decode cX6_lengths 37 = .ok (.getfield 36, 3) := by decide +kernel
theorem dX6_lengths_40 : decode cX6_lengths 40 = .ok (.invokevirtual 211, 3) := by decide +kernel
theorem dX6_lengths_43 : decode cX6_lengths 43 = .ok (.goto 11, 3) := by decide +kernel
theorem dX6_lengths_46 : decode cX6_lengths 46 = .ok (.aload_n 0, 1) := by decide +kernel
theorem dX6_lengths_47 : decode cX6_lengths 47 = .ok (.getfield 36, 3) := by decide +kernel
theorem dX6_lengths_50 : decode cX6_lengths 50 = .ok (.iload_n 1, 1) := by decide +kernel
theorem dX6_lengths_51 : decode cX6_lengths 51 = .ok (.invokevirtual 214, 3) := by decide +kernel
theorem dX6_lengths_54 : decode cX6_lengths 54 = .ok (.ireturn, 1) := by decide +kernel
theorem dX6_meeting_0 : decode cX6_meeting 0 = .ok (.iload_n 1, 1) := by decide +kernel
theorem dX6_meeting_1 : decode cX6_meeting 1 = .ok (.iconst 0, 1) := by decide +kernel
theorem dX6_meeting_2 : decode cX6_meeting 2 = .ok (.iconst 2, 1) := by decide +kernel
theorem dX6_meeting_3 : decode cX6_meeting 3 = .ok (.invokestatic 54, 3) := by decide +kernel
theorem dX6_meeting_6 : decode cX6_meeting 6 = .ok (.ifCond .ne 5, 3) := by decide +kernel
theorem dX6_meeting_9 : decode cX6_meeting 9 = .ok (.iconst (-1), 1) := by decide +kernel
theorem dX6_meeting_10 : decode cX6_meeting 10 = .ok (.ireturn, 1) := by decide +kernel
theorem dX6_meeting_11 : decode cX6_meeting 11 = .ok (.bipush (-4), 2) := by decide +kernel
theorem dX6_meeting_13 : decode cX6_meeting 13 = .ok (.istore_n 2, 1) := by decide +kernel
theorem dX6_meeting_14 : decode cX6_meeting 14 = .ok (.bipush (-4), 2) := by decide +kernel
theorem dX6_meeting_16 : decode cX6_meeting 16 = .ok (.istore_n 3, 1) := by decide +kernel
theorem dX6_meeting_17 : decode cX6_meeting 17 = .ok (.bipush (-4), 2) := by decide +kernel
theorem dX6_meeting_19 : decode cX6_meeting 19 = .ok (.istore 4, 2) := by decide +kernel
theorem dX6_meeting_21 : decode cX6_meeting 21 = .ok (.iconst 0, 1) := by decide +kernel
theorem dX6_meeting_22 : decode cX6_meeting 22 = .ok (.istore 5, 2) := by decide +kernel
theorem dX6_meeting_24 : decode cX6_meeting 24 = .ok (.iload 5, 2) := by decide +kernel
theorem dX6_meeting_26 : decode cX6_meeting 26 = .ok (.bipush 24, 2) := by decide +kernel
theorem dX6_meeting_28 : decode cX6_meeting 28 = .ok (.if_icmp .ge 78, 3) := by decide +kernel
theorem dX6_meeting_31 : decode cX6_meeting 31 = .ok (.iconst 0, 1) := by decide +kernel
theorem dX6_meeting_32 : decode cX6_meeting 32 = .ok (.istore 6, 2) := by decide +kernel
theorem dX6_meeting_34 : decode cX6_meeting 34 = .ok (.iload 6, 2) := by decide +kernel
theorem dX6_meeting_36 : decode cX6_meeting 36 = .ok (.aload_n 0, 1) := by decide +kernel
theorem dX6_meeting_37 : decode cX6_meeting 37 = .ok (.getfield 10, 3) := by decide +kernel
theorem dX6_meeting_40 : decode cX6_meeting 40 = .ok (.getfield 58, 3) := by decide +kernel
theorem dX6_meeting_43 : decode cX6_meeting 43 = .ok (.if_icmp .ge 57, 3) := by decide +kernel
theorem dX6_meeting_46 : decode cX6_meeting 46 = .ok (.aload_n 0, 1) := by decide +kernel
theorem dX6_meeting_47 : decode cX6_meeting 47 = .ok (.getfield 10, 3) := by decide +kernel
theorem dX6_meeting_50 : decode cX6_meeting 50 = .ok (.getfield 71, 3) := by decide +kernel
theorem dX6_meeting_53 : decode cX6_meeting 53 = .ok (.iload 6, 2) := by decide +kernel
theorem dX6_meeting_55 : decode cX6_meeting 55 = .ok (.iaload, 1) := by decide +kernel
theorem dX6_meeting_56 : decode cX6_meeting 56 = .ok (.ifCond .ge 17, 3) := by decide +kernel
theorem dX6_meeting_59 : decode cX6_meeting 59 = .ok (.aload_n 0, 1) := by decide +kernel
theorem dX6_meeting_60 : decode cX6_meeting 60 = .ok (.getfield 10, 3) := by decide +kernel
theorem dX6_meeting_63 : decode cX6_meeting 63 = .ok (.iload 6, 2) := by decide +kernel
theorem dX6_meeting_65 : decode cX6_meeting 65 = .ok (.iload 5, 2) := by decide +kernel
theorem dX6_meeting_67 : decode cX6_meeting 67 = .ok (.invokevirtual 217, 3) := by decide +kernel
theorem dX6_meeting_70 : decode cX6_meeting 70 = .ok (.goto 5, 3) := by decide +kernel
theorem dX6_meeting_73 : decode cX6_meeting 73 = .ok (.bipush (-4), 2) := by decide +kernel
theorem dX6_meeting_75 : decode cX6_meeting 75 = .ok (.istore 7, 2) := by decide +kernel
theorem dX6_meeting_77 : decode cX6_meeting 77 = .ok (.iload 7, 2) := by decide +kernel
theorem dX6_meeting_79 : decode cX6_meeting 79 = .ok (.iload 4, 2) := by decide +kernel
theorem dX6_meeting_81 : decode cX6_meeting 81 = .ok (.if_icmp .le 13, 3) := by decide +kernel
theorem dX6_meeting_84 : decode cX6_meeting 84 = .ok (.iload 6, 2) := by decide +kernel
theorem dX6_meeting_86 : decode cX6_meeting 86 = .ok (.istore_n 2, 1) := by decide +kernel
theorem dX6_meeting_87 : decode cX6_meeting 87 = .ok (.iload 5, 2) := by decide +kernel
theorem dX6_meeting_89 : decode cX6_meeting 89 = .ok (.istore_n 3, 1) := by decide +kernel
theorem dX6_meeting_90 : decode cX6_meeting 90 = .ok (.iload 7, 2) := by decide +kernel
theorem dX6_meeting_92 : decode cX6_meeting 92 = .ok (.istore 4, 2) := by decide +kernel
theorem dX6_meeting_94 : decode cX6_meeting 94 = .ok (.iinc 6 1, 3) := by decide +kernel
theorem dX6_meeting_97 : decode cX6_meeting 97 = .ok (.goto (-63), 3) := by decide +kernel
theorem dX6_meeting_100 : decode cX6_meeting 100 = .ok (.iinc 5 1, 3) := by decide +kernel
theorem dX6_meeting_103 : decode cX6_meeting 103 = .ok (.goto (-79), 3) := by decide +kernel
theorem dX6_meeting_106 : decode cX6_meeting 106 = .ok (.iload_n 1, 1) := by decide +kernel
theorem dX6_meeting_107 : decode cX6_meeting 107 = .ok (.ifCond .ne 7, 3) := by decide +kernel
theorem dX6_meeting_110 : decode cX6_meeting 110 = .ok (.iload_n 2, 1) := by decide +kernel
theorem dX6_meeting_111 : decode cX6_meeting 111 = .ok (.goto 14, 3) := by decide +kernel
theorem dX6_meeting_114 : decode cX6_meeting 114 = .ok (.iload_n 1, 1) := by decide +kernel
theorem dX6_meeting_115 : decode cX6_meeting 115 = .ok (.iconst 1, 1) := by decide +kernel
theorem dX6_meeting_116 : decode cX6_meeting 116 = .ok (.if_icmp .ne 7, 3) := by decide +kernel
theorem dX6_meeting_119 : decode cX6_meeting 119 = .ok (.iload_n 3, 1) := by decide +kernel
theorem dX6_meeting_120 : decode cX6_meeting 120 = .ok (.goto 5, 3) := by decide +kernel
theorem dX6_meeting_123 : decode cX6_meeting 123 = .ok (.iload 4, 2) := by decide +kernel
theorem dX6_meeting_125 : decode cX6_meeting 125 = .ok (.ireturn, 1) := by decide +kernel
theorem dX6_pairs_0 : decode cX6_pairs 0 = .ok (.iload_n 1, 1) := by decide +kernel
theorem dX6_pairs_1 : decode cX6_pairs 1 = .ok (.iconst 0, 1) := by decide +kernel
theorem dX6_pairs_2 : decode cX6_pairs 2 = .ok (.bipush 60, 2) := by decide +kernel
theorem dX6_pairs_4 : decode cX6_pairs 4 = .ok (.invokestatic 54, 3) := by decide +kernel
theorem dX6_pairs_7 : decode cX6_pairs 7 = .ok (.ifCond .ne 5, 3) := by decide +kernel
theorem dX6_pairs_10 : decode cX6_pairs 10 = .ok (.iconst (-1), 1) := by decide +kernel
theorem dX6_pairs_11 : decode cX6_pairs 11 = .ok (.ireturn, 1) := by decide +kernel
theorem dX6_pairs_12 : decode cX6_pairs 12 = .ok (.iconst 0, 1) := by decide +kernel
theorem dX6_pairs_13 : decode cX6_pairs 13 = .ok (.istore_n 2, 1) := by decide +kernel
theorem dX6_pairs_14 : decode cX6_pairs 14 = .ok (.iconst 1, 1) := by decide +kernel
theorem dX6_pairs_15 : decode cX6_pairs 15 = .ok (.aload_n 0, 1) := by decide +kernel
theorem dX6_pairs_16 : decode cX6_pairs 16 = .ok (.getfield 10, 3) := by decide +kernel
theorem dX6_pairs_19 : decode cX6_pairs 19 = .ok (.getfield 113, 3) := by decide +kernel
theorem dX6_pairs_22 : decode cX6_pairs 22 = .ok (.ishl, 1) := by decide +kernel
theorem dX6_pairs_23 : decode cX6_pairs 23 = .ok (.iconst 1, 1) := by decide +kernel
theorem dX6_pairs_24 : decode cX6_pairs 24 = .ok (.isub, 1) := by decide +kernel
theorem dX6_pairs_25 : decode cX6_pairs 25 = .ok (.istore_n 3, 1) := by decide +kernel
theorem dX6_pairs_26 : decode cX6_pairs 26 = .ok (.iconst 0, 1) := by decide +kernel
theorem dX6_pairs_27 : decode cX6_pairs 27 = .ok (.istore 4, 2) := by decide +kernel
theorem dX6_pairs_29 : decode cX6_pairs 29 = .ok (.iload 4, 2) := by decide +kernel
theorem dX6_pairs_31 : decode cX6_pairs 31 = .ok (.bipush 8, 2) := by decide +kernel
theorem dX6_pairs_33 : decode cX6_pairs 33 = .ok (.if_icmp .ge 84, 3) := by decide +kernel
theorem dX6_pairs_36 : decode cX6_pairs 36 = .ok (.iload_n 3, 1) := by decide +kernel
theorem dX6_pairs_37 : decode cX6_pairs 37 = .ok (.ifCond .eq 80, 3) := by decide +kernel
theorem dX6_pairs_40 : decode cX6_pairs 40 = .ok (.aload_n 0, 1) := by decide +kernel
theorem dX6_pairs_41 : decode cX6_pairs 41 = .ok (.getfield 10, 3) := by decide +kernel
theorem dX6_pairs_44 : decode cX6_pairs 44 = .ok (.iload_n 3, 1) := by decide +kernel
theorem dX6_pairs_45 : decode cX6_pairs 45 = .ok (.invokevirtual 220, 3) := by decide +kernel
theorem dX6_pairs_48 : decode cX6_pairs 48 = .ok (.istore 5, 2) := by decide +kernel
theorem dX6_pairs_50 : decode cX6_pairs 50 = .ok (.iload_n 3, 1) := by decide +kernel
theorem dX6_pairs_51 : decode cX6_pairs 51 = .ok (.iconst 1, 1) := by decide +kernel
theorem dX6_pairs_52 : decode cX6_pairs 52 = .ok (.iload 5, 2) := by decide +kernel
theorem dX6_pairs_54 : decode cX6_pairs 54 = .ok (.ishl, 1) := by decide +kernel
theorem dX6_pairs_55 : decode cX6_pairs 55 = .ok (.iconst (-1), 1) := by decide +kernel
theorem dX6_pairs_56 : decode cX6_pairs 56 = .ok (.ixor, 1) := by decide +kernel
theorem dX6_pairs_57 : decode cX6_pairs 57 = .ok (.iand, 1) := by decide +kernel
theorem dX6_pairs_58 : decode cX6_pairs 58 = .ok (.istore_n 3, 1) := by decide +kernel
theorem dX6_pairs_59 : decode cX6_pairs 59 = .ok (.iload_n 3, 1) := by decide +kernel
theorem dX6_pairs_60 : decode cX6_pairs 60 = .ok (.ifCond .ne 6, 3) := by decide +kernel
theorem dX6_pairs_63 : decode cX6_pairs 63 = .ok (.goto 54, 3) := by decide +kernel
theorem dX6_pairs_66 : decode cX6_pairs 66 = .ok (.aload_n 0, 1) := by decide +kernel
theorem dX6_pairs_67 : decode cX6_pairs 67 = .ok (.getfield 10, 3) := by decide +kernel
theorem dX6_pairs_70 : decode cX6_pairs 70 = .ok (.iload_n 3, 1) := by decide +kernel
theorem dX6_pairs_71 : decode cX6_pairs 71 = .ok (.invokevirtual 220, 3) := by decide +kernel
theorem dX6_pairs_74 : decode cX6_pairs 74 = .ok (.istore 6, 2) := by decide +kernel
theorem dX6_pairs_76 : decode cX6_pairs 76 = .ok (.aload_n 0, 1) := by decide +kernel
theorem dX6_pairs_77 : decode cX6_pairs 77 = .ok (.getfield 10, 3) := by decide +kernel
theorem dX6_pairs_80 : decode cX6_pairs 80 = .ok (.iload 6, 2) := by decide +kernel
theorem dX6_pairs_82 : decode cX6_pairs 82 = .ok (.invokevirtual 129, 3) := by decide +kernel
theorem dX6_pairs_85 : decode cX6_pairs 85 = .ok (.aload_n 0, 1) := by decide +kernel
theorem dX6_pairs_86 : decode cX6_pairs 86 = .ok (.getfield 10, 3) := by decide +kernel
theorem dX6_pairs_89 : decode cX6_pairs 89 = .ok (.iload 5, 2) := by decide +kernel
theorem dX6_pairs_91 : decode cX6_pairs 91 = .ok (.invokevirtual 129, 3) := by decide +kernel
theorem dX6_pairs_94 : decode cX6_pairs 94 = .ok (.isub, 1) := by decide +kernel
theorem dX6_pairs_95 : decode cX6_pairs 95 = .ok (.iload_n 1, 1) := by decide +kernel
theorem dX6_pairs_96 : decode cX6_pairs 96 = .ok (.if_icmp .gt 15, 3) := by decide +kernel
theorem dX6_pairs_99 : decode cX6_pairs 99 = .ok (.iinc 2 1, 3) := by decide +kernel
theorem dX6_pairs_102 : decode cX6_pairs 102 = .ok (.iload_n 3, 1) := by decide +kernel
theorem dX6_pairs_103 : decode cX6_pairs 103 = .ok (.iconst 1, 1) := by decide +kernel
theorem dX6_pairs_104 : decode cX6_pairs 104 = .ok (.iload 6, 2) := by decide +kernel
theorem dX6_pairs_106 : decode cX6_pairs 106 = .ok (.ishl, 1) := by decide +kernel
theorem dX6_pairs_107 : decode cX6_pairs 107 = .ok (.iconst (-1), 1) := by decide +kernel
theorem dX6_pairs_108 : decode cX6_pairs 108 = .ok (.ixor, 1) := by decide +kernel
theorem dX6_pairs_109 : decode cX6_pairs 109 = .ok (.iand, 1) := by decide +kernel
theorem dX6_pairs_110 : decode cX6_pairs 110 = .ok (.istore_n 3, 1) := by decide +kernel
theorem dX6_pairs_111 : decode cX6_pairs 111 = .ok (.iinc 4 1, 3) := by decide +kernel
theorem dX6_pairs_114 : decode cX6_pairs 114 = .ok (.goto (-85), 3) := by decide +kernel
theorem dX6_pairs_117 : decode cX6_pairs 117 = .ok (.iload_n 2, 1) := by decide +kernel
theorem dX6_pairs_118 : decode cX6_pairs 118 = .ok (.ireturn, 1) := by decide +kernel
theorem dX6_flood_0 : decode cX6_flood 0 = .ok (.iload_n 1, 1) := by decide +kernel
theorem dX6_flood_1 : decode cX6_flood 1 = .ok (.iconst 0, 1) := by decide +kernel
theorem dX6_flood_2 : decode cX6_flood 2 = .ok (.bipush 40, 2) := by decide +kernel
theorem dX6_flood_4 : decode cX6_flood 4 = .ok (.invokestatic 54, 3) := by decide +kernel
theorem dX6_flood_7 : decode cX6_flood 7 = .ok (.ifCond .eq 21, 3) := by decide +kernel
theorem dX6_flood_10 : decode cX6_flood 10 = .ok (.iload_n 2, 1) := by decide +kernel
theorem dX6_flood_11 : decode cX6_flood 11 = .ok (.bipush (-2), 2) := by decide +kernel
theorem dX6_flood_13 : decode cX6_flood 13 = .ok (.aload_n 0, 1) := by decide +kernel
theorem dX6_flood_14 : decode cX6_flood 14 = .ok (.getfield 10, 3) := by decide +kernel
theorem dX6_flood_17 : decode cX6_flood 17 = .ok (.getfield 113, 3) := by decide +kernel
theorem dX6_flood_20 : decode cX6_flood 20 = .ok (.iconst 1, 1) := by decide +kernel
theorem dX6_flood_21 : decode cX6_flood 21 = .ok (.isub, 1) := by decide +kernel
theorem dX6_flood_22 : decode cX6_flood 22 = .ok (.invokestatic 54, 3) := by decide +kernel
theorem dX6_flood_25 : decode cX6_flood 25 = .ok (.ifCond .ne 5, 3) := by decide +kernel
theorem dX6_flood_28 : decode cX6_flood 28 = .ok (.iconst (-1), 1) := by decide +kernel
theorem dX6_flood_29 : decode cX6_flood 29 = .ok (.ireturn, 1) := by decide +kernel
theorem dX6_flood_30 : decode cX6_flood 30 = .ok (.aload_n 0, 1) := by decide +kernel
theorem dX6_flood_31 : decode cX6_flood 31 = .ok (.getfield 43, 3) := by decide +kernel
theorem dX6_flood_34 : decode cX6_flood 34 = .ok (.aload_n 0, 1) := by decide +kernel
theorem dX6_flood_35 : decode cX6_flood 35 = .ok (.getfield 10, 3) := by decide +kernel
theorem dX6_flood_38 : decode cX6_flood 38 = .ok (.iload_n 1, 1) := by decide +kernel
theorem dX6_flood_39 : decode cX6_flood 39 = .ok (.invokevirtual 223, 3) := by decide +kernel
theorem dX6_flood_42 : decode cX6_flood 42 = .ok (.iload_n 2, 1) := by decide +kernel
theorem dX6_flood_43 : decode cX6_flood 43 = .ok (.iconst (-1), 1) := by decide +kernel
theorem dX6_flood_44 : decode cX6_flood 44 = .ok (.if_icmp .ne 11, 3) := by decide +kernel
theorem dX6_flood_47 : decode cX6_flood 47 = .ok (.aload_n 0, 1) := by decide +kernel
theorem dX6_flood_48 : decode cX6_flood 48 = .ok (.getfield 43, 3) := by decide +kernel
theorem dX6_flood_51 : decode cX6_flood 51 = .ok (.invokevirtual 226, 3) := by decide +kernel
theorem dX6_flood_54 : decode cX6_flood 54 = .ok (.ireturn, 1) := by decide +kernel
theorem dX6_flood_55 : decode cX6_flood 55 = .ok (.iload_n 2, 1) := by decide +kernel
theorem dX6_flood_56 : decode cX6_flood 56 = .ok (.bipush (-2), 2) := by decide +kernel
theorem dX6_flood_58 : decode cX6_flood 58 = .ok (.if_icmp .ne 13, 3) := by decide +kernel
theorem dX6_flood_61 : decode cX6_flood 61 = .ok (.aload_n 0, 1) := by decide +kernel
theorem dX6_flood_62 : decode cX6_flood 62 = .ok (.getfield 43, 3) := by decide +kernel
theorem dX6_flood_65 : decode cX6_flood 65 = .ok (.invokevirtual 229, 3) := by decide +kernel
theorem dX6_flood_68 : decode cX6_flood 68 = .ok (.goto 11, 3) := by decide +kernel
theorem dX6_flood_71 : decode cX6_flood 71 = .ok (.aload_n 0, 1) := by decide +kernel
theorem dX6_flood_72 : decode cX6_flood 72 = .ok (.getfield 43, 3) := by decide +kernel
theorem dX6_flood_75 : decode cX6_flood 75 = .ok (.iload_n 2, 1) := by decide +kernel
theorem dX6_flood_76 : decode cX6_flood 76 = .ok (.invokevirtual 232, 3) := by decide +kernel
theorem dX6_flood_79 : decode cX6_flood 79 = .ok (.ireturn, 1) := by decide +kernel
theorem dX6_carried_0 : decode cX6_carried 0 = .ok (.aload_n 0, 1) := by decide +kernel
theorem dX6_carried_1 : decode cX6_carried 1 = .ok (.getfield 10, 3) := by decide +kernel
theorem dX6_carried_4 : decode cX6_carried 4 = .ok (.iload_n 1, 1) := by decide +kernel
theorem dX6_carried_5 : decode cX6_carried 5 = .ok (.invokevirtual 191, 3) := by decide +kernel
theorem dX6_carried_8 : decode cX6_carried 8 = .ok (.ifCond .eq 21, 3) := by decide +kernel
theorem dX6_carried_11 : decode cX6_carried 11 = .ok (.aload_n 0, 1) := by decide +kernel
theorem dX6_carried_12 : decode cX6_carried 12 = .ok (.getfield 10, 3) := by decide +kernel
theorem dX6_carried_15 : decode cX6_carried 15 = .ok (.iload_n 2, 1) := by decide +kernel
theorem dX6_carried_16 : decode cX6_carried 16 = .ok (.invokevirtual 66, 3) := by decide +kernel
theorem dX6_carried_19 : decode cX6_carried 19 = .ok (.ifCond .eq 10, 3) := by decide +kernel
theorem dX6_carried_22 : decode cX6_carried 22 = .ok (.iload_n 3, 1) := by decide +kernel
theorem dX6_carried_23 : decode cX6_carried 23 = .ok (.invokestatic 101, 3) := by decide +kernel
theorem dX6_carried_26 : decode cX6_carried 26 = .ok (.ifCond .ne 5, 3) := by decide +kernel
theorem dX6_carried_29 : decode cX6_carried 29 = .ok (.iconst (-1), 1) := by decide +kernel
theorem dX6_carried_30 : decode cX6_carried 30 = .ok (.ireturn, 1) := by decide +kernel
theorem dX6_carried_31 : decode cX6_carried 31 = .ok (.iconst 0, 1) := by decide +kernel
theorem dX6_carried_32 : decode cX6_carried 32 = .ok (.istore 4, 2) := by decide +kernel
theorem dX6_carried_34 : decode cX6_carried 34 = .ok (.iconst 0, 1) := by decide +kernel
theorem dX6_carried_35 : decode cX6_carried 35 = .ok (.istore 5, 2) := by decide +kernel
theorem dX6_carried_37 : decode cX6_carried 37 = .ok (.iconst 0, 1) := by decide +kernel
theorem dX6_carried_38 : decode cX6_carried 38 = .ok (.istore 6, 2) := by decide +kernel
theorem dX6_carried_40 : decode cX6_carried 40 = .ok (.iload 6, 2) := by decide +kernel
theorem dX6_carried_42 : decode cX6_carried 42 = .ok (.aload_n 0, 1) := by decide +kernel
theorem dX6_carried_43 : decode cX6_carried 43 = .ok (.getfield 10, 3) := by decide +kernel
theorem dX6_carried_46 : decode cX6_carried 46 = .ok (.getfield 113, 3) := by decide +kernel
theorem dX6_carried_49 : decode cX6_carried 49 = .ok (.if_icmp .ge 44, 3) := by decide +kernel
theorem dX6_carried_52 : decode cX6_carried 52 = .ok (.iload_n 1, 1) := by decide +kernel
theorem dX6_carried_53 : decode cX6_carried 53 = .ok (.iload 6, 2) := by decide +kernel
theorem dX6_carried_55 : decode cX6_carried 55 = .ok (.invokestatic 194, 3) := by decide +kernel
theorem dX6_carried_58 : decode cX6_carried 58 = .ok (.ifCond .ne 6, 3) := by decide +kernel
theorem dX6_carried_61 : decode cX6_carried 61 = .ok (.goto 26, 3) := by decide +kernel
theorem dX6_carried_64 : decode cX6_carried 64 = .ok (.aload_n 0, 1) := by decide +kernel
theorem dX6_carried_65 : decode cX6_carried 65 = .ok (.getfield 10, 3) := by decide +kernel
theorem dX6_carried_68 : decode cX6_carried 68 = .ok (.iload 6, 2) := by decide +kernel
theorem dX6_carried_70 : decode cX6_carried 70 = .ok (.iload_n 2, 1) := by decide +kernel
theorem dX6_carried_71 : decode cX6_carried 71 = .ok (.iload_n 3, 1) := by decide +kernel
theorem dX6_carried_72 : decode cX6_carried 72 = .ok (.invokevirtual 172, 3) := by decide +kernel
theorem dX6_carried_75 : decode cX6_carried 75 = .ok (.ifCond .eq 9, 3) := by decide +kernel
theorem dX6_carried_78 : decode cX6_carried 78 = .ok (.iinc 4 1, 3) := by decide +kernel
theorem dX6_carried_81 : decode cX6_carried 81 = .ok (.goto 6, 3) := by decide +kernel
theorem dX6_carried_84 : decode cX6_carried 84 = .ok (.iinc 5 1, 3) := by decide +kernel
theorem dX6_carried_87 : decode cX6_carried 87 = .ok (.iinc 6 1, 3) := by decide +kernel
theorem dX6_carried_90 : decode cX6_carried 90 = .ok (.goto (-50), 3) := by decide +kernel
theorem dX6_carried_93 : decode cX6_carried 93 = .ok (.iconst 1, 1) := by decide +kernel
theorem dX6_carried_94 : decode cX6_carried 94 = .ok (.istore 6, 2) := by decide +kernel
theorem dX6_carried_96 : decode cX6_carried 96 = .ok (.iconst 0, 1) := by decide +kernel
theorem dX6_carried_97 : decode cX6_carried 97 = .ok (.istore 7, 2) := by decide +kernel
theorem dX6_carried_99 : decode cX6_carried 99 = .ok (.iload 7, 2) := by decide +kernel
theorem dX6_carried_101 : decode cX6_carried 101 = .ok (.iload 5, 2) := by decide +kernel
theorem dX6_carried_103 : decode cX6_carried 103 = .ok (.if_icmp .ge 23, 3) := by decide +kernel
theorem dX6_carried_106 : decode cX6_carried 106 = .ok (.iload 6, 2) := by decide +kernel
theorem dX6_carried_108 : decode cX6_carried 108 = .ok (.iconst 0, 1) := by decide +kernel
theorem dX6_carried_109 : decode cX6_carried 109 = .ok (.iload 4, 2) := by decide +kernel
theorem dX6_carried_111 : decode cX6_carried 111 = .ok (.iload 7, 2) := by decide +kernel
theorem dX6_carried_113 : decode cX6_carried 113 = .ok (.isub, 1) := by decide +kernel
theorem dX6_carried_114 : decode cX6_carried 114 = .ok (.invokestatic 235, 3) := by decide +kernel
theorem dX6_carried_117 : decode cX6_carried 117 = .ok (.imul, 1) := by decide +kernel
theorem dX6_carried_118 : decode cX6_carried 118 = .ok (.istore 6, 2) := by decide +kernel
theorem dX6_carried_120 : decode cX6_carried 120 = .ok (.iinc 7 1, 3) := by decide +kernel
theorem dX6_carried_123 : decode cX6_carried 123 = .ok (.goto (-24), 3) := by decide +kernel
theorem dX6_carried_126 : decode cX6_carried 126 = .ok (.iload 6, 2) := by decide +kernel
theorem dX6_carried_128 : decode cX6_carried 128 = .ok (.ireturn, 1) := by decide +kernel
theorem dX6_wrong_0 : decode cX6_wrong 0 = .ok (.iload_n 1, 1) := by decide +kernel
theorem dX6_wrong_1 : decode cX6_wrong 1 = .ok (.iconst 1, 1) := by decide +kernel
theorem dX6_wrong_2 : decode cX6_wrong 2 = .ok (.bipush 30, 2) := by decide +kernel
theorem dX6_wrong_4 : decode cX6_wrong 4 = .ok (.invokestatic 54, 3) := by decide +kernel
theorem dX6_wrong_7 : decode cX6_wrong 7 = .ok (.ifCond .eq 10, 3) := by decide +kernel
theorem dX6_wrong_10 : decode cX6_wrong 10 = .ok (.iload_n 2, 1) := by decide +kernel
theorem dX6_wrong_11 : decode cX6_wrong 11 = .ok (.invokestatic 101, 3) := by decide +kernel
theorem dX6_wrong_14 : decode cX6_wrong 14 = .ok (.ifCond .ne 5, 3) := by decide +kernel
theorem dX6_wrong_17 : decode cX6_wrong 17 = .ok (.iconst (-1), 1) := by decide +kernel
theorem dX6_wrong_18 : decode cX6_wrong 18 = .ok (.ireturn, 1) := by decide +kernel
theorem dX6_wrong_19 : decode cX6_wrong 19 = .ok (.iconst 0, 1) := by decide +kernel
theorem dX6_wrong_20 : decode cX6_wrong 20 = .ok (.istore_n 3, 1) := by decide +kernel
theorem dX6_wrong_21 : decode cX6_wrong 21 = .ok (.iconst 0, 1) := by decide +kernel
theorem dX6_wrong_22 : decode cX6_wrong 22 = .ok (.istore 4, 2) := by decide +kernel
theorem dX6_wrong_24 : decode cX6_wrong 24 = .ok (.iload 4, 2) := by decide +kernel
theorem dX6_wrong_26 : decode cX6_wrong 26 = .ok (.aload_n 0, 1) := by decide +kernel
theorem dX6_wrong_27 : decode cX6_wrong 27 = .ok (.getfield 10, 3) := by decide +kernel
theorem dX6_wrong_30 : decode cX6_wrong 30 = .ok (.getfield 113, 3) := by decide +kernel
theorem dX6_wrong_33 : decode cX6_wrong 33 = .ok (.if_icmp .ge 44, 3) := by decide +kernel
theorem dX6_wrong_36 : decode cX6_wrong 36 = .ok (.aload_n 0, 1) := by decide +kernel
theorem dX6_wrong_37 : decode cX6_wrong 37 = .ok (.getfield 10, 3) := by decide +kernel
theorem dX6_wrong_40 : decode cX6_wrong 40 = .ok (.iload 4, 2) := by decide +kernel
theorem dX6_wrong_42 : decode cX6_wrong 42 = .ok (.iload_n 2, 1) := by decide +kernel
theorem dX6_wrong_43 : decode cX6_wrong 43 = .ok (.iconst 0, 1) := by decide +kernel
theorem dX6_wrong_44 : decode cX6_wrong 44 = .ok (.invokevirtual 240, 3) := by decide +kernel
theorem dX6_wrong_47 : decode cX6_wrong 47 = .ok (.ifCond .eq 24, 3) := by decide +kernel
theorem dX6_wrong_50 : decode cX6_wrong 50 = .ok (.aload_n 0, 1) := by decide +kernel
theorem dX6_wrong_51 : decode cX6_wrong 51 = .ok (.getfield 10, 3) := by decide +kernel
theorem dX6_wrong_54 : decode cX6_wrong 54 = .ok (.iload 4, 2) := by decide +kernel
theorem dX6_wrong_56 : decode cX6_wrong 56 = .ok (.iload_n 2, 1) := by decide +kernel
theorem dX6_wrong_57 : decode cX6_wrong 57 = .ok (.iload_n 1, 1) := by decide +kernel
theorem dX6_wrong_58 : decode cX6_wrong 58 = .ok (.invokevirtual 240, 3) := by decide +kernel
theorem dX6_wrong_61 : decode cX6_wrong 61 = .ok (.ifCond .ne 10, 3) := by decide +kernel
theorem dX6_wrong_64 : decode cX6_wrong 64 = .ok (.iload_n 3, 1) := by decide +kernel
theorem dX6_wrong_65 : decode cX6_wrong 65 = .ok (.iconst 1, 1) := by decide +kernel
theorem dX6_wrong_66 : decode cX6_wrong 66 = .ok (.iload 4, 2) := by decide +kernel
theorem dX6_wrong_68 : decode cX6_wrong 68 = .ok (.ishl, 1) := by decide +kernel
theorem dX6_wrong_69 : decode cX6_wrong 69 = .ok (.ior, 1) := by decide +kernel
theorem dX6_wrong_70 : decode cX6_wrong 70 = .ok (.istore_n 3, 1) := by decide +kernel
theorem dX6_wrong_71 : decode cX6_wrong 71 = .ok (.iinc 4 1, 3) := by decide +kernel
theorem dX6_wrong_74 : decode cX6_wrong 74 = .ok (.goto (-50), 3) := by decide +kernel
theorem dX6_wrong_77 : decode cX6_wrong 77 = .ok (.iload_n 3, 1) := by decide +kernel
theorem dX6_wrong_78 : decode cX6_wrong 78 = .ok (.ireturn, 1) := by decide +kernel
theorem dX6_clear_0 : decode cX6_clear 0 = .ok (.aload_n 0, 1) := by decide +kernel
theorem dX6_clear_1 : decode cX6_clear 1 = .ok (.getfield 10, 3) := by decide +kernel
theorem dX6_clear_4 : decode cX6_clear 4 = .ok (.getfield 113, 3) := by decide +kernel
theorem dX6_clear_7 : decode cX6_clear 7 = .ok (.istore_n 1, 1) := by decide +kernel
theorem dX6_clear_8 : decode cX6_clear 8 = .ok (.aload_n 0, 1) := by decide +kernel
theorem dX6_clear_9 : decode cX6_clear 9 = .ok (.getfield 10, 3) := by decide +kernel
theorem dX6_clear_12 : decode cX6_clear 12 = .ok (.iconst 0, 1) := by decide +kernel
theorem dX6_clear_13 : decode cX6_clear 13 = .ok (.putfield 113, 3) := by decide +kernel
theorem dX6_clear_16 : decode cX6_clear 16 = .ok (.aload_n 0, 1) := by decide +kernel
theorem dX6_clear_17 : decode cX6_clear 17 = .ok (.getfield 10, 3) := by decide +kernel
theorem dX6_clear_20 : decode cX6_clear 20 = .ok (.iconst 0, 1) := by decide +kernel
theorem dX6_clear_21 : decode cX6_clear 21 = .ok (.putfield 163, 3) := by decide +kernel
theorem dX6_clear_24 : decode cX6_clear 24 = .ok (.iload_n 1, 1) := by decide +kernel
theorem dX6_clear_25 : decode cX6_clear 25 = .ok (.ireturn, 1) := by decide +kernel
theorem dX6_image_0 : decode cX6_image 0 = .ok (.aload_n 0, 1) := by decide +kernel
theorem dX6_image_1 : decode cX6_image 1 = .ok (.getfield 16, 3) := by decide +kernel
theorem dX6_image_4 : decode cX6_image 4 = .ok (.aload_n 0, 1) := by decide +kernel
theorem dX6_image_5 : decode cX6_image 5 = .ok (.getfield 10, 3) := by decide +kernel
theorem dX6_image_8 : decode cX6_image 8 = .ok (.invokevirtual 243, 3) := by decide +kernel
theorem dX6_image_11 : decode cX6_image 11 = .ok (.aload_n 0, 1) := by decide +kernel
theorem dX6_image_12 : decode cX6_image 12 = .ok (.iconst 1, 1) := by decide +kernel
theorem dX6_image_13 : decode cX6_image 13 = .ok (.putfield 246, 3) := by decide +kernel
theorem dX6_image_16 : decode cX6_image 16 = .ok (.iconst 1, 1) := by decide +kernel
theorem dX6_image_17 : decode cX6_image 17 = .ok (.ireturn, 1) := by decide +kernel
theorem dX6_restore_0 : decode cX6_restore 0 = .ok (.aload_n 0, 1) := by decide +kernel
theorem dX6_restore_1 : decode cX6_restore 1 = .ok (.getfield 246, 3) := by decide +kernel
theorem dX6_restore_4 : decode cX6_restore 4 = .ok (.ifCond .ne 6, 3) := by decide +kernel
theorem dX6_restore_7 : decode cX6_restore 7 = .ok (.bipush (-4), 2) := by decide +kernel
theorem dX6_restore_9 : decode cX6_restore 9 = .ok (.ireturn, 1) := by decide +kernel
theorem dX6_restore_10 : decode cX6_restore 10 = .ok (.aload_n 0, 1) := by decide +kernel
theorem dX6_restore_11 : decode cX6_restore 11 = .ok (.getfield 10, 3) := by decide +kernel
theorem dX6_restore_14 : decode cX6_restore 14 = .ok (.aload_n 0, 1) := by decide +kernel
theorem dX6_restore_15 : decode cX6_restore 15 = .ok (.getfield 16, 3) := by decide +kernel
theorem dX6_restore_18 : decode cX6_restore 18 = .ok (.invokevirtual 243, 3) := by decide +kernel
theorem dX6_restore_21 : decode cX6_restore 21 = .ok (.iconst 1, 1) := by decide +kernel
theorem dX6_restore_22 : decode cX6_restore 22 = .ok (.ireturn, 1) := by decide +kernel
theorem dX6_tides_0 : decode cX6_tides 0 = .ok (.aload_n 0, 1) := by decide +kernel
theorem dX6_tides_1 : decode cX6_tides 1 = .ok (.iload_n 1, 1) := by decide +kernel
theorem dX6_tides_2 : decode cX6_tides 2 = .ok (.iload_n 2, 1) := by decide +kernel
theorem dX6_tides_3 : decode cX6_tides 3 = .ok (.invokevirtual 250, 3) := by decide +kernel
theorem dX6_tides_6 : decode cX6_tides 6 = .ok (.istore_n 3, 1) := by decide +kernel
theorem dX6_tides_7 : decode cX6_tides 7 = .ok (.iload_n 3, 1) := by decide +kernel
theorem dX6_tides_8 : decode cX6_tides 8 = .ok (.ifCond .eq 5, 3) := by decide +kernel
theorem dX6_tides_11 : decode cX6_tides 11 = .ok (.iload_n 3, 1) := by decide +kernel
theorem dX6_tides_12 : decode cX6_tides 12 = .ok (.ireturn, 1) := by decide +kernel
theorem dX6_tides_13 : decode cX6_tides 13 = .ok (.aload_n 0, 1) := by decide +kernel
theorem dX6_tides_14 : decode cX6_tides 14 = .ok (.getfield 49, 3) := by decide +kernel
theorem dX6_tides_17 : decode cX6_tides 17 = .ok (.iload_n 1, 1) := by decide +kernel
theorem dX6_tides_18 : decode cX6_tides 18 = .ok (.aaload, 1) := by decide +kernel
theorem dX6_tides_19 : decode cX6_tides 19 = .ok (.astore 4, 2) := by decide +kernel
theorem dX6_tides_21 : decode cX6_tides 21 = .ok (.aload 4, 2) := by decide +kernel
theorem dX6_tides_23 : decode cX6_tides 23 = .ok (.getfield 253, 3) := by decide +kernel
theorem dX6_tides_26 : decode cX6_tides 26 = .ok (.bipush 24, 2) := by decide +kernel
theorem dX6_tides_28 : decode cX6_tides 28 = .ok (.if_icmp .ge 6, 3) := by decide +kernel
theorem dX6_tides_31 : decode cX6_tides 31 = .ok (.bipush (-13), 2) := by decide +kernel
theorem dX6_tides_33 : decode cX6_tides 33 = .ok (.ireturn, 1) := by decide +kernel
theorem dX6_tides_34 : decode cX6_tides 34 = .ok (.iconst 0, 1) := by decide +kernel
theorem dX6_tides_35 : decode cX6_tides 35 = .ok (.istore 5, 2) := by decide +kernel
theorem dX6_tides_37 : decode cX6_tides 37 = .ok (.iload 5, 2) := by decide +kernel
theorem dX6_tides_39 : decode cX6_tides 39 = .ok (.bipush 24, 2) := by decide +kernel
theorem dX6_tides_41 : decode cX6_tides 41 = .ok (.if_icmp .ge 30, 3) := by decide +kernel
theorem dX6_tides_44 : decode cX6_tides 44 = .ok (.aload 4, 2) := by decide +kernel
theorem dX6_tides_46 : decode cX6_tides 46 = .ok (.getfield 254, 3) := by decide +kernel
theorem dX6_tides_49 : decode cX6_tides 49 = .ok (.iload 5, 2) := by decide +kernel
theorem dX6_tides_51 : decode cX6_tides 51 = .ok (.iaload, 1) := by decide +kernel
theorem dX6_tides_52 : decode cX6_tides 52 = .ok (.bipush (-20), 2) := by decide +kernel
theorem dX6_tides_54 : decode cX6_tides 54 = .ok (.bipush 20, 2) := by decide +kernel
theorem dX6_tides_56 : decode cX6_tides 56 = .ok (.invokestatic 54, 3) := by decide +kernel
theorem dX6_tides_59 : decode cX6_tides 59 = .ok (.ifCond .ne 6, 3) := by decide +kernel
theorem dX6_tides_62 : decode cX6_tides 62 = .ok (.bipush (-2), 2) := by decide +kernel
theorem dX6_tides_64 : decode cX6_tides 64 = .ok (.ireturn, 1) := by decide +kernel
theorem dX6_tides_65 : decode cX6_tides 65 = .ok (.iinc 5 1, 3) := by decide +kernel
theorem dX6_tides_68 : decode cX6_tides 68 = .ok (.goto (-31), 3) := by decide +kernel
theorem dX6_tides_71 : decode cX6_tides 71 = .ok (.aload 4, 2) := by decide +kernel
theorem dX6_tides_73 : decode cX6_tides 73 = .ok (.getfield 254, 3) := by decide +kernel
theorem dX6_tides_76 : decode cX6_tides 76 = .ok (.iconst 0, 1) := by decide +kernel
theorem dX6_tides_77 : decode cX6_tides 77 = .ok (.aload_n 0, 1) := by decide +kernel
theorem dX6_tides_78 : decode cX6_tides 78 = .ok (.getfield 10, 3) := by decide +kernel
theorem dX6_tides_81 : decode cX6_tides 81 = .ok (.getfield 104, 3) := by decide +kernel
theorem dX6_tides_84 : decode cX6_tides 84 = .ok (.iconst 0, 1) := by decide +kernel
theorem dX6_tides_85 : decode cX6_tides 85 = .ok (.bipush 24, 2) := by decide +kernel
theorem dX6_tides_87 : decode cX6_tides 87 = .ok (.invokestatic 257, 3) := by decide +kernel
theorem dX6_tides_90 : decode cX6_tides 90 = .ok (.iconst 1, 1) := by decide +kernel
theorem dX6_tides_91 : decode cX6_tides 91 = .ok (.ireturn, 1) := by decide +kernel
theorem dX6_sheet_0 : decode cX6_sheet 0 = .ok (.iload_n 1, 1) := by decide +kernel
theorem dX6_sheet_1 : decode cX6_sheet 1 = .ok (.invokestatic 263, 3) := by decide +kernel
theorem dX6_sheet_4 : decode cX6_sheet 4 = .ok (.ifCond .eq 16, 3) := by decide +kernel
theorem dX6_sheet_7 : decode cX6_sheet 7 = .ok (.iload_n 2, 1) := by decide +kernel
theorem dX6_sheet_8 : decode cX6_sheet 8 = .ok (.invokestatic 266, 3) := by decide +kernel
theorem dX6_sheet_11 : decode cX6_sheet 11 = .ok (.ifCond .eq 9, 3) := by decide +kernel
theorem dX6_sheet_14 : decode cX6_sheet 14 = .ok (.iload_n 3, 1) := by decide +kernel
theorem dX6_sheet_15 : decode cX6_sheet 15 = .ok (.bipush 24, 2) := by decide +kernel
theorem dX6_sheet_17 : decode cX6_sheet 17 = .ok (.if_icmp .le 5, 3) := by decide +kernel
theorem dX6_sheet_20 : decode cX6_sheet 20 = .ok (.iconst (-1), 1) := by decide +kernel
theorem dX6_sheet_21 : decode cX6_sheet 21 = .ok (.ireturn, 1) := by decide +kernel
theorem dX6_sheet_22 : decode cX6_sheet 22 = .ok (.iload_n 3, 1) := by decide +kernel
theorem dX6_sheet_23 : decode cX6_sheet 23 = .ok (.ifCond .ge 6, 3) := by decide +kernel
theorem dX6_sheet_26 : decode cX6_sheet 26 = .ok (.bipush (-14), 2) := by decide +kernel
theorem dX6_sheet_28 : decode cX6_sheet 28 = .ok (.ireturn, 1) := by decide +kernel
theorem dX6_sheet_29 : decode cX6_sheet 29 = .ok (.aload_n 0, 1) := by decide +kernel
theorem dX6_sheet_30 : decode cX6_sheet 30 = .ok (.getfield 49, 3) := by decide +kernel
theorem dX6_sheet_33 : decode cX6_sheet 33 = .ok (.iload_n 1, 1) := by decide +kernel
theorem dX6_sheet_34 : decode cX6_sheet 34 = .ok (.aaload, 1) := by decide +kernel
theorem dX6_sheet_35 : decode cX6_sheet 35 = .ok (.iload_n 2, 1) := by decide +kernel
theorem dX6_sheet_36 : decode cX6_sheet 36 = .ok (.iload_n 3, 1) := by decide +kernel
theorem dX6_sheet_37 : decode cX6_sheet 37 = .ok (.invokevirtual 269, 3) := by decide +kernel
theorem dX6_sheet_40 : decode cX6_sheet 40 = .ok (.iload_n 3, 1) := by decide +kernel
theorem dX6_sheet_41 : decode cX6_sheet 41 = .ok (.ireturn, 1) := by decide +kernel
theorem dX6_drop_0 : decode cX6_drop 0 = .ok (.iload_n 1, 1) := by decide +kernel
theorem dX6_drop_1 : decode cX6_drop 1 = .ok (.invokestatic 263, 3) := by decide +kernel
theorem dX6_drop_4 : decode cX6_drop 4 = .ok (.ifCond .ne 5, 3) := by decide +kernel
theorem dX6_drop_7 : decode cX6_drop 7 = .ok (.iconst (-1), 1) := by decide +kernel
theorem dX6_drop_8 : decode cX6_drop 8 = .ok (.ireturn, 1) := by decide +kernel
theorem dX6_drop_9 : decode cX6_drop 9 = .ok (.aload_n 0, 1) := by decide +kernel
theorem dX6_drop_10 : decode cX6_drop 10 = .ok (.getfield 49, 3) := by decide +kernel
theorem dX6_drop_13 : decode cX6_drop 13 = .ok (.iload_n 1, 1) := by decide +kernel
theorem dX6_drop_14 : decode cX6_drop 14 = .ok (.aaload, 1) := by decide +kernel
theorem dX6_drop_15 : decode cX6_drop 15 = .ok (.astore_n 2, 1) := by decide +kernel
theorem dX6_drop_16 : decode cX6_drop 16 = .ok (.aload_n 2, 1) := by decide +kernel
theorem dX6_drop_17 : decode cX6_drop 17 = .ok (.getfield 273, 3) := by decide +kernel
theorem dX6_drop_20 : decode cX6_drop 20 = .ok (.ifCond .ne 6, 3) := by decide +kernel
theorem dX6_drop_23 : decode cX6_drop 23 = .ok (.bipush (-11), 2) := by decide +kernel
theorem dX6_drop_25 : decode cX6_drop 25 = .ok (.ireturn, 1) := by decide +kernel
theorem dX6_drop_26 : decode cX6_drop 26 = .ok (.aload_n 2, 1) := by decide +kernel
theorem dX6_drop_27 : decode cX6_drop 27 = .ok (.iconst 0, 1) := by decide +kernel
theorem dX6_drop_28 : decode cX6_drop 28 = .ok (.putfield 273, 3) := by decide +kernel
theorem dX6_drop_31 : decode cX6_drop 31 = .ok (.aload_n 2, 1) := by decide +kernel
theorem dX6_drop_32 : decode cX6_drop 32 = .ok (.getfield 253, 3) := by decide +kernel
theorem dX6_drop_35 : decode cX6_drop 35 = .ok (.ireturn, 1) := by decide +kernel
theorem dX6_item_0 : decode cX6_item 0 = .ok (.aload_n 0, 1) := by decide +kernel
theorem dX6_item_1 : decode cX6_item 1 = .ok (.iload_n 1, 1) := by decide +kernel
theorem dX6_item_2 : decode cX6_item 2 = .ok (.iload_n 2, 1) := by decide +kernel
theorem dX6_item_3 : decode cX6_item 3 = .ok (.invokevirtual 250, 3) := by decide +kernel
theorem dX6_item_6 : decode cX6_item 6 = .ok (.istore 5, 2) := by decide +kernel
theorem dX6_item_8 : decode cX6_item 8 = .ok (.iload 5, 2) := by decide +kernel
theorem dX6_item_10 : decode cX6_item 10 = .ok (.ifCond .eq 6, 3) := by decide +kernel
theorem dX6_item_13 : decode cX6_item 13 = .ok (.iload 5, 2) := by decide +kernel
theorem dX6_item_15 : decode cX6_item 15 = .ok (.ireturn, 1) := by decide +kernel
theorem dX6_item_16 : decode cX6_item 16 = .ok (.aload_n 0, 1) := by decide +kernel
theorem dX6_item_17 : decode cX6_item 17 = .ok (.getfield 49, 3) := by decide +kernel
theorem dX6_item_20 : decode cX6_item 20 = .ok (.iload_n 1, 1) := by decide +kernel
theorem dX6_item_21 : decode cX6_item 21 = .ok (.aaload, 1) := by decide +kernel
theorem dX6_item_22 : decode cX6_item 22 = .ok (.astore 6, 2) := by decide +kernel
theorem dX6_item_24 : decode cX6_item 24 = .ok (.iload_n 3, 1) := by decide +kernel
theorem dX6_item_25 : decode cX6_item 25 = .ok (.iconst 0, 1) := by decide +kernel
theorem dX6_item_26 : decode cX6_item 26 = .ok (.aload 6, 2) := by decide +kernel
theorem dX6_item_28 : decode cX6_item 28 = .ok (.getfield 253, 3) := by decide +kernel
theorem dX6_item_31 : decode cX6_item 31 = .ok (.iconst 1, 1) := by decide +kernel
theorem dX6_item_32 : decode cX6_item 32 = .ok (.isub, 1) := by decide +kernel
theorem dX6_item_33 : decode cX6_item 33 = .ok (.invokestatic 54, 3) := by decide +kernel
theorem dX6_item_36 : decode cX6_item 36 = .ok (.ifCond .ne 6, 3) := by decide +kernel
theorem dX6_item_39 : decode cX6_item 39 = .ok (.bipush (-13), 2) := by decide +kernel
theorem dX6_item_41 : decode cX6_item 41 = .ok (.ireturn, 1) := by decide +kernel
theorem dX6_item_42 : decode cX6_item 42 = .ok (.aload 6, 2) := by decide +kernel
theorem dX6_item_44 : decode cX6_item 44 = .ok (.iload_n 3, 1) := by decide +kernel
theorem dX6_item_45 : decode cX6_item 45 = .ok (.iload 4, 2) := by decide +kernel
theorem dX6_item_47 : decode cX6_item 47 = .ok (.invokevirtual 276, 3) := by decide +kernel
theorem dX6_item_50 : decode cX6_item 50 = .ok (.iconst 1, 1) := by decide +kernel
theorem dX6_item_51 : decode cX6_item 51 = .ok (.ireturn, 1) := by decide +kernel
theorem dX6_copy_0 : decode cX6_copy 0 = .ok (.iload_n 1, 1) := by decide +kernel
theorem dX6_copy_1 : decode cX6_copy 1 = .ok (.invokestatic 263, 3) := by decide +kernel
theorem dX6_copy_4 : decode cX6_copy 4 = .ok (.ifCond .eq 10, 3) := by decide +kernel
theorem dX6_copy_7 : decode cX6_copy 7 = .ok (.iload_n 3, 1) := by decide +kernel
theorem dX6_copy_8 : decode cX6_copy 8 = .ok (.invokestatic 263, 3) := by decide +kernel
theorem dX6_copy_11 : decode cX6_copy 11 = .ok (.ifCond .ne 5, 3) := by decide +kernel
theorem dX6_copy_14 : decode cX6_copy 14 = .ok (.iconst (-1), 1) := by decide +kernel
theorem dX6_copy_15 : decode cX6_copy 15 = .ok (.ireturn, 1) := by decide +kernel
theorem dX6_copy_16 : decode cX6_copy 16 = .ok (.aload_n 0, 1) := by decide +kernel
theorem dX6_copy_17 : decode cX6_copy 17 = .ok (.getfield 49, 3) := by decide +kernel
theorem dX6_copy_20 : decode cX6_copy 20 = .ok (.iload_n 1, 1) := by decide +kernel
theorem dX6_copy_21 : decode cX6_copy 21 = .ok (.aaload, 1) := by decide +kernel
theorem dX6_copy_22 : decode cX6_copy 22 = .ok (.astore 6, 2) := by decide +kernel
theorem dX6_copy_24 : decode cX6_copy 24 = .ok (.aload_n 0, 1) := by decide +kernel
theorem dX6_copy_25 : decode cX6_copy 25 = .ok (.getfield 49, 3) := by decide +kernel
theorem dX6_copy_28 : decode cX6_copy 28 = .ok (.iload_n 3, 1) := by decide +kernel
theorem dX6_copy_29 : decode cX6_copy 29 = .ok (.aaload, 1) := by decide +kernel
theorem dX6_copy_30 : decode cX6_copy 30 = .ok (.astore 7, 2) := by decide +kernel
theorem dX6_copy_32 : decode cX6_copy 32 = .ok (.aload 6, 2) := by decide +kernel
theorem dX6_copy_34 : decode cX6_copy 34 = .ok (.getfield 273, 3) := by decide +kernel
theorem dX6_copy_37 : decode cX6_copy 37 = .ok (.ifCond .eq 11, 3) := by decide +kernel
theorem dX6_copy_40 : decode cX6_copy 40 = .ok (.aload 7, 2) := by decide +kernel
theorem dX6_copy_42 : decode cX6_copy 42 = .ok (.getfield 273, 3) := by decide +kernel
theorem dX6_copy_45 : decode cX6_copy 45 = .ok (.ifCond .ne 6, 3) := by decide +kernel
theorem dX6_copy_48 : decode cX6_copy 48 = .ok (.bipush (-11), 2) := by decide +kernel
theorem dX6_copy_50 : decode cX6_copy 50 = .ok (.ireturn, 1) := by decide +kernel
theorem dX6_copy_51 : decode cX6_copy 51 = .ok (.aload 6, 2) := by decide +kernel
theorem dX6_copy_53 : decode cX6_copy 53 = .ok (.getfield 279, 3) := by decide +kernel
theorem dX6_copy_56 : decode cX6_copy 56 = .ok (.aload 7, 2) := by decide +kernel
theorem dX6_copy_58 : decode cX6_copy 58 = .ok (.getfield 279, 3) := by decide +kernel
theorem dX6_copy_61 : decode cX6_copy 61 = .ok (.if_icmp .eq 6, 3) := by decide +kernel
theorem dX6_copy_64 : decode cX6_copy 64 = .ok (.bipush (-12), 2) := by decide +kernel
theorem dX6_copy_66 : decode cX6_copy 66 = .ok (.ireturn, 1) := by decide +kernel
theorem dX6_copy_67 : decode cX6_copy 67 = .ok (.iload 5, 2) := by decide +kernel
theorem dX6_copy_69 : decode cX6_copy 69 = .ok (.ifCond .lt 26, 3) := by decide +kernel
theorem dX6_copy_72 : decode cX6_copy 72 = .ok (.aload 6, 2) := by decide +kernel
theorem dX6_copy_74 : decode cX6_copy 74 = .ok (.iload_n 2, 1) := by decide +kernel
theorem dX6_copy_75 : decode cX6_copy 75 = .ok (.iload 5, 2) := by decide +kernel
theorem dX6_copy_77 : decode cX6_copy 77 = .ok (.invokevirtual 282, 3) := by decide +kernel
theorem dX6_copy_80 : decode cX6_copy 80 = .ok (.ifCond .eq 15, 3) := by decide +kernel
theorem dX6_copy_83 : decode cX6_copy 83 = .ok (.aload 7, 2) := by decide +kernel
theorem dX6_copy_85 : decode cX6_copy 85 = .ok (.iload 4, 2) := by decide +kernel
theorem dX6_copy_87 : decode cX6_copy 87 = .ok (.iload 5, 2) := by decide +kernel
theorem dX6_copy_89 : decode cX6_copy 89 = .ok (.invokevirtual 282, 3) := by decide +kernel
theorem dX6_copy_92 : decode cX6_copy 92 = .ok (.ifCond .ne 6, 3) := by decide +kernel
theorem dX6_copy_95 : decode cX6_copy 95 = .ok (.bipush (-13), 2) := by decide +kernel
theorem dX6_copy_97 : decode cX6_copy 97 = .ok (.ireturn, 1) := by decide +kernel
theorem dX6_copy_98 : decode cX6_copy 98 = .ok (.aload 6, 2) := by decide +kernel
theorem dX6_copy_100 : decode cX6_copy 100 = .ok (.getfield 254, 3) := by decide +kernel
theorem dX6_copy_103 : decode cX6_copy 103 = .ok (.iload_n 2, 1) := by decide +kernel
theorem dX6_copy_104 : decode cX6_copy 104 = .ok (.aload 7, 2) := by decide +kernel
theorem dX6_copy_106 : decode cX6_copy 106 = .ok (.getfield 254, 3) := by decide +kernel
theorem dX6_copy_109 : decode cX6_copy 109 = .ok (.iload 4, 2) := by decide +kernel
theorem dX6_copy_111 : decode cX6_copy 111 = .ok (.iload 5, 2) := by decide +kernel
theorem dX6_copy_113 : decode cX6_copy 113 = .ok (.invokestatic 257, 3) := by decide +kernel
theorem dX6_copy_116 : decode cX6_copy 116 = .ok (.iload 5, 2) := by decide +kernel
theorem dX6_copy_118 : decode cX6_copy 118 = .ok (.ireturn, 1) := by decide +kernel
theorem dX6_refusal_0 : decode cX6_refusal 0 = .ok (.iload_n 1, 1) := by decide +kernel
theorem dX6_refusal_1 : decode cX6_refusal 1 = .ok (.invokestatic 263, 3) := by decide +kernel
theorem dX6_refusal_4 : decode cX6_refusal 4 = .ok (.ifCond .eq 10, 3) := by decide +kernel
theorem dX6_refusal_7 : decode cX6_refusal 7 = .ok (.iload_n 2, 1) := by decide +kernel
theorem dX6_refusal_8 : decode cX6_refusal 8 = .ok (.invokestatic 266, 3) := by decide +kernel
theorem dX6_refusal_11 : decode cX6_refusal 11 = .ok (.ifCond .ne 5, 3) := by decide +kernel
theorem dX6_refusal_14 : decode cX6_refusal 14 = .ok (.iconst (-1), 1) := by decide +kernel
theorem dX6_refusal_15 : decode cX6_refusal 15 = .ok (.ireturn, 1) := by decide +kernel
theorem dX6_refusal_16 : decode cX6_refusal 16 = .ok (.aload_n 0, 1) := by decide +kernel
theorem dX6_refusal_17 : decode cX6_refusal 17 = .ok (.getfield 49, 3) := by decide +kernel
theorem dX6_refusal_20 : decode cX6_refusal 20 = .ok (.iload_n 1, 1) := by decide +kernel
theorem dX6_refusal_21 : decode cX6_refusal 21 = .ok (.aaload, 1) := by decide +kernel
theorem dX6_refusal_22 : decode cX6_refusal 22 = .ok (.getfield 273, 3) := by decide +kernel
theorem dX6_refusal_25 : decode cX6_refusal 25 = .ok (.ifCond .ne 6, 3) := by decide +kernel
theorem dX6_refusal_28 : decode cX6_refusal 28 = .ok (.bipush (-11), 2) := by decide +kernel
theorem dX6_refusal_30 : decode cX6_refusal 30 = .ok (.ireturn, 1) := by decide +kernel
theorem dX6_refusal_31 : decode cX6_refusal 31 = .ok (.aload_n 0, 1) := by decide +kernel
theorem dX6_refusal_32 : decode cX6_refusal 32 = .ok (.getfield 49, 3) := by decide +kernel
theorem dX6_refusal_35 : decode cX6_refusal 35 = .ok (.iload_n 1, 1) := by decide +kernel
theorem dX6_refusal_36 : decode cX6_refusal 36 = .ok (.aaload, 1) := by decide +kernel
theorem dX6_refusal_37 : decode cX6_refusal 37 = .ok (.getfield 279, 3) := by decide +kernel
theorem dX6_refusal_40 : decode cX6_refusal 40 = .ok (.iload_n 2, 1) := by decide +kernel
theorem dX6_refusal_41 : decode cX6_refusal 41 = .ok (.if_icmp .ne 7, 3) := by decide +kernel
theorem dX6_refusal_44 : decode cX6_refusal 44 = .ok (.iconst 0, 1) := by decide +kernel
theorem dX6_refusal_45 : decode cX6_refusal 45 = .ok (.goto 5, 3) := by decide +kernel
theorem dX6_refusal_48 : decode cX6_refusal 48 = .ok (.bipush (-12), 2) := by decide +kernel
theorem dX6_refusal_50 : decode cX6_refusal 50 = .ok (.ireturn, 1) := by decide +kernel
theorem dX6_within_0 : decode cX6_within 0 = .ok (.iload_n 0, 1) := by decide +kernel
theorem dX6_within_1 : decode cX6_within 1 = .ok (.iload_n 1, 1) := by decide +kernel
theorem dX6_within_2 : decode cX6_within 2 = .ok (.if_icmp .lt 12, 3) := by decide +kernel
theorem dX6_within_5 : decode cX6_within 5 = .ok (.iload_n 0, 1) := by decide +kernel
theorem dX6_within_6 : decode cX6_within 6 = .ok (.iload_n 2, 1) := by decide +kernel
theorem dX6_within_7 : decode cX6_within 7 = .ok (.if_icmp .gt 7, 3) := by decide +kernel
theorem dX6_within_10 : decode cX6_within 10 = .ok (.iconst 1, 1) := by decide +kernel
theorem dX6_within_11 : decode cX6_within 11 = .ok (.goto 4, 3) := by decide +kernel
theorem dX6_within_14 : decode cX6_within 14 = .ok (.iconst 0, 1) := by decide +kernel
theorem dX6_within_15 : decode cX6_within 15 = .ok (.ireturn, 1) := by decide +kernel
theorem dX6_isHour_0 : decode cX6_isHour 0 = .ok (.iload_n 0, 1) := by decide +kernel
theorem dX6_isHour_1 : decode cX6_isHour 1 = .ok (.iconst 0, 1) := by decide +kernel
theorem dX6_isHour_2 : decode cX6_isHour 2 = .ok (.bipush 23, 2) := by decide +kernel
theorem dX6_isHour_4 : decode cX6_isHour 4 = .ok (.invokestatic 54, 3) := by decide +kernel
theorem dX6_isHour_7 : decode cX6_isHour 7 = .ok (.ireturn, 1) := by decide +kernel
theorem dX6_isMinute_0 : decode cX6_isMinute 0 = .ok (.iload_n 0, 1) := by decide +kernel
theorem dX6_isMinute_1 : decode cX6_isMinute 1 = .ok (.iconst 0, 1) := by decide +kernel
theorem dX6_isMinute_2 : decode cX6_isMinute 2 = .ok (.sipush 1439, 3) := by decide +kernel
theorem dX6_isMinute_5 : decode cX6_isMinute 5 = .ok (.invokestatic 54, 3) := by decide +kernel
theorem dX6_isMinute_8 : decode cX6_isMinute 8 = .ok (.ireturn, 1) := by decide +kernel
theorem dX6_isSheet_0 : decode cX6_isSheet 0 = .ok (.iload_n 0, 1) := by decide +kernel
theorem dX6_isSheet_1 : decode cX6_isSheet 1 = .ok (.iconst 0, 1) := by decide +kernel
theorem dX6_isSheet_2 : decode cX6_isSheet 2 = .ok (.iconst 3, 1) := by decide +kernel
theorem dX6_isSheet_3 : decode cX6_isSheet 3 = .ok (.invokestatic 54, 3) := by decide +kernel
theorem dX6_isSheet_6 : decode cX6_isSheet 6 = .ok (.ireturn, 1) := by decide +kernel
theorem dX6_isLane_0 : decode cX6_isLane 0 = .ok (.iload_n 0, 1) := by decide +kernel
theorem dX6_isLane_1 : decode cX6_isLane 1 = .ok (.iconst 0, 1) := by decide +kernel
theorem dX6_isLane_2 : decode cX6_isLane 2 = .ok (.iconst 2, 1) := by decide +kernel
theorem dX6_isLane_3 : decode cX6_isLane 3 = .ok (.invokestatic 54, 3) := by decide +kernel
theorem dX6_isLane_6 : decode cX6_isLane 6 = .ok (.ireturn, 1) := by decide +kernel
theorem dX6_holds_0 : decode cX6_holds 0 = .ok (.iload_n 0, 1) := by decide +kernel
theorem dX6_holds_1 : decode cX6_holds 1 = .ok (.iload_n 1, 1) := by decide +kernel
theorem dX6_holds_2 : decode cX6_holds 2 = .ok (.ishr, 1) := by decide +kernel
theorem dX6_holds_3 : decode cX6_holds 3 = .ok (.iconst 1, 1) := by decide +kernel
theorem dX6_holds_4 : decode cX6_holds 4 = .ok (.iand, 1) := by decide +kernel
theorem dX6_holds_5 : decode cX6_holds 5 = .ok (.ifCond .eq 7, 3) := by decide +kernel
theorem dX6_holds_8 : decode cX6_holds 8 = .ok (.iconst 1, 1) := by decide +kernel
theorem dX6_holds_9 : decode cX6_holds 9 = .ok (.goto 4, 3) := by decide +kernel
theorem dX6_holds_12 : decode cX6_holds 12 = .ok (.iconst 0, 1) := by decide +kernel
theorem dX6_holds_13 : decode cX6_holds 13 = .ok (.ireturn, 1) := by decide +kernel
theorem dX6_byteOf_0 : decode cX6_byteOf 0 = .ok (.lload_n 0, 1) := by decide +kernel
theorem dX6_byteOf_1 : decode cX6_byteOf 1 = .ok (.bipush 8, 2) := by decide +kernel
theorem dX6_byteOf_3 : decode cX6_byteOf 3 = .ok (.iload_n 2, 1) := by decide +kernel
theorem dX6_byteOf_4 : decode cX6_byteOf 4 = .ok (.imul, 1) := by decide +kernel
theorem dX6_byteOf_5 : decode cX6_byteOf 5 = .ok (.lshr, 1) := by decide +kernel
theorem dX6_byteOf_6 : decode cX6_byteOf 6 = .ok (.ldc2_w 285, 3) := by decide +kernel
theorem dX6_byteOf_9 : decode cX6_byteOf 9 = .ok (.land, 1) := by decide +kernel
theorem dX6_byteOf_10 : decode cX6_byteOf 10 = .ok (.l2i, 1) := by decide +kernel
theorem dX6_byteOf_11 : decode cX6_byteOf 11 = .ok (.ireturn, 1) := by decide +kernel
theorem dX6_changed_0 : decode cX6_changed 0 = .ok (.aload_n 0, 1) := by decide +kernel
theorem dX6_changed_1 : decode cX6_changed 1 = .ok (.iload_n 1, 1) := by decide +kernel
theorem dX6_changed_2 : decode cX6_changed 2 = .ok (.iaload, 1) := by decide +kernel
theorem dX6_changed_3 : decode cX6_changed 3 = .ok (.istore_n 3, 1) := by decide +kernel
theorem dX6_changed_4 : decode cX6_changed 4 = .ok (.aload_n 0, 1) := by decide +kernel
theorem dX6_changed_5 : decode cX6_changed 5 = .ok (.iload_n 1, 1) := by decide +kernel
theorem dX6_changed_6 : decode cX6_changed 6 = .ok (.iload_n 2, 1) := by decide +kernel
theorem dX6_changed_7 : decode cX6_changed 7 = .ok (.iastore, 1) := by decide +kernel
theorem dX6_changed_8 : decode cX6_changed 8 = .ok (.iload_n 3, 1) := by decide +kernel
theorem dX6_changed_9 : decode cX6_changed 9 = .ok (.ireturn, 1) := by decide +kernel
theorem dJ6_bitCount_0f7a4_0 : decode cJ6_bitCount_0f7a4 0 = .ok (.iload_n 0, 1) := by decide +kernel
theorem dJ6_bitCount_0f7a4_1 : decode cJ6_bitCount_0f7a4 1 = .ok (.iload_n 0, 1) := by decide +kernel
theorem dJ6_bitCount_0f7a4_2 : decode cJ6_bitCount_0f7a4 2 = .ok (.iconst 1, 1) := by decide +kernel
theorem dJ6_bitCount_0f7a4_3 : decode cJ6_bitCount_0f7a4 3 = .ok (.iushr, 1) := by decide +kernel
theorem dJ6_bitCount_0f7a4_4 : decode cJ6_bitCount_0f7a4 4 = .ok (.ldc_w 265, 3) := by decide +kernel
theorem dJ6_bitCount_0f7a4_7 : decode cJ6_bitCount_0f7a4 7 = .ok (.iand, 1) := by decide +kernel
theorem dJ6_bitCount_0f7a4_8 : decode cJ6_bitCount_0f7a4 8 = .ok (.isub, 1) := by decide +kernel
theorem dJ6_bitCount_0f7a4_9 : decode cJ6_bitCount_0f7a4 9 = .ok (.istore_n 0, 1) := by decide +kernel
theorem dJ6_bitCount_0f7a4_10 : decode cJ6_bitCount_0f7a4 10 = .ok (.iload_n 0, 1) := by decide +kernel
theorem dJ6_bitCount_0f7a4_11 : decode cJ6_bitCount_0f7a4 11 = .ok (.ldc_w 266, 3) := by decide +kernel
theorem dJ6_bitCount_0f7a4_14 : decode cJ6_bitCount_0f7a4 14 = .ok (.iand, 1) := by decide +kernel
theorem dJ6_bitCount_0f7a4_15 : decode cJ6_bitCount_0f7a4 15 = .ok (.iload_n 0, 1) := by decide +kernel
theorem dJ6_bitCount_0f7a4_16 : decode cJ6_bitCount_0f7a4 16 = .ok (.iconst 2, 1) := by decide +kernel
theorem dJ6_bitCount_0f7a4_17 : decode cJ6_bitCount_0f7a4 17 = .ok (.iushr, 1) := by decide +kernel
theorem dJ6_bitCount_0f7a4_18 : decode cJ6_bitCount_0f7a4 18 = .ok (.ldc_w 266, 3) := by decide +kernel
theorem dJ6_bitCount_0f7a4_21 : decode cJ6_bitCount_0f7a4 21 = .ok (.iand, 1) := by decide +kernel
theorem dJ6_bitCount_0f7a4_22 : decode cJ6_bitCount_0f7a4 22 = .ok (.iadd, 1) := by decide +kernel
theorem dJ6_bitCount_0f7a4_23 : decode cJ6_bitCount_0f7a4 23 = .ok (.istore_n 0, 1) := by decide +kernel
theorem dJ6_bitCount_0f7a4_24 : decode cJ6_bitCount_0f7a4 24 = .ok (.iload_n 0, 1) := by decide +kernel
theorem dJ6_bitCount_0f7a4_25 : decode cJ6_bitCount_0f7a4 25 = .ok (.iload_n 0, 1) := by decide +kernel
theorem dJ6_bitCount_0f7a4_26 : decode cJ6_bitCount_0f7a4 26 = .ok (.iconst 4, 1) := by decide +kernel
theorem dJ6_bitCount_0f7a4_27 : decode cJ6_bitCount_0f7a4 27 = .ok (.iushr, 1) := by decide +kernel
theorem dJ6_bitCount_0f7a4_28 : decode cJ6_bitCount_0f7a4 28 = .ok (.iadd, 1) := by decide +kernel
theorem dJ6_bitCount_0f7a4_29 : decode cJ6_bitCount_0f7a4 29 = .ok (.ldc_w 267, 3) := by decide +kernel
theorem dJ6_bitCount_0f7a4_32 : decode cJ6_bitCount_0f7a4 32 = .ok (.iand, 1) := by decide +kernel
theorem dJ6_bitCount_0f7a4_33 : decode cJ6_bitCount_0f7a4 33 = .ok (.istore_n 0, 1) := by decide +kernel
theorem dJ6_bitCount_0f7a4_34 : decode cJ6_bitCount_0f7a4 34 = .ok (.iload_n 0, 1) := by decide +kernel
theorem dJ6_bitCount_0f7a4_35 : decode cJ6_bitCount_0f7a4 35 = .ok (.iload_n 0, 1) := by decide +kernel
theorem dJ6_bitCount_0f7a4_36 : decode cJ6_bitCount_0f7a4 36 = .ok (.bipush 8, 2) := by decide +kernel
theorem dJ6_bitCount_0f7a4_38 : decode cJ6_bitCount_0f7a4 38 = .ok (.iushr, 1) := by decide +kernel
theorem dJ6_bitCount_0f7a4_39 : decode cJ6_bitCount_0f7a4 39 = .ok (.iadd, 1) := by decide +kernel
theorem dJ6_bitCount_0f7a4_40 : decode cJ6_bitCount_0f7a4 40 = .ok (.istore_n 0, 1) := by decide +kernel
theorem dJ6_bitCount_0f7a4_41 : decode cJ6_bitCount_0f7a4 41 = .ok (.iload_n 0, 1) := by decide +kernel
theorem dJ6_bitCount_0f7a4_42 : decode cJ6_bitCount_0f7a4 42 = .ok (.iload_n 0, 1) := by decide +kernel
theorem dJ6_bitCount_0f7a4_43 : decode cJ6_bitCount_0f7a4 43 = .ok (.bipush 16, 2) := by decide +kernel
theorem dJ6_bitCount_0f7a4_45 : decode cJ6_bitCount_0f7a4 45 = .ok (.iushr, 1) := by decide +kernel
theorem dJ6_bitCount_0f7a4_46 : decode cJ6_bitCount_0f7a4 46 = .ok (.iadd, 1) := by decide +kernel
theorem dJ6_bitCount_0f7a4_47 : decode cJ6_bitCount_0f7a4 47 = .ok (.istore_n 0, 1) := by decide +kernel
theorem dJ6_bitCount_0f7a4_48 : decode cJ6_bitCount_0f7a4 48 = .ok (.iload_n 0, 1) := by decide +kernel
theorem dJ6_bitCount_0f7a4_49 : decode cJ6_bitCount_0f7a4 49 = .ok (.bipush 63, 2) := by decide +kernel
theorem dJ6_bitCount_0f7a4_51 : decode cJ6_bitCount_0f7a4 51 = .ok (.iand, 1) := by decide +kernel
theorem dJ6_bitCount_0f7a4_52 : decode cJ6_bitCount_0f7a4 52 = .ok (.ireturn, 1) := by decide +kernel
theorem dJ9_max_7cf53_0 : decode cJ9_max_7cf53 0 = .ok (.iload_n 0, 1) := by decide +kernel
theorem dJ9_max_7cf53_1 : decode cJ9_max_7cf53 1 = .ok (.iload_n 1, 1) := by decide +kernel
theorem dJ9_max_7cf53_2 : decode cJ9_max_7cf53 2 = .ok (.if_icmp .lt 7, 3) := by decide +kernel
theorem dJ9_max_7cf53_5 : decode cJ9_max_7cf53 5 = .ok (.iload_n 0, 1) := by decide +kernel
theorem dJ9_max_7cf53_6 : decode cJ9_max_7cf53 6 = .ok (.goto 4, 3) := by decide +kernel
theorem dJ9_max_7cf53_9 : decode cJ9_max_7cf53 9 = .ok (.iload_n 1, 1) := by decide +kernel
theorem dJ9_max_7cf53_10 : decode cJ9_max_7cf53 10 = .ok (.ireturn, 1) := by decide +kernel
theorem dJ9_min_7cf53_0 : decode cJ9_min_7cf53 0 = .ok (.iload_n 0, 1) := by decide +kernel
theorem dJ9_min_7cf53_1 : decode cJ9_min_7cf53 1 = .ok (.iload_n 1, 1) := by decide +kernel
theorem dJ9_min_7cf53_2 : decode cJ9_min_7cf53 2 = .ok (.if_icmp .gt 7, 3) := by decide +kernel
theorem dJ9_min_7cf53_5 : decode cJ9_min_7cf53 5 = .ok (.iload_n 0, 1) := by decide +kernel
theorem dJ9_min_7cf53_6 : decode cJ9_min_7cf53 6 = .ok (.goto 4, 3) := by decide +kernel
theorem dJ9_min_7cf53_9 : decode cJ9_min_7cf53 9 = .ok (.iload_n 1, 1) := by decide +kernel
theorem dJ9_min_7cf53_10 : decode cJ9_min_7cf53 10 = .ok (.ireturn, 1) := by decide +kernel
