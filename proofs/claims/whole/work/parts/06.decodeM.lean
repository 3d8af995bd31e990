theorem dX7_init_0 : decode cX7_init 0 = .ok (.aload_n 0, 1) := by decide +kernel
theorem dX7_init_1 : decode cX7_init 1 = .ok (.invokespecial 1, 3) := by decide +kernel
theorem dX7_init_4 : decode cX7_init 4 = .ok (.aload_n 0, 1) := by decide +kernel
theorem dX7_init_5 : decode cX7_init 5 = .ok (.sipush 528, 3) := by decide +kernel
theorem dX7_init_8 : decode cX7_init 8 = .ok (.newarray .int, 2) := by decide +kernel
theorem dX7_init_10 : decode cX7_init 10 = .ok (.putfield 7, 3) := by decide +kernel
theorem dX7_init_13 : decode cX7_init 13 = .ok (.aload_n 0, 1) := by decide +kernel
theorem dX7_init_14 : decode cX7_init 14 = .ok (.bipush 80, 2) := by decide +kernel
theorem dX7_init_16 : decode cX7_init 16 = .ok (.newarray .int, 2) := by decide +kernel
theorem dX7_init_18 : decode cX7_init 18 = .ok (.putfield 13, 3) := by decide +kernel
theorem dX7_init_21 : decode cX7_init 21 = .ok (.aload_n 0, 1) := by decide +kernel
theorem dX7_init_22 : decode cX7_init 22 = .ok (.bipush 24, 2) := by decide +kernel
theorem dX7_init_24 : decode cX7_init 24 = .ok (.newarray .int, 2) := by decide +kernel
theorem dX7_init_26 : decode cX7_init 26 = .ok (.putfield 16, 3) := by decide +kernel
theorem dX7_init_29 : decode cX7_init 29 = .ok (.aload_n 0, 1) := by decide +kernel
theorem dX7_init_30 : decode cX7_init 30 = .ok (.bipush 96, 2) := by decide +kernel
theorem dX7_init_32 : decode cX7_init 32 = .ok (.newarray .int, 2) := by decide +kernel
theorem dX7_init_34 : decode cX7_init 34 = .ok (.putfield 19, 3) := by decide +kernel
theorem dX7_init_37 : decode cX7_init 37 = .ok (.aload_n 0, 1) := by decide +kernel
theorem dX7_init_38 : decode cX7_init 38 = .ok (.iconst 4, 1) := by decide +kernel
theorem dX7_init_39 : decode cX7_init 39 = .ok (.newarray .int, 2) := by decide +kernel
theorem dX7_init_41 : decode cX7_init 41 = .ok (.putfield 22, 3) := by decide +kernel
theorem dX7_init_44 : decode cX7_init 44 = .ok (.aload_n 0, 1) := by decide +kernel
theorem dX7_init_45 : decode cX7_init 45 = .ok (.iconst 4, 1) := by decide +kernel
theorem dX7_init_46 : decode cX7_init 46 = .ok (.newarray .int, 2) := by decide +kernel
theorem dX7_init_48 : decode cX7_init 48 = .ok (.putfield 25, 3) := by decide +kernel
theorem dX7_init_51 : decode cX7_init 51 = .ok (.aload_n 0, 1) := by decide +kernel
theorem dX7_init_52 : decode cX7_init 52 = .ok (.bipush 24, 2) := by decide +kernel
theorem dX7_init_54 : decode cX7_init 54 = .ok (.newarray .int, 2) := by decide +kernel
theorem dX7_init_56 : decode cX7_init 56 = .ok (.putfield 28, 3) := by decide +kernel
theorem dX7_init_59 : decode cX7_init 59 = .ok (.aload_n 0, 1) := by decide +kernel
theorem dX7_init_60 : decode cX7_init 60 = .ok (.bipush 96, 2) := by decide +kernel
theorem dX7_init_62 : decode cX7_init 62 = .ok (.newarray .boolean, 2) := by decide +kernel
theorem dX7_init_64 : decode cX7_init 64 = .ok (.putfield 31, 3) := by decide +kernel
theorem dX7_init_67 : decode cX7_init 67 = .ok (.aload_n 0, 1) := by decide +kernel
theorem dX7_init_68 : decode cX7_init 68 = .ok (.sipush 5856, 3) := by decide +kernel
theorem dX7_init_71 : decode cX7_init 71 = .ok (.newarray .boolean, 2) := by decide +kernel
theorem dX7_init_73 : decode cX7_init 73 = .ok (.putfield 35, 3) := by decide +kernel
theorem dX7_init_76 : decode cX7_init 76 = .ok (.aload_n 0, 1) := by decide +kernel
theorem dX7_init_77 : decode cX7_init 77 = .ok (.sipush 15872, 3) := by decide +kernel
theorem dX7_init_80 : decode cX7_init 80 = .ok (.newarray .int, 2) := by decide +kernel
theorem dX7_init_82 : decode cX7_init 82 = .ok (.putfield 38, 3) := by decide +kernel
theorem dX7_init_85 : decode cX7_init 85 = .ok (.aload_n 0, 1) := by decide +kernel
theorem dX7_init_86 : decode cX7_init 86 = .ok (.bipush 61, 2) := by decide +kernel
theorem dX7_init_88 : decode cX7_init 88 = .ok (.newarray .int, 2) := by decide +kernel
theorem dX7_init_90 : decode cX7_init 90 = .ok (.putfield 41, 3) := by decide +kernel
theorem dX7_init_93 : decode cX7_init 93 = .ok (.aload_n 0, 1) := by decide +kernel
theorem dX7_init_94 : decode cX7_init 94 = .ok (.sipush 256, 3) := by decide +kernel
theorem dX7_init_97 : decode cX7_init 97 = .ok (.newarray .int, 2) := by decide +kernel
theorem dX7_init_99 : decode cX7_init 99 = .ok (.putfield 44, 3) := by decide +kernel
theorem dX7_init_102 : decode cX7_init 102 = .ok (.aload_n 0, 1) := by decide +kernel
theorem dX7_init_103 : decode cX7_init 103 = .ok (.bipush 8, 2) := by decide +kernel
theorem dX7_init_105 : decode cX7_init 105 = .ok (.newarray .int, 2) := by decide +kernel
theorem dX7_init_107 : decode cX7_init 107 = .ok (.putfield 47, 3) := by decide +kernel
theorem dX7_init_110 : decode cX7_init 110 = .ok (.aload_n 0, 1) := by decide +kernel
theorem dX7_init_111 : decode cX7_init 111 = .ok (.getfield 7, 3) := by decide +kernel
theorem dX7_init_114 : decode cX7_init 114 = .ok (.bipush 61, 2) := by decide +kernel
theorem dX7_init_116 : decode cX7_init 116 = .ok (.bipush 20, 2) := by decide +kernel
theorem dX7_init_118 : decode cX7_init 118 = .ok (.iastore, 1) := by decide +kernel
theorem dX7_init_119 : decode cX7_init 119 = .ok (.iconst 0, 1) := by decide +kernel
theorem dX7_init_120 : decode cX7_init 120 = .ok (.istore_n 1, 1) := by decide +kernel
theorem dX7_init_121 : decode cX7_init 121 = .ok (.iload_n 1, 1) := by decide +kernel
theorem dX7_init_122 : decode cX7_init 122 = .ok (.iconst 4, 1) := by decide +kernel
theorem dX7_init_123 : decode cX7_init 123 = .ok (.if_icmp .ge 16, 3) := by decide +kernel
theorem dX7_init_126 : decode cX7_init 126 = .ok (.aload_n 0, 1) := by decide +kernel
theorem dX7_init_127 : decode cX7_init 127 = .ok (.getfield 22, 3) := by decide +kernel
theorem dX7_init_130 : decode cX7_init 130 = .ok (.iload_n 1, 1) := by decide +kernel
theorem dX7_init_131 : decode cX7_init 131 = .ok (.iconst (-1), 1) := by decide +kernel
theorem dX7_init_132 : decode cX7_init 132 = .ok (.iastore, 1) := by decide +kernel
theorem dX7_init_133 : decode cX7_init 133 = .ok (.iinc 1 1, 3) := by decide +kernel
theorem dX7_init_136 : decode cX7_init 136 = .ok (.goto (-15), 3) := by decide +kernel
theorem dX7_init_139 : decode cX7_init 139 = .ok (.return_, 1) := by decide +kernel
theorem dX7_in_0 : decode cX7_in 0 = .ok (.lload_n 0, 1) := by decide +kernel
theorem dX7_in_1 : decode cX7_in 1 = .ok (.lload_n 2, 1) := by decide +kernel
theorem dX7_in_2 : decode cX7_in 2 = .ok (.lcmp, 1) := by decide +kernel
theorem dX7_in_3 : decode cX7_in 3 = .ok (.ifCond .lt 14, 3) := by decide +kernel
theorem dX7_in_6 : decode cX7_in 6 = .ok (.lload_n 0, 1) := by decide +kernel
theorem dX7_in_7 : decode cX7_in 7 = .ok (.lload 4, 2) := by decide +kernel
theorem dX7_in_9 : decode cX7_in 9 = .ok (.lcmp, 1) := by decide +kernel
theorem dX7_in_10 : decode cX7_in 10 = .ok (.ifCond .gt 7, 3) := by decide +kernel
theorem dX7_in_13 : decode cX7_in 13 = .ok (.iconst 1, 1) := by decide +kernel
theorem dX7_in_14 : decode cX7_in 14 = .ok (.goto 4, 3) := by decide +kernel
theorem dX7_in_17 : decode cX7_in 17 = .ok (.iconst 0, 1) := by decide +kernel
theorem dX7_in_18 : decode cX7_in 18 = .ok (.ireturn, 1) := by decide +kernel
theorem dX7_isPlace_0 : decode cX7_isPlace 0 = .ok (.iload_n 1, 1) := by decide +kernel
theorem dX7_isPlace_1 : decode cX7_isPlace 1 = .ok (.i2l, 1) := by decide +kernel
theorem dX7_isPlace_2 : decode cX7_isPlace 2 = .ok (.lconst 0, 1) := by decide +kernel
theorem dX7_isPlace_3 : decode cX7_isPlace 3 = .ok (.aload_n 0, 1) := by decide +kernel
theorem dX7_isPlace_4 : decode cX7_isPlace 4 = .ok (.getfield 7, 3) := by decide +kernel
theorem dX7_isPlace_7 : decode cX7_isPlace 7 = .ok (.bipush 62, 2) := by decide +kernel
theorem dX7_isPlace_9 : decode cX7_isPlace 9 = .ok (.iaload, 1) := by decide +kernel
theorem dX7_isPlace_10 : decode cX7_isPlace 10 = .ok (.iconst 1, 1) := by decide +kernel
theorem dX7_isPlace_11 : decode cX7_isPlace 11 = .ok (.isub, 1) := by decide +kernel
theorem dX7_isPlace_12 : decode cX7_isPlace 12 = .ok (.i2l, 1) := by decide +kernel
theorem dX7_isPlace_13 : decode cX7_isPlace 13 = .ok (.invokestatic 50, 3) := by decide +kernel
theorem dX7_isPlace_16 : decode cX7_isPlace 16 = .ok (.ireturn, 1) := by decide +kernel
theorem dX7_isPerson_0 : decode cX7_isPerson 0 = .ok (.iload_n 1, 1) := by decide +kernel
theorem dX7_isPerson_1 : decode cX7_isPerson 1 = .ok (.i2l, 1) := by decide +kernel
theorem dX7_isPerson_2 : decode cX7_isPerson 2 = .ok (.lconst 0, 1) := by decide +kernel
theorem dX7_isPerson_3 : decode cX7_isPerson 3 = .ok (.aload_n 0, 1) := by decide +kernel
theorem dX7_isPerson_4 : decode cX7_isPerson 4 = .ok (.getfield 7, 3) := by decide +kernel
theorem dX7_isPerson_7 : decode cX7_isPerson 7 = .ok (.bipush 63, 2) := by decide +kernel
theorem dX7_isPerson_9 : decode cX7_isPerson 9 = .ok (.iaload, 1) := by decide +kernel
theorem dX7_isPerson_10 : decode cX7_isPerson 10 = .ok (.iconst 1, 1) := by decide +kernel
theorem dX7_isPerson_11 : decode cX7_isPerson 11 = .ok (.isub, 1) := by decide +kernel
theorem dX7_isPerson_12 : decode cX7_isPerson 12 = .ok (.i2l, 1) := by decide +kernel
theorem dX7_isPerson_13 : decode cX7_isPerson 13 = .ok (.invokestatic 50, 3) := by decide +kernel
theorem dX7_isPerson_16 : decode cX7_isPerson 16 = .ok (.ireturn, 1) := by decide +kernel
theorem dX7_isHour_0 : decode cX7_isHour 0 = .ok (.iload_n 0, 1) := by decide +kernel
theorem dX7_isHour_1 : decode cX7_isHour 1 = .ok (.i2l, 1) := by decide +kernel
theorem dX7_isHour_2 : decode cX7_isHour 2 = .ok (.lconst 0, 1) := by decide +kernel
theorem dX7_isHour_3 : decode cX7_isHour 3 = .ok (.ldc2_w 54, 3) := by decide +kernel
theorem dX7_isHour_6 : decode cX7_isHour 6 = .ok (.invokestatic 50, 3) := by decide +kernel
theorem dX7_isHour_9 : decode cX7_isHour 9 = .ok (.ireturn, 1) := by decide +kernel
theorem dX7_isSet_0 : decode cX7_isSet 0 = .ok (.iload_n 1, 1) := by decide +kernel
theorem dX7_isSet_1 : decode cX7_isSet 1 = .ok (.i2l, 1) := by decide +kernel
theorem dX7_isSet_2 : decode cX7_isSet 2 = .ok (.lconst 1, 1) := by decide +kernel
theorem dX7_isSet_3 : decode cX7_isSet 3 = .ok (.iconst 1, 1) := by decide +kernel
theorem dX7_isSet_4 : decode cX7_isSet 4 = .ok (.aload_n 0, 1) := by decide +kernel
theorem dX7_isSet_5 : decode cX7_isSet 5 = .ok (.getfield 7, 3) := by decide +kernel
theorem dX7_isSet_8 : decode cX7_isSet 8 = .ok (.bipush 63, 2) := by decide +kernel
theorem dX7_isSet_10 : decode cX7_isSet 10 = .ok (.iaload, 1) := by decide +kernel
theorem dX7_isSet_11 : decode cX7_isSet 11 = .ok (.ishl, 1) := by decide +kernel
theorem dX7_isSet_12 : decode cX7_isSet 12 = .ok (.iconst 1, 1) := by decide +kernel
theorem dX7_isSet_13 : decode cX7_isSet 13 = .ok (.isub, 1) := by decide +kernel
theorem dX7_isSet_14 : decode cX7_isSet 14 = .ok (.i2l, 1) := by decide +kernel
theorem dX7_isSet_15 : decode cX7_isSet 15 = .ok (.invokestatic 50, 3) := by decide +kernel
theorem dX7_isSet_18 : decode cX7_isSet 18 = .ok (.ireturn, 1) := by decide +kernel
theorem dX7_place_0 : decode cX7_place 0 = .ok (.iload_n 1, 1) := by decide +kernel
theorem dX7_place_1 : decode cX7_place 1 = .ok (.i2l, 1) := by decide +kernel
theorem dX7_place_2 : decode cX7_place 2 = .ok (.ldc2_w 56, 3) := by decide +kernel
theorem dX7_place_5 : decode cX7_place 5 = .ok (.ldc2_w 58, 3) := by decide +kernel
theorem dX7_place_8 : decode cX7_place 8 = .ok (.invokestatic 50, 3) := by decide +kernel
theorem dX7_place_11 : decode cX7_place 11 = .ok (.ifCond .ne 5, 3) := by decide +kernel
theorem dX7_place_14 : decode cX7_place 14 = .ok (.iconst (-1), 1) := by decide +kernel
theorem dX7_place_15 : decode cX7_place 15 = .ok (.ireturn, 1) := by decide +kernel
theorem dX7_place_16 : decode cX7_place 16 = .ok (.aload_n 0, 1) := by decide +kernel
theorem dX7_place_17 : decode cX7_place 17 = .ok (.getfield 7, 3) := by decide +kernel
theorem dX7_place_20 : decode cX7_place 20 = .ok (.bipush 62, 2) := by decide +kernel
theorem dX7_place_22 : decode cX7_place 22 = .ok (.iaload, 1) := by decide +kernel
theorem dX7_place_23 : decode cX7_place 23 = .ok (.bipush 12, 2) := by decide +kernel
theorem dX7_place_25 : decode cX7_place 25 = .ok (.if_icmp .ne 6, 3) := by decide +kernel
theorem dX7_place_28 : decode cX7_place 28 = .ok (.bipush (-3), 2) := by decide +kernel
theorem dX7_place_30 : decode cX7_place 30 = .ok (.ireturn, 1) := by decide +kernel
theorem dX7_place_31 : decode cX7_place 31 = .ok (.aload_n 0, 1) := by decide +kernel
theorem dX7_place_32 : decode cX7_place 32 = .ok (.iload_n 1, 1) := by decide +kernel
theorem dX7_place_33 : decode cX7_place 33 = .ok (.iconst 0, 1) := by decide +kernel
theorem dX7_place_34 : decode cX7_place 34 = .ok (.invokevirtual 60, 3) := by decide +kernel
theorem dX7_place_37 : decode cX7_place 37 = .ok (.aload_n 0, 1) := by decide +kernel
theorem dX7_place_38 : decode cX7_place 38 = .ok (.getfield 7, 3) := by decide +kernel
theorem dX7_place_41 : decode cX7_place 41 = .ok (.bipush 62, 2) := by decide +kernel
theorem dX7_place_43 : decode cX7_place 43 = .ok (.iaload, 1) := by decide +kernel
theorem dX7_place_44 : decode cX7_place 44 = .ok (.iconst 1, 1) := by decide +kernel
theorem dX7_place_45 : decode cX7_place 45 = .ok (.isub, 1) := by decide +kernel
theorem dX7_place_46 : decode cX7_place 46 = .ok (.ireturn, 1) := by decide +kernel
theorem dX7_put_0 : decode cX7_put 0 = .ok (.aload_n 0, 1) := by decide +kernel
theorem dX7_put_1 : decode cX7_put 1 = .ok (.getfield 7, 3) := by decide +kernel
theorem dX7_put_4 : decode cX7_put 4 = .ok (.bipush 62, 2) := by decide +kernel
theorem dX7_put_6 : decode cX7_put 6 = .ok (.iaload, 1) := by decide +kernel
theorem dX7_put_7 : decode cX7_put 7 = .ok (.istore_n 3, 1) := by decide +kernel
theorem dX7_put_8 : decode cX7_put 8 = .ok (.aload_n 0, 1) := by decide +kernel
theorem dX7_put_9 : decode cX7_put 9 = .ok (.getfield 7, 3) := by decide +kernel
theorem dX7_put_12 : decode cX7_put 12 = .ok (.iconst 0, 1) := by decide +kernel
theorem dX7_put_13 : decode cX7_put 13 = .ok (.iload_n 3, 1) := by decide +kernel
theorem dX7_put_14 : decode cX7_put 14 = .ok (.iadd, 1) := by decide +kernel
theorem dX7_put_15 : decode cX7_put 15 = .ok (.iload_n 1, 1) := by decide +kernel
theorem dX7_put_16 : decode cX7_put 16 = .ok (.iastore, 1) := by decide +kernel
theorem dX7_put_17 : decode cX7_put 17 = .ok (.aload_n 0, 1) := by decide +kernel
theorem dX7_put_18 : decode cX7_put 18 = .ok (.getfield 7, 3) := by decide +kernel
theorem dX7_put_21 : decode cX7_put 21 = .ok (.bipush 12, 2) := by decide +kernel
theorem dX7_put_23 : decode cX7_put 23 = .ok (.iload_n 3, 1) := by decide +kernel
theorem dX7_put_24 : decode cX7_put 24 = .ok (.iadd, 1) := by decide +kernel
theorem dX7_put_25 : decode cX7_put 25 = .ok (.iload_n 2, 1) := by decide +kernel
theorem dX7_put_26 : decode cX7_put 26 = .ok (.iastore, 1) := by decide +kernel
theorem dX7_put_27 : decode cX7_put 27 = .ok (.aload_n 0, 1) := by decide +kernel
theorem dX7_put_28 : decode cX7_put 28 = .ok (.getfield 7, 3) := by decide +kernel
theorem dX7_put_31 : decode cX7_put 31 = .ok (.bipush 24, 2) := by decide +kernel
theorem dX7_put_33 : decode cX7_put 33 = .ok (.iload_n 3, 1) := by decide +kernel
theorem dX7_put_34 : decode cX7_put 34 = .ok (.iadd, 1) := by decide +kernel
theorem dX7_put_35 : decode cX7_put 35 = .ok (.iconst 0, 1) := by decide +kernel
theorem dX7_put_36 : decode cX7_put 36 = .ok (.iastore, 1) := by decide +kernel
theorem dX7_put_37 : decode cX7_put 37 = .ok (.aload_n 0, 1) := by decide +kernel
theorem dX7_put_38 : decode cX7_put 38 = .ok (.getfield 7, 3) := by decide +kernel
theorem dX7_put_41 : decode cX7_put 41 = .ok (.bipush 62, 2) := by decide +kernel
theorem dX7_put_43 : decode cX7_put 43 = .ok (.dup2, 1) := by decide +kernel
theorem dX7_put_44 : decode cX7_put 44 = .ok (.iaload, 1) := by decide +kernel
theorem dX7_put_45 : decode cX7_put 45 = .ok (.iconst 1, 1) := by decide +kernel
theorem dX7_put_46 : decode cX7_put 46 = .ok (.iadd, 1) := by decide +kernel
theorem dX7_put_47 : decode cX7_put 47 = .ok (.iastore, 1) := by decide +kernel
theorem dX7_put_48 : decode cX7_put 48 = .ok (.return_, 1) := by decide +kernel
theorem dX7_posts_0 : decode cX7_posts 0 = .ok (.iconst 0, 1) := by decide +kernel
theorem dX7_posts_1 : decode cX7_posts 1 = .ok (.istore_n 2, 1) := by decide +kernel
theorem dX7_posts_2 : decode cX7_posts 2 = .ok (.iconst 0, 1) := by decide +kernel
theorem dX7_posts_3 : decode cX7_posts 3 = .ok (.istore_n 3, 1) := by decide +kernel
theorem dX7_posts_4 : decode cX7_posts 4 = .ok (.iload_n 3, 1) := by decide +kernel
theorem dX7_posts_5 : decode cX7_posts 5 = .ok (.aload_n 0, 1) := by decide +kernel
theorem dX7_posts_6 : decode cX7_posts 6 = .ok (.getfield 7, 3) := by decide +kernel
theorem dX7_posts_9 : decode cX7_posts 9 = .ok (.bipush 62, 2) := by decide +kernel
theorem dX7_posts_11 : decode cX7_posts 11 = .ok (.iaload, 1) := by decide +kernel
theorem dX7_posts_12 : decode cX7_posts 12 = .ok (.if_icmp .ge 34, 3) := by decide +kernel
theorem dX7_posts_15 : decode cX7_posts 15 = .ok (.iload_n 2, 1) := by decide +kernel
theorem dX7_posts_16 : decode cX7_posts 16 = .ok (.iload_n 3, 1) := by decide +kernel
theorem dX7_posts_17 : decode cX7_posts 17 = .ok (.iload_n 1, 1) := by decide +kernel
theorem dX7_posts_18 : decode cX7_posts 18 = .ok (.if_icmp .eq 19, 3) := by decide +kernel
theorem dX7_posts_21 : decode cX7_posts 21 = .ok (.aload_n 0, 1) := by decide +kernel
theorem dX7_posts_22 : decode cX7_posts 22 = .ok (.getfield 7, 3) := by decide +kernel
theorem dX7_posts_25 : decode cX7_posts 25 = .ok (.bipush 12, 2) := by decide +kernel
theorem dX7_posts_27 : decode cX7_posts 27 = .ok (.iload_n 3, 1) := by decide +kernel
theorem dX7_posts_28 : decode cX7_posts 28 = .ok (.iadd, 1) := by decide +kernel
theorem dX7_posts_29 : decode cX7_posts 29 = .ok (.iaload, 1) := by decide +kernel
theorem dX7_posts_30 : decode cX7_posts 30 = .ok (.ifCond .le 7, 3) := by decide +kernel
theorem dX7_posts_33 : decode cX7_posts 33 = .ok (.iconst 1, 1) := by decide +kernel
theorem dX7_posts_34 : decode cX7_posts 34 = .ok (.goto 4, 3) := by decide +kernel
theorem dX7_posts_37 : decode cX7_posts 37 = .ok (.iconst 0, 1) := by decide +kernel
theorem dX7_posts_38 : decode cX7_posts 38 = .ok (.iadd, 1) := by decide +kernel
theorem dX7_posts_39 : decode cX7_posts 39 = .ok (.istore_n 2, 1) := by decide +kernel
theorem dX7_posts_40 : decode cX7_posts 40 = .ok (.iinc 3 1, 3) := by decide +kernel
theorem dX7_posts_43 : decode cX7_posts 43 = .ok (.goto (-39), 3) := by decide +kernel
theorem dX7_posts_46 : decode cX7_posts 46 = .ok (.iload_n 2, 1) := by decide +kernel
theorem dX7_posts_47 : decode cX7_posts 47 = .ok (.ireturn, 1) := by decide +kernel
theorem dX7_make_0 : decode cX7_make 0 = .ok (.iload_n 2, 1) := by decide +kernel
theorem dX7_make_1 : decode cX7_make 1 = .ok (.ifCond .ne 17, 3) := by decide +kernel
theorem dX7_make_4 : decode cX7_make 4 = .ok (.iload_n 3, 1) := by decide +kernel
theorem dX7_make_5 : decode cX7_make 5 = .ok (.i2l, 1) := by decide +kernel
theorem dX7_make_6 : decode cX7_make 6 = .ok (.ldc2_w 56, 3) := by decide +kernel
theorem dX7_make_9 : decode cX7_make 9 = .ok (.ldc2_w 58, 3) := by decide +kernel
theorem dX7_make_12 : decode cX7_make 12 = .ok (.invokestatic 50, 3) := by decide +kernel
theorem dX7_make_15 : decode cX7_make 15 = .ok (.goto 44, 3) := by decide +kernel
theorem dX7_make_18 : decode cX7_make 18 = .ok (.iload_n 2, 1) := by decide +kernel
theorem dX7_make_19 : decode cX7_make 19 = .ok (.iconst 1, 1) := by decide +kernel
theorem dX7_make_20 : decode cX7_make 20 = .ok (.if_icmp .ne 15, 3) := by decide +kernel
theorem dX7_make_23 : decode cX7_make 23 = .ok (.iload_n 3, 1) := by decide +kernel
theorem dX7_make_24 : decode cX7_make 24 = .ok (.i2l, 1) := by decide +kernel
theorem dX7_make_25 : decode cX7_make 25 = .ok (.lconst 0, 1) := by decide +kernel
theorem dX7_make_26 : decode cX7_make 26 = .ok (.ldc2_w 64, 3) := by decide +kernel
theorem dX7_make_29 : decode cX7_make 29 = .ok (.invokestatic 50, 3) := by decide +kernel
theorem dX7_make_32 : decode cX7_make 32 = .ok (.goto 27, 3) := by decide +kernel
theorem dX7_make_35 : decode cX7_make 35 = .ok (.iload_n 2, 1) := by decide +kernel
theorem dX7_make_36 : decode cX7_make 36 = .ok (.iconst 2, 1) := by decide +kernel
theorem dX7_make_37 : decode cX7_make 37 = .ok (.if_icmp .ne 21, 3) := by decide +kernel
theorem dX7_make_40 : decode cX7_make 40 = .ok (.iload_n 3, 1) := by decide +kernel
theorem dX7_make_41 : decode cX7_make 41 = .ok (.i2l, 1) := by decide +kernel
theorem dX7_make_42 : decode cX7_make 42 = .ok (.ldc2_w 66, 3) := by decide +kernel
theorem dX7_make_45 : decode cX7_make 45 = .ok (.ldc2_w 68, 3) := by decide +kernel
theorem dX7_make_48 : decode cX7_make 48 = .ok (.invokestatic 50, 3) := by decide +kernel
theorem dX7_make_51 : decode cX7_make 51 = .ok (.ifCond .eq 7, 3) := by decide +kernel
theorem dX7_make_54 : decode cX7_make 54 = .ok (.iconst 1, 1) := by decide +kernel
theorem dX7_make_55 : decode cX7_make 55 = .ok (.goto 4, 3) := by decide +kernel
theorem dX7_make_58 : decode cX7_make 58 = .ok (.iconst 0, 1) := by decide +kernel
theorem dX7_make_59 : decode cX7_make 59 = .ok (.istore 4, 2) := by decide +kernel
theorem dX7_make_61 : decode cX7_make 61 = .ok (.aload_n 0, 1) := by decide +kernel
theorem dX7_make_62 : decode cX7_make 62 = .ok (.iload_n 1, 1) := by decide +kernel
theorem dX7_make_63 : decode cX7_make 63 = .ok (.invokevirtual 70, 3) := by decide +kernel
theorem dX7_make_66 : decode cX7_make 66 = .ok (.ifCond .eq 8, 3) := by decide +kernel
theorem dX7_make_69 : decode cX7_make 69 = .ok (.iload 4, 2) := by decide +kernel
theorem dX7_make_71 : decode cX7_make 71 = .ok (.ifCond .ne 6, 3) := by decide +kernel
theorem dX7_make_74 : decode cX7_make 74 = .ok (.ldc 74, 2) := by decide +kernel
theorem dX7_make_76 : decode cX7_make 76 = .ok (.ireturn, 1) := by decide +kernel
theorem dX7_make_77 : decode cX7_make 77 = .ok (.iload_n 2, 1) := by decide +kernel
theorem dX7_make_78 : decode cX7_make 78 = .ok (.iconst 1, 1) := by decide +kernel
theorem dX7_make_79 : decode cX7_make 79 = .ok (.if_icmp .ne 19, 3) := by decide +kernel
theorem dX7_make_82 : decode cX7_make 82 = .ok (.iload_n 3, 1) := by decide +kernel
theorem dX7_make_83 : decode cX7_make 83 = .ok (.ifCond .le 15, 3) := by decide +kernel
theorem dX7_make_86 : decode cX7_make 86 = .ok (.aload_n 0, 1) := by decide +kernel
theorem dX7_make_87 : decode cX7_make 87 = .ok (.iload_n 1, 1) := by decide +kernel
theorem dX7_make_88 : decode cX7_make 88 = .ok (.invokevirtual 75, 3) := by decide +kernel
theorem dX7_make_91 : decode cX7_make 91 = .ok (.iconst 3, 1) := by decide +kernel
theorem dX7_make_92 : decode cX7_make 92 = .ok (.if_icmp .ne 6, 3) := by decide +kernel
theorem dX7_make_95 : decode cX7_make 95 = .ok (.ldc 79, 2) := by decide +kernel
theorem dX7_make_97 : decode cX7_make 97 = .ok (.ireturn, 1) := by decide +kernel
theorem dX7_make_98 : decode cX7_make 98 = .ok (.aload_n 0, 1) := by decide +kernel
theorem dX7_make_99 : decode cX7_make 99 = .ok (.getfield 7, 3) := by decide +kernel
theorem dX7_make_102 : decode cX7_make 102 = .ok (.bipush 12, 2) := by decide +kernel
theorem dX7_make_104 : decode cX7_make 104 = .ok (.iload_n 2, 1) := by decide +kernel
theorem dX7_make_105 : decode cX7_make 105 = .ok (.imul, 1) := by decide +kernel
theorem dX7_make_106 : decode cX7_make 106 = .ok (.iload_n 1, 1) := by decide +kernel
theorem dX7_make_107 : decode cX7_make 107 = .ok (.iadd, 1) := by decide +kernel
theorem dX7_make_108 : decode cX7_make 108 = .ok (.iaload, 1) := by decide +kernel
theorem dX7_make_109 : decode cX7_make 109 = .ok (.istore 5, 2) := by decide +kernel
theorem dX7_make_111 : decode cX7_make 111 = .ok (.aload_n 0, 1) := by decide +kernel
theorem dX7_make_112 : decode cX7_make 112 = .ok (.getfield 7, 3) := by decide +kernel
theorem dX7_make_115 : decode cX7_make 115 = .ok (.bipush 12, 2) := by decide +kernel
theorem dX7_make_117 : decode cX7_make 117 = .ok (.iload_n 2, 1) := by decide +kernel
theorem dX7_make_118 : decode cX7_make 118 = .ok (.imul, 1) := by decide +kernel
theorem dX7_make_119 : decode cX7_make 119 = .ok (.iload_n 1, 1) := by decide +kernel
theorem dX7_make_120 : decode cX7_make 120 = .ok (.iadd, 1) := by decide +kernel
theorem dX7_make_121 : decode cX7_make 121 = .ok (.iload_n 3, 1) := by decide +kernel
theorem dX7_make_122 : decode cX7_make 122 = .ok (.iastore, 1) := by decide +kernel
theorem dX7_make_123 : decode cX7_make 123 = .ok (.iload 5, 2) := by decide +kernel
theorem dX7_make_125 : decode cX7_make 125 = .ok (.ireturn, 1) := by decide +kernel
theorem dX7_pathOf_0 : decode cX7_pathOf 0 = .ok (.aload_n 0, 1) := by decide +kernel
theorem dX7_pathOf_1 : decode cX7_pathOf 1 = .ok (.getfield 7, 3) := by decide +kernel
theorem dX7_pathOf_4 : decode cX7_pathOf 4 = .ok (.bipush 120, 2) := by decide +kernel
theorem dX7_pathOf_6 : decode cX7_pathOf 6 = .ok (.bipush 12, 2) := by decide +kernel
theorem dX7_pathOf_8 : decode cX7_pathOf 8 = .ok (.iload_n 1, 1) := by decide +kernel
theorem dX7_pathOf_9 : decode cX7_pathOf 9 = .ok (.imul, 1) := by decide +kernel
theorem dX7_pathOf_10 : decode cX7_pathOf 10 = .ok (.iadd, 1) := by decide +kernel
theorem dX7_pathOf_11 : decode cX7_pathOf 11 = .ok (.iload_n 2, 1) := by decide +kernel
theorem dX7_pathOf_12 : decode cX7_pathOf 12 = .ok (.iadd, 1) := by decide +kernel
theorem dX7_pathOf_13 : decode cX7_pathOf 13 = .ok (.iaload, 1) := by decide +kernel
theorem dX7_pathOf_14 : decode cX7_pathOf 14 = .ok (.ireturn, 1) := by decide +kernel
theorem dX7_join_0 : decode cX7_join 0 = .ok (.aload_n 0, 1) := by decide +kernel
theorem dX7_join_1 : decode cX7_join 1 = .ok (.getfield 7, 3) := by decide +kernel
theorem dX7_join_4 : decode cX7_join 4 = .ok (.bipush 120, 2) := by decide +kernel
theorem dX7_join_6 : decode cX7_join 6 = .ok (.bipush 12, 2) := by decide +kernel
theorem dX7_join_8 : decode cX7_join 8 = .ok (.iload_n 1, 1) := by decide +kernel
theorem dX7_join_9 : decode cX7_join 9 = .ok (.imul, 1) := by decide +kernel
theorem dX7_join_10 : decode cX7_join 10 = .ok (.iadd, 1) := by decide +kernel
theorem dX7_join_11 : decode cX7_join 11 = .ok (.iload_n 2, 1) := by decide +kernel
theorem dX7_join_12 : decode cX7_join 12 = .ok (.iadd, 1) := by decide +kernel
theorem dX7_join_13 : decode cX7_join 13 = .ok (.iload_n 3, 1) := by decide +kernel
theorem dX7_join_14 : decode cX7_join 14 = .ok (.iastore, 1) := by decide +kernel
theorem dX7_join_15 : decode cX7_join 15 = .ok (.aload_n 0, 1) := by decide +kernel
theorem dX7_join_16 : decode cX7_join 16 = .ok (.getfield 7, 3) := by decide +kernel
theorem dX7_join_19 : decode cX7_join 19 = .ok (.bipush 120, 2) := by decide +kernel
theorem dX7_join_21 : decode cX7_join 21 = .ok (.bipush 12, 2) := by decide +kernel
theorem dX7_join_23 : decode cX7_join 23 = .ok (.iload_n 2, 1) := by decide +kernel
theorem dX7_join_24 : decode cX7_join 24 = .ok (.imul, 1) := by decide +kernel
theorem dX7_join_25 : decode cX7_join 25 = .ok (.iadd, 1) := by decide +kernel
theorem dX7_join_26 : decode cX7_join 26 = .ok (.iload_n 1, 1) := by decide +kernel
theorem dX7_join_27 : decode cX7_join 27 = .ok (.iadd, 1) := by decide +kernel
theorem dX7_join_28 : decode cX7_join 28 = .ok (.iload_n 3, 1) := by decide +kernel
theorem dX7_join_29 : decode cX7_join 29 = .ok (.iastore, 1) := by decide +kernel
theorem dX7_join_30 : decode cX7_join 30 = .ok (.return_, 1) := by decide +kernel
theorem dX7_path_0 : decode cX7_path 0 = .ok (.aload_n 0, 1) := by decide +kernel
theorem dX7_path_1 : decode cX7_path 1 = .ok (.iload_n 1, 1) := by decide +kernel
theorem dX7_path_2 : decode cX7_path 2 = .ok (.invokevirtual 70, 3) := by decide +kernel
theorem dX7_path_5 : decode cX7_path 5 = .ok (.ifCond .eq 28, 3) := by decide +kernel
theorem dX7_path_8 : decode cX7_path 8 = .ok (.aload_n 0, 1) := by decide +kernel
theorem dX7_path_9 : decode cX7_path 9 = .ok (.iload_n 2, 1) := by decide +kernel
theorem dX7_path_10 : decode cX7_path 10 = .ok (.invokevirtual 70, 3) := by decide +kernel
theorem dX7_path_13 : decode cX7_path 13 = .ok (.ifCond .eq 20, 3) := by decide +kernel
theorem dX7_path_16 : decode cX7_path 16 = .ok (.iload_n 1, 1) := by decide +kernel
theorem dX7_path_17 : decode cX7_path 17 = .ok (.iload_n 2, 1) := by decide +kernel
theorem dX7_path_18 : decode cX7_path 18 = .ok (.if_icmp .eq 15, 3) := by decide +kernel
theorem dX7_path_21 : decode cX7_path 21 = .ok (.iload_n 3, 1) := by decide +kernel
theorem dX7_path_22 : decode cX7_path 22 = .ok (.i2l, 1) := by decide +kernel
theorem dX7_path_23 : decode cX7_path 23 = .ok (.lconst 0, 1) := by decide +kernel
theorem dX7_path_24 : decode cX7_path 24 = .ok (.ldc2_w 58, 3) := by decide +kernel
theorem dX7_path_27 : decode cX7_path 27 = .ok (.invokestatic 50, 3) := by decide +kernel
theorem dX7_path_30 : decode cX7_path 30 = .ok (.ifCond .ne 5, 3) := by decide +kernel
theorem dX7_path_33 : decode cX7_path 33 = .ok (.iconst (-1), 1) := by decide +kernel
theorem dX7_path_34 : decode cX7_path 34 = .ok (.ireturn, 1) := by decide +kernel
theorem dX7_path_35 : decode cX7_path 35 = .ok (.aload_n 0, 1) := by decide +kernel
theorem dX7_path_36 : decode cX7_path 36 = .ok (.iload_n 1, 1) := by decide +kernel
theorem dX7_path_37 : decode cX7_path 37 = .ok (.iload_n 2, 1) := by decide +kernel
theorem dX7_path_38 : decode cX7_path 38 = .ok (.invokevirtual 80, 3) := by decide +kernel
theorem dX7_path_41 : decode cX7_path 41 = .ok (.istore 4, 2) := by decide +kernel
theorem dX7_path_43 : decode cX7_path 43 = .ok (.aload_n 0, 1) := by decide +kernel
theorem dX7_path_44 : decode cX7_path 44 = .ok (.iload_n 1, 1) := by decide +kernel
theorem dX7_path_45 : decode cX7_path 45 = .ok (.iload_n 2, 1) := by decide +kernel
theorem dX7_path_46 : decode cX7_path 46 = .ok (.iload_n 3, 1) := by decide +kernel
theorem dX7_path_47 : decode cX7_path 47 = .ok (.invokevirtual 84, 3) := by decide +kernel
theorem dX7_path_50 : decode cX7_path 50 = .ok (.iload 4, 2) := by decide +kernel
theorem dX7_path_52 : decode cX7_path 52 = .ok (.ireturn, 1) := by decide +kernel
theorem dX7_tide_0 : decode cX7_tide 0 = .ok (.iload_n 1, 1) := by decide +kernel
theorem dX7_tide_1 : decode cX7_tide 1 = .ok (.invokestatic 88, 3) := by decide +kernel
theorem dX7_tide_4 : decode cX7_tide 4 = .ok (.ifCond .eq 17, 3) := by decide +kernel
theorem dX7_tide_7 : decode cX7_tide 7 = .ok (.iload_n 2, 1) := by decide +kernel
theorem dX7_tide_8 : decode cX7_tide 8 = .ok (.i2l, 1) := by decide +kernel
theorem dX7_tide_9 : decode cX7_tide 9 = .ok (.ldc2_w 56, 3) := by decide +kernel
theorem dX7_tide_12 : decode cX7_tide 12 = .ok (.ldc2_w 64, 3) := by decide +kernel
theorem dX7_tide_15 : decode cX7_tide 15 = .ok (.invokestatic 50, 3) := by decide +kernel
theorem dX7_tide_18 : decode cX7_tide 18 = .ok (.ifCond .ne 6, 3) := by decide +kernel
theorem dX7_tide_21 : decode cX7_tide 21 = .ok (.ldc 74, 2) := by decide +kernel
theorem dX7_tide_23 : decode cX7_tide 23 = .ok (.ireturn, 1) := by decide +kernel
theorem dX7_tide_24 : decode cX7_tide 24 = .ok (.aload_n 0, 1) := by decide +kernel
theorem dX7_tide_25 : decode cX7_tide 25 = .ok (.getfield 7, 3) := by decide +kernel
theorem dX7_tide_28 : decode cX7_tide 28 = .ok (.bipush 36, 2) := by decide +kernel
theorem dX7_tide_30 : decode cX7_tide 30 = .ok (.iload_n 1, 1) := by decide +kernel
theorem dX7_tide_31 : decode cX7_tide 31 = .ok (.iadd, 1) := by decide +kernel
theorem dX7_tide_32 : decode cX7_tide 32 = .ok (.iaload, 1) := by decide +kernel
theorem dX7_tide_33 : decode cX7_tide 33 = .ok (.istore_n 3, 1) := by decide +kernel
theorem dX7_tide_34 : decode cX7_tide 34 = .ok (.aload_n 0, 1) := by decide +kernel
theorem dX7_tide_35 : decode cX7_tide 35 = .ok (.getfield 7, 3) := by decide +kernel
theorem dX7_tide_38 : decode cX7_tide 38 = .ok (.bipush 36, 2) := by decide +kernel
theorem dX7_tide_40 : decode cX7_tide 40 = .ok (.iload_n 1, 1) := by decide +kernel
theorem dX7_tide_41 : decode cX7_tide 41 = .ok (.iadd, 1) := by decide +kernel
theorem dX7_tide_42 : decode cX7_tide 42 = .ok (.iload_n 2, 1) := by decide +kernel
theorem dX7_tide_43 : decode cX7_tide 43 = .ok (.iastore, 1) := by decide +kernel
theorem dX7_tide_44 : decode cX7_tide 44 = .ok (.iload_n 3, 1) := by decide +kernel
theorem dX7_tide_45 : decode cX7_tide 45 = .ok (.ireturn, 1) := by decide +kernel
theorem dX7_set_0 : decode cX7_set 0 = .ok (.iload_n 1, 1) := by decide +kernel
theorem dX7_set_1 : decode cX7_set 1 = .ok (.i2l, 1) := by decide +kernel
theorem dX7_set_2 : decode cX7_set 2 = .ok (.lconst 0, 1) := by decide +kernel
theorem dX7_set_3 : decode cX7_set 3 = .ok (.lconst 1, 1) := by decide +kernel
theorem dX7_set_4 : decode cX7_set 4 = .ok (.invokestatic 50, 3) := by decide +kernel
theorem dX7_set_7 : decode cX7_set 7 = .ok (.ifCond .eq 25, 3) := by decide +kernel
theorem dX7_set_10 : decode cX7_set 10 = .ok (.iload_n 2, 1) := by decide +kernel
theorem dX7_set_11 : decode cX7_set 11 = .ok (.i2l, 1) := by decide +kernel
theorem dX7_set_12 : decode cX7_set 12 = .ok (.lconst 0, 1) := by decide +kernel
theorem dX7_set_13 : decode cX7_set 13 = .ok (.iload_n 1, 1) := by decide +kernel
theorem dX7_set_14 : decode cX7_set 14 = .ok (.ifCond .ne 9, 3) := by decide +kernel
theorem dX7_set_17 : decode cX7_set 17 = .ok (.ldc2_w 91, 3) := by decide +kernel
theorem dX7_set_20 : decode cX7_set 20 = .ok (.goto 6, 3) := by decide +kernel
theorem dX7_set_23 : decode cX7_set 23 = .ok (.ldc2_w 58, 3) := by decide +kernel
theorem dX7_set_26 : decode cX7_set 26 = .ok (.invokestatic 50, 3) := by decide +kernel
theorem dX7_set_29 : decode cX7_set 29 = .ok (.ifCond .ne 5, 3) := by decide +kernel
theorem dX7_set_32 : decode cX7_set 32 = .ok (.iconst (-1), 1) := by decide +kernel
theorem dX7_set_33 : decode cX7_set 33 = .ok (.ireturn, 1) := by decide +kernel
theorem dX7_set_34 : decode cX7_set 34 = .ok (.aload_n 0, 1) := by decide +kernel
theorem dX7_set_35 : decode cX7_set 35 = .ok (.getfield 7, 3) := by decide +kernel
theorem dX7_set_38 : decode cX7_set 38 = .ok (.bipush 60, 2) := by decide +kernel
theorem dX7_set_40 : decode cX7_set 40 = .ok (.iload_n 1, 1) := by decide +kernel
theorem dX7_set_41 : decode cX7_set 41 = .ok (.iadd, 1) := by decide +kernel
theorem dX7_set_42 : decode cX7_set 42 = .ok (.iaload, 1) := by decide +kernel
theorem dX7_set_43 : decode cX7_set 43 = .ok (.istore_n 3, 1) := by decide +kernel
theorem dX7_set_44 : decode cX7_set 44 = .ok (.aload_n 0, 1) := by decide +kernel
theorem dX7_set_45 : decode cX7_set 45 = .ok (.getfield 7, 3) := by decide +kernel
theorem dX7_set_48 : decode cX7_set 48 = .ok (.bipush 60, 2) := by decide +kernel
theorem dX7_set_50 : decode cX7_set 50 = .ok (.iload_n 1, 1) := by decide +kernel
theorem dX7_set_51 : decode cX7_set 51 = .ok (.iadd, 1) := by decide +kernel
theorem dX7_set_52 : decode cX7_set 52 = .ok (.iload_n 2, 1) := by decide +kernel
theorem dX7_set_53 : decode cX7_set 53 = .ok (.iastore, 1) := by decide +kernel
theorem dX7_set_54 : decode cX7_set 54 = .ok (.iload_n 3, 1) := by decide +kernel
theorem dX7_set_55 : decode cX7_set 55 = .ok (.ireturn, 1) := by decide +kernel
theorem dX7_person_0 : decode cX7_person 0 = .ok (.iload_n 1, 1) := by decide +kernel
theorem dX7_person_1 : decode cX7_person 1 = .ok (.i2l, 1) := by decide +kernel
theorem dX7_person_2 : decode cX7_person 2 = .ok (.lconst 0, 1) := by decide +kernel
theorem dX7_person_3 : decode cX7_person 3 = .ok (.ldc2_w 93, 3) := by decide +kernel
theorem dX7_person_6 : decode cX7_person 6 = .ok (.invokestatic 50, 3) := by decide +kernel
theorem dX7_person_9 : decode cX7_person 9 = .ok (.ifCond .eq 23, 3) := by decide +kernel
theorem dX7_person_12 : decode cX7_person 12 = .ok (.iload_n 2, 1) := by decide +kernel
theorem dX7_person_13 : decode cX7_person 13 = .ok (.i2l, 1) := by decide +kernel
theorem dX7_person_14 : decode cX7_person 14 = .ok (.lconst 0, 1) := by decide +kernel
theorem dX7_person_15 : decode cX7_person 15 = .ok (.ldc2_w 58, 3) := by decide +kernel
theorem dX7_person_18 : decode cX7_person 18 = .ok (.invokestatic 50, 3) := by decide +kernel
theorem dX7_person_21 : decode cX7_person 21 = .ok (.ifCond .eq 11, 3) := by decide +kernel
theorem dX7_person_24 : decode cX7_person 24 = .ok (.aload_n 0, 1) := by decide +kernel
theorem dX7_person_25 : decode cX7_person 25 = .ok (.iload_n 3, 1) := by decide +kernel
theorem dX7_person_26 : decode cX7_person 26 = .ok (.invokevirtual 70, 3) := by decide +kernel
theorem dX7_person_29 : decode cX7_person 29 = .ok (.ifCond .ne 5, 3) := by decide +kernel
theorem dX7_person_32 : decode cX7_person 32 = .ok (.iconst (-1), 1) := by decide +kernel
theorem dX7_person_33 : decode cX7_person 33 = .ok (.ireturn, 1) := by decide +kernel
theorem dX7_person_34 : decode cX7_person 34 = .ok (.aload_n 0, 1) := by decide +kernel
theorem dX7_person_35 : decode cX7_person 35 = .ok (.getfield 7, 3) := by decide +kernel
theorem dX7_person_38 : decode cX7_person 38 = .ok (.bipush 63, 2) := by decide +kernel
theorem dX7_person_40 : decode cX7_person 40 = .ok (.iaload, 1) := by decide +kernel
theorem dX7_person_41 : decode cX7_person 41 = .ok (.bipush 8, 2) := by decide +kernel
theorem dX7_person_43 : decode cX7_person 43 = .ok (.if_icmp .ne 6, 3) := by decide +kernel
theorem dX7_person_46 : decode cX7_person 46 = .ok (.bipush (-3), 2) := by decide +kernel
theorem dX7_person_48 : decode cX7_person 48 = .ok (.ireturn, 1) := by decide +kernel
theorem dX7_person_49 : decode cX7_person 49 = .ok (.aload_n 0, 1) := by decide +kernel
theorem dX7_person_50 : decode cX7_person 50 = .ok (.getfield 7, 3) := by decide +kernel
theorem dX7_person_53 : decode cX7_person 53 = .ok (.bipush 63, 2) := by decide +kernel
theorem dX7_person_55 : decode cX7_person 55 = .ok (.iaload, 1) := by decide +kernel
theorem dX7_person_56 : decode cX7_person 56 = .ok (.istore 4, 2) := by decide +kernel
theorem dX7_person_58 : decode cX7_person 58 = .ok (.aload_n 0, 1) := by decide +kernel
theorem dX7_person_59 : decode cX7_person 59 = .ok (.getfield 7, 3) := by decide +kernel
theorem dX7_person_62 : decode cX7_person 62 = .ok (.bipush 66, 2) := by decide +kernel
theorem dX7_person_64 : decode cX7_person 64 = .ok (.iload 4, 2) := by decide +kernel
theorem dX7_person_66 : decode cX7_person 66 = .ok (.iadd, 1) := by decide +kernel
theorem dX7_person_67 : decode cX7_person 67 = .ok (.iload_n 1, 1) := by decide +kernel
theorem dX7_person_68 : decode cX7_person 68 = .ok (.iastore, 1) := by decide +kernel
theorem dX7_person_69 : decode cX7_person 69 = .ok (.aload_n 0, 1) := by decide +kernel
theorem dX7_person_70 : decode cX7_person 70 = .ok (.getfield 7, 3) := by decide +kernel
theorem dX7_person_73 : decode cX7_person 73 = .ok (.bipush 74, 2) := by decide +kernel
theorem dX7_person_75 : decode cX7_person 75 = .ok (.iload 4, 2) := by decide +kernel
theorem dX7_person_77 : decode cX7_person 77 = .ok (.iadd, 1) := by decide +kernel
theorem dX7_person_78 : decode cX7_person 78 = .ok (.iload_n 2, 1) := by decide +kernel
theorem dX7_person_79 : decode cX7_person 79 = .ok (.iastore, 1) := by decide +kernel
theorem dX7_person_80 : decode cX7_person 80 = .ok (.aload_n 0, 1) := by decide +kernel
theorem dX7_person_81 : decode cX7_person 81 = .ok (.getfield 7, 3) := by decide +kernel
theorem dX7_person_84 : decode cX7_person 84 = .ok (.bipush 82, 2) := by decide +kernel
theorem dX7_person_86 : decode cX7_person 86 = .ok (.iload 4, 2) := by decide +kernel
theorem dX7_person_88 : decode cX7_person 88 = .ok (.iadd, 1) := by decide +kernel
theorem dX7_person_89 : decode cX7_person 89 = .ok (.iload_n 3, 1) := by decide +kernel
theorem dX7_person_90 : decode cX7_person 90 = .ok (.iastore, 1) := by decide +kernel
theorem dX7_person_91 : decode cX7_person 91 = .ok (.aload_n 0, 1) := by decide +kernel
theorem dX7_person_92 : decode cX7_person 92 = .ok (.getfield 7, 3) := by decide +kernel
theorem dX7_person_95 : decode cX7_person 95 = .ok (.bipush 63, 2) := by decide +kernel
theorem dX7_person_97 : decode cX7_person 97 = .ok (.dup2, 1) := by decide +kernel
theorem dX7_person_98 : decode cX7_person 98 = .ok (.iaload, 1) := by decide +kernel
theorem dX7_person_99 : decode cX7_person 99 = .ok (.iconst 1, 1) := by decide +kernel
theorem dX7_person_100 : decode cX7_person 100 = .ok (.iadd, 1) := by decide +kernel
theorem dX7_person_101 : decode cX7_person 101 = .ok (.iastore, 1) := by decide +kernel
theorem dX7_person_102 : decode cX7_person 102 = .ok (.iload 4, 2) := by decide +kernel
theorem dX7_person_104 : decode cX7_person 104 = .ok (.ireturn, 1) := by decide +kernel
theorem dX7_byKind_0 : decode cX7_byKind 0 = .ok (.iload_n 0, 1) := by decide +kernel
theorem dX7_byKind_1 : decode cX7_byKind 1 = .ok (.iconst 2, 1) := by decide +kernel
theorem dX7_byKind_2 : decode cX7_byKind 2 = .ok (.if_icmp .ne 16, 3) := by decide +kernel
theorem dX7_byKind_5 : decode cX7_byKind 5 = .ok (.iload_n 1, 1) := by decide +kernel
theorem dX7_byKind_6 : decode cX7_byKind 6 = .ok (.iconst 2, 1) := by decide +kernel
theorem dX7_byKind_7 : decode cX7_byKind 7 = .ok (.if_icmp .le 9, 3) := by decide +kernel
theorem dX7_byKind_10 : decode cX7_byKind 10 = .ok (.iload_n 1, 1) := by decide +kernel
theorem dX7_byKind_11 : decode cX7_byKind 11 = .ok (.iconst 2, 1) := by decide +kernel
theorem dX7_byKind_12 : decode cX7_byKind 12 = .ok (.isub, 1) := by decide +kernel
theorem dX7_byKind_13 : decode cX7_byKind 13 = .ok (.goto 4, 3) := by decide +kernel
theorem dX7_byKind_16 : decode cX7_byKind 16 = .ok (.iconst 0, 1) := by decide +kernel
theorem dX7_byKind_17 : decode cX7_byKind 17 = .ok (.ireturn, 1) := by decide +kernel
theorem dX7_byKind_18 : decode cX7_byKind 18 = .ok (.iload_n 0, 1) := by decide +kernel
theorem dX7_byKind_19 : decode cX7_byKind 19 = .ok (.iconst 3, 1) := by decide +kernel
theorem dX7_byKind_20 : decode cX7_byKind 20 = .ok (.if_icmp .ne 9, 3) := by decide +kernel
theorem dX7_byKind_23 : decode cX7_byKind 23 = .ok (.iload_n 1, 1) := by decide +kernel
theorem dX7_byKind_24 : decode cX7_byKind 24 = .ok (.iload_n 2, 1) := by decide +kernel
theorem dX7_byKind_25 : decode cX7_byKind 25 = .ok (.iadd, 1) := by decide +kernel
theorem dX7_byKind_26 : decode cX7_byKind 26 = .ok (.goto 4, 3) := by decide +kernel
theorem dX7_byKind_29 : decode cX7_byKind 29 = .ok (.iload_n 1, 1) := by decide +kernel
theorem dX7_byKind_30 : decode cX7_byKind 30 = .ok (.ireturn, 1) := by decide +kernel
theorem dX7_of_0 : decode cX7_of 0 = .ok (.aload_n 0, 1) := by decide +kernel
theorem dX7_of_1 : decode cX7_of 1 = .ok (.iload_n 1, 1) := by decide +kernel
theorem dX7_of_2 : decode cX7_of 2 = .ok (.invokevirtual 95, 3) := by decide +kernel
theorem dX7_of_5 : decode cX7_of 5 = .ok (.ifCond .eq 15, 3) := by decide +kernel
theorem dX7_of_8 : decode cX7_of 8 = .ok (.iload_n 2, 1) := by decide +kernel
theorem dX7_of_9 : decode cX7_of 9 = .ok (.i2l, 1) := by decide +kernel
theorem dX7_of_10 : decode cX7_of 10 = .ok (.lconst 0, 1) := by decide +kernel
theorem dX7_of_11 : decode cX7_of 11 = .ok (.ldc2_w 93, 3) := by decide +kernel
theorem dX7_of_14 : decode cX7_of 14 = .ok (.invokestatic 50, 3) := by decide +kernel
theorem dX7_of_17 : decode cX7_of 17 = .ok (.ifCond .ne 5, 3) := by decide +kernel
theorem dX7_of_20 : decode cX7_of 20 = .ok (.iconst (-1), 1) := by decide +kernel
theorem dX7_of_21 : decode cX7_of 21 = .ok (.ireturn, 1) := by decide +kernel
theorem dX7_of_22 : decode cX7_of 22 = .ok (.iload_n 2, 1) := by decide +kernel
theorem dX7_of_23 : decode cX7_of 23 = .ok (.iconst 2, 1) := by decide +kernel
theorem dX7_of_24 : decode cX7_of 24 = .ok (.if_icmp .ne 32, 3) := by decide +kernel
theorem dX7_of_27 : decode cX7_of 27 = .ok (.aload_n 0, 1) := by decide +kernel
theorem dX7_of_28 : decode cX7_of 28 = .ok (.getfield 7, 3) := by decide +kernel
theorem dX7_of_31 : decode cX7_of 31 = .ok (.bipush 66, 2) := by decide +kernel
theorem dX7_of_33 : decode cX7_of 33 = .ok (.iload_n 1, 1) := by decide +kernel
theorem dX7_of_34 : decode cX7_of 34 = .ok (.iadd, 1) := by decide +kernel
theorem dX7_of_35 : decode cX7_of 35 = .ok (.iaload, 1) := by decide +kernel
theorem dX7_of_36 : decode cX7_of 36 = .ok (.aload_n 0, 1) := by decide +kernel
theorem dX7_of_37 : decode cX7_of 37 = .ok (.getfield 7, 3) := by decide +kernel
theorem dX7_of_40 : decode cX7_of 40 = .ok (.bipush 74, 2) := by decide +kernel
theorem dX7_of_42 : decode cX7_of 42 = .ok (.iload_n 1, 1) := by decide +kernel
theorem dX7_of_43 : decode cX7_of 43 = .ok (.iadd, 1) := by decide +kernel
theorem dX7_of_44 : decode cX7_of 44 = .ok (.iaload, 1) := by decide +kernel
theorem dX7_of_45 : decode cX7_of 45 = .ok (.aload_n 0, 1) := by decide +kernel
theorem dX7_of_46 : decode cX7_of 46 = .ok (.getfield 7, 3) := by decide +kernel
theorem dX7_of_49 : decode cX7_of 49 = .ok (.bipush 65, 2) := by decide +kernel
theorem dX7_of_51 : decode cX7_of 51 = .ok (.iaload, 1) := by decide +kernel
theorem dX7_of_52 : decode cX7_of 52 = .ok (.invokestatic 98, 3) := by decide +kernel
theorem dX7_of_55 : decode cX7_of 55 = .ok (.ireturn, 1) := by decide +kernel
theorem dX7_of_56 : decode cX7_of 56 = .ok (.iload_n 2, 1) := by decide +kernel
theorem dX7_of_57 : decode cX7_of 57 = .ok (.ifCond .ne 15, 3) := by decide +kernel
theorem dX7_of_60 : decode cX7_of 60 = .ok (.aload_n 0, 1) := by decide +kernel
theorem dX7_of_61 : decode cX7_of 61 = .ok (.getfield 7, 3) := by decide +kernel
theorem dX7_of_64 : decode cX7_of 64 = .ok (.bipush 66, 2) := by decide +kernel
theorem dX7_of_66 : decode cX7_of 66 = .ok (.iload_n 1, 1) := by decide +kernel
theorem dX7_of_67 : decode cX7_of 67 = .ok (.iadd, 1) := by decide +kernel
theorem dX7_of_68 : decode cX7_of 68 = .ok (.iaload, 1) := by decide +kernel
theorem dX7_of_69 : decode cX7_of 69 = .ok (.goto 29, 3) := by decide +kernel
theorem dX7_of_72 : decode cX7_of 72 = .ok (.iload_n 2, 1) := by decide +kernel
theorem dX7_of_73 : decode cX7_of 73 = .ok (.iconst 1, 1) := by decide +kernel
theorem dX7_of_74 : decode cX7_of 74 = .ok (.if_icmp .ne 15, 3) := by decide +kernel
theorem dX7_of_77 : decode cX7_of 77 = .ok (.aload_n 0, 1) := by decide +kernel
theorem dX7_of_78 : decode cX7_of 78 = .ok (.getfield 7, 3) := by decide +kernel
theorem dX7_of_81 : decode cX7_of 81 = .ok (.bipush 74, 2) := by decide +kernel
theorem dX7_of_83 : decode cX7_of 83 = .ok (.iload_n 1, 1) := by decide +kernel
theorem dX7_of_84 : decode cX7_of 84 = .ok (.iadd, 1) := by decide +kernel
theorem dX7_of_85 : decode cX7_of 85 = .ok (.iaload, 1) := by decide +kernel
theorem dX7_of_86 : decode cX7_of 86 = .ok (.goto 12, 3) := by decide +kernel
theorem dX7_of_89 : decode cX7_of 89 = .ok (.aload_n 0, 1) := by decide +kernel
theorem dX7_of_90 : decode cX7_of 90 = .ok (.getfield 7, 3) := by decide +kernel
theorem dX7_of_93 : decode cX7_of 93 = .ok (.bipush 82, 2) := by decide +kernel
theorem dX7_of_95 : decode cX7_of 95 = .ok (.iload_n 1, 1) := by decide +kernel
theorem dX7_of_96 : decode cX7_of 96 = .ok (.iadd, 1) := by decide +kernel
theorem dX7_of_97 : decode cX7_of 97 = .ok (.iaload, 1) := by decide +kernel
theorem dX7_of_98 : decode cX7_of 98 = .ok (.ireturn, 1) := by decide +kernel
theorem dX7_type_0 : decode cX7_type 0 = .ok (.iload_n 3, 1) := by decide +kernel
theorem dX7_type_1 : decode cX7_type 1 = .ok (.i2l, 1) := by decide +kernel
theorem dX7_type_2 : decode cX7_type 2 = .ok (.lconst 1, 1) := by decide +kernel
theorem dX7_type_3 : decode cX7_type 3 = .ok (.ldc2_w 102, 3) := by decide +kernel
theorem dX7_type_6 : decode cX7_type 6 = .ok (.invokestatic 50, 3) := by decide +kernel
theorem dX7_type_9 : decode cX7_type 9 = .ok (.ifCond .ne 5, 3) := by decide +kernel
theorem dX7_type_12 : decode cX7_type 12 = .ok (.iconst (-1), 1) := by decide +kernel
theorem dX7_type_13 : decode cX7_type 13 = .ok (.ireturn, 1) := by decide +kernel
theorem dX7_type_14 : decode cX7_type 14 = .ok (.iconst 0, 1) := by decide +kernel
theorem dX7_type_15 : decode cX7_type 15 = .ok (.istore 4, 2) := by decide +kernel
theorem dX7_type_17 : decode cX7_type 17 = .ok (.iload 4, 2) := by decide +kernel
theorem dX7_type_19 : decode cX7_type 19 = .ok (.iload_n 3, 1) := by decide +kernel
theorem dX7_type_20 : decode cX7_type 20 = .ok (.if_icmp .ge 34, 3) := by decide +kernel
theorem dX7_type_23 : decode cX7_type 23 = .ok (.lload_n 1, 1) := by decide +kernel
theorem dX7_type_24 : decode cX7_type 24 = .ok (.bipush 8, 2) := by decide +kernel
theorem dX7_type_26 : decode cX7_type 26 = .ok (.iload 4, 2) := by decide +kernel
theorem dX7_type_28 : decode cX7_type 28 = .ok (.imul, 1) := by decide +kernel
theorem dX7_type_29 : decode cX7_type 29 = .ok (.lshr, 1) := by decide +kernel
theorem dX7_type_30 : decode cX7_type 30 = .ok (.ldc2_w 104, 3) := by decide +kernel
theorem dX7_type_33 : decode cX7_type 33 = .ok (.land, 1) := by decide +kernel
theorem dX7_type_34 : decode cX7_type 34 = .ok (.ldc2_w 106, 3) := by decide +kernel
theorem dX7_type_37 : decode cX7_type 37 = .ok (.ldc2_w 108, 3) := by decide +kernel
theorem dX7_type_40 : decode cX7_type 40 = .ok (.invokestatic 50, 3) := by decide +kernel
theorem dX7_type_43 : decode cX7_type 43 = .ok (.ifCond .ne 5, 3) := by decide +kernel
theorem dX7_type_46 : decode cX7_type 46 = .ok (.iconst (-1), 1) := by decide +kernel
theorem dX7_type_47 : decode cX7_type 47 = .ok (.ireturn, 1) := by decide +kernel
theorem dX7_type_48 : decode cX7_type 48 = .ok (.iinc 4 1, 3) := by decide +kernel
theorem dX7_type_51 : decode cX7_type 51 = .ok (.goto (-34), 3) := by decide +kernel
theorem dX7_type_54 : decode cX7_type 54 = .ok (.aload_n 0, 1) := by decide +kernel
theorem dX7_type_55 : decode cX7_type 55 = .ok (.getfield 110, 3) := by decide +kernel
theorem dX7_type_58 : decode cX7_type 58 = .ok (.iload_n 3, 1) := by decide +kernel
theorem dX7_type_59 : decode cX7_type 59 = .ok (.iadd, 1) := by decide +kernel
theorem dX7_type_60 : decode cX7_type 60 = .ok (.bipush 80, 2) := by decide +kernel
theorem dX7_type_62 : decode cX7_type 62 = .ok (.if_icmp .le 6, 3) := by decide +kernel
theorem dX7_type_65 : decode cX7_type 65 = .ok (.bipush (-3), 2) := by decide +kernel
theorem dX7_type_67 : decode cX7_type 67 = .ok (.ireturn, 1) := by decide +kernel
theorem dX7_type_68 : decode cX7_type 68 = .ok (.iload_n 3, 1) := by decide +kernel
theorem dX7_type_69 : decode cX7_type 69 = .ok (.iconst 1, 1) := by decide +kernel
theorem dX7_type_70 : decode cX7_type 70 = .ok (.isub, 1) := by decide +kernel
theorem dX7_type_71 : decode cX7_type 71 = .ok (.istore 4, 2) := by decide +kernel
theorem dX7_type_73 : decode cX7_type 73 = .ok (.iload 4, 2) := by decide +kernel
theorem dX7_type_75 : decode cX7_type 75 = .ok (.ifCond .lt 40, 3) := by decide +kernel
theorem dX7_type_78 : decode cX7_type 78 = .ok (.aload_n 0, 1) := by decide +kernel
theorem dX7_type_79 : decode cX7_type 79 = .ok (.getfield 13, 3) := by decide +kernel
theorem dX7_type_82 : decode cX7_type 82 = .ok (.aload_n 0, 1) := by decide +kernel
theorem dX7_type_83 : decode cX7_type 83 = .ok (.getfield 110, 3) := by decide +kernel
theorem dX7_type_86 : decode cX7_type 86 = .ok (.lload_n 1, 1) := by decide +kernel
theorem dX7_type_87 : decode cX7_type 87 = .ok (.bipush 8, 2) := by decide +kernel
theorem dX7_type_89 : decode cX7_type 89 = .ok (.iload 4, 2) := by decide +kernel
theorem dX7_type_91 : decode cX7_type 91 = .ok (.imul, 1) := by decide +kernel
theorem dX7_type_92 : decode cX7_type 92 = .ok (.lshr, 1) := by decide +kernel
theorem dX7_type_93 : decode cX7_type 93 = .ok (.ldc2_w 104, 3) := by decide +kernel
theorem dX7_type_96 : decode cX7_type 96 = .ok (.land, 1) := by decide +kernel
theorem dX7_type_97 : decode cX7_type 97 = .ok (.l2i, 1) := by decide +kernel
theorem dX7_type_98 : decode cX7_type 98 = .ok (.iastore, 1) := by decide +kernel
theorem dX7_type_99 : decode cX7_type 99 = .ok (.aload_n 0, 1) := by decide +kernel
theorem dX7_type_100 : decode cX7_type 100 = .ok (.dup, 1) := by decide +kernel
theorem dX7_type_101 : decode cX7_type 101 = .ok (.getfield 110, 3) := by decide +kernel
theorem dX7_type_104 : decode cX7_type 104 = .ok (.iconst 1, 1) := by decide +kernel
theorem dX7_type_105 : decode cX7_type 105 = .ok (.iadd, 1) := by decide +kernel
theorem dX7_type_106 : decode cX7_type 106 = .ok (.putfield 110, 3) := by decide +kernel
theorem dX7_type_109 : decode cX7_type 109 = .ok (.iinc 4 (-1), 3) := by decide +kernel
theorem dX7_type_112 : decode cX7_type 112 = .ok (.goto (-39), 3) := by decide +kernel
theorem dX7_type_115 : decode cX7_type 115 = .ok (.aload_n 0, 1) := by decide +kernel
theorem dX7_type_116 : decode cX7_type 116 = .ok (.getfield 110, 3) := by decide +kernel
theorem dX7_type_119 : decode cX7_type 119 = .ok (.ireturn, 1) := by decide +kernel
theorem dX7_next_0 : decode cX7_next 0 = .ok (.aload_n 0, 1) := by decide +kernel
theorem dX7_next_1 : decode cX7_next 1 = .ok (.getfield 114, 3) := by decide +kernel
theorem dX7_next_4 : decode cX7_next 4 = .ok (.aload_n 0, 1) := by decide +kernel
theorem dX7_next_5 : decode cX7_next 5 = .ok (.getfield 110, 3) := by decide +kernel
theorem dX7_next_8 : decode cX7_next 8 = .ok (.if_icmp .ge 30, 3) := by decide +kernel
theorem dX7_next_11 : decode cX7_next 11 = .ok (.aload_n 0, 1) := by decide +kernel
theorem dX7_next_12 : decode cX7_next 12 = .ok (.getfield 13, 3) := by decide +kernel
theorem dX7_next_15 : decode cX7_next 15 = .ok (.aload_n 0, 1) := by decide +kernel
theorem dX7_next_16 : decode cX7_next 16 = .ok (.getfield 114, 3) := by decide +kernel
theorem dX7_next_19 : decode cX7_next 19 = .ok (.iaload, 1) := by decide +kernel
theorem dX7_next_20 : decode cX7_next 20 = .ok (.bipush 32, 2) := by decide +kernel
theorem dX7_next_22 : decode cX7_next 22 = .ok (.if_icmp .ne 16, 3) := by decide +kernel
theorem dX7_next_25 : decode cX7_next 25 = .ok (.aload_n 0, 1) := by decide +kernel
theorem dX7_next_26 : decode cX7_next 26 = .ok (.dup, 1) := by decide +kernel
theorem dX7_next_27 : decode cX7_next 27 = .ok (.getfield 114, 3) := by decide +kernel
theorem dX7_next_30 : decode cX7_next 30 = .ok (.iconst 1, 1) := by decide +kernel
theorem dX7_next_31 : decode cX7_next 31 = .ok (.iadd, 1) := by decide +kernel
theorem dX7_next_32 : decode cX7_next 32 = .ok (.putfield 114, 3) := by decide +kernel
theorem dX7_next_35 : decode cX7_next 35 = .ok (.goto (-35), 3) := by decide +kernel
theorem dX7_next_38 : decode cX7_next 38 = .ok (.aload_n 0, 1) := by decide +kernel
theorem dX7_next_39 : decode cX7_next 39 = .ok (.getfield 114, 3) := by decide +kernel
theorem dX7_next_42 : decode cX7_next 42 = .ok (.aload_n 0, 1) := by decide +kernel
theorem dX7_next_43 : decode cX7_next 43 = .ok (.getfield 110, 3) := by decide +kernel
theorem dX7_next_46 : decode cX7_next 46 = .ok (.if_icmp .ge 15, 3) := by decide +kernel
theorem dX7_next_49 : decode cX7_next 49 = .ok (.aload_n 0, 1) := by decide +kernel
theorem dX7_next_50 : decode cX7_next 50 = .ok (.getfield 13, 3) := by decide +kernel
theorem dX7_next_53 : decode cX7_next 53 = .ok (.aload_n 0, 1) := by decide +kernel
theorem dX7_next_54 : decode cX7_next 54 = .ok (.getfield 114, 3) := by decide +kernel
theorem dX7_next_57 : decode cX7_next 57 = .ok (.iaload, 1) := by decide +kernel
theorem dX7_next_58 : decode cX7_next 58 = .ok (.goto 4, 3) := by decide +kernel
theorem dX7_next_61 : decode cX7_next 61 = .ok (.iconst 0, 1) := by decide +kernel
theorem dX7_next_62 : decode cX7_next 62 = .ok (.ireturn, 1) := by decide +kernel
theorem dX7_cannot_0 : decode cX7_cannot 0 = .ok (.aload_n 0, 1) := by decide +kernel
theorem dX7_cannot_1 : decode cX7_cannot 1 = .ok (.aload_n 0, 1) := by decide +kernel
theorem dX7_cannot_2 : decode cX7_cannot 2 = .ok (.getfield 117, 3) := by decide +kernel
theorem dX7_cannot_5 : decode cX7_cannot 5 = .ok (.ifCond .ge 7, 3) := by decide +kernel
theorem dX7_cannot_8 : decode cX7_cannot 8 = .ok (.iload_n 1, 1) := by decide +kernel
theorem dX7_cannot_9 : decode cX7_cannot 9 = .ok (.goto 7, 3) := by decide +kernel
theorem dX7_cannot_12 : decode cX7_cannot 12 = .ok (.aload_n 0, 1) := by decide +kernel
theorem dX7_cannot_13 : decode cX7_cannot 13 = .ok (.getfield 117, 3) := by decide +kernel
theorem dX7_cannot_16 : decode cX7_cannot 16 = .ok (.putfield 117, 3) := by decide +kernel
theorem dX7_cannot_19 : decode cX7_cannot 19 = .ok (.return_, 1) := by decide +kernel
theorem dX7_takes_0 : decode cX7_takes 0 = .ok (.aload_n 0, 1) := by decide +kernel
theorem dX7_takes_1 : decode cX7_takes 1 = .ok (.invokevirtual 120, 3) := by decide +kernel
theorem dX7_takes_4 : decode cX7_takes 4 = .ok (.iload_n 1, 1) := by decide +kernel
theorem dX7_takes_5 : decode cX7_takes 5 = .ok (.if_icmp .ne 7, 3) := by decide +kernel
theorem dX7_takes_8 : decode cX7_takes 8 = .ok (.iconst 1, 1) := by decide +kernel
theorem dX7_takes_9 : decode cX7_takes 9 = .ok (.goto 4, 3) := by decide +kernel
theorem dX7_takes_12 : decode cX7_takes 12 = .ok (.iconst 0, 1) := by decide +kernel
theorem dX7_takes_13 : decode cX7_takes 13 = .ok (.istore_n 2, 1) := by decide +kernel
theorem dX7_takes_14 : decode cX7_takes 14 = .ok (.aload_n 0, 1) := by decide +kernel
theorem dX7_takes_15 : decode cX7_takes 15 = .ok (.dup, 1) := by decide +kernel
theorem dX7_takes_16 : decode cX7_takes 16 = .ok (.getfield 114, 3) := by decide +kernel
theorem dX7_takes_19 : decode cX7_takes 19 = .ok (.iload_n 2, 1) := by decide +kernel
theorem dX7_takes_20 : decode cX7_takes 20 = .ok (.ifCond .eq 7, 3) := by decide +kernel
theorem dX7_takes_23 : decode cX7_takes 23 = .ok (.iconst 1, 1) := by decide +kernel
theorem dX7_takes_24 : decode cX7_takes 24 = .ok (.goto 4, 3) := by decide +kernel
theorem dX7_takes_27 : decode cX7_takes 27 = .ok (.iconst 0, 1) := by decide +kernel
theorem dX7_takes_28 : decode cX7_takes 28 = .ok (.iadd, 1) := by decide +kernel
theorem dX7_takes_29 : decode cX7_takes 29 = .ok (.putfield 114, 3) := by decide +kernel
theorem dX7_takes_32 : decode cX7_takes 32 = .ok (.iload_n 2, 1) := by decide +kernel
theorem dX7_takes_33 : decode cX7_takes 33 = .ok (.ireturn, 1) := by decide +kernel
theorem dX7_number_0 : decode cX7_number 0 = .ok (.aload_n 0, 1) := by decide +kernel
theorem dX7_number_1 : decode cX7_number 1 = .ok (.invokevirtual 120, 3) := by decide +kernel
theorem dX7_number_4 : decode cX7_number 4 = .ok (.istore 4, 2) := by decide +kernel
theorem dX7_number_6 : decode cX7_number 6 = .ok (.aload_n 0, 1) := by decide +kernel
theorem dX7_number_7 : decode cX7_number 7 = .ok (.getfield 114, 3) := by decide +kernel
theorem dX7_number_10 : decode cX7_number 10 = .ok (.istore 5, 2) := by decide +kernel
theorem dX7_number_12 : decode cX7_number 12 = .ok (.iload 4, 2) := by decide +kernel
theorem dX7_number_14 : decode cX7_number 14 = .ok (.i2l, 1) := by decide +kernel
theorem dX7_number_15 : decode cX7_number 15 = .ok (.ldc2_w 124, 3) := by decide +kernel
theorem dX7_number_18 : decode cX7_number 18 = .ok (.ldc2_w 126, 3) := by decide +kernel
theorem dX7_number_21 : decode cX7_number 21 = .ok (.invokestatic 50, 3) := by decide +kernel
theorem dX7_number_24 : decode cX7_number 24 = .ok (.ifCond .ne 10, 3) := by decide +kernel
theorem dX7_number_27 : decode cX7_number 27 = .ok (.aload_n 0, 1) := by decide +kernel
theorem dX7_number_28 : decode cX7_number 28 = .ok (.iload 5, 2) := by decide +kernel
theorem dX7_number_30 : decode cX7_number 30 = .ok (.invokevirtual 128, 3) := by decide +kernel
theorem dX7_number_33 : decode cX7_number 33 = .ok (.return_, 1) := by decide +kernel
theorem dX7_number_34 : decode cX7_number 34 = .ok (.iconst 0, 1) := by decide +kernel
theorem dX7_number_35 : decode cX7_number 35 = .ok (.istore 6, 2) := by decide +kernel
theorem dX7_number_37 : decode cX7_number 37 = .ok (.aload_n 0, 1) := by decide +kernel
theorem dX7_number_38 : decode cX7_number 38 = .ok (.getfield 114, 3) := by decide +kernel
theorem dX7_number_41 : decode cX7_number 41 = .ok (.aload_n 0, 1) := by decide +kernel
theorem dX7_number_42 : decode cX7_number 42 = .ok (.getfield 110, 3) := by decide +kernel
theorem dX7_number_45 : decode cX7_number 45 = .ok (.if_icmp .ge 71, 3) := by decide +kernel
theorem dX7_number_48 : decode cX7_number 48 = .ok (.aload_n 0, 1) := by decide +kernel
theorem dX7_number_49 : decode cX7_number 49 = .ok (.getfield 13, 3) := by decide +kernel
theorem dX7_number_52 : decode cX7_number 52 = .ok (.aload_n 0, 1) := by decide +kernel
theorem dX7_number_53 : decode cX7_number 53 = .ok (.getfield 114, 3) := by decide +kernel
theorem dX7_number_56 : decode cX7_number 56 = .ok (.iaload, 1) := by decide +kernel
theorem dX7_number_57 : decode cX7_number 57 = .ok (.i2l, 1) := by decide +kernel
theorem dX7_number_58 : decode cX7_number 58 = .ok (.ldc2_w 124, 3) := by decide +kernel
theorem dX7_number_61 : decode cX7_number 61 = .ok (.ldc2_w 126, 3) := by decide +kernel
theorem dX7_number_64 : decode cX7_number 64 = .ok (.invokestatic 50, 3) := by decide +kernel
theorem dX7_number_67 : decode cX7_number 67 = .ok (.ifCond .eq 49, 3) := by decide +kernel
theorem dX7_number_70 : decode cX7_number 70 = .ok (.iload 6, 2) := by decide +kernel
theorem dX7_number_72 : decode cX7_number 72 = .ok (.sipush 999, 3) := by decide +kernel
theorem dX7_number_75 : decode cX7_number 75 = .ok (.if_icmp .le 8, 3) := by decide +kernel
theorem dX7_number_78 : decode cX7_number 78 = .ok (.iload 6, 2) := by decide +kernel
theorem dX7_number_80 : decode cX7_number 80 = .ok (.goto 21, 3) := by decide +kernel
theorem dX7_number_83 : decode cX7_number 83 = .ok (.bipush 10, 2) := by decide +kernel
theorem dX7_number_85 : decode cX7_number 85 = .ok (.iload 6, 2) := by decide +kernel
theorem dX7_number_87 : decode cX7_number 87 = .ok (.imul, 1) := by decide +kernel
theorem dX7_number_88 : decode cX7_number 88 = .ok (.aload_n 0, 1) := by decide +kernel
theorem dX7_number_89 : decode cX7_number 89 = .ok (.getfield 13, 3) := by decide +kernel
theorem dX7_number_92 : decode cX7_number 92 = .ok (.aload_n 0, 1) := by decide +kernel
theorem dX7_number_93 : decode cX7_number 93 = .ok (.getfield 114, 3) := by decide +kernel
theorem dX7_number_96 : decode cX7_number 96 = .ok (.iaload, 1) := by decide +kernel
theorem dX7_number_97 : decode cX7_number 97 = .ok (.iadd, 1) := by decide +kernel
theorem dX7_number_98 : decode cX7_number 98 = .ok (.bipush 48, 2) := by decide +kernel
theorem dX7_number_100 : decode cX7_number 100 = .ok (.isub, 1) := by decide +kernel
theorem dX7_number_101 : decode cX7_number 101 = .ok (.istore 6, 2) := by decide +kernel
theorem dX7_number_103 : decode cX7_number 103 = .ok (.aload_n 0, 1) := by decide +kernel
theorem dX7_number_104 : decode cX7_number 104 = .ok (.dup, 1) := by decide +kernel
theorem dX7_number_105 : decode cX7_number 105 = .ok (.getfield 114, 3) := by decide +kernel
theorem dX7_number_108 : decode cX7_number 108 = .ok (.iconst 1, 1) := by decide +kernel
theorem dX7_number_109 : decode cX7_number 109 = .ok (.iadd, 1) := by decide +kernel
theorem dX7_number_110 : decode cX7_number 110 = .ok (.putfield 114, 3) := by decide +kernel
theorem dX7_number_113 : decode cX7_number 113 = .ok (.goto (-76), 3) := by decide +kernel
theorem dX7_number_116 : decode cX7_number 116 = .ok (.aload_n 0, 1) := by decide +kernel
theorem dX7_number_117 : decode cX7_number 117 = .ok (.iload_n 3, 1) := by decide +kernel
theorem dX7_number_118 : decode cX7_number 118 = .ok (.ifCond .eq 9, 3) := by decide +kernel
theorem dX7_number_121 : decode cX7_number 121 = .ok (.iload 6, 2) := by decide +kernel
theorem dX7_number_123 : decode cX7_number 123 = .ok (.ineg, 1) := by decide +kernel
theorem dX7_number_124 : decode cX7_number 124 = .ok (.goto 5, 3) := by decide +kernel
theorem dX7_number_127 : decode cX7_number 127 = .ok (.iload 6, 2) := by decide +kernel
theorem dX7_number_129 : decode cX7_number 129 = .ok (.putfield 132, 3) := by decide +kernel
theorem dX7_number_132 : decode cX7_number 132 = .ok (.aload_n 0, 1) := by decide +kernel
theorem dX7_number_133 : decode cX7_number 133 = .ok (.getfield 132, 3) := by decide +kernel
theorem dX7_number_136 : decode cX7_number 136 = .ok (.i2l, 1) := by decide +kernel
theorem dX7_number_137 : decode cX7_number 137 = .ok (.iload_n 1, 1) := by decide +kernel
theorem dX7_number_138 : decode cX7_number 138 = .ok (.i2l, 1) := by decide +kernel
theorem dX7_number_139 : decode cX7_number 139 = .ok (.iload_n 2, 1) := by decide +kernel
theorem dX7_number_140 : decode cX7_number 140 = .ok (.i2l, 1) := by decide +kernel
theorem dX7_number_141 : decode cX7_number 141 = .ok (.invokestatic 50, 3) := by decide +kernel
theorem dX7_number_144 : decode cX7_number 144 = .ok (.ifCond .ne 9, 3) := by decide +kernel
theorem dX7_number_147 : decode cX7_number 147 = .ok (.aload_n 0, 1) := by decide +kernel
theorem dX7_number_148 : decode cX7_number 148 = .ok (.iload 5, 2) := by decide +kernel
theorem dX7_number_150 : decode cX7_number 150 = .ok (.invokevirtual 128, 3) := by decide +kernel
theorem dX7_number_153 : decode cX7_number 153 = .ok (.return_, 1) := by decide +kernel
theorem dX7_begin_0 : decode cX7_begin 0 = .ok (.aload_n 0, 1) := by decide +kernel
theorem dX7_begin_1 : decode cX7_begin 1 = .ok (.iconst 0, 1) := by decide +kernel
theorem dX7_begin_2 : decode cX7_begin 2 = .ok (.putfield 114, 3) := by decide +kernel
theorem dX7_begin_5 : decode cX7_begin 5 = .ok (.aload_n 0, 1) := by decide +kernel
theorem dX7_begin_6 : decode cX7_begin 6 = .ok (.iconst (-1), 1) := by decide +kernel
theorem dX7_begin_7 : decode cX7_begin 7 = .ok (.putfield 117, 3) := by decide +kernel
theorem dX7_begin_10 : decode cX7_begin 10 = .ok (.return_, 1) := by decide +kernel
theorem dX7_fails_0 : decode cX7_fails 0 = .ok (.aload_n 0, 1) := by decide +kernel
theorem dX7_fails_1 : decode cX7_fails 1 = .ok (.iconst 0, 1) := by decide +kernel
theorem dX7_fails_2 : decode cX7_fails 2 = .ok (.putfield 110, 3) := by decide +kernel
theorem dX7_fails_5 : decode cX7_fails 5 = .ok (.bipush (-20), 2) := by decide +kernel
theorem dX7_fails_7 : decode cX7_fails 7 = .ok (.aload_n 0, 1) := by decide +kernel
theorem dX7_fails_8 : decode cX7_fails 8 = .ok (.getfield 117, 3) := by decide +kernel
theorem dX7_fails_11 : decode cX7_fails 11 = .ok (.isub, 1) := by decide +kernel
theorem dX7_fails_12 : decode cX7_fails 12 = .ok (.ireturn, 1) := by decide +kernel
theorem dX7_lagoon_0 : decode cX7_lagoon 0 = .ok (.aload_n 0, 1) := by decide +kernel
theorem dX7_lagoon_1 : decode cX7_lagoon 1 = .ok (.invokevirtual 135, 3) := by decide +kernel
theorem dX7_lagoon_4 : decode cX7_lagoon 4 = .ok (.iconst 0, 1) := by decide +kernel
theorem dX7_lagoon_5 : decode cX7_lagoon 5 = .ok (.istore_n 1, 1) := by decide +kernel
theorem dX7_lagoon_6 : decode cX7_lagoon 6 = .ok (.iconst 0, 1) := by decide +kernel
theorem dX7_lagoon_7 : decode cX7_lagoon 7 = .ok (.istore_n 2, 1) := by decide +kernel
theorem dX7_lagoon_8 : decode cX7_lagoon 8 = .ok (.iconst 1, 1) := by decide +kernel
theorem dX7_lagoon_9 : decode cX7_lagoon 9 = .ok (.istore_n 3, 1) := by decide +kernel
theorem dX7_lagoon_10 : decode cX7_lagoon 10 = .ok (.iload_n 3, 1) := by decide +kernel
theorem dX7_lagoon_11 : decode cX7_lagoon 11 = .ok (.ifCond .eq 159, 3) := by decide +kernel
theorem dX7_lagoon_14 : decode cX7_lagoon 14 = .ok (.aload_n 0, 1) := by decide +kernel
theorem dX7_lagoon_15 : decode cX7_lagoon 15 = .ok (.getfield 117, 3) := by decide +kernel
theorem dX7_lagoon_18 : decode cX7_lagoon 18 = .ok (.ifCond .ge 152, 3) := by decide +kernel
theorem dX7_lagoon_21 : decode cX7_lagoon 21 = .ok (.aload_n 0, 1) := by decide +kernel
theorem dX7_lagoon_22 : decode cX7_lagoon 22 = .ok (.bipush 45, 2) := by decide +kernel
theorem dX7_lagoon_24 : decode cX7_lagoon 24 = .ok (.invokevirtual 138, 3) := by decide +kernel
theorem dX7_lagoon_27 : decode cX7_lagoon 27 = .ok (.istore 4, 2) := by decide +kernel
theorem dX7_lagoon_29 : decode cX7_lagoon 29 = .ok (.aload_n 0, 1) := by decide +kernel
theorem dX7_lagoon_30 : decode cX7_lagoon 30 = .ok (.bipush (-20), 2) := by decide +kernel
theorem dX7_lagoon_32 : decode cX7_lagoon 32 = .ok (.bipush 60, 2) := by decide +kernel
theorem dX7_lagoon_34 : decode cX7_lagoon 34 = .ok (.iload 4, 2) := by decide +kernel
theorem dX7_lagoon_36 : decode cX7_lagoon 36 = .ok (.invokevirtual 141, 3) := by decide +kernel
theorem dX7_lagoon_39 : decode cX7_lagoon 39 = .ok (.aload_n 0, 1) := by decide +kernel
theorem dX7_lagoon_40 : decode cX7_lagoon 40 = .ok (.getfield 16, 3) := by decide +kernel
theorem dX7_lagoon_43 : decode cX7_lagoon 43 = .ok (.iconst 2, 1) := by decide +kernel
theorem dX7_lagoon_44 : decode cX7_lagoon 44 = .ok (.iload_n 1, 1) := by decide +kernel
theorem dX7_lagoon_45 : decode cX7_lagoon 45 = .ok (.imul, 1) := by decide +kernel
theorem dX7_lagoon_46 : decode cX7_lagoon 46 = .ok (.aload_n 0, 1) := by decide +kernel
theorem dX7_lagoon_47 : decode cX7_lagoon 47 = .ok (.getfield 132, 3) := by decide +kernel
theorem dX7_lagoon_50 : decode cX7_lagoon 50 = .ok (.iastore, 1) := by decide +kernel
theorem dX7_lagoon_51 : decode cX7_lagoon 51 = .ok (.aload_n 0, 1) := by decide +kernel
theorem dX7_lagoon_52 : decode cX7_lagoon 52 = .ok (.getfield 16, 3) := by decide +kernel
theorem dX7_lagoon_55 : decode cX7_lagoon 55 = .ok (.iconst 2, 1) := by decide +kernel
theorem dX7_lagoon_56 : decode cX7_lagoon 56 = .ok (.iload_n 1, 1) := by decide +kernel
theorem dX7_lagoon_57 : decode cX7_lagoon 57 = .ok (.imul, 1) := by decide +kernel
theorem dX7_lagoon_58 : decode cX7_lagoon 58 = .ok (.iconst 1, 1) := by decide +kernel
theorem dX7_lagoon_59 : decode cX7_lagoon 59 = .ok (.iadd, 1) := by decide +kernel
theorem dX7_lagoon_60 : decode cX7_lagoon 60 = .ok (.iconst 0, 1) := by decide +kernel
theorem dX7_lagoon_61 : decode cX7_lagoon 61 = .ok (.iastore, 1) := by decide +kernel
theorem dX7_lagoon_62 : decode cX7_lagoon 62 = .ok (.aload_n 0, 1) := by decide +kernel
theorem dX7_lagoon_63 : decode cX7_lagoon 63 = .ok (.getfield 117, 3) := by decide +kernel
theorem dX7_lagoon_66 : decode cX7_lagoon 66 = .ok (.ifCond .ge 52, 3) := by decide +kernel
theorem dX7_lagoon_69 : decode cX7_lagoon 69 = .ok (.aload_n 0, 1) := by decide +kernel
theorem dX7_lagoon_70 : decode cX7_lagoon 70 = .ok (.invokevirtual 120, 3) := by decide +kernel
theorem dX7_lagoon_73 : decode cX7_lagoon 73 = .ok (.bipush 112, 2) := by decide +kernel
theorem dX7_lagoon_75 : decode cX7_lagoon 75 = .ok (.if_icmp .ne 43, 3) := by decide +kernel
theorem dX7_lagoon_78 : decode cX7_lagoon 78 = .ok (.iload_n 2, 1) := by decide +kernel
theorem dX7_lagoon_79 : decode cX7_lagoon 79 = .ok (.iconst 3, 1) := by decide +kernel
theorem dX7_lagoon_80 : decode cX7_lagoon 80 = .ok (.if_icmp .ge 38, 3) := by decide +kernel
theorem dX7_lagoon_83 : decode cX7_lagoon 83 = .ok (.aload_n 0, 1) := by decide +kernel
theorem dX7_lagoon_84 : decode cX7_lagoon 84 = .ok (.dup, 1) := by decide +kernel
theorem dX7_lagoon_85 : decode cX7_lagoon 85 = .ok (.getfield 114, 3) := by decide +kernel
theorem dX7_lagoon_88 : decode cX7_lagoon 88 = .ok (.iconst 1, 1) := by decide +kernel
theorem dX7_lagoon_89 : decode cX7_lagoon 89 = .ok (.iadd, 1) := by decide +kernel
theorem dX7_lagoon_90 : decode cX7_lagoon 90 = .ok (.putfield 114, 3) := by decide +kernel
theorem dX7_lagoon_93 : decode cX7_lagoon 93 = .ok (.iinc 2 1, 3) := by decide +kernel
theorem dX7_lagoon_96 : decode cX7_lagoon 96 = .ok (.aload_n 0, 1) := by decide +kernel
theorem dX7_lagoon_97 : decode cX7_lagoon 97 = .ok (.iconst 1, 1) := by decide +kernel
theorem dX7_lagoon_98 : decode cX7_lagoon 98 = .ok (.bipush 20, 2) := by decide +kernel
theorem dX7_lagoon_100 : decode cX7_lagoon 100 = .ok (.iconst 0, 1) := by decide +kernel
theorem dX7_lagoon_101 : decode cX7_lagoon 101 = .ok (.invokevirtual 141, 3) := by decide +kernel
theorem dX7_lagoon_104 : decode cX7_lagoon 104 = .ok (.aload_n 0, 1) := by decide +kernel
theorem dX7_lagoon_105 : decode cX7_lagoon 105 = .ok (.getfield 16, 3) := by decide +kernel
theorem dX7_lagoon_108 : decode cX7_lagoon 108 = .ok (.iconst 2, 1) := by decide +kernel
theorem dX7_lagoon_109 : decode cX7_lagoon 109 = .ok (.iload_n 1, 1) := by decide +kernel
theorem dX7_lagoon_110 : decode cX7_lagoon 110 = .ok (.imul, 1) := by decide +kernel
theorem dX7_lagoon_111 : decode cX7_lagoon 111 = .ok (.iconst 1, 1) := by decide +kernel
theorem dX7_lagoon_112 : decode cX7_lagoon 112 = .ok (.iadd, 1) := by decide +kernel
theorem dX7_lagoon_113 : decode cX7_lagoon 113 = .ok (.aload_n 0, 1) := by decide +kernel
theorem dX7_lagoon_114 : decode cX7_lagoon 114 = .ok (.getfield 132, 3) := by decide +kernel
theorem dX7_lagoon_117 : decode cX7_lagoon 117 = .ok (.iastore, 1) := by decide +kernel
theorem dX7_lagoon_118 : decode cX7_lagoon 118 = .ok (.iinc 1 1, 3) := by decide +kernel
theorem dX7_lagoon_121 : decode cX7_lagoon 121 = .ok (.aload_n 0, 1) := by decide +kernel
theorem dX7_lagoon_122 : decode cX7_lagoon 122 = .ok (.getfield 117, 3) := by decide +kernel
theorem dX7_lagoon_125 : decode cX7_lagoon 125 = .ok (.ifCond .ge 22, 3) := by decide +kernel
theorem dX7_lagoon_128 : decode cX7_lagoon 128 = .ok (.iload_n 1, 1) := by decide +kernel
theorem dX7_lagoon_129 : decode cX7_lagoon 129 = .ok (.bipush 8, 2) := by decide +kernel
theorem dX7_lagoon_131 : decode cX7_lagoon 131 = .ok (.if_icmp .ge 16, 3) := by decide +kernel
theorem dX7_lagoon_134 : decode cX7_lagoon 134 = .ok (.aload_n 0, 1) := by decide +kernel
theorem dX7_lagoon_135 : decode cX7_lagoon 135 = .ok (.invokevirtual 120, 3) := by decide +kernel
theorem dX7_lagoon_138 : decode cX7_lagoon 138 = .ok (.bipush 59, 2) := by decide +kernel
theorem dX7_lagoon_140 : decode cX7_lagoon 140 = .ok (.if_icmp .ne 7, 3) := by decide +kernel
theorem dX7_lagoon_143 : decode cX7_lagoon 143 = .ok (.iconst 1, 1) := by decide +kernel
theorem dX7_lagoon_144 : decode cX7_lagoon 144 = .ok (.goto 4, 3) := by decide +kernel
theorem dX7_lagoon_147 : decode cX7_lagoon 147 = .ok (.iconst 0, 1) := by decide +kernel
theorem dX7_lagoon_148 : decode cX7_lagoon 148 = .ok (.istore_n 3, 1) := by decide +kernel
theorem dX7_lagoon_149 : decode cX7_lagoon 149 = .ok (.aload_n 0, 1) := by decide +kernel
theorem dX7_lagoon_150 : decode cX7_lagoon 150 = .ok (.dup, 1) := by decide +kernel
theorem dX7_lagoon_151 : decode cX7_lagoon 151 = .ok (.getfield 114, 3) := by decide +kernel
theorem dX7_lagoon_154 : decode cX7_lagoon 154 = .ok (.iload_n 3, 1) := by decide +kernel
theorem dX7_lagoon_155 : decode cX7_lagoon 155 = .ok (.ifCond .eq 7, 3) := by decide +kernel
theorem dX7_lagoon_158 : decode cX7_lagoon 158 = .ok (.iconst 1, 1) := by decide +kernel
theorem dX7_lagoon_159 : decode cX7_lagoon 159 = .ok (.goto 4, 3) := by decide +kernel
theorem dX7_lagoon_162 : decode cX7_lagoon 162 = .ok (.iconst 0, 1) := by decide +kernel
theorem dX7_lagoon_163 : decode cX7_lagoon 163 = .ok (.iadd, 1) := by decide +kernel
theorem dX7_lagoon_164 : decode cX7_lagoon 164 = .ok (.putfield 114, 3) := by decide +kernel
theorem dX7_lagoon_167 : decode cX7_lagoon 167 = .ok (.goto (-157), 3) := by decide +kernel
theorem dX7_lagoon_170 : decode cX7_lagoon 170 = .ok (.aload_n 0, 1) := by decide +kernel
theorem dX7_lagoon_171 : decode cX7_lagoon 171 = .ok (.getfield 117, 3) := by decide +kernel
theorem dX7_lagoon_174 : decode cX7_lagoon 174 = .ok (.ifCond .ge 18, 3) := by decide +kernel
theorem dX7_lagoon_177 : decode cX7_lagoon 177 = .ok (.aload_n 0, 1) := by decide +kernel
theorem dX7_lagoon_178 : decode cX7_lagoon 178 = .ok (.invokevirtual 120, 3) := by decide +kernel
theorem dX7_lagoon_181 : decode cX7_lagoon 181 = .ok (.ifCond .eq 11, 3) := by decide +kernel
theorem dX7_lagoon_184 : decode cX7_lagoon 184 = .ok (.aload_n 0, 1) := by decide +kernel
theorem dX7_lagoon_185 : decode cX7_lagoon 185 = .ok (.aload_n 0, 1) := by decide +kernel
theorem dX7_lagoon_186 : decode cX7_lagoon 186 = .ok (.getfield 114, 3) := by decide +kernel
theorem dX7_lagoon_189 : decode cX7_lagoon 189 = .ok (.invokevirtual 128, 3) := by decide +kernel
theorem dX7_lagoon_192 : decode cX7_lagoon 192 = .ok (.aload_n 0, 1) := by decide +kernel
theorem dX7_lagoon_193 : decode cX7_lagoon 193 = .ok (.getfield 117, 3) := by decide +kernel
theorem dX7_lagoon_196 : decode cX7_lagoon 196 = .ok (.ifCond .lt 8, 3) := by decide +kernel
theorem dX7_lagoon_199 : decode cX7_lagoon 199 = .ok (.aload_n 0, 1) := by decide +kernel
theorem dX7_lagoon_200 : decode cX7_lagoon 200 = .ok (.invokevirtual 145, 3) := by decide +kernel
theorem dX7_lagoon_203 : decode cX7_lagoon 203 = .ok (.ireturn, 1) := by decide +kernel
theorem dX7_lagoon_204 : decode cX7_lagoon 204 = .ok (.aload_n 0, 1) := by decide +kernel
theorem dX7_lagoon_205 : decode cX7_lagoon 205 = .ok (.iconst 0, 1) := by decide +kernel
theorem dX7_lagoon_206 : decode cX7_lagoon 206 = .ok (.putfield 110, 3) := by decide +kernel
theorem dX7_lagoon_209 : decode cX7_lagoon 209 = .ok (.aload_n 0, 1) := by decide +kernel
theorem dX7_lagoon_210 : decode cX7_lagoon 210 = .ok (.getfield 7, 3) := by decide +kernel
theorem dX7_lagoon_213 : decode cX7_lagoon 213 = .ok (.bipush 62, 2) := by decide +kernel
theorem dX7_lagoon_215 : decode cX7_lagoon 215 = .ok (.iconst 0, 1) := by decide +kernel
theorem dX7_lagoon_216 : decode cX7_lagoon 216 = .ok (.iastore, 1) := by decide +kernel
theorem dX7_lagoon_217 : decode cX7_lagoon 217 = .ok (.aload_n 0, 1) := by decide +kernel
theorem dX7_lagoon_218 : decode cX7_lagoon 218 = .ok (.getfield 7, 3) := by decide +kernel
theorem dX7_lagoon_221 : decode cX7_lagoon 221 = .ok (.bipush 63, 2) := by decide +kernel
theorem dX7_lagoon_223 : decode cX7_lagoon 223 = .ok (.iconst 0, 1) := by decide +kernel
theorem dX7_lagoon_224 : decode cX7_lagoon 224 = .ok (.iastore, 1) := by decide +kernel
theorem dX7_lagoon_225 : decode cX7_lagoon 225 = .ok (.aload_n 0, 1) := by decide +kernel
theorem dX7_lagoon_226 : decode cX7_lagoon 226 = .ok (.getfield 7, 3) := by decide +kernel
theorem dX7_lagoon_229 : decode cX7_lagoon 229 = .ok (.bipush 64, 2) := by decide +kernel
theorem dX7_lagoon_231 : decode cX7_lagoon 231 = .ok (.iconst 0, 1) := by decide +kernel
theorem dX7_lagoon_232 : decode cX7_lagoon 232 = .ok (.iastore, 1) := by decide +kernel
theorem dX7_lagoon_233 : decode cX7_lagoon 233 = .ok (.aload_n 0, 1) := by decide +kernel
theorem dX7_lagoon_234 : decode cX7_lagoon 234 = .ok (.getfield 7, 3) := by decide +kernel
theorem dX7_lagoon_237 : decode cX7_lagoon 237 = .ok (.bipush 65, 2) := by decide +kernel
theorem dX7_lagoon_239 : decode cX7_lagoon 239 = .ok (.iconst 0, 1) := by decide +kernel
theorem dX7_lagoon_240 : decode cX7_lagoon 240 = .ok (.iastore, 1) := by decide +kernel
theorem dX7_lagoon_241 : decode cX7_lagoon 241 = .ok (.iconst 0, 1) := by decide +kernel
theorem dX7_lagoon_242 : decode cX7_lagoon 242 = .ok (.istore 4, 2) := by decide +kernel
theorem dX7_lagoon_244 : decode cX7_lagoon 244 = .ok (.iload 4, 2) := by decide +kernel
theorem dX7_lagoon_246 : decode cX7_lagoon 246 = .ok (.sipush 144, 3) := by decide +kernel
theorem dX7_lagoon_249 : decode cX7_lagoon 249 = .ok (.if_icmp .ge 20, 3) := by decide +kernel
theorem dX7_lagoon_252 : decode cX7_lagoon 252 = .ok (.aload_n 0, 1) := by decide +kernel
theorem dX7_lagoon_253 : decode cX7_lagoon 253 = .ok (.getfield 7, 3) := by decide +kernel
theorem dX7_lagoon_256 : decode cX7_lagoon 256 = .ok (.bipush 120, 2) := by decide +kernel
theorem dX7_lagoon_258 : decode cX7_lagoon 258 = .ok (.iload 4, 2) := by decide +kernel
theorem dX7_lagoon_260 : decode cX7_lagoon 260 = .ok (.iadd, 1) := by decide +kernel
theorem dX7_lagoon_261 : decode cX7_lagoon 261 = .ok (.iconst 0, 1) := by decide +kernel
theorem dX7_lagoon_262 : decode cX7_lagoon 262 = .ok (.iastore, 1) := by decide +kernel
theorem dX7_lagoon_263 : decode cX7_lagoon 263 = .ok (.iinc 4 1, 3) := by decide +kernel
theorem dX7_lagoon_266 : decode cX7_lagoon 266 = .ok (.goto (-22), 3) := by decide +kernel
theorem dX7_lagoon_269 : decode cX7_lagoon 269 = .ok (.iconst 0, 1) := by decide +kernel
theorem dX7_lagoon_270 : decode cX7_lagoon 270 = .ok (.istore 4, 2) := by decide +kernel
theorem dX7_lagoon_272 : decode cX7_lagoon 272 = .ok (.iload 4, 2) := by decide +kernel
theorem dX7_lagoon_274 : decode cX7_lagoon 274 = .ok (.iload_n 1, 1) := by decide +kernel
theorem dX7_lagoon_275 : decode cX7_lagoon 275 = .ok (.if_icmp .ge 33, 3) := by decide +kernel
theorem dX7_lagoon_278 : decode cX7_lagoon 278 = .ok (.aload_n 0, 1) := by decide +kernel
theorem dX7_lagoon_279 : decode cX7_lagoon 279 = .ok (.aload_n 0, 1) := by decide +kernel
theorem dX7_lagoon_280 : decode cX7_lagoon 280 = .ok (.getfield 16, 3) := by decide +kernel
theorem dX7_lagoon_283 : decode cX7_lagoon 283 = .ok (.iconst 2, 1) := by decide +kernel
theorem dX7_lagoon_284 : decode cX7_lagoon 284 = .ok (.iload 4, 2) := by decide +kernel
theorem dX7_lagoon_286 : decode cX7_lagoon 286 = .ok (.imul, 1) := by decide +kernel
theorem dX7_lagoon_287 : decode cX7_lagoon 287 = .ok (.iaload, 1) := by decide +kernel
theorem dX7_lagoon_288 : decode cX7_lagoon 288 = .ok (.aload_n 0, 1) := by decide +kernel
theorem dX7_lagoon_289 : decode cX7_lagoon 289 = .ok (.getfield 16, 3) := by decide +kernel
theorem dX7_lagoon_292 : decode cX7_lagoon 292 = .ok (.iconst 2, 1) := by decide +kernel
theorem dX7_lagoon_293 : decode cX7_lagoon 293 = .ok (.iload 4, 2) := by decide +kernel
theorem dX7_lagoon_295 : decode cX7_lagoon 295 = .ok (.imul, 1) := by decide +kernel
theorem dX7_lagoon_296 : decode cX7_lagoon 296 = .ok (.iconst 1, 1) := by decide +kernel
theorem dX7_lagoon_297 : decode cX7_lagoon 297 = .ok (.iadd, 1) := by decide +kernel
theorem dX7_lagoon_298 : decode cX7_lagoon 298 = .ok (.iaload, 1) := by decide +kernel
theorem dX7_lagoon_299 : decode cX7_lagoon 299 = .ok (.invokevirtual 60, 3) := by decide +kernel
theorem dX7_lagoon_302 : decode cX7_lagoon 302 = .ok (.iinc 4 1, 3) := by decide +kernel
theorem dX7_lagoon_305 : decode cX7_lagoon 305 = .ok (.goto (-33), 3) := by decide +kernel
theorem dX7_lagoon_308 : decode cX7_lagoon 308 = .ok (.iload_n 1, 1) := by decide +kernel
theorem dX7_lagoon_309 : decode cX7_lagoon 309 = .ok (.ireturn, 1) := by decide +kernel
theorem dX7_letter_0 : decode cX7_letter 0 = .ok (.aload_n 0, 1) := by decide +kernel
theorem dX7_letter_1 : decode cX7_letter 1 = .ok (.invokevirtual 120, 3) := by decide +kernel
theorem dX7_letter_4 : decode cX7_letter 4 = .ok (.bipush 97, 2) := by decide +kernel
theorem dX7_letter_6 : decode cX7_letter 6 = .ok (.isub, 1) := by decide +kernel
theorem dX7_letter_7 : decode cX7_letter 7 = .ok (.istore_n 2, 1) := by decide +kernel
theorem dX7_letter_8 : decode cX7_letter 8 = .ok (.aload_n 0, 1) := by decide +kernel
theorem dX7_letter_9 : decode cX7_letter 9 = .ok (.iload_n 2, 1) := by decide +kernel
theorem dX7_letter_10 : decode cX7_letter 10 = .ok (.invokevirtual 70, 3) := by decide +kernel
theorem dX7_letter_13 : decode cX7_letter 13 = .ok (.ifCond .eq 8, 3) := by decide +kernel
theorem dX7_letter_16 : decode cX7_letter 16 = .ok (.iload_n 2, 1) := by decide +kernel
theorem dX7_letter_17 : decode cX7_letter 17 = .ok (.iload_n 1, 1) := by decide +kernel
theorem dX7_letter_18 : decode cX7_letter 18 = .ok (.if_icmp .ne 13, 3) := by decide +kernel
theorem dX7_letter_21 : decode cX7_letter 21 = .ok (.aload_n 0, 1) := by decide +kernel
theorem dX7_letter_22 : decode cX7_letter 22 = .ok (.aload_n 0, 1) := by decide +kernel
theorem dX7_letter_23 : decode cX7_letter 23 = .ok (.getfield 114, 3) := by decide +kernel
theorem dX7_letter_26 : decode cX7_letter 26 = .ok (.invokevirtual 128, 3) := by decide +kernel
theorem dX7_letter_29 : decode cX7_letter 29 = .ok (.iconst 0, 1) := by decide +kernel
theorem dX7_letter_30 : decode cX7_letter 30 = .ok (.ireturn, 1) := by decide +kernel
theorem dX7_letter_31 : decode cX7_letter 31 = .ok (.aload_n 0, 1) := by decide +kernel
theorem dX7_letter_32 : decode cX7_letter 32 = .ok (.dup, 1) := by decide +kernel
theorem dX7_letter_33 : decode cX7_letter 33 = .ok (.getfield 114, 3) := by decide +kernel
theorem dX7_letter_36 : decode cX7_letter 36 = .ok (.iconst 1, 1) := by decide +kernel
theorem dX7_letter_37 : decode cX7_letter 37 = .ok (.iadd, 1) := by decide +kernel
theorem dX7_letter_38 : decode cX7_letter 38 = .ok (.putfield 114, 3) := by decide +kernel
theorem dX7_letter_41 : decode cX7_letter 41 = .ok (.iload_n 2, 1) := by decide +kernel
theorem dX7_letter_42 : decode cX7_letter 42 = .ok (.ireturn, 1) := by decide +kernel
theorem dX7_paths_0 : decode cX7_paths 0 = .ok (.aload_n 0, 1) := by decide +kernel
theorem dX7_paths_1 : decode cX7_paths 1 = .ok (.invokevirtual 135, 3) := by decide +kernel
theorem dX7_paths_4 : decode cX7_paths 4 = .ok (.iconst 0, 1) := by decide +kernel
theorem dX7_paths_5 : decode cX7_paths 5 = .ok (.istore_n 1, 1) := by decide +kernel
theorem dX7_paths_6 : decode cX7_paths 6 = .ok (.iconst 1, 1) := by decide +kernel
theorem dX7_paths_7 : decode cX7_paths 7 = .ok (.istore_n 2, 1) := by decide +kernel
theorem dX7_paths_8 : decode cX7_paths 8 = .ok (.iload_n 2, 1) := by decide +kernel
theorem dX7_paths_9 : decode cX7_paths 9 = .ok (.ifCond .eq 136, 3) := by decide +kernel
theorem dX7_paths_12 : decode cX7_paths 12 = .ok (.aload_n 0, 1) := by decide +kernel
theorem dX7_paths_13 : decode cX7_paths 13 = .ok (.getfield 117, 3) := by decide +kernel
theorem dX7_paths_16 : decode cX7_paths 16 = .ok (.ifCond .ge 129, 3) := by decide +kernel
theorem dX7_paths_19 : decode cX7_paths 19 = .ok (.aload_n 0, 1) := by decide +kernel
theorem dX7_paths_20 : decode cX7_paths 20 = .ok (.iconst (-1), 1) := by decide +kernel
theorem dX7_paths_21 : decode cX7_paths 21 = .ok (.invokevirtual 148, 3) := by decide +kernel
theorem dX7_paths_24 : decode cX7_paths 24 = .ok (.istore_n 3, 1) := by decide +kernel
theorem dX7_paths_25 : decode cX7_paths 25 = .ok (.aload_n 0, 1) := by decide +kernel
theorem dX7_paths_26 : decode cX7_paths 26 = .ok (.getfield 117, 3) := by decide +kernel
theorem dX7_paths_29 : decode cX7_paths 29 = .ok (.ifCond .ge 11, 3) := by decide +kernel
theorem dX7_paths_32 : decode cX7_paths 32 = .ok (.aload_n 0, 1) := by decide +kernel
theorem dX7_paths_33 : decode cX7_paths 33 = .ok (.iload_n 3, 1) := by decide +kernel
theorem dX7_paths_34 : decode cX7_paths 34 = .ok (.invokevirtual 148, 3) := by decide +kernel
theorem dX7_paths_37 : decode cX7_paths 37 = .ok (.goto 4, 3) := by decide +kernel
theorem dX7_paths_40 : decode cX7_paths 40 = .ok (.iconst 0, 1) := by decide +kernel
theorem dX7_paths_41 : decode cX7_paths 41 = .ok (.istore 4, 2) := by decide +kernel
theorem dX7_paths_43 : decode cX7_paths 43 = .ok (.aload_n 0, 1) := by decide +kernel
theorem dX7_paths_44 : decode cX7_paths 44 = .ok (.getfield 117, 3) := by decide +kernel
theorem dX7_paths_47 : decode cX7_paths 47 = .ok (.ifCond .ge 11, 3) := by decide +kernel
theorem dX7_paths_50 : decode cX7_paths 50 = .ok (.aload_n 0, 1) := by decide +kernel
theorem dX7_paths_51 : decode cX7_paths 51 = .ok (.iconst 1, 1) := by decide +kernel
theorem dX7_paths_52 : decode cX7_paths 52 = .ok (.bipush 60, 2) := by decide +kernel
theorem dX7_paths_54 : decode cX7_paths 54 = .ok (.iconst 0, 1) := by decide +kernel
theorem dX7_paths_55 : decode cX7_paths 55 = .ok (.invokevirtual 141, 3) := by decide +kernel
theorem dX7_paths_58 : decode cX7_paths 58 = .ok (.aload_n 0, 1) := by decide +kernel
theorem dX7_paths_59 : decode cX7_paths 59 = .ok (.getfield 16, 3) := by decide +kernel
theorem dX7_paths_62 : decode cX7_paths 62 = .ok (.iconst 3, 1) := by decide +kernel
theorem dX7_paths_63 : decode cX7_paths 63 = .ok (.iload_n 1, 1) := by decide +kernel
theorem dX7_paths_64 : decode cX7_paths 64 = .ok (.imul, 1) := by decide +kernel
theorem dX7_paths_65 : decode cX7_paths 65 = .ok (.iload_n 3, 1) := by decide +kernel
theorem dX7_paths_66 : decode cX7_paths 66 = .ok (.iastore, 1) := by decide +kernel
theorem dX7_paths_67 : decode cX7_paths 67 = .ok (.aload_n 0, 1) := by decide +kernel
theorem dX7_paths_68 : decode cX7_paths 68 = .ok (.getfield 16, 3) := by decide +kernel
theorem dX7_paths_71 : decode cX7_paths 71 = .ok (.iconst 3, 1) := by decide +kernel
theorem dX7_paths_72 : decode cX7_paths 72 = .ok (.iload_n 1, 1) := by decide +kernel
theorem dX7_paths_73 : decode cX7_paths 73 = .ok (.imul, 1) := by decide +kernel
theorem dX7_paths_74 : decode cX7_paths 74 = .ok (.iconst 1, 1) := by decide +kernel
theorem dX7_paths_75 : decode cX7_paths 75 = .ok (.iadd, 1) := by decide +kernel
theorem dX7_paths_76 : decode cX7_paths 76 = .ok (.iload 4, 2) := by decide +kernel
theorem dX7_paths_78 : decode cX7_paths 78 = .ok (.iastore, 1) := by decide +kernel
theorem dX7_paths_79 : decode cX7_paths 79 = .ok (.aload_n 0, 1) := by decide +kernel
theorem dX7_paths_80 : decode cX7_paths 80 = .ok (.getfield 16, 3) := by decide +kernel
theorem dX7_paths_83 : decode cX7_paths 83 = .ok (.iconst 3, 1) := by decide +kernel
theorem dX7_paths_84 : decode cX7_paths 84 = .ok (.iload_n 1, 1) := by decide +kernel
theorem dX7_paths_85 : decode cX7_paths 85 = .ok (.imul, 1) := by decide +kernel
theorem dX7_paths_86 : decode cX7_paths 86 = .ok (.iconst 2, 1) := by decide +kernel
theorem dX7_paths_87 : decode cX7_paths 87 = .ok (.iadd, 1) := by decide +kernel
theorem dX7_paths_88 : decode cX7_paths 88 = .ok (.aload_n 0, 1) := by decide +kernel
theorem dX7_paths_89 : decode cX7_paths 89 = .ok (.getfield 132, 3) := by decide +kernel
theorem dX7_paths_92 : decode cX7_paths 92 = .ok (.iastore, 1) := by decide +kernel
theorem dX7_paths_93 : decode cX7_paths 93 = .ok (.iinc 1 1, 3) := by decide +kernel
theorem dX7_paths_96 : decode cX7_paths 96 = .ok (.aload_n 0, 1) := by decide +kernel
theorem dX7_paths_97 : decode cX7_paths 97 = .ok (.getfield 117, 3) := by decide +kernel
theorem dX7_paths_100 : decode cX7_paths 100 = .ok (.ifCond .ge 22, 3) := by decide +kernel
theorem dX7_paths_103 : decode cX7_paths 103 = .ok (.iload_n 1, 1) := by decide +kernel
theorem dX7_paths_104 : decode cX7_paths 104 = .ok (.bipush 8, 2) := by decide +kernel
theorem dX7_paths_106 : decode cX7_paths 106 = .ok (.if_icmp .ge 16, 3) := by decide +kernel
theorem dX7_paths_109 : decode cX7_paths 109 = .ok (.aload_n 0, 1) := by decide +kernel
theorem dX7_paths_110 : decode cX7_paths 110 = .ok (.invokevirtual 120, 3) := by decide +kernel
theorem dX7_paths_113 : decode cX7_paths 113 = .ok (.bipush 44, 2) := by decide +kernel
theorem dX7_paths_115 : decode cX7_paths 115 = .ok (.if_icmp .ne 7, 3) := by decide +kernel
theorem dX7_paths_118 : decode cX7_paths 118 = .ok (.iconst 1, 1) := by decide +kernel
theorem dX7_paths_119 : decode cX7_paths 119 = .ok (.goto 4, 3) := by decide +kernel
theorem dX7_paths_122 : decode cX7_paths 122 = .ok (.iconst 0, 1) := by decide +kernel
theorem dX7_paths_123 : decode cX7_paths 123 = .ok (.istore_n 2, 1) := by decide +kernel
theorem dX7_paths_124 : decode cX7_paths 124 = .ok (.aload_n 0, 1) := by decide +kernel
theorem dX7_paths_125 : decode cX7_paths 125 = .ok (.dup, 1) := by decide +kernel
theorem dX7_paths_126 : decode cX7_paths 126 = .ok (.getfield 114, 3) := by decide +kernel
theorem dX7_paths_129 : decode cX7_paths 129 = .ok (.iload_n 2, 1) := by decide +kernel
theorem dX7_paths_130 : decode cX7_paths 130 = .ok (.ifCond .eq 7, 3) := by decide +kernel
theorem dX7_paths_133 : decode cX7_paths 133 = .ok (.iconst 1, 1) := by decide +kernel
theorem dX7_paths_134 : decode cX7_paths 134 = .ok (.goto 4, 3) := by decide +kernel
theorem dX7_paths_137 : decode cX7_paths 137 = .ok (.iconst 0, 1) := by decide +kernel
theorem dX7_paths_138 : decode cX7_paths 138 = .ok (.iadd, 1) := by decide +kernel
theorem dX7_paths_139 : decode cX7_paths 139 = .ok (.putfield 114, 3) := by decide +kernel
theorem dX7_paths_142 : decode cX7_paths 142 = .ok (.goto (-134), 3) := by decide +kernel
theorem dX7_paths_145 : decode cX7_paths 145 = .ok (.aload_n 0, 1) := by decide +kernel
theorem dX7_paths_146 : decode cX7_paths 146 = .ok (.getfield 117, 3) := by decide +kernel
theorem dX7_paths_149 : decode cX7_paths 149 = .ok (.ifCond .ge 18, 3) := by decide +kernel
theorem dX7_paths_152 : decode cX7_paths 152 = .ok (.aload_n 0, 1) := by decide +kernel
theorem dX7_paths_153 : decode cX7_paths 153 = .ok (.invokevirtual 120, 3) := by decide +kernel
theorem dX7_paths_156 : decode cX7_paths 156 = .ok (.ifCond .eq 11, 3) := by decide +kernel
theorem dX7_paths_159 : decode cX7_paths 159 = .ok (.aload_n 0, 1) := by decide +kernel
theorem dX7_paths_160 : decode cX7_paths 160 = .ok (.aload_n 0, 1) := by decide +kernel
theorem dX7_paths_161 : decode cX7_paths 161 = .ok (.getfield 114, 3) := by decide +kernel
theorem dX7_paths_164 : decode cX7_paths 164 = .ok (.invokevirtual 128, 3) := by decide +kernel
theorem dX7_paths_167 : decode cX7_paths 167 = .ok (.aload_n 0, 1) := by decide +kernel
theorem dX7_paths_168 : decode cX7_paths 168 = .ok (.getfield 117, 3) := by decide +kernel
theorem dX7_paths_171 : decode cX7_paths 171 = .ok (.ifCond .lt 8, 3) := by decide +kernel
theorem dX7_paths_174 : decode cX7_paths 174 = .ok (.aload_n 0, 1) := by decide +kernel
theorem dX7_paths_175 : decode cX7_paths 175 = .ok (.invokevirtual 145, 3) := by decide +kernel
theorem dX7_paths_178 : decode cX7_paths 178 = .ok (.ireturn, 1) := by decide +kernel
theorem dX7_paths_179 : decode cX7_paths 179 = .ok (.aload_n 0, 1) := by decide +kernel
theorem dX7_paths_180 : decode cX7_paths 180 = .ok (.iconst 0, 1) := by decide +kernel
theorem dX7_paths_181 : decode cX7_paths 181 = .ok (.putfield 110, 3) := by decide +kernel
theorem dX7_paths_184 : decode cX7_paths 184 = .ok (.iconst 0, 1) := by decide +kernel
theorem dX7_paths_185 : decode cX7_paths 185 = .ok (.istore_n 3, 1) := by decide +kernel
theorem dX7_paths_186 : decode cX7_paths 186 = .ok (.iload_n 3, 1) := by decide +kernel
theorem dX7_paths_187 : decode cX7_paths 187 = .ok (.iload_n 1, 1) := by decide +kernel
theorem dX7_paths_188 : decode cX7_paths 188 = .ok (.if_icmp .ge 41, 3) := by decide +kernel
theorem dX7_paths_191 : decode cX7_paths 191 = .ok (.aload_n 0, 1) := by decide +kernel
theorem dX7_paths_192 : decode cX7_paths 192 = .ok (.aload_n 0, 1) := by decide +kernel
theorem dX7_paths_193 : decode cX7_paths 193 = .ok (.getfield 16, 3) := by decide +kernel
theorem dX7_paths_196 : decode cX7_paths 196 = .ok (.iconst 3, 1) := by decide +kernel
theorem dX7_paths_197 : decode cX7_paths 197 = .ok (.iload_n 3, 1) := by decide +kernel
theorem dX7_paths_198 : decode cX7_paths 198 = .ok (.imul, 1) := by decide +kernel
theorem dX7_paths_199 : decode cX7_paths 199 = .ok (.iaload, 1) := by decide +kernel
theorem dX7_paths_200 : decode cX7_paths 200 = .ok (.aload_n 0, 1) := by decide +kernel
theorem dX7_paths_201 : decode cX7_paths 201 = .ok (.getfield 16, 3) := by decide +kernel
theorem dX7_paths_204 : decode cX7_paths 204 = .ok (.iconst 3, 1) := by decide +kernel
theorem dX7_paths_205 : decode cX7_paths 205 = .ok (.iload_n 3, 1) := by decide +kernel
theorem dX7_paths_206 : decode cX7_paths 206 = .ok (.imul, 1) := by decide +kernel
theorem dX7_paths_207 : decode cX7_paths 207 = .ok (.iconst 1, 1) := by decide +kernel
theorem dX7_paths_208 : decode cX7_paths 208 = .ok (.iadd, 1) := by decide +kernel
theorem dX7_paths_209 : decode cX7_paths 209 = .ok (.iaload, 1) := by decide +kernel
theorem dX7_paths_210 : decode cX7_paths 210 = .ok (.aload_n 0, 1) := by decide +kernel
theorem dX7_paths_211 : decode cX7_paths 211 = .ok (.getfield 16, 3) := by decide +kernel
theorem dX7_paths_214 : decode cX7_paths 214 = .ok (.iconst 3, 1) := by decide +kernel
theorem dX7_paths_215 : decode cX7_paths 215 = .ok (.iload_n 3, 1) := by decide +kernel
theorem dX7_paths_216 : decode cX7_paths 216 = .ok (.imul, 1) := by decide +kernel
theorem dX7_paths_217 : decode cX7_paths 217 = .ok (.iconst 2, 1) := by decide +kernel
theorem dX7_paths_218 : decode cX7_paths 218 = .ok (.iadd, 1) := by decide +kernel
theorem dX7_paths_219 : decode cX7_paths 219 = .ok (.iaload, 1) := by decide +kernel
theorem dX7_paths_220 : decode cX7_paths 220 = .ok (.invokevirtual 84, 3) := by decide +kernel
theorem dX7_paths_223 : decode cX7_paths 223 = .ok (.iinc 3 1, 3) := by decide +kernel
theorem dX7_paths_226 : decode cX7_paths 226 = .ok (.goto (-40), 3) := by decide +kernel
theorem dX7_paths_229 : decode cX7_paths 229 = .ok (.iload_n 1, 1) := by decide +kernel
theorem dX7_paths_230 : decode cX7_paths 230 = .ok (.ireturn, 1) := by decide +kernel
theorem dX7_count_0 : decode cX7_count 0 = .ok (.iload_n 1, 1) := by decide +kernel
theorem dX7_count_1 : decode cX7_count 1 = .ok (.i2l, 1) := by decide +kernel
theorem dX7_count_2 : decode cX7_count 2 = .ok (.lconst 0, 1) := by decide +kernel
theorem dX7_count_3 : decode cX7_count 3 = .ok (.ldc2_w 151, 3) := by decide +kernel
theorem dX7_count_6 : decode cX7_count 6 = .ok (.invokestatic 50, 3) := by decide +kernel
theorem dX7_count_9 : decode cX7_count 9 = .ok (.ifCond .ne 5, 3) := by decide +kernel
theorem dX7_count_12 : decode cX7_count 12 = .ok (.iconst (-1), 1) := by decide +kernel
theorem dX7_count_13 : decode cX7_count 13 = .ok (.ireturn, 1) := by decide +kernel
theorem dX7_count_14 : decode cX7_count 14 = .ok (.iload_n 1, 1) := by decide +kernel
theorem dX7_count_15 : decode cX7_count 15 = .ok (.iconst 1, 1) := by decide +kernel
theorem dX7_count_16 : decode cX7_count 16 = .ok (.if_icmp .ne 54, 3) := by decide +kernel
theorem dX7_count_19 : decode cX7_count 19 = .ok (.iconst 0, 1) := by decide +kernel
theorem dX7_count_20 : decode cX7_count 20 = .ok (.istore_n 2, 1) := by decide +kernel
theorem dX7_count_21 : decode cX7_count 21 = .ok (.iconst 0, 1) := by decide +kernel
theorem dX7_count_22 : decode cX7_count 22 = .ok (.istore_n 3, 1) := by decide +kernel
theorem dX7_count_23 : decode cX7_count 23 = .ok (.iload_n 3, 1) := by decide +kernel
theorem dX7_count_24 : decode cX7_count 24 = .ok (.bipush 12, 2) := by decide +kernel
theorem dX7_count_26 : decode cX7_count 26 = .ok (.if_icmp .ge 42, 3) := by decide +kernel
theorem dX7_count_29 : decode cX7_count 29 = .ok (.iconst 0, 1) := by decide +kernel
theorem dX7_count_30 : decode cX7_count 30 = .ok (.istore 4, 2) := by decide +kernel
theorem dX7_count_32 : decode cX7_count 32 = .ok (.iload 4, 2) := by decide +kernel
theorem dX7_count_34 : decode cX7_count 34 = .ok (.iload_n 3, 1) := by decide +kernel
theorem dX7_count_35 : decode cX7_count 35 = .ok (.if_icmp .ge 27, 3) := by decide +kernel
theorem dX7_count_38 : decode cX7_count 38 = .ok (.iload_n 2, 1) := by decide +kernel
theorem dX7_count_39 : decode cX7_count 39 = .ok (.aload_n 0, 1) := by decide +kernel
theorem dX7_count_40 : decode cX7_count 40 = .ok (.iload_n 3, 1) := by decide +kernel
theorem dX7_count_41 : decode cX7_count 41 = .ok (.iload 4, 2) := by decide +kernel
theorem dX7_count_43 : decode cX7_count 43 = .ok (.invokevirtual 80, 3) := by decide +kernel
theorem dX7_count_46 : decode cX7_count 46 = .ok (.ifCond .le 7, 3) := by decide +kernel
theorem dX7_count_49 : decode cX7_count 49 = .ok (.iconst 1, 1) := by decide +kernel
theorem dX7_count_50 : decode cX7_count 50 = .ok (.goto 4, 3) := by decide +kernel
theorem dX7_count_53 : decode cX7_count 53 = .ok (.iconst 0, 1) := by decide +kernel
theorem dX7_count_54 : decode cX7_count 54 = .ok (.iadd, 1) := by decide +kernel
theorem dX7_count_55 : decode cX7_count 55 = .ok (.istore_n 2, 1) := by decide +kernel
theorem dX7_count_56 : decode cX7_count 56 = .ok (.iinc 4 1, 3) := by decide +kernel
theorem dX7_count_59 : decode cX7_count 59 = .ok (.goto (-27), 3) := by decide +kernel
theorem dX7_count_62 : decode cX7_count 62 = .ok (.iinc 3 1, 3) := by decide +kernel
theorem dX7_count_65 : decode cX7_count 65 = .ok (.goto (-42), 3) := by decide +kernel
theorem dX7_count_68 : decode cX7_count 68 = .ok (.iload_n 2, 1) := by decide +kernel
theorem dX7_count_69 : decode cX7_count 69 = .ok (.ireturn, 1) := by decide +kernel
theorem dX7_count_70 : decode cX7_count 70 = .ok (.iload_n 1, 1) := by decide +kernel
theorem dX7_count_71 : decode cX7_count 71 = .ok (.ifCond .ne 13, 3) := by decide +kernel
theorem dX7_count_74 : decode cX7_count 74 = .ok (.aload_n 0, 1) := by decide +kernel
theorem dX7_count_75 : decode cX7_count 75 = .ok (.getfield 7, 3) := by decide +kernel
theorem dX7_count_78 : decode cX7_count 78 = .ok (.bipush 62, 2) := by decide +kernel
theorem dX7_count_80 : decode cX7_count 80 = .ok (.iaload, 1) := by decide +kernel
theorem dX7_count_81 : decode cX7_count 81 = .ok (.goto 40, 3) := by decide +kernel
theorem dX7_count_84 : decode cX7_count 84 = .ok (.iload_n 1, 1) := by decide +kernel
theorem dX7_count_85 : decode cX7_count 85 = .ok (.iconst 2, 1) := by decide +kernel
theorem dX7_count_86 : decode cX7_count 86 = .ok (.if_icmp .ne 13, 3) := by decide +kernel
theorem dX7_count_89 : decode cX7_count 89 = .ok (.aload_n 0, 1) := by decide +kernel
theorem dX7_count_90 : decode cX7_count 90 = .ok (.getfield 7, 3) := by decide +kernel
theorem dX7_count_93 : decode cX7_count 93 = .ok (.bipush 63, 2) := by decide +kernel
theorem dX7_count_95 : decode cX7_count 95 = .ok (.iaload, 1) := by decide +kernel
theorem dX7_count_96 : decode cX7_count 96 = .ok (.goto 25, 3) := by decide +kernel
theorem dX7_count_99 : decode cX7_count 99 = .ok (.iload_n 1, 1) := by decide +kernel
theorem dX7_count_100 : decode cX7_count 100 = .ok (.iconst 3, 1) := by decide +kernel
theorem dX7_count_101 : decode cX7_count 101 = .ok (.if_icmp .ne 13, 3) := by decide +kernel
theorem dX7_count_104 : decode cX7_count 104 = .ok (.aload_n 0, 1) := by decide +kernel
theorem dX7_count_105 : decode cX7_count 105 = .ok (.getfield 7, 3) := by decide +kernel
theorem dX7_count_108 : decode cX7_count 108 = .ok (.bipush 64, 2) := by decide +kernel
theorem dX7_count_110 : decode cX7_count 110 = .ok (.iaload, 1) := by decide +kernel
theorem dX7_count_111 : decode cX7_count 111 = .ok (.goto 10, 3) := by decide +kernel
theorem dX7_count_114 : decode cX7_count 114 = .ok (.aload_n 0, 1) := by decide +kernel
theorem dX7_count_115 : decode cX7_count 115 = .ok (.getfield 7, 3) := by decide +kernel
theorem dX7_count_118 : decode cX7_count 118 = .ok (.bipush 65, 2) := by decide +kernel
theorem dX7_count_120 : decode cX7_count 120 = .ok (.iaload, 1) := by decide +kernel
theorem dX7_count_121 : decode cX7_count 121 = .ok (.ireturn, 1) := by decide +kernel
theorem dX7_waterBy_0 : decode cX7_waterBy 0 = .ok (.iload_n 1, 1) := by decide +kernel
theorem dX7_waterBy_1 : decode cX7_waterBy 1 = .ok (.aload_n 0, 1) := by decide +kernel
theorem dX7_waterBy_2 : decode cX7_waterBy 2 = .ok (.getfield 7, 3) := by decide +kernel
theorem dX7_waterBy_5 : decode cX7_waterBy 5 = .ok (.bipush 36, 2) := by decide +kernel
theorem dX7_waterBy_7 : decode cX7_waterBy 7 = .ok (.iload_n 2, 1) := by decide +kernel
theorem dX7_waterBy_8 : decode cX7_waterBy 8 = .ok (.iadd, 1) := by decide +kernel
theorem dX7_waterBy_9 : decode cX7_waterBy 9 = .ok (.iaload, 1) := by decide +kernel
theorem dX7_waterBy_10 : decode cX7_waterBy 10 = .ok (.iadd, 1) := by decide +kernel
theorem dX7_waterBy_11 : decode cX7_waterBy 11 = .ok (.iload_n 3, 1) := by decide +kernel
theorem dX7_waterBy_12 : decode cX7_waterBy 12 = .ok (.iadd, 1) := by decide +kernel
theorem dX7_waterBy_13 : decode cX7_waterBy 13 = .ok (.istore 4, 2) := by decide +kernel
theorem dX7_waterBy_15 : decode cX7_waterBy 15 = .ok (.iload 4, 2) := by decide +kernel
theorem dX7_waterBy_17 : decode cX7_waterBy 17 = .ok (.ifCond .ge 7, 3) := by decide +kernel
theorem dX7_waterBy_20 : decode cX7_waterBy 20 = .ok (.iconst 0, 1) := by decide +kernel
theorem dX7_waterBy_21 : decode cX7_waterBy 21 = .ok (.goto 5, 3) := by decide +kernel
theorem dX7_waterBy_24 : decode cX7_waterBy 24 = .ok (.iload 4, 2) := by decide +kernel
theorem dX7_waterBy_26 : decode cX7_waterBy 26 = .ok (.ireturn, 1) := by decide +kernel
theorem dX7_reaches_0 : decode cX7_reaches 0 = .ok (.iload_n 2, 1) := by decide +kernel
theorem dX7_reaches_1 : decode cX7_reaches 1 = .ok (.iload_n 1, 1) := by decide +kernel
theorem dX7_reaches_2 : decode cX7_reaches 2 = .ok (.if_icmp .gt 20, 3) := by decide +kernel
theorem dX7_reaches_5 : decode cX7_reaches 5 = .ok (.iload_n 1, 1) := by decide +kernel
theorem dX7_reaches_6 : decode cX7_reaches 6 = .ok (.iload_n 2, 1) := by decide +kernel
theorem dX7_reaches_7 : decode cX7_reaches 7 = .ok (.isub, 1) := by decide +kernel
theorem dX7_reaches_8 : decode cX7_reaches 8 = .ok (.aload_n 0, 1) := by decide +kernel
theorem dX7_reaches_9 : decode cX7_reaches 9 = .ok (.getfield 7, 3) := by decide +kernel
theorem dX7_reaches_12 : decode cX7_reaches 12 = .ok (.bipush 61, 2) := by decide +kernel
theorem dX7_reaches_14 : decode cX7_reaches 14 = .ok (.iaload, 1) := by decide +kernel
theorem dX7_reaches_15 : decode cX7_reaches 15 = .ok (.if_icmp .gt 7, 3) := by decide +kernel
theorem dX7_reaches_18 : decode cX7_reaches 18 = .ok (.iconst 1, 1) := by decide +kernel
theorem dX7_reaches_19 : decode cX7_reaches 19 = .ok (.goto 4, 3) := by decide +kernel
theorem dX7_reaches_22 : decode cX7_reaches 22 = .ok (.iconst 0, 1) := by decide +kernel
theorem dX7_reaches_23 : decode cX7_reaches 23 = .ok (.ireturn, 1) := by decide +kernel
theorem dX7_standsBy_0 : decode cX7_standsBy 0 = .ok (.aload_n 0, 1) := by decide +kernel
theorem dX7_standsBy_1 : decode cX7_standsBy 1 = .ok (.iload_n 1, 1) := by decide +kernel
theorem dX7_standsBy_2 : decode cX7_standsBy 2 = .ok (.iload_n 2, 1) := by decide +kernel
theorem dX7_standsBy_3 : decode cX7_standsBy 3 = .ok (.iload_n 3, 1) := by decide +kernel
theorem dX7_standsBy_4 : decode cX7_standsBy 4 = .ok (.invokestatic 98, 3) := by decide +kernel
theorem dX7_standsBy_7 : decode cX7_standsBy 7 = .ok (.iload 4, 2) := by decide +kernel
theorem dX7_standsBy_9 : decode cX7_standsBy 9 = .ok (.invokevirtual 153, 3) := by decide +kernel
theorem dX7_standsBy_12 : decode cX7_standsBy 12 = .ok (.ifCond .ne 20, 3) := by decide +kernel
theorem dX7_standsBy_15 : decode cX7_standsBy 15 = .ok (.iload_n 1, 1) := by decide +kernel
theorem dX7_standsBy_16 : decode cX7_standsBy 16 = .ok (.iconst 1, 1) := by decide +kernel
theorem dX7_standsBy_17 : decode cX7_standsBy 17 = .ok (.if_icmp .ne 19, 3) := by decide +kernel
theorem dX7_standsBy_20 : decode cX7_standsBy 20 = .ok (.aload_n 0, 1) := by decide +kernel
theorem dX7_standsBy_21 : decode cX7_standsBy 21 = .ok (.iload_n 2, 1) := by decide +kernel
theorem dX7_standsBy_22 : decode cX7_standsBy 22 = .ok (.iconst 2, 1) := by decide +kernel
theorem dX7_standsBy_23 : decode cX7_standsBy 23 = .ok (.idiv, 1) := by decide +kernel
theorem dX7_standsBy_24 : decode cX7_standsBy 24 = .ok (.iload 4, 2) := by decide +kernel
theorem dX7_standsBy_26 : decode cX7_standsBy 26 = .ok (.invokevirtual 153, 3) := by decide +kernel
theorem dX7_standsBy_29 : decode cX7_standsBy 29 = .ok (.ifCond .eq 7, 3) := by decide +kernel
theorem dX7_standsBy_32 : decode cX7_standsBy 32 = .ok (.iconst 1, 1) := by decide +kernel
theorem dX7_standsBy_33 : decode cX7_standsBy 33 = .ok (.goto 4, 3) := by decide +kernel
theorem dX7_standsBy_36 : decode cX7_standsBy 36 = .ok (.iconst 0, 1) := by decide +kernel
theorem dX7_standsBy_37 : decode cX7_standsBy 37 = .ok (.ireturn, 1) := by decide +kernel
theorem dX7_would_0 : decode cX7_would 0 = .ok (.aload_n 0, 1) := by decide +kernel
theorem dX7_would_1 : decode cX7_would 1 = .ok (.aload_n 0, 1) := by decide +kernel
theorem dX7_would_2 : decode cX7_would 2 = .ok (.getfield 7, 3) := by decide +kernel
theorem dX7_would_5 : decode cX7_would 5 = .ok (.bipush 66, 2) := by decide +kernel
theorem dX7_would_7 : decode cX7_would 7 = .ok (.iload_n 1, 1) := by decide +kernel
theorem dX7_would_8 : decode cX7_would 8 = .ok (.iadd, 1) := by decide +kernel
theorem dX7_would_9 : decode cX7_would 9 = .ok (.iaload, 1) := by decide +kernel
theorem dX7_would_10 : decode cX7_would 10 = .ok (.iload_n 2, 1) := by decide +kernel
theorem dX7_would_11 : decode cX7_would 11 = .ok (.aload_n 0, 1) := by decide +kernel
theorem dX7_would_12 : decode cX7_would 12 = .ok (.getfield 7, 3) := by decide +kernel
theorem dX7_would_15 : decode cX7_would 15 = .ok (.bipush 65, 2) := by decide +kernel
theorem dX7_would_17 : decode cX7_would 17 = .ok (.iaload, 1) := by decide +kernel
theorem dX7_would_18 : decode cX7_would 18 = .ok (.aload_n 0, 1) := by decide +kernel
theorem dX7_would_19 : decode cX7_would 19 = .ok (.aload_n 0, 1) := by decide +kernel
theorem dX7_would_20 : decode cX7_would 20 = .ok (.getfield 7, 3) := by decide +kernel
theorem dX7_would_23 : decode cX7_would 23 = .ok (.iconst 0, 1) := by decide +kernel
theorem dX7_would_24 : decode cX7_would 24 = .ok (.iload_n 3, 1) := by decide +kernel
theorem dX7_would_25 : decode cX7_would 25 = .ok (.iadd, 1) := by decide +kernel
theorem dX7_would_26 : decode cX7_would 26 = .ok (.iaload, 1) := by decide +kernel
theorem dX7_would_27 : decode cX7_would 27 = .ok (.iload 4, 2) := by decide +kernel
theorem dX7_would_29 : decode cX7_would 29 = .ok (.aload_n 0, 1) := by decide +kernel
theorem dX7_would_30 : decode cX7_would 30 = .ok (.getfield 7, 3) := by decide +kernel
theorem dX7_would_33 : decode cX7_would 33 = .ok (.bipush 60, 2) := by decide +kernel
theorem dX7_would_35 : decode cX7_would 35 = .ok (.iaload, 1) := by decide +kernel
theorem dX7_would_36 : decode cX7_would 36 = .ok (.invokevirtual 157, 3) := by decide +kernel
theorem dX7_would_39 : decode cX7_would 39 = .ok (.invokevirtual 160, 3) := by decide +kernel
theorem dX7_would_42 : decode cX7_would 42 = .ok (.ireturn, 1) := by decide +kernel
theorem dX7_does_0 : decode cX7_does 0 = .ok (.aload_n 0, 1) := by decide +kernel
theorem dX7_does_1 : decode cX7_does 1 = .ok (.iload_n 1, 1) := by decide +kernel
theorem dX7_does_2 : decode cX7_does 2 = .ok (.aload_n 0, 1) := by decide +kernel
theorem dX7_does_3 : decode cX7_does 3 = .ok (.getfield 7, 3) := by decide +kernel
theorem dX7_does_6 : decode cX7_does 6 = .ok (.bipush 74, 2) := by decide +kernel
theorem dX7_does_8 : decode cX7_does 8 = .ok (.iload_n 1, 1) := by decide +kernel
theorem dX7_does_9 : decode cX7_does 9 = .ok (.iadd, 1) := by decide +kernel
theorem dX7_does_10 : decode cX7_does 10 = .ok (.iaload, 1) := by decide +kernel
theorem dX7_does_11 : decode cX7_does 11 = .ok (.iload_n 2, 1) := by decide +kernel
theorem dX7_does_12 : decode cX7_does 12 = .ok (.iload_n 3, 1) := by decide +kernel
theorem dX7_does_13 : decode cX7_does 13 = .ok (.invokevirtual 164, 3) := by decide +kernel
theorem dX7_does_16 : decode cX7_does 16 = .ok (.ireturn, 1) := by decide +kernel
theorem dX7_water_0 : decode cX7_water 0 = .ok (.aload_n 0, 1) := by decide +kernel
theorem dX7_water_1 : decode cX7_water 1 = .ok (.iload_n 1, 1) := by decide +kernel
theorem dX7_water_2 : decode cX7_water 2 = .ok (.invokevirtual 70, 3) := by decide +kernel
theorem dX7_water_5 : decode cX7_water 5 = .ok (.ifCond .eq 33, 3) := by decide +kernel
theorem dX7_water_8 : decode cX7_water 8 = .ok (.iload_n 2, 1) := by decide +kernel
theorem dX7_water_9 : decode cX7_water 9 = .ok (.invokestatic 88, 3) := by decide +kernel
theorem dX7_water_12 : decode cX7_water 12 = .ok (.ifCond .eq 26, 3) := by decide +kernel
theorem dX7_water_15 : decode cX7_water 15 = .ok (.aload_n 0, 1) := by decide +kernel
theorem dX7_water_16 : decode cX7_water 16 = .ok (.aload_n 0, 1) := by decide +kernel
theorem dX7_water_17 : decode cX7_water 17 = .ok (.getfield 7, 3) := by decide +kernel
theorem dX7_water_20 : decode cX7_water 20 = .ok (.iconst 0, 1) := by decide +kernel
theorem dX7_water_21 : decode cX7_water 21 = .ok (.iload_n 1, 1) := by decide +kernel
theorem dX7_water_22 : decode cX7_water 22 = .ok (.iadd, 1) := by decide +kernel
theorem dX7_water_23 : decode cX7_water 23 = .ok (.iaload, 1) := by decide +kernel
theorem dX7_water_24 : decode cX7_water 24 = .ok (.iload_n 2, 1) := by decide +kernel
theorem dX7_water_25 : decode cX7_water 25 = .ok (.aload_n 0, 1) := by decide +kernel
theorem dX7_water_26 : decode cX7_water 26 = .ok (.getfield 7, 3) := by decide +kernel
theorem dX7_water_29 : decode cX7_water 29 = .ok (.bipush 60, 2) := by decide +kernel
theorem dX7_water_31 : decode cX7_water 31 = .ok (.iaload, 1) := by decide +kernel
theorem dX7_water_32 : decode cX7_water 32 = .ok (.invokevirtual 157, 3) := by decide +kernel
theorem dX7_water_35 : decode cX7_water 35 = .ok (.goto 4, 3) := by decide +kernel
theorem dX7_water_38 : decode cX7_water 38 = .ok (.iconst (-1), 1) := by decide +kernel
theorem dX7_water_39 : decode cX7_water 39 = .ok (.ireturn, 1) := by decide +kernel
theorem dX7_stands_0 : decode cX7_stands 0 = .ok (.aload_n 0, 1) := by decide +kernel
theorem dX7_stands_1 : decode cX7_stands 1 = .ok (.iload_n 1, 1) := by decide +kernel
theorem dX7_stands_2 : decode cX7_stands 2 = .ok (.invokevirtual 95, 3) := by decide +kernel
theorem dX7_stands_5 : decode cX7_stands 5 = .ok (.ifCond .eq 18, 3) := by decide +kernel
theorem dX7_stands_8 : decode cX7_stands 8 = .ok (.aload_n 0, 1) := by decide +kernel
theorem dX7_stands_9 : decode cX7_stands 9 = .ok (.iload_n 2, 1) := by decide +kernel
theorem dX7_stands_10 : decode cX7_stands 10 = .ok (.invokevirtual 70, 3) := by decide +kernel
theorem dX7_stands_13 : decode cX7_stands 13 = .ok (.ifCond .eq 10, 3) := by decide +kernel
theorem dX7_stands_16 : decode cX7_stands 16 = .ok (.iload_n 3, 1) := by decide +kernel
theorem dX7_stands_17 : decode cX7_stands 17 = .ok (.invokestatic 88, 3) := by decide +kernel
theorem dX7_stands_20 : decode cX7_stands 20 = .ok (.ifCond .ne 5, 3) := by decide +kernel
theorem dX7_stands_23 : decode cX7_stands 23 = .ok (.iconst (-1), 1) := by decide +kernel
theorem dX7_stands_24 : decode cX7_stands 24 = .ok (.ireturn, 1) := by decide +kernel
theorem dX7_stands_25 : decode cX7_stands 25 = .ok (.aload_n 0, 1) := by decide +kernel
theorem dX7_stands_26 : decode cX7_stands 26 = .ok (.iload_n 1, 1) := by decide +kernel
theorem dX7_stands_27 : decode cX7_stands 27 = .ok (.iload_n 2, 1) := by decide +kernel
theorem dX7_stands_28 : decode cX7_stands 28 = .ok (.iload_n 3, 1) := by decide +kernel
theorem dX7_stands_29 : decode cX7_stands 29 = .ok (.invokevirtual 167, 3) := by decide +kernel
theorem dX7_stands_32 : decode cX7_stands 32 = .ok (.ifCond .eq 7, 3) := by decide +kernel
theorem dX7_stands_35 : decode cX7_stands 35 = .ok (.iconst 1, 1) := by decide +kernel
theorem dX7_stands_36 : decode cX7_stands 36 = .ok (.goto 4, 3) := by decide +kernel
theorem dX7_stands_39 : decode cX7_stands 39 = .ok (.iconst 0, 1) := by decide +kernel
theorem dX7_stands_40 : decode cX7_stands 40 = .ok (.ireturn, 1) := by decide +kernel
theorem dX7_hours_0 : decode cX7_hours 0 = .ok (.aload_n 0, 1) := by decide +kernel
theorem dX7_hours_1 : decode cX7_hours 1 = .ok (.iload_n 1, 1) := by decide +kernel
theorem dX7_hours_2 : decode cX7_hours 2 = .ok (.invokevirtual 95, 3) := by decide +kernel
theorem dX7_hours_5 : decode cX7_hours 5 = .ok (.ifCond .eq 11, 3) := by decide +kernel
theorem dX7_hours_8 : decode cX7_hours 8 = .ok (.aload_n 0, 1) := by decide +kernel
theorem dX7_hours_9 : decode cX7_hours 9 = .ok (.iload_n 2, 1) := by decide +kernel
theorem dX7_hours_10 : decode cX7_hours 10 = .ok (.invokevirtual 70, 3) := by decide +kernel
theorem dX7_hours_13 : decode cX7_hours 13 = .ok (.ifCond .ne 5, 3) := by decide +kernel
theorem dX7_hours_16 : decode cX7_hours 16 = .ok (.iconst (-1), 1) := by decide +kernel
theorem dX7_hours_17 : decode cX7_hours 17 = .ok (.ireturn, 1) := by decide +kernel
theorem dX7_hours_18 : decode cX7_hours 18 = .ok (.iconst 0, 1) := by decide +kernel
theorem dX7_hours_19 : decode cX7_hours 19 = .ok (.istore_n 3, 1) := by decide +kernel
theorem dX7_hours_20 : decode cX7_hours 20 = .ok (.iconst 0, 1) := by decide +kernel
theorem dX7_hours_21 : decode cX7_hours 21 = .ok (.istore 4, 2) := by decide +kernel
theorem dX7_hours_23 : decode cX7_hours 23 = .ok (.iload 4, 2) := by decide +kernel
theorem dX7_hours_25 : decode cX7_hours 25 = .ok (.bipush 24, 2) := by decide +kernel
theorem dX7_hours_27 : decode cX7_hours 27 = .ok (.if_icmp .ge 31, 3) := by decide +kernel
theorem dX7_hours_30 : decode cX7_hours 30 = .ok (.iload_n 3, 1) := by decide +kernel
theorem dX7_hours_31 : decode cX7_hours 31 = .ok (.aload_n 0, 1) := by decide +kernel
theorem dX7_hours_32 : decode cX7_hours 32 = .ok (.iload_n 1, 1) := by decide +kernel
theorem dX7_hours_33 : decode cX7_hours 33 = .ok (.iload_n 2, 1) := by decide +kernel
theorem dX7_hours_34 : decode cX7_hours 34 = .ok (.iload 4, 2) := by decide +kernel
theorem dX7_hours_36 : decode cX7_hours 36 = .ok (.invokevirtual 167, 3) := by decide +kernel
theorem dX7_hours_39 : decode cX7_hours 39 = .ok (.ifCond .eq 10, 3) := by decide +kernel
theorem dX7_hours_42 : decode cX7_hours 42 = .ok (.iconst 1, 1) := by decide +kernel
theorem dX7_hours_43 : decode cX7_hours 43 = .ok (.iload 4, 2) := by decide +kernel
theorem dX7_hours_45 : decode cX7_hours 45 = .ok (.ishl, 1) := by decide +kernel
theorem dX7_hours_46 : decode cX7_hours 46 = .ok (.goto 4, 3) := by decide +kernel
theorem dX7_hours_49 : decode cX7_hours 49 = .ok (.iconst 0, 1) := by decide +kernel
theorem dX7_hours_50 : decode cX7_hours 50 = .ok (.ior, 1) := by decide +kernel
theorem dX7_hours_51 : decode cX7_hours 51 = .ok (.istore_n 3, 1) := by decide +kernel
theorem dX7_hours_52 : decode cX7_hours 52 = .ok (.iinc 4 1, 3) := by decide +kernel
theorem dX7_hours_55 : decode cX7_hours 55 = .ok (.goto (-32), 3) := by decide +kernel
theorem dX7_hours_58 : decode cX7_hours 58 = .ok (.iload_n 3, 1) := by decide +kernel
theorem dX7_hours_59 : decode cX7_hours 59 = .ok (.ireturn, 1) := by decide +kernel
theorem dX7_silted_0 : decode cX7_silted 0 = .ok (.iload_n 0, 1) := by decide +kernel
theorem dX7_silted_1 : decode cX7_silted 1 = .ok (.iload_n 1, 1) := by decide +kernel
theorem dX7_silted_2 : decode cX7_silted 2 = .ok (.isub, 1) := by decide +kernel
theorem dX7_silted_3 : decode cX7_silted 3 = .ok (.istore_n 2, 1) := by decide +kernel
theorem dX7_silted_4 : decode cX7_silted 4 = .ok (.iload_n 2, 1) := by decide +kernel
theorem dX7_silted_5 : decode cX7_silted 5 = .ok (.bipush (-20), 2) := by decide +kernel
theorem dX7_silted_7 : decode cX7_silted 7 = .ok (.if_icmp .ge 8, 3) := by decide +kernel
theorem dX7_silted_10 : decode cX7_silted 10 = .ok (.bipush (-20), 2) := by decide +kernel
theorem dX7_silted_12 : decode cX7_silted 12 = .ok (.goto 15, 3) := by decide +kernel
theorem dX7_silted_15 : decode cX7_silted 15 = .ok (.iload_n 2, 1) := by decide +kernel
theorem dX7_silted_16 : decode cX7_silted 16 = .ok (.bipush 60, 2) := by decide +kernel
theorem dX7_silted_18 : decode cX7_silted 18 = .ok (.if_icmp .le 8, 3) := by decide +kernel
theorem dX7_silted_21 : decode cX7_silted 21 = .ok (.bipush 60, 2) := by decide +kernel
theorem dX7_silted_23 : decode cX7_silted 23 = .ok (.goto 4, 3) := by decide +kernel
theorem dX7_silted_26 : decode cX7_silted 26 = .ok (.iload_n 2, 1) := by decide +kernel
theorem dX7_silted_27 : decode cX7_silted 27 = .ok (.ireturn, 1) := by decide +kernel
theorem dX7_years_0 : decode cX7_years 0 = .ok (.iload_n 1, 1) := by decide +kernel
theorem dX7_years_1 : decode cX7_years 1 = .ok (.i2l, 1) := by decide +kernel
theorem dX7_years_2 : decode cX7_years 2 = .ok (.lconst 1, 1) := by decide +kernel
theorem dX7_years_3 : decode cX7_years 3 = .ok (.ldc2_w 171, 3) := by decide +kernel
theorem dX7_years_6 : decode cX7_years 6 = .ok (.invokestatic 50, 3) := by decide +kernel
theorem dX7_years_9 : decode cX7_years 9 = .ok (.ifCond .ne 5, 3) := by decide +kernel
theorem dX7_years_12 : decode cX7_years 12 = .ok (.iconst (-1), 1) := by decide +kernel
theorem dX7_years_13 : decode cX7_years 13 = .ok (.ireturn, 1) := by decide +kernel
theorem dX7_years_14 : decode cX7_years 14 = .ok (.aload_n 0, 1) := by decide +kernel
theorem dX7_years_15 : decode cX7_years 15 = .ok (.getfield 7, 3) := by decide +kernel
theorem dX7_years_18 : decode cX7_years 18 = .ok (.bipush 65, 2) := by decide +kernel
theorem dX7_years_20 : decode cX7_years 20 = .ok (.iaload, 1) := by decide +kernel
theorem dX7_years_21 : decode cX7_years 21 = .ok (.iload_n 1, 1) := by decide +kernel
theorem dX7_years_22 : decode cX7_years 22 = .ok (.iadd, 1) := by decide +kernel
theorem dX7_years_23 : decode cX7_years 23 = .ok (.sipush 999, 3) := by decide +kernel
theorem dX7_years_26 : decode cX7_years 26 = .ok (.if_icmp .le 6, 3) := by decide +kernel
theorem dX7_years_29 : decode cX7_years 29 = .ok (.bipush (-3), 2) := by decide +kernel
theorem dX7_years_31 : decode cX7_years 31 = .ok (.ireturn, 1) := by decide +kernel
theorem dX7_years_32 : decode cX7_years 32 = .ok (.iconst 0, 1) := by decide +kernel
theorem dX7_years_33 : decode cX7_years 33 = .ok (.istore_n 2, 1) := by decide +kernel
theorem dX7_years_34 : decode cX7_years 34 = .ok (.iload_n 2, 1) := by decide +kernel
theorem dX7_years_35 : decode cX7_years 35 = .ok (.iload_n 1, 1) := by decide +kernel
theorem dX7_years_36 : decode cX7_years 36 = .ok (.if_icmp .ge 56, 3) := by decide +kernel
theorem dX7_years_39 : decode cX7_years 39 = .ok (.iconst 0, 1) := by decide +kernel
theorem dX7_years_40 : decode cX7_years 40 = .ok (.istore_n 3, 1) := by decide +kernel
theorem dX7_years_41 : decode cX7_years 41 = .ok (.iload_n 3, 1) := by decide +kernel
theorem dX7_years_42 : decode cX7_years 42 = .ok (.aload_n 0, 1) := by decide +kernel
theorem dX7_years_43 : decode cX7_years 43 = .ok (.getfield 7, 3) := by decide +kernel
theorem dX7_years_46 : decode cX7_years 46 = .ok (.bipush 62, 2) := by decide +kernel
theorem dX7_years_48 : decode cX7_years 48 = .ok (.iaload, 1) := by decide +kernel
theorem dX7_years_49 : decode cX7_years 49 = .ok (.if_icmp .ge 37, 3) := by decide +kernel
theorem dX7_years_52 : decode cX7_years 52 = .ok (.aload_n 0, 1) := by decide +kernel
theorem dX7_years_53 : decode cX7_years 53 = .ok (.getfield 7, 3) := by decide +kernel
theorem dX7_years_56 : decode cX7_years 56 = .ok (.iconst 0, 1) := by decide +kernel
theorem dX7_years_57 : decode cX7_years 57 = .ok (.iload_n 3, 1) := by decide +kernel
theorem dX7_years_58 : decode cX7_years 58 = .ok (.iadd, 1) := by decide +kernel
theorem dX7_years_59 : decode cX7_years 59 = .ok (.aload_n 0, 1) := by decide +kernel
theorem dX7_years_60 : decode cX7_years 60 = .ok (.getfield 7, 3) := by decide +kernel
theorem dX7_years_63 : decode cX7_years 63 = .ok (.iconst 0, 1) := by decide +kernel
theorem dX7_years_64 : decode cX7_years 64 = .ok (.iload_n 3, 1) := by decide +kernel
theorem dX7_years_65 : decode cX7_years 65 = .ok (.iadd, 1) := by decide +kernel
theorem dX7_years_66 : decode cX7_years 66 = .ok (.iaload, 1) := by decide +kernel
theorem dX7_years_67 : decode cX7_years 67 = .ok (.aload_n 0, 1) := by decide +kernel
theorem dX7_years_68 : decode cX7_years 68 = .ok (.getfield 7, 3) := by decide +kernel
theorem dX7_years_71 : decode cX7_years 71 = .ok (.bipush 24, 2) := by decide +kernel
theorem dX7_years_73 : decode cX7_years 73 = .ok (.iload_n 3, 1) := by decide +kernel
theorem dX7_years_74 : decode cX7_years 74 = .ok (.iadd, 1) := by decide +kernel
theorem dX7_years_75 : decode cX7_years 75 = .ok (.iaload, 1) := by decide +kernel
theorem dX7_years_76 : decode cX7_years 76 = .ok (.invokestatic 173, 3) := by decide +kernel
theorem dX7_years_79 : decode cX7_years 79 = .ok (.iastore, 1) := by decide +kernel
theorem dX7_years_80 : decode cX7_years 80 = .ok (.iinc 3 1, 3) := by decide +kernel
theorem dX7_years_83 : decode cX7_years 83 = .ok (.goto (-42), 3) := by decide +kernel
theorem dX7_years_86 : decode cX7_years 86 = .ok (.iinc 2 1, 3) := by decide +kernel
theorem dX7_years_89 : decode cX7_years 89 = .ok (.goto (-55), 3) := by decide +kernel
theorem dX7_years_92 : decode cX7_years 92 = .ok (.aload_n 0, 1) := by decide +kernel
theorem dX7_years_93 : decode cX7_years 93 = .ok (.getfield 7, 3) := by decide +kernel
theorem dX7_years_96 : decode cX7_years 96 = .ok (.bipush 65, 2) := by decide +kernel
theorem dX7_years_98 : decode cX7_years 98 = .ok (.dup2, 1) := by decide +kernel
theorem dX7_years_99 : decode cX7_years 99 = .ok (.iaload, 1) := by decide +kernel
theorem dX7_years_100 : decode cX7_years 100 = .ok (.iload_n 1, 1) := by decide +kernel
theorem dX7_years_101 : decode cX7_years 101 = .ok (.iadd, 1) := by decide +kernel
theorem dX7_years_102 : decode cX7_years 102 = .ok (.iastore, 1) := by decide +kernel
theorem dX7_years_103 : decode cX7_years 103 = .ok (.aload_n 0, 1) := by decide +kernel
theorem dX7_years_104 : decode cX7_years 104 = .ok (.getfield 7, 3) := by decide +kernel
theorem dX7_years_107 : decode cX7_years 107 = .ok (.bipush 65, 2) := by decide +kernel
theorem dX7_years_109 : decode cX7_years 109 = .ok (.iaload, 1) := by decide +kernel
theorem dX7_years_110 : decode cX7_years 110 = .ok (.ireturn, 1) := by decide +kernel
theorem dX7_postOf_0 : decode cX7_postOf 0 = .ok (.aload_n 0, 1) := by decide +kernel
theorem dX7_postOf_1 : decode cX7_postOf 1 = .ok (.getfield 7, 3) := by decide +kernel
theorem dX7_postOf_4 : decode cX7_postOf 4 = .ok (.bipush 12, 2) := by decide +kernel
theorem dX7_postOf_6 : decode cX7_postOf 6 = .ok (.iload_n 1, 1) := by decide +kernel
theorem dX7_postOf_7 : decode cX7_postOf 7 = .ok (.iadd, 1) := by decide +kernel
theorem dX7_postOf_8 : decode cX7_postOf 8 = .ok (.iaload, 1) := by decide +kernel
theorem dX7_postOf_9 : decode cX7_postOf 9 = .ok (.ifCond .ne 5, 3) := by decide +kernel
theorem dX7_postOf_12 : decode cX7_postOf 12 = .ok (.iconst (-1), 1) := by decide +kernel
theorem dX7_postOf_13 : decode cX7_postOf 13 = .ok (.ireturn, 1) := by decide +kernel
theorem dX7_postOf_14 : decode cX7_postOf 14 = .ok (.iconst 0, 1) := by decide +kernel
theorem dX7_postOf_15 : decode cX7_postOf 15 = .ok (.istore_n 2, 1) := by decide +kernel
theorem dX7_postOf_16 : decode cX7_postOf 16 = .ok (.iconst 0, 1) := by decide +kernel
theorem dX7_postOf_17 : decode cX7_postOf 17 = .ok (.istore_n 3, 1) := by decide +kernel
theorem dX7_postOf_18 : decode cX7_postOf 18 = .ok (.iload_n 3, 1) := by decide +kernel
theorem dX7_postOf_19 : decode cX7_postOf 19 = .ok (.iload_n 1, 1) := by decide +kernel
theorem dX7_postOf_20 : decode cX7_postOf 20 = .ok (.if_icmp .ge 29, 3) := by decide +kernel
theorem dX7_postOf_23 : decode cX7_postOf 23 = .ok (.iload_n 2, 1) := by decide +kernel
theorem dX7_postOf_24 : decode cX7_postOf 24 = .ok (.aload_n 0, 1) := by decide +kernel
theorem dX7_postOf_25 : decode cX7_postOf 25 = .ok (.getfield 7, 3) := by decide +kernel
theorem dX7_postOf_28 : decode cX7_postOf 28 = .ok (.bipush 12, 2) := by decide +kernel
theorem dX7_postOf_30 : decode cX7_postOf 30 = .ok (.iload_n 3, 1) := by decide +kernel
theorem dX7_postOf_31 : decode cX7_postOf 31 = .ok (.iadd, 1) := by decide +kernel
theorem dX7_postOf_32 : decode cX7_postOf 32 = .ok (.iaload, 1) := by decide +kernel
theorem dX7_postOf_33 : decode cX7_postOf 33 = .ok (.ifCond .le 7, 3) := by decide +kernel
theorem dX7_postOf_36 : decode cX7_postOf 36 = .ok (.iconst 1, 1) := by decide +kernel
theorem dX7_postOf_37 : decode cX7_postOf 37 = .ok (.goto 4, 3) := by decide +kernel
theorem dX7_postOf_40 : decode cX7_postOf 40 = .ok (.iconst 0, 1) := by decide +kernel
theorem dX7_postOf_41 : decode cX7_postOf 41 = .ok (.iadd, 1) := by decide +kernel
theorem dX7_postOf_42 : decode cX7_postOf 42 = .ok (.istore_n 2, 1) := by decide +kernel
theorem dX7_postOf_43 : decode cX7_postOf 43 = .ok (.iinc 3 1, 3) := by decide +kernel
theorem dX7_postOf_46 : decode cX7_postOf 46 = .ok (.goto (-28), 3) := by decide +kernel
theorem dX7_postOf_49 : decode cX7_postOf 49 = .ok (.iload_n 2, 1) := by decide +kernel
theorem dX7_postOf_50 : decode cX7_postOf 50 = .ok (.ireturn, 1) := by decide +kernel
theorem dX7_lengthWith_0 : decode cX7_lengthWith 0 = .ok (.aload_n 0, 1) := by decide +kernel
theorem dX7_lengthWith_1 : decode cX7_lengthWith 1 = .ok (.getfield 7, 3) := by decide +kernel
theorem dX7_lengthWith_4 : decode cX7_lengthWith 4 = .ok (.bipush 74, 2) := by decide +kernel
theorem dX7_lengthWith_6 : decode cX7_lengthWith 6 = .ok (.iload_n 1, 1) := by decide +kernel
theorem dX7_lengthWith_7 : decode cX7_lengthWith 7 = .ok (.iadd, 1) := by decide +kernel
theorem dX7_lengthWith_8 : decode cX7_lengthWith 8 = .ok (.iaload, 1) := by decide +kernel
theorem dX7_lengthWith_9 : decode cX7_lengthWith 9 = .ok (.istore_n 3, 1) := by decide +kernel
theorem dX7_lengthWith_10 : decode cX7_lengthWith 10 = .ok (.iconst 0, 1) := by decide +kernel
theorem dX7_lengthWith_11 : decode cX7_lengthWith 11 = .ok (.istore 4, 2) := by decide +kernel
theorem dX7_lengthWith_13 : decode cX7_lengthWith 13 = .ok (.iload 4, 2) := by decide +kernel
theorem dX7_lengthWith_15 : decode cX7_lengthWith 15 = .ok (.aload_n 0, 1) := by decide +kernel
theorem dX7_lengthWith_16 : decode cX7_lengthWith 16 = .ok (.getfield 7, 3) := by decide +kernel
theorem dX7_lengthWith_19 : decode cX7_lengthWith 19 = .ok (.bipush 62, 2) := by decide +kernel
theorem dX7_lengthWith_21 : decode cX7_lengthWith 21 = .ok (.iaload, 1) := by decide +kernel
theorem dX7_lengthWith_22 : decode cX7_lengthWith 22 = .ok (.if_icmp .ge 49, 3) := by decide +kernel
theorem dX7_lengthWith_25 : decode cX7_lengthWith 25 = .ok (.aload_n 0, 1) := by decide +kernel
theorem dX7_lengthWith_26 : decode cX7_lengthWith 26 = .ok (.iload 4, 2) := by decide +kernel
theorem dX7_lengthWith_28 : decode cX7_lengthWith 28 = .ok (.invokevirtual 176, 3) := by decide +kernel
theorem dX7_lengthWith_31 : decode cX7_lengthWith 31 = .ok (.istore 5, 2) := by decide +kernel
theorem dX7_lengthWith_33 : decode cX7_lengthWith 33 = .ok (.iload_n 3, 1) := by decide +kernel
theorem dX7_lengthWith_34 : decode cX7_lengthWith 34 = .ok (.iload 5, 2) := by decide +kernel
theorem dX7_lengthWith_36 : decode cX7_lengthWith 36 = .ok (.ifCond .lt 26, 3) := by decide +kernel
theorem dX7_lengthWith_39 : decode cX7_lengthWith 39 = .ok (.iload_n 2, 1) := by decide +kernel
theorem dX7_lengthWith_40 : decode cX7_lengthWith 40 = .ok (.iload 5, 2) := by decide +kernel
theorem dX7_lengthWith_42 : decode cX7_lengthWith 42 = .ok (.ishr, 1) := by decide +kernel
theorem dX7_lengthWith_43 : decode cX7_lengthWith 43 = .ok (.iconst 1, 1) := by decide +kernel
theorem dX7_lengthWith_44 : decode cX7_lengthWith 44 = .ok (.iand, 1) := by decide +kernel
theorem dX7_lengthWith_45 : decode cX7_lengthWith 45 = .ok (.iconst 1, 1) := by decide +kernel
theorem dX7_lengthWith_46 : decode cX7_lengthWith 46 = .ok (.if_icmp .ne 16, 3) := by decide +kernel
theorem dX7_lengthWith_49 : decode cX7_lengthWith 49 = .ok (.aload_n 0, 1) := by decide +kernel
theorem dX7_lengthWith_50 : decode cX7_lengthWith 50 = .ok (.getfield 7, 3) := by decide +kernel
theorem dX7_lengthWith_53 : decode cX7_lengthWith 53 = .ok (.bipush 12, 2) := by decide +kernel
theorem dX7_lengthWith_55 : decode cX7_lengthWith 55 = .ok (.iload 4, 2) := by decide +kernel
theorem dX7_lengthWith_57 : decode cX7_lengthWith 57 = .ok (.iadd, 1) := by decide +kernel
theorem dX7_lengthWith_58 : decode cX7_lengthWith 58 = .ok (.iaload, 1) := by decide +kernel
theorem dX7_lengthWith_59 : decode cX7_lengthWith 59 = .ok (.goto 4, 3) := by decide +kernel
theorem dX7_lengthWith_62 : decode cX7_lengthWith 62 = .ok (.iconst 0, 1) := by decide +kernel
theorem dX7_lengthWith_63 : decode cX7_lengthWith 63 = .ok (.iadd, 1) := by decide +kernel
theorem dX7_lengthWith_64 : decode cX7_lengthWith 64 = .ok (.istore_n 3, 1) := by decide +kernel
theorem dX7_lengthWith_65 : decode cX7_lengthWith 65 = .ok (.iinc 4 1, 3) := by decide +kernel
theorem dX7_lengthWith_68 : decode cX7_lengthWith 68 = .ok (.goto (-55), 3) := by decide +kernel
theorem dX7_lengthWith_71 : decode cX7_lengthWith 71 = .ok (.iload_n 3, 1) := by decide +kernel
theorem dX7_lengthWith_72 : decode cX7_lengthWith 72 = .ok (.ireturn, 1) := by decide +kernel
theorem dX7_hourOf_0 : decode cX7_hourOf 0 = .ok (.iload_n 0, 1) := by decide +kernel
theorem dX7_hourOf_1 : decode cX7_hourOf 1 = .ok (.bipush 60, 2) := by decide +kernel
theorem dX7_hourOf_3 : decode cX7_hourOf 3 = .ok (.idiv, 1) := by decide +kernel
theorem dX7_hourOf_4 : decode cX7_hourOf 4 = .ok (.bipush 24, 2) := by decide +kernel
theorem dX7_hourOf_6 : decode cX7_hourOf 6 = .ok (.irem, 1) := by decide +kernel
theorem dX7_hourOf_7 : decode cX7_hourOf 7 = .ok (.ireturn, 1) := by decide +kernel
theorem dX7_lasts_0 : decode cX7_lasts 0 = .ok (.iload 4, 2) := by decide +kernel
theorem dX7_lasts_2 : decode cX7_lasts 2 = .ok (.istore 6, 2) := by decide +kernel
theorem dX7_lasts_4 : decode cX7_lasts 4 = .ok (.iload 6, 2) := by decide +kernel
theorem dX7_lasts_6 : decode cX7_lasts 6 = .ok (.iload 5, 2) := by decide +kernel
theorem dX7_lasts_8 : decode cX7_lasts 8 = .ok (.if_icmp .gt 36, 3) := by decide +kernel
theorem dX7_lasts_11 : decode cX7_lasts 11 = .ok (.aload_n 0, 1) := by decide +kernel
theorem dX7_lasts_12 : decode cX7_lasts 12 = .ok (.iload_n 1, 1) := by decide +kernel
theorem dX7_lasts_13 : decode cX7_lasts 13 = .ok (.iload_n 2, 1) := by decide +kernel
theorem dX7_lasts_14 : decode cX7_lasts 14 = .ok (.iload_n 3, 1) := by decide +kernel
theorem dX7_lasts_15 : decode cX7_lasts 15 = .ok (.iload 6, 2) := by decide +kernel
theorem dX7_lasts_17 : decode cX7_lasts 17 = .ok (.invokestatic 179, 3) := by decide +kernel
theorem dX7_lasts_20 : decode cX7_lasts 20 = .ok (.invokevirtual 164, 3) := by decide +kernel
theorem dX7_lasts_23 : decode cX7_lasts 23 = .ok (.ifCond .ne 5, 3) := by decide +kernel
theorem dX7_lasts_26 : decode cX7_lasts 26 = .ok (.iconst 0, 1) := by decide +kernel
theorem dX7_lasts_27 : decode cX7_lasts 27 = .ok (.ireturn, 1) := by decide +kernel
theorem dX7_lasts_28 : decode cX7_lasts 28 = .ok (.iload 6, 2) := by decide +kernel
theorem dX7_lasts_30 : decode cX7_lasts 30 = .ok (.bipush 60, 2) := by decide +kernel
theorem dX7_lasts_32 : decode cX7_lasts 32 = .ok (.iload 6, 2) := by decide +kernel
theorem dX7_lasts_34 : decode cX7_lasts 34 = .ok (.bipush 60, 2) := by decide +kernel
theorem dX7_lasts_36 : decode cX7_lasts 36 = .ok (.irem, 1) := by decide +kernel
theorem dX7_lasts_37 : decode cX7_lasts 37 = .ok (.isub, 1) := by decide +kernel
theorem dX7_lasts_38 : decode cX7_lasts 38 = .ok (.iadd, 1) := by decide +kernel
theorem dX7_lasts_39 : decode cX7_lasts 39 = .ok (.istore 6, 2) := by decide +kernel
theorem dX7_lasts_41 : decode cX7_lasts 41 = .ok (.goto (-37), 3) := by decide +kernel
theorem dX7_lasts_44 : decode cX7_lasts 44 = .ok (.iconst 1, 1) := by decide +kernel
theorem dX7_lasts_45 : decode cX7_lasts 45 = .ok (.ireturn, 1) := by decide +kernel
theorem dX7_arrives_0 : decode cX7_arrives 0 = .ok (.aload_n 0, 1) := by decide +kernel
theorem dX7_arrives_1 : decode cX7_arrives 1 = .ok (.getfield 31, 3) := by decide +kernel
theorem dX7_arrives_4 : decode cX7_arrives 4 = .ok (.bipush 8, 2) := by decide +kernel
theorem dX7_arrives_6 : decode cX7_arrives 6 = .ok (.iload_n 2, 1) := by decide +kernel
theorem dX7_arrives_7 : decode cX7_arrives 7 = .ok (.imul, 1) := by decide +kernel
theorem dX7_arrives_8 : decode cX7_arrives 8 = .ok (.iload_n 3, 1) := by decide +kernel
theorem dX7_arrives_9 : decode cX7_arrives 9 = .ok (.iadd, 1) := by decide +kernel
theorem dX7_arrives_10 : decode cX7_arrives 10 = .ok (.iconst 1, 1) := by decide +kernel
theorem dX7_arrives_11 : decode cX7_arrives 11 = .ok (.bastore, 1) := by decide +kernel
theorem dX7_arrives_12 : decode cX7_arrives 12 = .ok (.aload_n 0, 1) := by decide +kernel
theorem dX7_arrives_13 : decode cX7_arrives 13 = .ok (.iload_n 2, 1) := by decide +kernel
theorem dX7_arrives_14 : decode cX7_arrives 14 = .ok (.invokevirtual 176, 3) := by decide +kernel
theorem dX7_arrives_17 : decode cX7_arrives 17 = .ok (.istore 5, 2) := by decide +kernel
theorem dX7_arrives_19 : decode cX7_arrives 19 = .ok (.iload 5, 2) := by decide +kernel
theorem dX7_arrives_21 : decode cX7_arrives 21 = .ok (.ifCond .lt 13, 3) := by decide +kernel
theorem dX7_arrives_24 : decode cX7_arrives 24 = .ok (.iload_n 3, 1) := by decide +kernel
theorem dX7_arrives_25 : decode cX7_arrives 25 = .ok (.iload 5, 2) := by decide +kernel
theorem dX7_arrives_27 : decode cX7_arrives 27 = .ok (.ishr, 1) := by decide +kernel
theorem dX7_arrives_28 : decode cX7_arrives 28 = .ok (.iconst 1, 1) := by decide +kernel
theorem dX7_arrives_29 : decode cX7_arrives 29 = .ok (.iand, 1) := by decide +kernel
theorem dX7_arrives_30 : decode cX7_arrives 30 = .ok (.iconst 1, 1) := by decide +kernel
theorem dX7_arrives_31 : decode cX7_arrives 31 = .ok (.if_icmp .ne 4, 3) := by decide +kernel
theorem dX7_arrives_34 : decode cX7_arrives 34 = .ok (.return_, 1) := by decide +kernel
theorem dX7_arrives_35 : decode cX7_arrives 35 = .ok (.iload_n 3, 1) := by decide +kernel
theorem dX7_arrives_36 : decode cX7_arrives 36 = .ok (.iconst 1, 1) := by decide +kernel
theorem dX7_arrives_37 : decode cX7_arrives 37 = .ok (.iload 5, 2) := by decide +kernel
theorem dX7_arrives_39 : decode cX7_arrives 39 = .ok (.ishl, 1) := by decide +kernel
theorem dX7_arrives_40 : decode cX7_arrives 40 = .ok (.ior, 1) := by decide +kernel
theorem dX7_arrives_41 : decode cX7_arrives 41 = .ok (.istore 6, 2) := by decide +kernel
theorem dX7_arrives_43 : decode cX7_arrives 43 = .ok (.aload_n 0, 1) := by decide +kernel
theorem dX7_arrives_44 : decode cX7_arrives 44 = .ok (.iload_n 1, 1) := by decide +kernel
theorem dX7_arrives_45 : decode cX7_arrives 45 = .ok (.aload_n 0, 1) := by decide +kernel
theorem dX7_arrives_46 : decode cX7_arrives 46 = .ok (.iload_n 1, 1) := by decide +kernel
theorem dX7_arrives_47 : decode cX7_arrives 47 = .ok (.iload 6, 2) := by decide +kernel
theorem dX7_arrives_49 : decode cX7_arrives 49 = .ok (.invokevirtual 182, 3) := by decide +kernel
theorem dX7_arrives_52 : decode cX7_arrives 52 = .ok (.iload_n 2, 1) := by decide +kernel
theorem dX7_arrives_53 : decode cX7_arrives 53 = .ok (.iload 4, 2) := by decide +kernel
theorem dX7_arrives_55 : decode cX7_arrives 55 = .ok (.invokestatic 179, 3) := by decide +kernel
theorem dX7_arrives_58 : decode cX7_arrives 58 = .ok (.invokevirtual 164, 3) := by decide +kernel
theorem dX7_arrives_61 : decode cX7_arrives 61 = .ok (.ifCond .eq 16, 3) := by decide +kernel
theorem dX7_arrives_64 : decode cX7_arrives 64 = .ok (.aload_n 0, 1) := by decide +kernel
theorem dX7_arrives_65 : decode cX7_arrives 65 = .ok (.getfield 31, 3) := by decide +kernel
theorem dX7_arrives_68 : decode cX7_arrives 68 = .ok (.bipush 8, 2) := by decide +kernel
theorem dX7_arrives_70 : decode cX7_arrives 70 = .ok (.iload_n 2, 1) := by decide +kernel
theorem dX7_arrives_71 : decode cX7_arrives 71 = .ok (.imul, 1) := by decide +kernel
theorem dX7_arrives_72 : decode cX7_arrives 72 = .ok (.iload 6, 2) := by decide +kernel
theorem dX7_arrives_74 : decode cX7_arrives 74 = .ok (.iadd, 1) := by decide +kernel
theorem dX7_arrives_75 : decode cX7_arrives 75 = .ok (.iconst 1, 1) := by decide +kernel
theorem dX7_arrives_76 : decode cX7_arrives 76 = .ok (.bastore, 1) := by decide +kernel
theorem dX7_arrives_77 : decode cX7_arrives 77 = .ok (.return_, 1) := by decide +kernel
theorem dX7_leaves_0 : decode cX7_leaves 0 = .ok (.aload_n 0, 1) := by decide +kernel
theorem dX7_leaves_1 : decode cX7_leaves 1 = .ok (.iload_n 1, 1) := by decide +kernel
theorem dX7_leaves_2 : decode cX7_leaves 2 = .ok (.iload_n 3, 1) := by decide +kernel
theorem dX7_leaves_3 : decode cX7_leaves 3 = .ok (.invokevirtual 182, 3) := by decide +kernel
theorem dX7_leaves_6 : decode cX7_leaves 6 = .ok (.istore 6, 2) := by decide +kernel
theorem dX7_leaves_8 : decode cX7_leaves 8 = .ok (.iconst 0, 1) := by decide +kernel
theorem dX7_leaves_9 : decode cX7_leaves 9 = .ok (.istore 7, 2) := by decide +kernel
theorem dX7_leaves_11 : decode cX7_leaves 11 = .ok (.iload 7, 2) := by decide +kernel
theorem dX7_leaves_13 : decode cX7_leaves 13 = .ok (.aload_n 0, 1) := by decide +kernel
theorem dX7_leaves_14 : decode cX7_leaves 14 = .ok (.getfield 7, 3) := by decide +kernel
theorem dX7_leaves_17 : decode cX7_leaves 17 = .ok (.bipush 62, 2) := by decide +kernel
theorem dX7_leaves_19 : decode cX7_leaves 19 = .ok (.iaload, 1) := by decide +kernel
theorem dX7_leaves_20 : decode cX7_leaves 20 = .ok (.if_icmp .ge 96, 3) := by decide +kernel
theorem dX7_leaves_23 : decode cX7_leaves 23 = .ok (.aload_n 0, 1) := by decide +kernel
theorem dX7_leaves_24 : decode cX7_leaves 24 = .ok (.iload_n 2, 1) := by decide +kernel
theorem dX7_leaves_25 : decode cX7_leaves 25 = .ok (.iload 7, 2) := by decide +kernel
theorem dX7_leaves_27 : decode cX7_leaves 27 = .ok (.invokevirtual 80, 3) := by decide +kernel
theorem dX7_leaves_30 : decode cX7_leaves 30 = .ok (.istore 8, 2) := by decide +kernel
theorem dX7_leaves_32 : decode cX7_leaves 32 = .ok (.iload 8, 2) := by decide +kernel
theorem dX7_leaves_34 : decode cX7_leaves 34 = .ok (.ifCond .le 76, 3) := by decide +kernel
theorem dX7_leaves_37 : decode cX7_leaves 37 = .ok (.iload 4, 2) := by decide +kernel
theorem dX7_leaves_39 : decode cX7_leaves 39 = .ok (.iload 8, 2) := by decide +kernel
theorem dX7_leaves_41 : decode cX7_leaves 41 = .ok (.iadd, 1) := by decide +kernel
theorem dX7_leaves_42 : decode cX7_leaves 42 = .ok (.sipush 600, 3) := by decide +kernel
theorem dX7_leaves_45 : decode cX7_leaves 45 = .ok (.if_icmp .gt 65, 3) := by decide +kernel
theorem dX7_leaves_48 : decode cX7_leaves 48 = .ok (.aload_n 0, 1) := by decide +kernel
theorem dX7_leaves_49 : decode cX7_leaves 49 = .ok (.iload_n 1, 1) := by decide +kernel
theorem dX7_leaves_50 : decode cX7_leaves 50 = .ok (.iload 6, 2) := by decide +kernel
theorem dX7_leaves_52 : decode cX7_leaves 52 = .ok (.iload_n 2, 1) := by decide +kernel
theorem dX7_leaves_53 : decode cX7_leaves 53 = .ok (.iload 5, 2) := by decide +kernel
theorem dX7_leaves_55 : decode cX7_leaves 55 = .ok (.iload 5, 2) := by decide +kernel
theorem dX7_leaves_57 : decode cX7_leaves 57 = .ok (.iload 8, 2) := by decide +kernel
theorem dX7_leaves_59 : decode cX7_leaves 59 = .ok (.iadd, 1) := by decide +kernel
theorem dX7_leaves_60 : decode cX7_leaves 60 = .ok (.invokevirtual 185, 3) := by decide +kernel
theorem dX7_leaves_63 : decode cX7_leaves 63 = .ok (.ifCond .eq 47, 3) := by decide +kernel
theorem dX7_leaves_66 : decode cX7_leaves 66 = .ok (.aload_n 0, 1) := by decide +kernel
theorem dX7_leaves_67 : decode cX7_leaves 67 = .ok (.iload_n 1, 1) := by decide +kernel
theorem dX7_leaves_68 : decode cX7_leaves 68 = .ok (.iload 6, 2) := by decide +kernel
theorem dX7_leaves_70 : decode cX7_leaves 70 = .ok (.iload 7, 2) := by decide +kernel
theorem dX7_leaves_72 : decode cX7_leaves 72 = .ok (.iload 5, 2) := by decide +kernel
theorem dX7_leaves_74 : decode cX7_leaves 74 = .ok (.iload 5, 2) := by decide +kernel
theorem dX7_leaves_76 : decode cX7_leaves 76 = .ok (.iload 8, 2) := by decide +kernel
theorem dX7_leaves_78 : decode cX7_leaves 78 = .ok (.iadd, 1) := by decide +kernel
theorem dX7_leaves_79 : decode cX7_leaves 79 = .ok (.invokevirtual 185, 3) := by decide +kernel
theorem dX7_leaves_82 : decode cX7_leaves 82 = .ok (.ifCond .eq 28, 3) := by decide +kernel
theorem dX7_leaves_85 : decode cX7_leaves 85 = .ok (.aload_n 0, 1) := by decide +kernel
theorem dX7_leaves_86 : decode cX7_leaves 86 = .ok (.getfield 35, 3) := by decide +kernel
theorem dX7_leaves_89 : decode cX7_leaves 89 = .ok (.bipush 96, 2) := by decide +kernel
theorem dX7_leaves_91 : decode cX7_leaves 91 = .ok (.iload 4, 2) := by decide +kernel
theorem dX7_leaves_93 : decode cX7_leaves 93 = .ok (.iload 8, 2) := by decide +kernel
theorem dX7_leaves_95 : decode cX7_leaves 95 = .ok (.iadd, 1) := by decide +kernel
theorem dX7_leaves_96 : decode cX7_leaves 96 = .ok (.bipush 61, 2) := by decide +kernel
theorem dX7_leaves_98 : decode cX7_leaves 98 = .ok (.irem, 1) := by decide +kernel
theorem dX7_leaves_99 : decode cX7_leaves 99 = .ok (.imul, 1) := by decide +kernel
theorem dX7_leaves_100 : decode cX7_leaves 100 = .ok (.bipush 8, 2) := by decide +kernel
theorem dX7_leaves_102 : decode cX7_leaves 102 = .ok (.iload 7, 2) := by decide +kernel
theorem dX7_leaves_104 : decode cX7_leaves 104 = .ok (.imul, 1) := by decide +kernel
theorem dX7_leaves_105 : decode cX7_leaves 105 = .ok (.iadd, 1) := by decide +kernel
theorem dX7_leaves_106 : decode cX7_leaves 106 = .ok (.iload_n 3, 1) := by decide +kernel
theorem dX7_leaves_107 : decode cX7_leaves 107 = .ok (.iadd, 1) := by decide +kernel
theorem dX7_leaves_108 : decode cX7_leaves 108 = .ok (.iconst 1, 1) := by decide +kernel
theorem dX7_leaves_109 : decode cX7_leaves 109 = .ok (.bastore, 1) := by decide +kernel
theorem dX7_leaves_110 : decode cX7_leaves 110 = .ok (.iinc 7 1, 3) := by decide +kernel
theorem dX7_leaves_113 : decode cX7_leaves 113 = .ok (.goto (-102), 3) := by decide +kernel
theorem dX7_leaves_116 : decode cX7_leaves 116 = .ok (.return_, 1) := by decide +kernel
theorem dX7_bits_0 : decode cX7_bits 0 = .ok (.iconst 0, 1) := by decide +kernel
theorem dX7_bits_1 : decode cX7_bits 1 = .ok (.istore_n 1, 1) := by decide +kernel
theorem dX7_bits_2 : decode cX7_bits 2 = .ok (.iconst 0, 1) := by decide +kernel
theorem dX7_bits_3 : decode cX7_bits 3 = .ok (.istore_n 2, 1) := by decide +kernel
theorem dX7_bits_4 : decode cX7_bits 4 = .ok (.iload_n 2, 1) := by decide +kernel
theorem dX7_bits_5 : decode cX7_bits 5 = .ok (.bipush 24, 2) := by decide +kernel
theorem dX7_bits_7 : decode cX7_bits 7 = .ok (.if_icmp .ge 17, 3) := by decide +kernel
theorem dX7_bits_10 : decode cX7_bits 10 = .ok (.iload_n 1, 1) := by decide +kernel
theorem dX7_bits_11 : decode cX7_bits 11 = .ok (.iload_n 0, 1) := by decide +kernel
theorem dX7_bits_12 : decode cX7_bits 12 = .ok (.iload_n 2, 1) := by decide +kernel
theorem dX7_bits_13 : decode cX7_bits 13 = .ok (.ishr, 1) := by decide +kernel
theorem dX7_bits_14 : decode cX7_bits 14 = .ok (.iconst 1, 1) := by decide +kernel
theorem dX7_bits_15 : decode cX7_bits 15 = .ok (.iand, 1) := by decide +kernel
theorem dX7_bits_16 : decode cX7_bits 16 = .ok (.iadd, 1) := by decide +kernel
theorem dX7_bits_17 : decode cX7_bits 17 = .ok (.istore_n 1, 1) := by decide +kernel
theorem dX7_bits_18 : decode cX7_bits 18 = .ok (.iinc 2 1, 3) := by decide +kernel
theorem dX7_bits_21 : decode cX7_bits 21 = .ok (.goto (-17), 3) := by decide +kernel
theorem dX7_bits_24 : decode cX7_bits 24 = .ok (.iload_n 1, 1) := by decide +kernel
theorem dX7_bits_25 : decode cX7_bits 25 = .ok (.ireturn, 1) := by decide +kernel
theorem dX7_look_0 : decode cX7_look 0 = .ok (.iconst 0, 1) := by decide +kernel
theorem dX7_look_1 : decode cX7_look 1 = .ok (.istore_n 3, 1) := by decide +kernel
theorem dX7_look_2 : decode cX7_look 2 = .ok (.iload_n 3, 1) := by decide +kernel
theorem dX7_look_3 : decode cX7_look 3 = .ok (.bipush 8, 2) := by decide +kernel
theorem dX7_look_5 : decode cX7_look 5 = .ok (.if_icmp .ge 75, 3) := by decide +kernel
theorem dX7_look_8 : decode cX7_look 8 = .ok (.aload_n 0, 1) := by decide +kernel
theorem dX7_look_9 : decode cX7_look 9 = .ok (.getfield 31, 3) := by decide +kernel
theorem dX7_look_12 : decode cX7_look 12 = .ok (.bipush 8, 2) := by decide +kernel
theorem dX7_look_14 : decode cX7_look 14 = .ok (.iload_n 1, 1) := by decide +kernel
theorem dX7_look_15 : decode cX7_look 15 = .ok (.imul, 1) := by decide +kernel
theorem dX7_look_16 : decode cX7_look 16 = .ok (.iload_n 3, 1) := by decide +kernel
theorem dX7_look_17 : decode cX7_look 17 = .ok (.iadd, 1) := by decide +kernel
theorem dX7_look_18 : decode cX7_look 18 = .ok (.baload, 1) := by decide +kernel
theorem dX7_look_19 : decode cX7_look 19 = .ok (.ifCond .eq 55, 3) := by decide +kernel
theorem dX7_look_22 : decode cX7_look 22 = .ok (.aload_n 0, 1) := by decide +kernel
theorem dX7_look_23 : decode cX7_look 23 = .ok (.aload_n 0, 1) := by decide +kernel
theorem dX7_look_24 : decode cX7_look 24 = .ok (.getfield 189, 3) := by decide +kernel
theorem dX7_look_27 : decode cX7_look 27 = .ok (.ifCond .ge 7, 3) := by decide +kernel
theorem dX7_look_30 : decode cX7_look 30 = .ok (.iload_n 2, 1) := by decide +kernel
theorem dX7_look_31 : decode cX7_look 31 = .ok (.goto 7, 3) := by decide +kernel
theorem dX7_look_34 : decode cX7_look 34 = .ok (.aload_n 0, 1) := by decide +kernel
theorem dX7_look_35 : decode cX7_look 35 = .ok (.getfield 189, 3) := by decide +kernel
theorem dX7_look_38 : decode cX7_look 38 = .ok (.putfield 189, 3) := by decide +kernel
theorem dX7_look_41 : decode cX7_look 41 = .ok (.aload_n 0, 1) := by decide +kernel
theorem dX7_look_42 : decode cX7_look 42 = .ok (.aload_n 0, 1) := by decide +kernel
theorem dX7_look_43 : decode cX7_look 43 = .ok (.getfield 192, 3) := by decide +kernel
theorem dX7_look_46 : decode cX7_look 46 = .ok (.ifCond .lt 14, 3) := by decide +kernel
theorem dX7_look_49 : decode cX7_look 49 = .ok (.iload_n 3, 1) := by decide +kernel
theorem dX7_look_50 : decode cX7_look 50 = .ok (.invokestatic 195, 3) := by decide +kernel
theorem dX7_look_53 : decode cX7_look 53 = .ok (.aload_n 0, 1) := by decide +kernel
theorem dX7_look_54 : decode cX7_look 54 = .ok (.getfield 192, 3) := by decide +kernel
theorem dX7_look_57 : decode cX7_look 57 = .ok (.if_icmp .ge 10, 3) := by decide +kernel
theorem dX7_look_60 : decode cX7_look 60 = .ok (.iload_n 3, 1) := by decide +kernel
theorem dX7_look_61 : decode cX7_look 61 = .ok (.invokestatic 195, 3) := by decide +kernel
theorem dX7_look_64 : decode cX7_look 64 = .ok (.goto 7, 3) := by decide +kernel
theorem dX7_look_67 : decode cX7_look 67 = .ok (.aload_n 0, 1) := by decide +kernel
theorem dX7_look_68 : decode cX7_look 68 = .ok (.getfield 192, 3) := by decide +kernel
theorem dX7_look_71 : decode cX7_look 71 = .ok (.putfield 192, 3) := by decide +kernel
theorem dX7_look_74 : decode cX7_look 74 = .ok (.iinc 3 1, 3) := by decide +kernel
theorem dX7_look_77 : decode cX7_look 77 = .ok (.goto (-75), 3) := by decide +kernel
theorem dX7_look_80 : decode cX7_look 80 = .ok (.return_, 1) := by decide +kernel
theorem dX7_go_0 : decode cX7_go 0 = .ok (.aload_n 0, 1) := by decide +kernel
theorem dX7_go_1 : decode cX7_go 1 = .ok (.bipush (-4), 2) := by decide +kernel
theorem dX7_go_3 : decode cX7_go 3 = .ok (.putfield 189, 3) := by decide +kernel
theorem dX7_go_6 : decode cX7_go 6 = .ok (.aload_n 0, 1) := by decide +kernel
theorem dX7_go_7 : decode cX7_go 7 = .ok (.bipush (-4), 2) := by decide +kernel
theorem dX7_go_9 : decode cX7_go 9 = .ok (.putfield 192, 3) := by decide +kernel
theorem dX7_go_12 : decode cX7_go 12 = .ok (.iconst 0, 1) := by decide +kernel
theorem dX7_go_13 : decode cX7_go 13 = .ok (.istore 4, 2) := by decide +kernel
theorem dX7_go_15 : decode cX7_go 15 = .ok (.iload 4, 2) := by decide +kernel
theorem dX7_go_17 : decode cX7_go 17 = .ok (.bipush 96, 2) := by decide +kernel
theorem dX7_go_19 : decode cX7_go 19 = .ok (.if_icmp .ge 17, 3) := by decide +kernel
theorem dX7_go_22 : decode cX7_go 22 = .ok (.aload_n 0, 1) := by decide +kernel
theorem dX7_go_23 : decode cX7_go 23 = .ok (.getfield 31, 3) := by decide +kernel
theorem dX7_go_26 : decode cX7_go 26 = .ok (.iload 4, 2) := by decide +kernel
theorem dX7_go_28 : decode cX7_go 28 = .ok (.iconst 0, 1) := by decide +kernel
theorem dX7_go_29 : decode cX7_go 29 = .ok (.bastore, 1) := by decide +kernel
theorem dX7_go_30 : decode cX7_go 30 = .ok (.iinc 4 1, 3) := by decide +kernel
theorem dX7_go_33 : decode cX7_go 33 = .ok (.goto (-18), 3) := by decide +kernel
theorem dX7_go_36 : decode cX7_go 36 = .ok (.iconst 0, 1) := by decide +kernel
theorem dX7_go_37 : decode cX7_go 37 = .ok (.istore 4, 2) := by decide +kernel
theorem dX7_go_39 : decode cX7_go 39 = .ok (.iload 4, 2) := by decide +kernel
theorem dX7_go_41 : decode cX7_go 41 = .ok (.sipush 5856, 3) := by decide +kernel
theorem dX7_go_44 : decode cX7_go 44 = .ok (.if_icmp .ge 17, 3) := by decide +kernel
theorem dX7_go_47 : decode cX7_go 47 = .ok (.aload_n 0, 1) := by decide +kernel
theorem dX7_go_48 : decode cX7_go 48 = .ok (.getfield 35, 3) := by decide +kernel
theorem dX7_go_51 : decode cX7_go 51 = .ok (.iload 4, 2) := by decide +kernel
theorem dX7_go_53 : decode cX7_go 53 = .ok (.iconst 0, 1) := by decide +kernel
theorem dX7_go_54 : decode cX7_go 54 = .ok (.bastore, 1) := by decide +kernel
theorem dX7_go_55 : decode cX7_go 55 = .ok (.iinc 4 1, 3) := by decide +kernel
theorem dX7_go_58 : decode cX7_go 58 = .ok (.goto (-19), 3) := by decide +kernel
theorem dX7_go_61 : decode cX7_go 61 = .ok (.aload_n 0, 1) := by decide +kernel
theorem dX7_go_62 : decode cX7_go 62 = .ok (.iload_n 1, 1) := by decide +kernel
theorem dX7_go_63 : decode cX7_go 63 = .ok (.aload_n 0, 1) := by decide +kernel
theorem dX7_go_64 : decode cX7_go 64 = .ok (.getfield 7, 3) := by decide +kernel
theorem dX7_go_67 : decode cX7_go 67 = .ok (.bipush 82, 2) := by decide +kernel
theorem dX7_go_69 : decode cX7_go 69 = .ok (.iload_n 1, 1) := by decide +kernel
theorem dX7_go_70 : decode cX7_go 70 = .ok (.iadd, 1) := by decide +kernel
theorem dX7_go_71 : decode cX7_go 71 = .ok (.iaload, 1) := by decide +kernel
theorem dX7_go_72 : decode cX7_go 72 = .ok (.iload_n 3, 1) := by decide +kernel
theorem dX7_go_73 : decode cX7_go 73 = .ok (.invokestatic 179, 3) := by decide +kernel
theorem dX7_go_76 : decode cX7_go 76 = .ok (.invokevirtual 167, 3) := by decide +kernel
theorem dX7_go_79 : decode cX7_go 79 = .ok (.ifCond .eq 21, 3) := by decide +kernel
theorem dX7_go_82 : decode cX7_go 82 = .ok (.aload_n 0, 1) := by decide +kernel
theorem dX7_go_83 : decode cX7_go 83 = .ok (.getfield 35, 3) := by decide +kernel
theorem dX7_go_86 : decode cX7_go 86 = .ok (.bipush 8, 2) := by decide +kernel
theorem dX7_go_88 : decode cX7_go 88 = .ok (.aload_n 0, 1) := by decide +kernel
theorem dX7_go_89 : decode cX7_go 89 = .ok (.getfield 7, 3) := by decide +kernel
theorem dX7_go_92 : decode cX7_go 92 = .ok (.bipush 82, 2) := by decide +kernel
theorem dX7_go_94 : decode cX7_go 94 = .ok (.iload_n 1, 1) := by decide +kernel
theorem dX7_go_95 : decode cX7_go 95 = .ok (.iadd, 1) := by decide +kernel
theorem dX7_go_96 : decode cX7_go 96 = .ok (.iaload, 1) := by decide +kernel
theorem dX7_go_97 : decode cX7_go 97 = .ok (.imul, 1) := by decide +kernel
theorem dX7_go_98 : decode cX7_go 98 = .ok (.iconst 1, 1) := by decide +kernel
theorem dX7_go_99 : decode cX7_go 99 = .ok (.bastore, 1) := by decide +kernel
theorem dX7_go_100 : decode cX7_go 100 = .ok (.iconst 0, 1) := by decide +kernel
theorem dX7_go_101 : decode cX7_go 101 = .ok (.istore 4, 2) := by decide +kernel
theorem dX7_go_103 : decode cX7_go 103 = .ok (.iload 4, 2) := by decide +kernel
theorem dX7_go_105 : decode cX7_go 105 = .ok (.sipush 600, 3) := by decide +kernel
theorem dX7_go_108 : decode cX7_go 108 = .ok (.if_icmp .gt 194, 3) := by decide +kernel
theorem dX7_go_111 : decode cX7_go 111 = .ok (.iload_n 3, 1) := by decide +kernel
theorem dX7_go_112 : decode cX7_go 112 = .ok (.iload 4, 2) := by decide +kernel
theorem dX7_go_114 : decode cX7_go 114 = .ok (.iadd, 1) := by decide +kernel
theorem dX7_go_115 : decode cX7_go 115 = .ok (.istore 5, 2) := by decide +kernel
theorem dX7_go_117 : decode cX7_go 117 = .ok (.iconst 0, 1) := by decide +kernel
theorem dX7_go_118 : decode cX7_go 118 = .ok (.istore 6, 2) := by decide +kernel
theorem dX7_go_120 : decode cX7_go 120 = .ok (.iload 6, 2) := by decide +kernel
theorem dX7_go_122 : decode cX7_go 122 = .ok (.bipush 96, 2) := by decide +kernel
theorem dX7_go_124 : decode cX7_go 124 = .ok (.if_icmp .ge 58, 3) := by decide +kernel
theorem dX7_go_127 : decode cX7_go 127 = .ok (.aload_n 0, 1) := by decide +kernel
theorem dX7_go_128 : decode cX7_go 128 = .ok (.getfield 31, 3) := by decide +kernel
theorem dX7_go_131 : decode cX7_go 131 = .ok (.iload 6, 2) := by decide +kernel
theorem dX7_go_133 : decode cX7_go 133 = .ok (.aload_n 0, 1) := by decide +kernel
theorem dX7_go_134 : decode cX7_go 134 = .ok (.getfield 31, 3) := by decide +kernel
theorem dX7_go_137 : decode cX7_go 137 = .ok (.iload 6, 2) := by decide +kernel
theorem dX7_go_139 : decode cX7_go 139 = .ok (.baload, 1) := by decide +kernel
theorem dX7_go_140 : decode cX7_go 140 = .ok (.ifCond .eq 34, 3) := by decide +kernel
theorem dX7_go_143 : decode cX7_go 143 = .ok (.aload_n 0, 1) := by decide +kernel
theorem dX7_go_144 : decode cX7_go 144 = .ok (.iload_n 1, 1) := by decide +kernel
theorem dX7_go_145 : decode cX7_go 145 = .ok (.aload_n 0, 1) := by decide +kernel
theorem dX7_go_146 : decode cX7_go 146 = .ok (.iload_n 1, 1) := by decide +kernel
theorem dX7_go_147 : decode cX7_go 147 = .ok (.iload 6, 2) := by decide +kernel
theorem dX7_go_149 : decode cX7_go 149 = .ok (.bipush 7, 2) := by decide +kernel
theorem dX7_go_151 : decode cX7_go 151 = .ok (.iand, 1) := by decide +kernel
theorem dX7_go_152 : decode cX7_go 152 = .ok (.invokevirtual 182, 3) := by decide +kernel
theorem dX7_go_155 : decode cX7_go 155 = .ok (.iload 6, 2) := by decide +kernel
theorem dX7_go_157 : decode cX7_go 157 = .ok (.iconst 3, 1) := by decide +kernel
theorem dX7_go_158 : decode cX7_go 158 = .ok (.ishr, 1) := by decide +kernel
theorem dX7_go_159 : decode cX7_go 159 = .ok (.iload 5, 2) := by decide +kernel
theorem dX7_go_161 : decode cX7_go 161 = .ok (.invokestatic 179, 3) := by decide +kernel
theorem dX7_go_164 : decode cX7_go 164 = .ok (.invokevirtual 164, 3) := by decide +kernel
theorem dX7_go_167 : decode cX7_go 167 = .ok (.ifCond .eq 7, 3) := by decide +kernel
theorem dX7_go_170 : decode cX7_go 170 = .ok (.iconst 1, 1) := by decide +kernel
theorem dX7_go_171 : decode cX7_go 171 = .ok (.goto 4, 3) := by decide +kernel
theorem dX7_go_174 : decode cX7_go 174 = .ok (.iconst 0, 1) := by decide +kernel
theorem dX7_go_175 : decode cX7_go 175 = .ok (.bastore, 1) := by decide +kernel
theorem dX7_go_176 : decode cX7_go 176 = .ok (.iinc 6 1, 3) := by decide +kernel
theorem dX7_go_179 : decode cX7_go 179 = .ok (.goto (-59), 3) := by decide +kernel
theorem dX7_go_182 : decode cX7_go 182 = .ok (.iconst 0, 1) := by decide +kernel
theorem dX7_go_183 : decode cX7_go 183 = .ok (.istore 6, 2) := by decide +kernel
theorem dX7_go_185 : decode cX7_go 185 = .ok (.iload 6, 2) := by decide +kernel
theorem dX7_go_187 : decode cX7_go 187 = .ok (.bipush 96, 2) := by decide +kernel
theorem dX7_go_189 : decode cX7_go 189 = .ok (.if_icmp .ge 56, 3) := by decide +kernel
theorem dX7_go_192 : decode cX7_go 192 = .ok (.bipush 96, 2) := by decide +kernel
theorem dX7_go_194 : decode cX7_go 194 = .ok (.iload 4, 2) := by decide +kernel
theorem dX7_go_196 : decode cX7_go 196 = .ok (.bipush 61, 2) := by decide +kernel
theorem dX7_go_198 : decode cX7_go 198 = .ok (.irem, 1) := by decide +kernel
theorem dX7_go_199 : decode cX7_go 199 = .ok (.imul, 1) := by decide +kernel
theorem dX7_go_200 : decode cX7_go 200 = .ok (.iload 6, 2) := by decide +kernel
theorem dX7_go_202 : decode cX7_go 202 = .ok (.iadd, 1) := by decide +kernel
theorem dX7_go_203 : decode cX7_go 203 = .ok (.istore 7, 2) := by decide +kernel
theorem dX7_go_205 : decode cX7_go 205 = .ok (.aload_n 0, 1) := by decide +kernel
theorem dX7_go_206 : decode cX7_go 206 = .ok (.getfield 35, 3) := by decide +kernel
theorem dX7_go_209 : decode cX7_go 209 = .ok (.iload 7, 2) := by decide +kernel
theorem dX7_go_211 : decode cX7_go 211 = .ok (.baload, 1) := by decide +kernel
theorem dX7_go_212 : decode cX7_go 212 = .ok (.ifCond .eq 27, 3) := by decide +kernel
theorem dX7_go_215 : decode cX7_go 215 = .ok (.aload_n 0, 1) := by decide +kernel
theorem dX7_go_216 : decode cX7_go 216 = .ok (.iload_n 1, 1) := by decide +kernel
theorem dX7_go_217 : decode cX7_go 217 = .ok (.iload 6, 2) := by decide +kernel
theorem dX7_go_219 : decode cX7_go 219 = .ok (.iconst 3, 1) := by decide +kernel
theorem dX7_go_220 : decode cX7_go 220 = .ok (.ishr, 1) := by decide +kernel
theorem dX7_go_221 : decode cX7_go 221 = .ok (.iload 6, 2) := by decide +kernel
theorem dX7_go_223 : decode cX7_go 223 = .ok (.bipush 7, 2) := by decide +kernel
theorem dX7_go_225 : decode cX7_go 225 = .ok (.iand, 1) := by decide +kernel
theorem dX7_go_226 : decode cX7_go 226 = .ok (.iload 5, 2) := by decide +kernel
theorem dX7_go_228 : decode cX7_go 228 = .ok (.invokevirtual 198, 3) := by decide +kernel
theorem dX7_go_231 : decode cX7_go 231 = .ok (.aload_n 0, 1) := by decide +kernel
theorem dX7_go_232 : decode cX7_go 232 = .ok (.getfield 35, 3) := by decide +kernel
theorem dX7_go_235 : decode cX7_go 235 = .ok (.iload 7, 2) := by decide +kernel
theorem dX7_go_237 : decode cX7_go 237 = .ok (.iconst 0, 1) := by decide +kernel
theorem dX7_go_238 : decode cX7_go 238 = .ok (.bastore, 1) := by decide +kernel
theorem dX7_go_239 : decode cX7_go 239 = .ok (.iinc 6 1, 3) := by decide +kernel
theorem dX7_go_242 : decode cX7_go 242 = .ok (.goto (-57), 3) := by decide +kernel
theorem dX7_go_245 : decode cX7_go 245 = .ok (.aload_n 0, 1) := by decide +kernel
theorem dX7_go_246 : decode cX7_go 246 = .ok (.iload_n 2, 1) := by decide +kernel
theorem dX7_go_247 : decode cX7_go 247 = .ok (.iload 4, 2) := by decide +kernel
theorem dX7_go_249 : decode cX7_go 249 = .ok (.invokevirtual 202, 3) := by decide +kernel
theorem dX7_go_252 : decode cX7_go 252 = .ok (.iconst 0, 1) := by decide +kernel
theorem dX7_go_253 : decode cX7_go 253 = .ok (.istore 6, 2) := by decide +kernel
theorem dX7_go_255 : decode cX7_go 255 = .ok (.iload 6, 2) := by decide +kernel
theorem dX7_go_257 : decode cX7_go 257 = .ok (.bipush 96, 2) := by decide +kernel
theorem dX7_go_259 : decode cX7_go 259 = .ok (.if_icmp .ge 37, 3) := by decide +kernel
theorem dX7_go_262 : decode cX7_go 262 = .ok (.aload_n 0, 1) := by decide +kernel
theorem dX7_go_263 : decode cX7_go 263 = .ok (.getfield 31, 3) := by decide +kernel
theorem dX7_go_266 : decode cX7_go 266 = .ok (.iload 6, 2) := by decide +kernel
theorem dX7_go_268 : decode cX7_go 268 = .ok (.baload, 1) := by decide +kernel
theorem dX7_go_269 : decode cX7_go 269 = .ok (.ifCond .eq 21, 3) := by decide +kernel
theorem dX7_go_272 : decode cX7_go 272 = .ok (.aload_n 0, 1) := by decide +kernel
theorem dX7_go_273 : decode cX7_go 273 = .ok (.iload_n 1, 1) := by decide +kernel
theorem dX7_go_274 : decode cX7_go 274 = .ok (.iload 6, 2) := by decide +kernel
theorem dX7_go_276 : decode cX7_go 276 = .ok (.iconst 3, 1) := by decide +kernel
theorem dX7_go_277 : decode cX7_go 277 = .ok (.ishr, 1) := by decide +kernel
theorem dX7_go_278 : decode cX7_go 278 = .ok (.iload 6, 2) := by decide +kernel
theorem dX7_go_280 : decode cX7_go 280 = .ok (.bipush 7, 2) := by decide +kernel
theorem dX7_go_282 : decode cX7_go 282 = .ok (.iand, 1) := by decide +kernel
theorem dX7_go_283 : decode cX7_go 283 = .ok (.iload 4, 2) := by decide +kernel
theorem dX7_go_285 : decode cX7_go 285 = .ok (.iload 5, 2) := by decide +kernel
theorem dX7_go_287 : decode cX7_go 287 = .ok (.invokevirtual 205, 3) := by decide +kernel
theorem dX7_go_290 : decode cX7_go 290 = .ok (.iinc 6 1, 3) := by decide +kernel
theorem dX7_go_293 : decode cX7_go 293 = .ok (.goto (-38), 3) := by decide +kernel
theorem dX7_go_296 : decode cX7_go 296 = .ok (.iinc 4 1, 3) := by decide +kernel
theorem dX7_go_299 : decode cX7_go 299 = .ok (.goto (-196), 3) := by decide +kernel
theorem dX7_go_302 : decode cX7_go 302 = .ok (.return_, 1) := by decide +kernel
theorem dX7_way_0 : decode cX7_way 0 = .ok (.aload_n 0, 1) := by decide +kernel
theorem dX7_way_1 : decode cX7_way 1 = .ok (.iload_n 1, 1) := by decide +kernel
theorem dX7_way_2 : decode cX7_way 2 = .ok (.invokevirtual 95, 3) := by decide +kernel
theorem dX7_way_5 : decode cX7_way 5 = .ok (.ifCond .eq 34, 3) := by decide +kernel
theorem dX7_way_8 : decode cX7_way 8 = .ok (.aload_n 0, 1) := by decide +kernel
theorem dX7_way_9 : decode cX7_way 9 = .ok (.iload_n 2, 1) := by decide +kernel
theorem dX7_way_10 : decode cX7_way 10 = .ok (.invokevirtual 70, 3) := by decide +kernel
theorem dX7_way_13 : decode cX7_way 13 = .ok (.ifCond .eq 26, 3) := by decide +kernel
theorem dX7_way_16 : decode cX7_way 16 = .ok (.iload_n 3, 1) := by decide +kernel
theorem dX7_way_17 : decode cX7_way 17 = .ok (.i2l, 1) := by decide +kernel
theorem dX7_way_18 : decode cX7_way 18 = .ok (.lconst 0, 1) := by decide +kernel
theorem dX7_way_19 : decode cX7_way 19 = .ok (.ldc2_w 209, 3) := by decide +kernel
theorem dX7_way_22 : decode cX7_way 22 = .ok (.invokestatic 50, 3) := by decide +kernel
theorem dX7_way_25 : decode cX7_way 25 = .ok (.ifCond .eq 14, 3) := by decide +kernel
theorem dX7_way_28 : decode cX7_way 28 = .ok (.iload 4, 2) := by decide +kernel
theorem dX7_way_30 : decode cX7_way 30 = .ok (.i2l, 1) := by decide +kernel
theorem dX7_way_31 : decode cX7_way 31 = .ok (.lconst 0, 1) := by decide +kernel
theorem dX7_way_32 : decode cX7_way 32 = .ok (.lconst 1, 1) := by decide +kernel
theorem dX7_way_33 : decode cX7_way 33 = .ok (.invokestatic 50, 3) := by decide +kernel
theorem dX7_way_36 : decode cX7_way 36 = .ok (.ifCond .ne 5, 3) := by decide +kernel
theorem dX7_way_39 : decode cX7_way 39 = .ok (.iconst (-1), 1) := by decide +kernel
theorem dX7_way_40 : decode cX7_way 40 = .ok (.ireturn, 1) := by decide +kernel
theorem dX7_way_41 : decode cX7_way 41 = .ok (.aload_n 0, 1) := by decide +kernel
theorem dX7_way_42 : decode cX7_way 42 = .ok (.iload_n 1, 1) := by decide +kernel
theorem dX7_way_43 : decode cX7_way 43 = .ok (.iload_n 2, 1) := by decide +kernel
theorem dX7_way_44 : decode cX7_way 44 = .ok (.iload_n 3, 1) := by decide +kernel
theorem dX7_way_45 : decode cX7_way 45 = .ok (.invokevirtual 211, 3) := by decide +kernel
theorem dX7_way_48 : decode cX7_way 48 = .ok (.iload 4, 2) := by decide +kernel
theorem dX7_way_50 : decode cX7_way 50 = .ok (.ifCond .ne 10, 3) := by decide +kernel
theorem dX7_way_53 : decode cX7_way 53 = .ok (.aload_n 0, 1) := by decide +kernel
theorem dX7_way_54 : decode cX7_way 54 = .ok (.getfield 189, 3) := by decide +kernel
theorem dX7_way_57 : decode cX7_way 57 = .ok (.goto 7, 3) := by decide +kernel
theorem dX7_way_60 : decode cX7_way 60 = .ok (.aload_n 0, 1) := by decide +kernel
theorem dX7_way_61 : decode cX7_way 61 = .ok (.getfield 192, 3) := by decide +kernel
theorem dX7_way_64 : decode cX7_way 64 = .ok (.ireturn, 1) := by decide +kernel
theorem dX7_race_0 : decode cX7_race 0 = .ok (.aload_n 0, 1) := by decide +kernel
theorem dX7_race_1 : decode cX7_race 1 = .ok (.iload_n 1, 1) := by decide +kernel
theorem dX7_race_2 : decode cX7_race 2 = .ok (.invokevirtual 214, 3) := by decide +kernel
theorem dX7_race_5 : decode cX7_race 5 = .ok (.ifCond .eq 34, 3) := by decide +kernel
theorem dX7_race_8 : decode cX7_race 8 = .ok (.aload_n 0, 1) := by decide +kernel
theorem dX7_race_9 : decode cX7_race 9 = .ok (.iload_n 2, 1) := by decide +kernel
theorem dX7_race_10 : decode cX7_race 10 = .ok (.invokevirtual 70, 3) := by decide +kernel
theorem dX7_race_13 : decode cX7_race 13 = .ok (.ifCond .eq 26, 3) := by decide +kernel
theorem dX7_race_16 : decode cX7_race 16 = .ok (.iload_n 3, 1) := by decide +kernel
theorem dX7_race_17 : decode cX7_race 17 = .ok (.i2l, 1) := by decide +kernel
theorem dX7_race_18 : decode cX7_race 18 = .ok (.lconst 0, 1) := by decide +kernel
theorem dX7_race_19 : decode cX7_race 19 = .ok (.ldc2_w 209, 3) := by decide +kernel
theorem dX7_race_22 : decode cX7_race 22 = .ok (.invokestatic 50, 3) := by decide +kernel
theorem dX7_race_25 : decode cX7_race 25 = .ok (.ifCond .eq 14, 3) := by decide +kernel
theorem dX7_race_28 : decode cX7_race 28 = .ok (.iload 4, 2) := by decide +kernel
theorem dX7_race_30 : decode cX7_race 30 = .ok (.i2l, 1) := by decide +kernel
theorem dX7_race_31 : decode cX7_race 31 = .ok (.lconst 0, 1) := by decide +kernel
theorem dX7_race_32 : decode cX7_race 32 = .ok (.lconst 1, 1) := by decide +kernel
theorem dX7_race_33 : decode cX7_race 33 = .ok (.invokestatic 50, 3) := by decide +kernel
theorem dX7_race_36 : decode cX7_race 36 = .ok (.ifCond .ne 5, 3) := by decide +kernel
theorem dX7_race_39 : decode cX7_race 39 = .ok (.iconst (-1), 1) := by decide +kernel
theorem dX7_race_40 : decode cX7_race 40 = .ok (.ireturn, 1) := by decide +kernel
theorem dX7_race_41 : decode cX7_race 41 = .ok (.bipush (-4), 2) := by decide +kernel
theorem dX7_race_43 : decode cX7_race 43 = .ok (.istore 5, 2) := by decide +kernel
theorem dX7_race_45 : decode cX7_race 45 = .ok (.sipush 601, 3) := by decide +kernel
theorem dX7_race_48 : decode cX7_race 48 = .ok (.istore 6, 2) := by decide +kernel
theorem dX7_race_50 : decode cX7_race 50 = .ok (.iconst 0, 1) := by decide +kernel
theorem dX7_race_51 : decode cX7_race 51 = .ok (.istore 7, 2) := by decide +kernel
theorem dX7_race_53 : decode cX7_race 53 = .ok (.iconst 0, 1) := by decide +kernel
theorem dX7_race_54 : decode cX7_race 54 = .ok (.istore 8, 2) := by decide +kernel
theorem dX7_race_56 : decode cX7_race 56 = .ok (.iload 8, 2) := by decide +kernel
theorem dX7_race_58 : decode cX7_race 58 = .ok (.aload_n 0, 1) := by decide +kernel
theorem dX7_race_59 : decode cX7_race 59 = .ok (.getfield 7, 3) := by decide +kernel
theorem dX7_race_62 : decode cX7_race 62 = .ok (.bipush 63, 2) := by decide +kernel
theorem dX7_race_64 : decode cX7_race 64 = .ok (.iaload, 1) := by decide +kernel
theorem dX7_race_65 : decode cX7_race 65 = .ok (.if_icmp .ge 70, 3) := by decide +kernel
theorem dX7_race_68 : decode cX7_race 68 = .ok (.iload_n 1, 1) := by decide +kernel
theorem dX7_race_69 : decode cX7_race 69 = .ok (.iload 8, 2) := by decide +kernel
theorem dX7_race_71 : decode cX7_race 71 = .ok (.ishr, 1) := by decide +kernel
theorem dX7_race_72 : decode cX7_race 72 = .ok (.iconst 1, 1) := by decide +kernel
theorem dX7_race_73 : decode cX7_race 73 = .ok (.iand, 1) := by decide +kernel
theorem dX7_race_74 : decode cX7_race 74 = .ok (.iconst 1, 1) := by decide +kernel
theorem dX7_race_75 : decode cX7_race 75 = .ok (.if_icmp .ne 54, 3) := by decide +kernel
theorem dX7_race_78 : decode cX7_race 78 = .ok (.aload_n 0, 1) := by decide +kernel
theorem dX7_race_79 : decode cX7_race 79 = .ok (.iload 8, 2) := by decide +kernel
theorem dX7_race_81 : decode cX7_race 81 = .ok (.iload_n 2, 1) := by decide +kernel
theorem dX7_race_82 : decode cX7_race 82 = .ok (.iload_n 3, 1) := by decide +kernel
theorem dX7_race_83 : decode cX7_race 83 = .ok (.invokevirtual 211, 3) := by decide +kernel
theorem dX7_race_86 : decode cX7_race 86 = .ok (.iload 7, 2) := by decide +kernel
theorem dX7_race_88 : decode cX7_race 88 = .ok (.aload_n 0, 1) := by decide +kernel
theorem dX7_race_89 : decode cX7_race 89 = .ok (.getfield 189, 3) := by decide +kernel
theorem dX7_race_92 : decode cX7_race 92 = .ok (.ifCond .lt 7, 3) := by decide +kernel
theorem dX7_race_95 : decode cX7_race 95 = .ok (.iconst 1, 1) := by decide +kernel
theorem dX7_race_96 : decode cX7_race 96 = .ok (.goto 4, 3) := by decide +kernel
theorem dX7_race_99 : decode cX7_race 99 = .ok (.iconst 0, 1) := by decide +kernel
theorem dX7_race_100 : decode cX7_race 100 = .ok (.iadd, 1) := by decide +kernel
theorem dX7_race_101 : decode cX7_race 101 = .ok (.istore 7, 2) := by decide +kernel
theorem dX7_race_103 : decode cX7_race 103 = .ok (.aload_n 0, 1) := by decide +kernel
theorem dX7_race_104 : decode cX7_race 104 = .ok (.getfield 189, 3) := by decide +kernel
theorem dX7_race_107 : decode cX7_race 107 = .ok (.ifCond .lt 22, 3) := by decide +kernel
theorem dX7_race_110 : decode cX7_race 110 = .ok (.aload_n 0, 1) := by decide +kernel
theorem dX7_race_111 : decode cX7_race 111 = .ok (.getfield 189, 3) := by decide +kernel
theorem dX7_race_114 : decode cX7_race 114 = .ok (.iload 6, 2) := by decide +kernel
theorem dX7_race_116 : decode cX7_race 116 = .ok (.if_icmp .ge 13, 3) := by decide +kernel
theorem dX7_race_119 : decode cX7_race 119 = .ok (.aload_n 0, 1) := by decide +kernel
theorem dX7_race_120 : decode cX7_race 120 = .ok (.getfield 189, 3) := by decide +kernel
theorem dX7_race_123 : decode cX7_race 123 = .ok (.istore 6, 2) := by decide +kernel
theorem dX7_race_125 : decode cX7_race 125 = .ok (.iload 8, 2) := by decide +kernel
theorem dX7_race_127 : decode cX7_race 127 = .ok (.istore 5, 2) := by decide +kernel
theorem dX7_race_129 : decode cX7_race 129 = .ok (.iinc 8 1, 3) := by decide +kernel
theorem dX7_race_132 : decode cX7_race 132 = .ok (.goto (-76), 3) := by decide +kernel
theorem dX7_race_135 : decode cX7_race 135 = .ok (.iload 4, 2) := by decide +kernel
theorem dX7_race_137 : decode cX7_race 137 = .ok (.ifCond .ne 8, 3) := by decide +kernel
theorem dX7_race_140 : decode cX7_race 140 = .ok (.iload 5, 2) := by decide +kernel
theorem dX7_race_142 : decode cX7_race 142 = .ok (.goto 5, 3) := by decide +kernel
theorem dX7_race_145 : decode cX7_race 145 = .ok (.iload 7, 2) := by decide +kernel
theorem dX7_race_147 : decode cX7_race 147 = .ok (.ireturn, 1) := by decide +kernel
theorem dX7_need_0 : decode cX7_need 0 = .ok (.aload_n 0, 1) := by decide +kernel
theorem dX7_need_1 : decode cX7_need 1 = .ok (.iload_n 1, 1) := by decide +kernel
theorem dX7_need_2 : decode cX7_need 2 = .ok (.invokevirtual 95, 3) := by decide +kernel
theorem dX7_need_5 : decode cX7_need 5 = .ok (.ifCond .eq 18, 3) := by decide +kernel
theorem dX7_need_8 : decode cX7_need 8 = .ok (.aload_n 0, 1) := by decide +kernel
theorem dX7_need_9 : decode cX7_need 9 = .ok (.iload_n 2, 1) := by decide +kernel
theorem dX7_need_10 : decode cX7_need 10 = .ok (.invokevirtual 70, 3) := by decide +kernel
theorem dX7_need_13 : decode cX7_need 13 = .ok (.ifCond .eq 10, 3) := by decide +kernel
theorem dX7_need_16 : decode cX7_need 16 = .ok (.iload_n 3, 1) := by decide +kernel
theorem dX7_need_17 : decode cX7_need 17 = .ok (.invokestatic 88, 3) := by decide +kernel
theorem dX7_need_20 : decode cX7_need 20 = .ok (.ifCond .ne 5, 3) := by decide +kernel
theorem dX7_need_23 : decode cX7_need 23 = .ok (.iconst (-1), 1) := by decide +kernel
theorem dX7_need_24 : decode cX7_need 24 = .ok (.ireturn, 1) := by decide +kernel
theorem dX7_need_25 : decode cX7_need 25 = .ok (.aload_n 0, 1) := by decide +kernel
theorem dX7_need_26 : decode cX7_need 26 = .ok (.getfield 7, 3) := by decide +kernel
theorem dX7_need_29 : decode cX7_need 29 = .ok (.bipush 64, 2) := by decide +kernel
theorem dX7_need_31 : decode cX7_need 31 = .ok (.iaload, 1) := by decide +kernel
theorem dX7_need_32 : decode cX7_need 32 = .ok (.bipush 10, 2) := by decide +kernel
theorem dX7_need_34 : decode cX7_need 34 = .ok (.if_icmp .ne 6, 3) := by decide +kernel
theorem dX7_need_37 : decode cX7_need 37 = .ok (.bipush (-3), 2) := by decide +kernel
theorem dX7_need_39 : decode cX7_need 39 = .ok (.ireturn, 1) := by decide +kernel
theorem dX7_need_40 : decode cX7_need 40 = .ok (.aload_n 0, 1) := by decide +kernel
theorem dX7_need_41 : decode cX7_need 41 = .ok (.getfield 7, 3) := by decide +kernel
theorem dX7_need_44 : decode cX7_need 44 = .ok (.bipush 64, 2) := by decide +kernel
theorem dX7_need_46 : decode cX7_need 46 = .ok (.iaload, 1) := by decide +kernel
theorem dX7_need_47 : decode cX7_need 47 = .ok (.istore 4, 2) := by decide +kernel
theorem dX7_need_49 : decode cX7_need 49 = .ok (.aload_n 0, 1) := by decide +kernel
theorem dX7_need_50 : decode cX7_need 50 = .ok (.getfield 7, 3) := by decide +kernel
theorem dX7_need_53 : decode cX7_need 53 = .ok (.bipush 90, 2) := by decide +kernel
theorem dX7_need_55 : decode cX7_need 55 = .ok (.iload 4, 2) := by decide +kernel
theorem dX7_need_57 : decode cX7_need 57 = .ok (.iadd, 1) := by decide +kernel
theorem dX7_need_58 : decode cX7_need 58 = .ok (.iload_n 1, 1) := by decide +kernel
theorem dX7_need_59 : decode cX7_need 59 = .ok (.iastore, 1) := by decide +kernel
theorem dX7_need_60 : decode cX7_need 60 = .ok (.aload_n 0, 1) := by decide +kernel
theorem dX7_need_61 : decode cX7_need 61 = .ok (.getfield 7, 3) := by decide +kernel
theorem dX7_need_64 : decode cX7_need 64 = .ok (.bipush 100, 2) := by decide +kernel
theorem dX7_need_66 : decode cX7_need 66 = .ok (.iload 4, 2) := by decide +kernel
theorem dX7_need_68 : decode cX7_need 68 = .ok (.iadd, 1) := by decide +kernel
theorem dX7_need_69 : decode cX7_need 69 = .ok (.iload_n 2, 1) := by decide +kernel
theorem dX7_need_70 : decode cX7_need 70 = .ok (.iastore, 1) := by decide +kernel
theorem dX7_need_71 : decode cX7_need 71 = .ok (.aload_n 0, 1) := by decide +kernel
theorem dX7_need_72 : decode cX7_need 72 = .ok (.getfield 7, 3) := by decide +kernel
theorem dX7_need_75 : decode cX7_need 75 = .ok (.bipush 110, 2) := by decide +kernel
theorem dX7_need_77 : decode cX7_need 77 = .ok (.iload 4, 2) := by decide +kernel
theorem dX7_need_79 : decode cX7_need 79 = .ok (.iadd, 1) := by decide +kernel
theorem dX7_need_80 : decode cX7_need 80 = .ok (.iload_n 3, 1) := by decide +kernel
theorem dX7_need_81 : decode cX7_need 81 = .ok (.iastore, 1) := by decide +kernel
theorem dX7_need_82 : decode cX7_need 82 = .ok (.aload_n 0, 1) := by decide +kernel
theorem dX7_need_83 : decode cX7_need 83 = .ok (.getfield 7, 3) := by decide +kernel
theorem dX7_need_86 : decode cX7_need 86 = .ok (.bipush 64, 2) := by decide +kernel
theorem dX7_need_88 : decode cX7_need 88 = .ok (.dup2, 1) := by decide +kernel
theorem dX7_need_89 : decode cX7_need 89 = .ok (.iaload, 1) := by decide +kernel
theorem dX7_need_90 : decode cX7_need 90 = .ok (.iconst 1, 1) := by decide +kernel
theorem dX7_need_91 : decode cX7_need 91 = .ok (.iadd, 1) := by decide +kernel
theorem dX7_need_92 : decode cX7_need 92 = .ok (.iastore, 1) := by decide +kernel
theorem dX7_need_93 : decode cX7_need 93 = .ok (.iload 4, 2) := by decide +kernel
theorem dX7_need_95 : decode cX7_need 95 = .ok (.ireturn, 1) := by decide +kernel
theorem dX7_met_0 : decode cX7_met 0 = .ok (.iconst 0, 1) := by decide +kernel
theorem dX7_met_1 : decode cX7_met 1 = .ok (.istore_n 1, 1) := by decide +kernel
theorem dX7_met_2 : decode cX7_met 2 = .ok (.iconst 0, 1) := by decide +kernel
theorem dX7_met_3 : decode cX7_met 3 = .ok (.istore_n 2, 1) := by decide +kernel
theorem dX7_met_4 : decode cX7_met 4 = .ok (.iload_n 2, 1) := by decide +kernel
theorem dX7_met_5 : decode cX7_met 5 = .ok (.aload_n 0, 1) := by decide +kernel
theorem dX7_met_6 : decode cX7_met 6 = .ok (.getfield 7, 3) := by decide +kernel
theorem dX7_met_9 : decode cX7_met 9 = .ok (.bipush 64, 2) := by decide +kernel
theorem dX7_met_11 : decode cX7_met 11 = .ok (.iaload, 1) := by decide +kernel
theorem dX7_met_12 : decode cX7_met 12 = .ok (.if_icmp .ge 53, 3) := by decide +kernel
theorem dX7_met_15 : decode cX7_met 15 = .ok (.iload_n 1, 1) := by decide +kernel
theorem dX7_met_16 : decode cX7_met 16 = .ok (.aload_n 0, 1) := by decide +kernel
theorem dX7_met_17 : decode cX7_met 17 = .ok (.aload_n 0, 1) := by decide +kernel
theorem dX7_met_18 : decode cX7_met 18 = .ok (.getfield 7, 3) := by decide +kernel
theorem dX7_met_21 : decode cX7_met 21 = .ok (.bipush 90, 2) := by decide +kernel
theorem dX7_met_23 : decode cX7_met 23 = .ok (.iload_n 2, 1) := by decide +kernel
theorem dX7_met_24 : decode cX7_met 24 = .ok (.iadd, 1) := by decide +kernel
theorem dX7_met_25 : decode cX7_met 25 = .ok (.iaload, 1) := by decide +kernel
theorem dX7_met_26 : decode cX7_met 26 = .ok (.aload_n 0, 1) := by decide +kernel
theorem dX7_met_27 : decode cX7_met 27 = .ok (.getfield 7, 3) := by decide +kernel
theorem dX7_met_30 : decode cX7_met 30 = .ok (.bipush 100, 2) := by decide +kernel
theorem dX7_met_32 : decode cX7_met 32 = .ok (.iload_n 2, 1) := by decide +kernel
theorem dX7_met_33 : decode cX7_met 33 = .ok (.iadd, 1) := by decide +kernel
theorem dX7_met_34 : decode cX7_met 34 = .ok (.iaload, 1) := by decide +kernel
theorem dX7_met_35 : decode cX7_met 35 = .ok (.aload_n 0, 1) := by decide +kernel
theorem dX7_met_36 : decode cX7_met 36 = .ok (.getfield 7, 3) := by decide +kernel
theorem dX7_met_39 : decode cX7_met 39 = .ok (.bipush 110, 2) := by decide +kernel
theorem dX7_met_41 : decode cX7_met 41 = .ok (.iload_n 2, 1) := by decide +kernel
theorem dX7_met_42 : decode cX7_met 42 = .ok (.iadd, 1) := by decide +kernel
theorem dX7_met_43 : decode cX7_met 43 = .ok (.iaload, 1) := by decide +kernel
theorem dX7_met_44 : decode cX7_met 44 = .ok (.invokevirtual 167, 3) := by decide +kernel
theorem dX7_met_47 : decode cX7_met 47 = .ok (.ifCond .eq 9, 3) := by decide +kernel
theorem dX7_met_50 : decode cX7_met 50 = .ok (.iconst 1, 1) := by decide +kernel
theorem dX7_met_51 : decode cX7_met 51 = .ok (.iload_n 2, 1) := by decide +kernel
theorem dX7_met_52 : decode cX7_met 52 = .ok (.ishl, 1) := by decide +kernel
theorem dX7_met_53 : decode cX7_met 53 = .ok (.goto 4, 3) := by decide +kernel
theorem dX7_met_56 : decode cX7_met 56 = .ok (.iconst 0, 1) := by decide +kernel
theorem dX7_met_57 : decode cX7_met 57 = .ok (.ior, 1) := by decide +kernel
theorem dX7_met_58 : decode cX7_met 58 = .ok (.istore_n 1, 1) := by decide +kernel
theorem dX7_met_59 : decode cX7_met 59 = .ok (.iinc 2 1, 3) := by decide +kernel
theorem dX7_met_62 : decode cX7_met 62 = .ok (.goto (-58), 3) := by decide +kernel
theorem dX7_met_65 : decode cX7_met 65 = .ok (.iload_n 1, 1) := by decide +kernel
theorem dX7_met_66 : decode cX7_met 66 = .ok (.ireturn, 1) := by decide +kernel
theorem dX7_needy_0 : decode cX7_needy 0 = .ok (.iconst 0, 1) := by decide +kernel
theorem dX7_needy_1 : decode cX7_needy 1 = .ok (.istore_n 1, 1) := by decide +kernel
theorem dX7_needy_2 : decode cX7_needy 2 = .ok (.iconst 0, 1) := by decide +kernel
theorem dX7_needy_3 : decode cX7_needy 3 = .ok (.istore_n 2, 1) := by decide +kernel
theorem dX7_needy_4 : decode cX7_needy 4 = .ok (.iload_n 2, 1) := by decide +kernel
theorem dX7_needy_5 : decode cX7_needy 5 = .ok (.aload_n 0, 1) := by decide +kernel
theorem dX7_needy_6 : decode cX7_needy 6 = .ok (.getfield 7, 3) := by decide +kernel
theorem dX7_needy_9 : decode cX7_needy 9 = .ok (.bipush 64, 2) := by decide +kernel
theorem dX7_needy_11 : decode cX7_needy 11 = .ok (.iaload, 1) := by decide +kernel
theorem dX7_needy_12 : decode cX7_needy 12 = .ok (.if_icmp .ge 23, 3) := by decide +kernel
theorem dX7_needy_15 : decode cX7_needy 15 = .ok (.iload_n 1, 1) := by decide +kernel
theorem dX7_needy_16 : decode cX7_needy 16 = .ok (.iconst 1, 1) := by decide +kernel
theorem dX7_needy_17 : decode cX7_needy 17 = .ok (.aload_n 0, 1) := by decide +kernel
theorem dX7_needy_18 : decode cX7_needy 18 = .ok (.getfield 7, 3) := by decide +kernel
theorem dX7_needy_21 : decode cX7_needy 21 = .ok (.bipush 90, 2) := by decide +kernel
theorem dX7_needy_23 : decode cX7_needy 23 = .ok (.iload_n 2, 1) := by decide +kernel
theorem dX7_needy_24 : decode cX7_needy 24 = .ok (.iadd, 1) := by decide +kernel
theorem dX7_needy_25 : decode cX7_needy 25 = .ok (.iaload, 1) := by decide +kernel
theorem dX7_needy_26 : decode cX7_needy 26 = .ok (.ishl, 1) := by decide +kernel
theorem dX7_needy_27 : decode cX7_needy 27 = .ok (.ior, 1) := by decide +kernel
theorem dX7_needy_28 : decode cX7_needy 28 = .ok (.istore_n 1, 1) := by decide +kernel
theorem dX7_needy_29 : decode cX7_needy 29 = .ok (.iinc 2 1, 3) := by decide +kernel
theorem dX7_needy_32 : decode cX7_needy 32 = .ok (.goto (-28), 3) := by decide +kernel
theorem dX7_needy_35 : decode cX7_needy 35 = .ok (.iload_n 1, 1) := by decide +kernel
theorem dX7_needy_36 : decode cX7_needy 36 = .ok (.ireturn, 1) := by decide +kernel
theorem dX7_doesFor_0 : decode cX7_doesFor 0 = .ok (.aload_n 0, 1) := by decide +kernel
theorem dX7_doesFor_1 : decode cX7_doesFor 1 = .ok (.invokevirtual 217, 3) := by decide +kernel
theorem dX7_doesFor_4 : decode cX7_doesFor 4 = .ok (.istore_n 2, 1) := by decide +kernel
theorem dX7_doesFor_5 : decode cX7_doesFor 5 = .ok (.iconst 0, 1) := by decide +kernel
theorem dX7_doesFor_6 : decode cX7_doesFor 6 = .ok (.istore_n 3, 1) := by decide +kernel
theorem dX7_doesFor_7 : decode cX7_doesFor 7 = .ok (.iload_n 3, 1) := by decide +kernel
theorem dX7_doesFor_8 : decode cX7_doesFor 8 = .ok (.aload_n 0, 1) := by decide +kernel
theorem dX7_doesFor_9 : decode cX7_doesFor 9 = .ok (.getfield 7, 3) := by decide +kernel
theorem dX7_doesFor_12 : decode cX7_doesFor 12 = .ok (.bipush 64, 2) := by decide +kernel
theorem dX7_doesFor_14 : decode cX7_doesFor 14 = .ok (.iaload, 1) := by decide +kernel
theorem dX7_doesFor_15 : decode cX7_doesFor 15 = .ok (.if_icmp .ge 60, 3) := by decide +kernel
theorem dX7_doesFor_18 : decode cX7_doesFor 18 = .ok (.aload_n 0, 1) := by decide +kernel
theorem dX7_doesFor_19 : decode cX7_doesFor 19 = .ok (.aload_n 0, 1) := by decide +kernel
theorem dX7_doesFor_20 : decode cX7_doesFor 20 = .ok (.getfield 7, 3) := by decide +kernel
theorem dX7_doesFor_23 : decode cX7_doesFor 23 = .ok (.bipush 90, 2) := by decide +kernel
theorem dX7_doesFor_25 : decode cX7_doesFor 25 = .ok (.iload_n 3, 1) := by decide +kernel
theorem dX7_doesFor_26 : decode cX7_doesFor 26 = .ok (.iadd, 1) := by decide +kernel
theorem dX7_doesFor_27 : decode cX7_doesFor 27 = .ok (.iaload, 1) := by decide +kernel
theorem dX7_doesFor_28 : decode cX7_doesFor 28 = .ok (.iload_n 1, 1) := by decide +kernel
theorem dX7_doesFor_29 : decode cX7_doesFor 29 = .ok (.aload_n 0, 1) := by decide +kernel
theorem dX7_doesFor_30 : decode cX7_doesFor 30 = .ok (.getfield 7, 3) := by decide +kernel
theorem dX7_doesFor_33 : decode cX7_doesFor 33 = .ok (.bipush 100, 2) := by decide +kernel
theorem dX7_doesFor_35 : decode cX7_doesFor 35 = .ok (.iload_n 3, 1) := by decide +kernel
theorem dX7_doesFor_36 : decode cX7_doesFor 36 = .ok (.iadd, 1) := by decide +kernel
theorem dX7_doesFor_37 : decode cX7_doesFor 37 = .ok (.iaload, 1) := by decide +kernel
theorem dX7_doesFor_38 : decode cX7_doesFor 38 = .ok (.aload_n 0, 1) := by decide +kernel
theorem dX7_doesFor_39 : decode cX7_doesFor 39 = .ok (.getfield 7, 3) := by decide +kernel
theorem dX7_doesFor_42 : decode cX7_doesFor 42 = .ok (.bipush 110, 2) := by decide +kernel
theorem dX7_doesFor_44 : decode cX7_doesFor 44 = .ok (.iload_n 3, 1) := by decide +kernel
theorem dX7_doesFor_45 : decode cX7_doesFor 45 = .ok (.iadd, 1) := by decide +kernel
theorem dX7_doesFor_46 : decode cX7_doesFor 46 = .ok (.iaload, 1) := by decide +kernel
theorem dX7_doesFor_47 : decode cX7_doesFor 47 = .ok (.invokevirtual 164, 3) := by decide +kernel
theorem dX7_doesFor_50 : decode cX7_doesFor 50 = .ok (.ifCond .ne 19, 3) := by decide +kernel
theorem dX7_doesFor_53 : decode cX7_doesFor 53 = .ok (.iload_n 2, 1) := by decide +kernel
theorem dX7_doesFor_54 : decode cX7_doesFor 54 = .ok (.iconst 1, 1) := by decide +kernel
theorem dX7_doesFor_55 : decode cX7_doesFor 55 = .ok (.aload_n 0, 1) := by decide +kernel
theorem dX7_doesFor_56 : decode cX7_doesFor 56 = .ok (.getfield 7, 3) := by decide +kernel
theorem dX7_doesFor_59 : decode cX7_doesFor 59 = .ok (.bipush 90, 2) := by decide +kernel
theorem dX7_doesFor_61 : decode cX7_doesFor 61 = .ok (.iload_n 3, 1) := by decide +kernel
theorem dX7_doesFor_62 : decode cX7_doesFor 62 = .ok (.iadd, 1) := by decide +kernel
theorem dX7_doesFor_63 : decode cX7_doesFor 63 = .ok (.iaload, 1) := by decide +kernel
theorem dX7_doesFor_64 : decode cX7_doesFor 64 = .ok (.ishl, 1) := by decide +kernel
theorem dX7_doesFor_65 : decode cX7_doesFor 65 = .ok (.iconst (-1), 1) := by decide +kernel
theorem dX7_doesFor_66 : decode cX7_doesFor 66 = .ok (.ixor, 1) := by decide +kernel
theorem dX7_doesFor_67 : decode cX7_doesFor 67 = .ok (.iand, 1) := by decide +kernel
theorem dX7_doesFor_68 : decode cX7_doesFor 68 = .ok (.istore_n 2, 1) := by decide +kernel
theorem dX7_doesFor_69 : decode cX7_doesFor 69 = .ok (.iinc 3 1, 3) := by decide +kernel
theorem dX7_doesFor_72 : decode cX7_doesFor 72 = .ok (.goto (-65), 3) := by decide +kernel
theorem dX7_doesFor_75 : decode cX7_doesFor 75 = .ok (.iload_n 2, 1) := by decide +kernel
theorem dX7_doesFor_76 : decode cX7_doesFor 76 = .ok (.ireturn, 1) := by decide +kernel
theorem dX7_fewest_0 : decode cX7_fewest 0 = .ok (.iconst 0, 1) := by decide +kernel
theorem dX7_fewest_1 : decode cX7_fewest 1 = .ok (.istore_n 1, 1) := by decide +kernel
theorem dX7_fewest_2 : decode cX7_fewest 2 = .ok (.iload_n 1, 1) := by decide +kernel
theorem dX7_fewest_3 : decode cX7_fewest 3 = .ok (.sipush 256, 3) := by decide +kernel
theorem dX7_fewest_6 : decode cX7_fewest 6 = .ok (.if_icmp .ge 29, 3) := by decide +kernel
theorem dX7_fewest_9 : decode cX7_fewest 9 = .ok (.aload_n 0, 1) := by decide +kernel
theorem dX7_fewest_10 : decode cX7_fewest 10 = .ok (.getfield 38, 3) := by decide +kernel
theorem dX7_fewest_13 : decode cX7_fewest 13 = .ok (.sipush 15616, 3) := by decide +kernel
theorem dX7_fewest_16 : decode cX7_fewest 16 = .ok (.iload_n 1, 1) := by decide +kernel
theorem dX7_fewest_17 : decode cX7_fewest 17 = .ok (.iadd, 1) := by decide +kernel
theorem dX7_fewest_18 : decode cX7_fewest 18 = .ok (.iload_n 1, 1) := by decide +kernel
theorem dX7_fewest_19 : decode cX7_fewest 19 = .ok (.ifCond .ne 7, 3) := by decide +kernel
theorem dX7_fewest_22 : decode cX7_fewest 22 = .ok (.iconst 0, 1) := by decide +kernel
theorem dX7_fewest_23 : decode cX7_fewest 23 = .ok (.goto 5, 3) := by decide +kernel
theorem dX7_fewest_26 : decode cX7_fewest 26 = .ok (.bipush 99, 2) := by decide +kernel
theorem dX7_fewest_28 : decode cX7_fewest 28 = .ok (.iastore, 1) := by decide +kernel
theorem dX7_fewest_29 : decode cX7_fewest 29 = .ok (.iinc 1 1, 3) := by decide +kernel
theorem dX7_fewest_32 : decode cX7_fewest 32 = .ok (.goto (-30), 3) := by decide +kernel
theorem dX7_fewest_35 : decode cX7_fewest 35 = .ok (.bipush 60, 2) := by decide +kernel
theorem dX7_fewest_37 : decode cX7_fewest 37 = .ok (.istore_n 1, 1) := by decide +kernel
theorem dX7_fewest_38 : decode cX7_fewest 38 = .ok (.iload_n 1, 1) := by decide +kernel
theorem dX7_fewest_39 : decode cX7_fewest 39 = .ok (.ifCond .lt 101, 3) := by decide +kernel
theorem dX7_fewest_42 : decode cX7_fewest 42 = .ok (.aload_n 0, 1) := by decide +kernel
theorem dX7_fewest_43 : decode cX7_fewest 43 = .ok (.getfield 41, 3) := by decide +kernel
theorem dX7_fewest_46 : decode cX7_fewest 46 = .ok (.iload_n 1, 1) := by decide +kernel
theorem dX7_fewest_47 : decode cX7_fewest 47 = .ok (.aload_n 0, 1) := by decide +kernel
theorem dX7_fewest_48 : decode cX7_fewest 48 = .ok (.iload_n 1, 1) := by decide +kernel
theorem dX7_fewest_49 : decode cX7_fewest 49 = .ok (.invokevirtual 220, 3) := by decide +kernel
theorem dX7_fewest_52 : decode cX7_fewest 52 = .ok (.iastore, 1) := by decide +kernel
theorem dX7_fewest_53 : decode cX7_fewest 53 = .ok (.iconst 0, 1) := by decide +kernel
theorem dX7_fewest_54 : decode cX7_fewest 54 = .ok (.istore_n 2, 1) := by decide +kernel
theorem dX7_fewest_55 : decode cX7_fewest 55 = .ok (.iload_n 2, 1) := by decide +kernel
theorem dX7_fewest_56 : decode cX7_fewest 56 = .ok (.sipush 256, 3) := by decide +kernel
theorem dX7_fewest_59 : decode cX7_fewest 59 = .ok (.if_icmp .ge 75, 3) := by decide +kernel
theorem dX7_fewest_62 : decode cX7_fewest 62 = .ok (.iconst 1, 1) := by decide +kernel
theorem dX7_fewest_63 : decode cX7_fewest 63 = .ok (.aload_n 0, 1) := by decide +kernel
theorem dX7_fewest_64 : decode cX7_fewest 64 = .ok (.getfield 38, 3) := by decide +kernel
theorem dX7_fewest_67 : decode cX7_fewest 67 = .ok (.sipush 256, 3) := by decide +kernel
theorem dX7_fewest_70 : decode cX7_fewest 70 = .ok (.iload_n 1, 1) := by decide +kernel
theorem dX7_fewest_71 : decode cX7_fewest 71 = .ok (.iconst 1, 1) := by decide +kernel
theorem dX7_fewest_72 : decode cX7_fewest 72 = .ok (.iadd, 1) := by decide +kernel
theorem dX7_fewest_73 : decode cX7_fewest 73 = .ok (.imul, 1) := by decide +kernel
theorem dX7_fewest_74 : decode cX7_fewest 74 = .ok (.iload_n 2, 1) := by decide +kernel
theorem dX7_fewest_75 : decode cX7_fewest 75 = .ok (.aload_n 0, 1) := by decide +kernel
theorem dX7_fewest_76 : decode cX7_fewest 76 = .ok (.getfield 41, 3) := by decide +kernel
theorem dX7_fewest_79 : decode cX7_fewest 79 = .ok (.iload_n 1, 1) := by decide +kernel
theorem dX7_fewest_80 : decode cX7_fewest 80 = .ok (.iaload, 1) := by decide +kernel
theorem dX7_fewest_81 : decode cX7_fewest 81 = .ok (.iconst (-1), 1) := by decide +kernel
theorem dX7_fewest_82 : decode cX7_fewest 82 = .ok (.ixor, 1) := by decide +kernel
theorem dX7_fewest_83 : decode cX7_fewest 83 = .ok (.iand, 1) := by decide +kernel
theorem dX7_fewest_84 : decode cX7_fewest 84 = .ok (.iadd, 1) := by decide +kernel
theorem dX7_fewest_85 : decode cX7_fewest 85 = .ok (.iaload, 1) := by decide +kernel
theorem dX7_fewest_86 : decode cX7_fewest 86 = .ok (.iadd, 1) := by decide +kernel
theorem dX7_fewest_87 : decode cX7_fewest 87 = .ok (.istore_n 3, 1) := by decide +kernel
theorem dX7_fewest_88 : decode cX7_fewest 88 = .ok (.aload_n 0, 1) := by decide +kernel
theorem dX7_fewest_89 : decode cX7_fewest 89 = .ok (.getfield 38, 3) := by decide +kernel
theorem dX7_fewest_92 : decode cX7_fewest 92 = .ok (.sipush 256, 3) := by decide +kernel
theorem dX7_fewest_95 : decode cX7_fewest 95 = .ok (.iload_n 1, 1) := by decide +kernel
theorem dX7_fewest_96 : decode cX7_fewest 96 = .ok (.iconst 1, 1) := by decide +kernel
theorem dX7_fewest_97 : decode cX7_fewest 97 = .ok (.iadd, 1) := by decide +kernel
theorem dX7_fewest_98 : decode cX7_fewest 98 = .ok (.imul, 1) := by decide +kernel
theorem dX7_fewest_99 : decode cX7_fewest 99 = .ok (.iload_n 2, 1) := by decide +kernel
theorem dX7_fewest_100 : decode cX7_fewest 100 = .ok (.iadd, 1) := by decide +kernel
theorem dX7_fewest_101 : decode cX7_fewest 101 = .ok (.iaload, 1) := by decide +kernel
theorem dX7_fewest_102 : decode cX7_fewest 102 = .ok (.istore 4, 2) := by decide +kernel
theorem dX7_fewest_104 : decode cX7_fewest 104 = .ok (.aload_n 0, 1) := by decide +kernel
theorem dX7_fewest_105 : decode cX7_fewest 105 = .ok (.getfield 38, 3) := by decide +kernel
theorem dX7_fewest_108 : decode cX7_fewest 108 = .ok (.sipush 256, 3) := by decide +kernel
theorem dX7_fewest_111 : decode cX7_fewest 111 = .ok (.iload_n 1, 1) := by decide +kernel
theorem dX7_fewest_112 : decode cX7_fewest 112 = .ok (.imul, 1) := by decide +kernel
theorem dX7_fewest_113 : decode cX7_fewest 113 = .ok (.iload_n 2, 1) := by decide +kernel
theorem dX7_fewest_114 : decode cX7_fewest 114 = .ok (.iadd, 1) := by decide +kernel
theorem dX7_fewest_115 : decode cX7_fewest 115 = .ok (.iload_n 3, 1) := by decide +kernel
theorem dX7_fewest_116 : decode cX7_fewest 116 = .ok (.iload 4, 2) := by decide +kernel
theorem dX7_fewest_118 : decode cX7_fewest 118 = .ok (.if_icmp .ge 7, 3) := by decide +kernel
theorem dX7_fewest_121 : decode cX7_fewest 121 = .ok (.iload_n 3, 1) := by decide +kernel
theorem dX7_fewest_122 : decode cX7_fewest 122 = .ok (.goto 5, 3) := by decide +kernel
theorem dX7_fewest_125 : decode cX7_fewest 125 = .ok (.iload 4, 2) := by decide +kernel
theorem dX7_fewest_127 : decode cX7_fewest 127 = .ok (.iastore, 1) := by decide +kernel
theorem dX7_fewest_128 : decode cX7_fewest 128 = .ok (.iinc 2 1, 3) := by decide +kernel
theorem dX7_fewest_131 : decode cX7_fewest 131 = .ok (.goto (-76), 3) := by decide +kernel
theorem dX7_fewest_134 : decode cX7_fewest 134 = .ok (.iinc 1 (-1), 3) := by decide +kernel
theorem dX7_fewest_137 : decode cX7_fewest 137 = .ok (.goto (-99), 3) := by decide +kernel
theorem dX7_fewest_140 : decode cX7_fewest 140 = .ok (.return_, 1) := by decide +kernel
theorem dX7_lengths_0 : decode cX7_lengths 0 = .ok (.iload_n 1, 1) := by decide +kernel
theorem dX7_lengths_1 : decode cX7_lengths 1 = .ok (.iconst (-1), 1) := by decide +kernel
theorem dX7_lengths_2 : decode cX7_lengths 2 = .ok (.if_icmp .ge 5, 3) := by decide +kernel
theorem dX7_lengths_5 : decode cX7_lengths 5 = .ok (.iconst (-1), 1) := by decide +kernel
theorem dX7_lengths_6 : decode cX7_lengths 6 = .ok (.ireturn, 1) := by decide +kernel
theorem dX7_lengths_7 : decode cX7_lengths 7 = .ok (.aload_n 0, 1) := by decide +kernel
theorem dX7_lengths_8 : decode cX7_lengths 8 = .ok (.getfield 7, 3) := by decide +kernel
theorem dX7_lengths_11 : decode cX7_lengths 11 = .ok (.bipush 64, 2) := by decide +kernel
theorem dX7_lengths_13 : decode cX7_lengths 13 = .ok (.iaload, 1) := by decide +kernel
theorem dX7_lengths_14 : decode cX7_lengths 14 = .ok (.ifCond .ne 6, 3) := by decide +kernel
theorem dX7_lengths_17 : decode cX7_lengths 17 = .ok (.bipush (-2), 2) := by decide +kernel
theorem dX7_lengths_19 : decode cX7_lengths 19 = .ok (.ireturn, 1) := by decide +kernel
theorem dX7_lengths_20 : decode cX7_lengths 20 = .ok (.aload_n 0, 1) := by decide +kernel
theorem dX7_lengths_21 : decode cX7_lengths 21 = .ok (.invokevirtual 223, 3) := by decide +kernel
theorem dX7_lengths_24 : decode cX7_lengths 24 = .ok (.aload_n 0, 1) := by decide +kernel
theorem dX7_lengths_25 : decode cX7_lengths 25 = .ok (.invokevirtual 217, 3) := by decide +kernel
theorem dX7_lengths_28 : decode cX7_lengths 28 = .ok (.istore_n 2, 1) := by decide +kernel
theorem dX7_lengths_29 : decode cX7_lengths 29 = .ok (.aload_n 0, 1) := by decide +kernel
theorem dX7_lengths_30 : decode cX7_lengths 30 = .ok (.getfield 38, 3) := by decide +kernel
theorem dX7_lengths_33 : decode cX7_lengths 33 = .ok (.iload_n 2, 1) := by decide +kernel
theorem dX7_lengths_34 : decode cX7_lengths 34 = .ok (.iaload, 1) := by decide +kernel
theorem dX7_lengths_35 : decode cX7_lengths 35 = .ok (.istore_n 3, 1) := by decide +kernel
theorem dX7_lengths_36 : decode cX7_lengths 36 = .ok (.iload_n 3, 1) := by decide +kernel
theorem dX7_lengths_37 : decode cX7_lengths 37 = .ok (.bipush 60, 2) := by decide +kernel
theorem dX7_lengths_39 : decode cX7_lengths 39 = .ok (.if_icmp .le 6, 3) := by decide +kernel
theorem dX7_lengths_42 : decode cX7_lengths 42 = .ok (.bipush (-4), 2) := by decide +kernel
theorem dX7_lengths_44 : decode cX7_lengths 44 = .ok (.ireturn, 1) := by decide +kernel
theorem dX7_lengths_45 : decode cX7_lengths 45 = .ok (.iload_n 1, 1) := by decide +kernel
theorem dX7_lengths_46 : decode cX7_lengths 46 = .ok (.iconst (-1), 1) := by decide +kernel
theorem dX7_lengths_47 : decode cX7_lengths 47 = .ok (.if_icmp .eq 8, 3) := by decide +kernel
theorem dX7_lengths_50 : decode cX7_lengths 50 = .ok (.iload_n 1, 1) := by decide +kernel
theorem dX7_lengths_51 : decode cX7_lengths 51 = .ok (.iload_n 3, 1) := by decide +kernel
theorem dX7_lengths_52 : decode cX7_lengths 52 = .ok (.if_icmp .lt 15, 3) := by decide +kernel
theorem dX7_lengths_55 : decode cX7_lengths 55 = .ok (.iload_n 1, 1) := by decide +kernel
theorem dX7_lengths_56 : decode cX7_lengths 56 = .ok (.iconst (-1), 1) := by decide +kernel
theorem dX7_lengths_57 : decode cX7_lengths 57 = .ok (.if_icmp .ne 7, 3) := by decide +kernel
theorem dX7_lengths_60 : decode cX7_lengths 60 = .ok (.iload_n 3, 1) := by decide +kernel
theorem dX7_lengths_61 : decode cX7_lengths 61 = .ok (.goto 5, 3) := by decide +kernel
theorem dX7_lengths_64 : decode cX7_lengths 64 = .ok (.bipush (-4), 2) := by decide +kernel
theorem dX7_lengths_66 : decode cX7_lengths 66 = .ok (.ireturn, 1) := by decide +kernel
theorem dX7_lengths_67 : decode cX7_lengths 67 = .ok (.iconst (-1), 1) := by decide +kernel
theorem dX7_lengths_68 : decode cX7_lengths 68 = .ok (.istore 4, 2) := by decide +kernel
theorem dX7_lengths_70 : decode cX7_lengths 70 = .ok (.iconst 0, 1) := by decide +kernel
theorem dX7_lengths_71 : decode cX7_lengths 71 = .ok (.istore 5, 2) := by decide +kernel
theorem dX7_lengths_73 : decode cX7_lengths 73 = .ok (.iload 5, 2) := by decide +kernel
theorem dX7_lengths_75 : decode cX7_lengths 75 = .ok (.bipush 60, 2) := by decide +kernel
theorem dX7_lengths_77 : decode cX7_lengths 77 = .ok (.if_icmp .gt 76, 3) := by decide +kernel
theorem dX7_lengths_80 : decode cX7_lengths 80 = .ok (.aload_n 0, 1) := by decide +kernel
theorem dX7_lengths_81 : decode cX7_lengths 81 = .ok (.getfield 38, 3) := by decide +kernel
theorem dX7_lengths_84 : decode cX7_lengths 84 = .ok (.sipush 256, 3) := by decide +kernel
theorem dX7_lengths_87 : decode cX7_lengths 87 = .ok (.iload 5, 2) := by decide +kernel
theorem dX7_lengths_89 : decode cX7_lengths 89 = .ok (.imul, 1) := by decide +kernel
theorem dX7_lengths_90 : decode cX7_lengths 90 = .ok (.iload_n 2, 1) := by decide +kernel
theorem dX7_lengths_91 : decode cX7_lengths 91 = .ok (.iadd, 1) := by decide +kernel
theorem dX7_lengths_92 : decode cX7_lengths 92 = .ok (.iaload, 1) := by decide +kernel
theorem dX7_lengths_93 : decode cX7_lengths 93 = .ok (.iconst 1, 1) := by decide +kernel
theorem dX7_lengths_94 : decode cX7_lengths 94 = .ok (.aload_n 0, 1) := by decide +kernel
theorem dX7_lengths_95 : decode cX7_lengths 95 = .ok (.getfield 38, 3) := by decide +kernel
theorem dX7_lengths_98 : decode cX7_lengths 98 = .ok (.sipush 256, 3) := by decide +kernel
theorem dX7_lengths_101 : decode cX7_lengths 101 = .ok (.iload 5, 2) := by decide +kernel
theorem dX7_lengths_103 : decode cX7_lengths 103 = .ok (.iconst 1, 1) := by decide +kernel
theorem dX7_lengths_104 : decode cX7_lengths 104 = .ok (.iadd, 1) := by decide +kernel
theorem dX7_lengths_105 : decode cX7_lengths 105 = .ok (.imul, 1) := by decide +kernel
theorem dX7_lengths_106 : decode cX7_lengths 106 = .ok (.iload_n 2, 1) := by decide +kernel
theorem dX7_lengths_107 : decode cX7_lengths 107 = .ok (.aload_n 0, 1) := by decide +kernel
theorem dX7_lengths_108 : decode cX7_lengths 108 = .ok (.getfield 41, 3) := by decide +kernel
theorem dX7_lengths_111 : decode cX7_lengths 111 = .ok (.iload 5, 2) := by decide +kernel
theorem dX7_lengths_113 : decode cX7_lengths 113 = .ok (.iaload, 1) := by decide +kernel
theorem dX7_lengths_114 : decode cX7_lengths 114 = .ok (.iconst (-1), 1) := by decide +kernel
theorem dX7_lengths_115 : decode cX7_lengths 115 = .ok (.ixor, 1) := by decide +kernel
theorem dX7_lengths_116 : decode cX7_lengths 116 = .ok (.iand, 1) := by decide +kernel
theorem dX7_lengths_117 : decode cX7_lengths 117 = .ok (.iadd, 1) := by decide +kernel
theorem dX7_lengths_118 : decode cX7_lengths 118 = .ok (.iaload, 1) := by decide +kernel
theorem dX7_lengths_119 : decode cX7_lengths 119 = .ok (.iadd, 1) := by decide +kernel
theorem dX7_lengths_120 : decode cX7_lengths 120 = .ok (.if_icmp .ne 27, 3) := by decide +kernel
theorem dX7_lengths_123 : decode cX7_lengths 123 = .ok (.iinc 4 1, 3) := by decide +kernel
theorem dX7_lengths_126 : decode cX7_lengths 126 = .ok (.iload_n 2, 1) := by decide +kernel
theorem dX7_lengths_127 : decode cX7_lengths 127 = .ok (.aload_n 0, 1) := by decide +kernel
theorem dX7_lengths_128 : decode cX7_lengths 128 = .ok (.getfield 41, 3) := by decide +kernel
theorem dX7_lengths_131 : decode cX7_lengths 131 = .ok (.iload 5, 2) := by decide +kernel
theorem dX7_lengths_133 : decode cX7_lengths 133 = .ok (.iaload, 1) := by decide +kernel
theorem dX7_lengths_134 : decode cX7_lengths 134 = .ok (.iconst (-1), 1) := by decide +kernel
theorem dX7_lengths_135 : decode cX7_lengths 135 = .ok (.ixor, 1) := by decide +kernel
theorem dX7_lengths_136 : decode cX7_lengths 136 = .ok (.iand, 1) := by decide +kernel
theorem dX7_lengths_137 : decode cX7_lengths 137 = .ok (.istore_n 2, 1) := by decide +kernel
theorem dX7_lengths_138 : decode cX7_lengths 138 = .ok (.iload 4, 2) := by decide +kernel
theorem dX7_lengths_140 : decode cX7_lengths 140 = .ok (.iload_n 1, 1) := by decide +kernel
theorem dX7_lengths_141 : decode cX7_lengths 141 = .ok (.if_icmp .ne 6, 3) := by decide +kernel
theorem dX7_lengths_144 : decode cX7_lengths 144 = .ok (.iload 5, 2) := by decide +kernel
theorem dX7_lengths_146 : decode cX7_lengths 146 = .ok (.ireturn, 1) := by decide +kernel
theorem dX7_lengths_147 : decode cX7_lengths 147 = .ok (.iinc 5 1, 3) := by decide +kernel
theorem dX7_lengths_150 : decode cX7_lengths 150 = .ok (.goto (-77), 3) := by decide +kernel
theorem dX7_lengths_153 : decode cX7_lengths 153 = .ok (.bipush (-4), 2) := by decide +kernel
theorem dX7_lengths_155 : decode cX7_lengths 155 = .ok (.ireturn, 1) := by decide +kernel
theorem dX7_meeting_0 : decode cX7_meeting 0 = .ok (.iload_n 1, 1) := by decide +kernel
theorem dX7_meeting_1 : decode cX7_meeting 1 = .ok (.i2l, 1) := by decide +kernel
theorem dX7_meeting_2 : decode cX7_meeting 2 = .ok (.lconst 0, 1) := by decide +kernel
theorem dX7_meeting_3 : decode cX7_meeting 3 = .ok (.ldc2_w 226, 3) := by decide +kernel
theorem dX7_meeting_6 : decode cX7_meeting 6 = .ok (.invokestatic 50, 3) := by decide +kernel
theorem dX7_meeting_9 : decode cX7_meeting 9 = .ok (.ifCond .ne 5, 3) := by decide +kernel
theorem dX7_meeting_12 : decode cX7_meeting 12 = .ok (.iconst (-1), 1) := by decide +kernel
theorem dX7_meeting_13 : decode cX7_meeting 13 = .ok (.ireturn, 1) := by decide +kernel
theorem dX7_meeting_14 : decode cX7_meeting 14 = .ok (.bipush (-4), 2) := by decide +kernel
theorem dX7_meeting_16 : decode cX7_meeting 16 = .ok (.istore_n 2, 1) := by decide +kernel
theorem dX7_meeting_17 : decode cX7_meeting 17 = .ok (.bipush (-4), 2) := by decide +kernel
theorem dX7_meeting_19 : decode cX7_meeting 19 = .ok (.istore_n 3, 1) := by decide +kernel
theorem dX7_meeting_20 : decode cX7_meeting 20 = .ok (.iconst (-1), 1) := by decide +kernel
theorem dX7_meeting_21 : decode cX7_meeting 21 = .ok (.istore 4, 2) := by decide +kernel
theorem dX7_meeting_23 : decode cX7_meeting 23 = .ok (.iconst 0, 1) := by decide +kernel
theorem dX7_meeting_24 : decode cX7_meeting 24 = .ok (.istore 5, 2) := by decide +kernel
theorem dX7_meeting_26 : decode cX7_meeting 26 = .ok (.iload 5, 2) := by decide +kernel
theorem dX7_meeting_28 : decode cX7_meeting 28 = .ok (.bipush 24, 2) := by decide +kernel
theorem dX7_meeting_30 : decode cX7_meeting 30 = .ok (.if_icmp .ge 106, 3) := by decide +kernel
theorem dX7_meeting_33 : decode cX7_meeting 33 = .ok (.iconst 0, 1) := by decide +kernel
theorem dX7_meeting_34 : decode cX7_meeting 34 = .ok (.istore 6, 2) := by decide +kernel
theorem dX7_meeting_36 : decode cX7_meeting 36 = .ok (.iload 6, 2) := by decide +kernel
theorem dX7_meeting_38 : decode cX7_meeting 38 = .ok (.aload_n 0, 1) := by decide +kernel
theorem dX7_meeting_39 : decode cX7_meeting 39 = .ok (.getfield 7, 3) := by decide +kernel
theorem dX7_meeting_42 : decode cX7_meeting 42 = .ok (.bipush 62, 2) := by decide +kernel
theorem dX7_meeting_44 : decode cX7_meeting 44 = .ok (.iaload, 1) := by decide +kernel
theorem dX7_meeting_45 : decode cX7_meeting 45 = .ok (.if_icmp .ge 85, 3) := by decide +kernel
theorem dX7_meeting_48 : decode cX7_meeting 48 = .ok (.iconst 0, 1) := by decide +kernel
theorem dX7_meeting_49 : decode cX7_meeting 49 = .ok (.istore 7, 2) := by decide +kernel
theorem dX7_meeting_51 : decode cX7_meeting 51 = .ok (.iconst 0, 1) := by decide +kernel
theorem dX7_meeting_52 : decode cX7_meeting 52 = .ok (.istore 8, 2) := by decide +kernel
theorem dX7_meeting_54 : decode cX7_meeting 54 = .ok (.iload 8, 2) := by decide +kernel
theorem dX7_meeting_56 : decode cX7_meeting 56 = .ok (.aload_n 0, 1) := by decide +kernel
theorem dX7_meeting_57 : decode cX7_meeting 57 = .ok (.getfield 7, 3) := by decide +kernel
theorem dX7_meeting_60 : decode cX7_meeting 60 = .ok (.bipush 63, 2) := by decide +kernel
theorem dX7_meeting_62 : decode cX7_meeting 62 = .ok (.iaload, 1) := by decide +kernel
theorem dX7_meeting_63 : decode cX7_meeting 63 = .ok (.if_icmp .ge 32, 3) := by decide +kernel
theorem dX7_meeting_66 : decode cX7_meeting 66 = .ok (.iload 7, 2) := by decide +kernel
theorem dX7_meeting_68 : decode cX7_meeting 68 = .ok (.aload_n 0, 1) := by decide +kernel
theorem dX7_meeting_69 : decode cX7_meeting 69 = .ok (.iload 8, 2) := by decide +kernel
theorem dX7_meeting_71 : decode cX7_meeting 71 = .ok (.iload 6, 2) := by decide +kernel
theorem dX7_meeting_73 : decode cX7_meeting 73 = .ok (.iload 5, 2) := by decide +kernel
theorem dX7_meeting_75 : decode cX7_meeting 75 = .ok (.invokevirtual 167, 3) := by decide +kernel
theorem dX7_meeting_78 : decode cX7_meeting 78 = .ok (.ifCond .eq 7, 3) := by decide +kernel
theorem dX7_meeting_81 : decode cX7_meeting 81 = .ok (.iconst 1, 1) := by decide +kernel
theorem dX7_meeting_82 : decode cX7_meeting 82 = .ok (.goto 4, 3) := by decide +kernel
theorem dX7_meeting_85 : decode cX7_meeting 85 = .ok (.iconst 0, 1) := by decide +kernel
theorem dX7_meeting_86 : decode cX7_meeting 86 = .ok (.iadd, 1) := by decide +kernel
theorem dX7_meeting_87 : decode cX7_meeting 87 = .ok (.istore 7, 2) := by decide +kernel
theorem dX7_meeting_89 : decode cX7_meeting 89 = .ok (.iinc 8 1, 3) := by decide +kernel
theorem dX7_meeting_92 : decode cX7_meeting 92 = .ok (.goto (-38), 3) := by decide +kernel
theorem dX7_meeting_95 : decode cX7_meeting 95 = .ok (.aload_n 0, 1) := by decide +kernel
theorem dX7_meeting_96 : decode cX7_meeting 96 = .ok (.getfield 7, 3) := by decide +kernel
theorem dX7_meeting_99 : decode cX7_meeting 99 = .ok (.iconst 0, 1) := by decide +kernel
theorem dX7_meeting_100 : decode cX7_meeting 100 = .ok (.iload 6, 2) := by decide +kernel
theorem dX7_meeting_102 : decode cX7_meeting 102 = .ok (.iadd, 1) := by decide +kernel
theorem dX7_meeting_103 : decode cX7_meeting 103 = .ok (.iaload, 1) := by decide +kernel
theorem dX7_meeting_104 : decode cX7_meeting 104 = .ok (.ifCond .ge 20, 3) := by decide +kernel
theorem dX7_meeting_107 : decode cX7_meeting 107 = .ok (.iload 7, 2) := by decide +kernel
theorem dX7_meeting_109 : decode cX7_meeting 109 = .ok (.iload 4, 2) := by decide +kernel
theorem dX7_meeting_111 : decode cX7_meeting 111 = .ok (.if_icmp .le 13, 3) := by decide +kernel
theorem dX7_meeting_114 : decode cX7_meeting 114 = .ok (.iload 7, 2) := by decide +kernel
theorem dX7_meeting_116 : decode cX7_meeting 116 = .ok (.istore 4, 2) := by decide +kernel
theorem dX7_meeting_118 : decode cX7_meeting 118 = .ok (.iload 6, 2) := by decide +kernel
theorem dX7_meeting_120 : decode cX7_meeting 120 = .ok (.istore_n 2, 1) := by decide +kernel
theorem dX7_meeting_121 : decode cX7_meeting 121 = .ok (.iload 5, 2) := by decide +kernel
theorem dX7_meeting_123 : decode cX7_meeting 123 = .ok (.istore_n 3, 1) := by decide +kernel
theorem dX7_meeting_124 : decode cX7_meeting 124 = .ok (.iinc 6 1, 3) := by decide +kernel
theorem dX7_meeting_127 : decode cX7_meeting 127 = .ok (.goto (-91), 3) := by decide +kernel
theorem dX7_meeting_130 : decode cX7_meeting 130 = .ok (.iinc 5 1, 3) := by decide +kernel
theorem dX7_meeting_133 : decode cX7_meeting 133 = .ok (.goto (-107), 3) := by decide +kernel
theorem dX7_meeting_136 : decode cX7_meeting 136 = .ok (.iload 4, 2) := by decide +kernel
theorem dX7_meeting_138 : decode cX7_meeting 138 = .ok (.ifCond .ge 8, 3) := by decide +kernel
theorem dX7_meeting_141 : decode cX7_meeting 141 = .ok (.bipush (-4), 2) := by decide +kernel
theorem dX7_meeting_143 : decode cX7_meeting 143 = .ok (.goto 22, 3) := by decide +kernel
theorem dX7_meeting_146 : decode cX7_meeting 146 = .ok (.iload_n 1, 1) := by decide +kernel
theorem dX7_meeting_147 : decode cX7_meeting 147 = .ok (.ifCond .ne 7, 3) := by decide +kernel
theorem dX7_meeting_150 : decode cX7_meeting 150 = .ok (.iload_n 2, 1) := by decide +kernel
theorem dX7_meeting_151 : decode cX7_meeting 151 = .ok (.goto 14, 3) := by decide +kernel
theorem dX7_meeting_154 : decode cX7_meeting 154 = .ok (.iload_n 1, 1) := by decide +kernel
theorem dX7_meeting_155 : decode cX7_meeting 155 = .ok (.iconst 1, 1) := by decide +kernel
theorem dX7_meeting_156 : decode cX7_meeting 156 = .ok (.if_icmp .ne 7, 3) := by decide +kernel
theorem dX7_meeting_159 : decode cX7_meeting 159 = .ok (.iload_n 3, 1) := by decide +kernel
theorem dX7_meeting_160 : decode cX7_meeting 160 = .ok (.goto 5, 3) := by decide +kernel
theorem dX7_meeting_163 : decode cX7_meeting 163 = .ok (.iload 4, 2) := by decide +kernel
theorem dX7_meeting_165 : decode cX7_meeting 165 = .ok (.ireturn, 1) := by decide +kernel
theorem dX7_pairs_0 : decode cX7_pairs 0 = .ok (.iload_n 1, 1) := by decide +kernel
theorem dX7_pairs_1 : decode cX7_pairs 1 = .ok (.i2l, 1) := by decide +kernel
theorem dX7_pairs_2 : decode cX7_pairs 2 = .ok (.lconst 0, 1) := by decide +kernel
theorem dX7_pairs_3 : decode cX7_pairs 3 = .ok (.ldc2_w 58, 3) := by decide +kernel
theorem dX7_pairs_6 : decode cX7_pairs 6 = .ok (.invokestatic 50, 3) := by decide +kernel
theorem dX7_pairs_9 : decode cX7_pairs 9 = .ok (.ifCond .ne 5, 3) := by decide +kernel
theorem dX7_pairs_12 : decode cX7_pairs 12 = .ok (.iconst (-1), 1) := by decide +kernel
theorem dX7_pairs_13 : decode cX7_pairs 13 = .ok (.ireturn, 1) := by decide +kernel
theorem dX7_pairs_14 : decode cX7_pairs 14 = .ok (.iconst 1, 1) := by decide +kernel
theorem dX7_pairs_15 : decode cX7_pairs 15 = .ok (.aload_n 0, 1) := by decide +kernel
theorem dX7_pairs_16 : decode cX7_pairs 16 = .ok (.getfield 7, 3) := by decide +kernel
theorem dX7_pairs_19 : decode cX7_pairs 19 = .ok (.bipush 63, 2) := by decide +kernel
theorem dX7_pairs_21 : decode cX7_pairs 21 = .ok (.iaload, 1) := by decide +kernel
theorem dX7_pairs_22 : decode cX7_pairs 22 = .ok (.ishl, 1) := by decide +kernel
theorem dX7_pairs_23 : decode cX7_pairs 23 = .ok (.istore_n 2, 1) := by decide +kernel
theorem dX7_pairs_24 : decode cX7_pairs 24 = .ok (.iconst 0, 1) := by decide +kernel
theorem dX7_pairs_25 : decode cX7_pairs 25 = .ok (.istore_n 3, 1) := by decide +kernel
theorem dX7_pairs_26 : decode cX7_pairs 26 = .ok (.iload_n 3, 1) := by decide +kernel
theorem dX7_pairs_27 : decode cX7_pairs 27 = .ok (.iload_n 2, 1) := by decide +kernel
theorem dX7_pairs_28 : decode cX7_pairs 28 = .ok (.if_icmp .ge 216, 3) := by decide +kernel
theorem dX7_pairs_31 : decode cX7_pairs 31 = .ok (.aload_n 0, 1) := by decide +kernel
theorem dX7_pairs_32 : decode cX7_pairs 32 = .ok (.getfield 44, 3) := by decide +kernel
theorem dX7_pairs_35 : decode cX7_pairs 35 = .ok (.iload_n 3, 1) := by decide +kernel
theorem dX7_pairs_36 : decode cX7_pairs 36 = .ok (.iconst 0, 1) := by decide +kernel
theorem dX7_pairs_37 : decode cX7_pairs 37 = .ok (.iastore, 1) := by decide +kernel
theorem dX7_pairs_38 : decode cX7_pairs 38 = .ok (.iconst 0, 1) := by decide +kernel
theorem dX7_pairs_39 : decode cX7_pairs 39 = .ok (.istore 4, 2) := by decide +kernel
theorem dX7_pairs_41 : decode cX7_pairs 41 = .ok (.iload 4, 2) := by decide +kernel
theorem dX7_pairs_43 : decode cX7_pairs 43 = .ok (.aload_n 0, 1) := by decide +kernel
theorem dX7_pairs_44 : decode cX7_pairs 44 = .ok (.getfield 7, 3) := by decide +kernel
theorem dX7_pairs_47 : decode cX7_pairs 47 = .ok (.bipush 63, 2) := by decide +kernel
theorem dX7_pairs_49 : decode cX7_pairs 49 = .ok (.iaload, 1) := by decide +kernel
theorem dX7_pairs_50 : decode cX7_pairs 50 = .ok (.if_icmp .ge 116, 3) := by decide +kernel
theorem dX7_pairs_53 : decode cX7_pairs 53 = .ok (.iconst 0, 1) := by decide +kernel
theorem dX7_pairs_54 : decode cX7_pairs 54 = .ok (.istore 5, 2) := by decide +kernel
theorem dX7_pairs_56 : decode cX7_pairs 56 = .ok (.iload 5, 2) := by decide +kernel
theorem dX7_pairs_58 : decode cX7_pairs 58 = .ok (.iload 4, 2) := by decide +kernel
theorem dX7_pairs_60 : decode cX7_pairs 60 = .ok (.if_icmp .ge 100, 3) := by decide +kernel
theorem dX7_pairs_63 : decode cX7_pairs 63 = .ok (.iconst 1, 1) := by decide +kernel
theorem dX7_pairs_64 : decode cX7_pairs 64 = .ok (.iload 4, 2) := by decide +kernel
theorem dX7_pairs_66 : decode cX7_pairs 66 = .ok (.ishl, 1) := by decide +kernel
theorem dX7_pairs_67 : decode cX7_pairs 67 = .ok (.iconst 1, 1) := by decide +kernel
theorem dX7_pairs_68 : decode cX7_pairs 68 = .ok (.iload 5, 2) := by decide +kernel
theorem dX7_pairs_70 : decode cX7_pairs 70 = .ok (.ishl, 1) := by decide +kernel
theorem dX7_pairs_71 : decode cX7_pairs 71 = .ok (.ior, 1) := by decide +kernel
theorem dX7_pairs_72 : decode cX7_pairs 72 = .ok (.istore 6, 2) := by decide +kernel
theorem dX7_pairs_74 : decode cX7_pairs 74 = .ok (.aload_n 0, 1) := by decide +kernel
theorem dX7_pairs_75 : decode cX7_pairs 75 = .ok (.iload 4, 2) := by decide +kernel
theorem dX7_pairs_77 : decode cX7_pairs 77 = .ok (.iconst 2, 1) := by decide +kernel
theorem dX7_pairs_78 : decode cX7_pairs 78 = .ok (.invokevirtual 228, 3) := by decide +kernel
theorem dX7_pairs_81 : decode cX7_pairs 81 = .ok (.aload_n 0, 1) := by decide +kernel
theorem dX7_pairs_82 : decode cX7_pairs 82 = .ok (.iload 5, 2) := by decide +kernel
theorem dX7_pairs_84 : decode cX7_pairs 84 = .ok (.iconst 2, 1) := by decide +kernel
theorem dX7_pairs_85 : decode cX7_pairs 85 = .ok (.invokevirtual 228, 3) := by decide +kernel
theorem dX7_pairs_88 : decode cX7_pairs 88 = .ok (.isub, 1) := by decide +kernel
theorem dX7_pairs_89 : decode cX7_pairs 89 = .ok (.istore 7, 2) := by decide +kernel
theorem dX7_pairs_91 : decode cX7_pairs 91 = .ok (.iload_n 3, 1) := by decide +kernel
theorem dX7_pairs_92 : decode cX7_pairs 92 = .ok (.iload 6, 2) := by decide +kernel
theorem dX7_pairs_94 : decode cX7_pairs 94 = .ok (.iand, 1) := by decide +kernel
theorem dX7_pairs_95 : decode cX7_pairs 95 = .ok (.iload 6, 2) := by decide +kernel
theorem dX7_pairs_97 : decode cX7_pairs 97 = .ok (.if_icmp .ne 57, 3) := by decide +kernel
theorem dX7_pairs_100 : decode cX7_pairs 100 = .ok (.iload 7, 2) := by decide +kernel
theorem dX7_pairs_102 : decode cX7_pairs 102 = .ok (.iload_n 1, 1) := by decide +kernel
theorem dX7_pairs_103 : decode cX7_pairs 103 = .ok (.if_icmp .gt 51, 3) := by decide +kernel
theorem dX7_pairs_106 : decode cX7_pairs 106 = .ok (.iload 7, 2) := by decide +kernel
theorem dX7_pairs_108 : decode cX7_pairs 108 = .ok (.ineg, 1) := by decide +kernel
theorem dX7_pairs_109 : decode cX7_pairs 109 = .ok (.iload_n 1, 1) := by decide +kernel
theorem dX7_pairs_110 : decode cX7_pairs 110 = .ok (.if_icmp .gt 44, 3) := by decide +kernel
theorem dX7_pairs_113 : decode cX7_pairs 113 = .ok (.aload_n 0, 1) := by decide +kernel
theorem dX7_pairs_114 : decode cX7_pairs 114 = .ok (.getfield 44, 3) := by decide +kernel
theorem dX7_pairs_117 : decode cX7_pairs 117 = .ok (.iload_n 3, 1) := by decide +kernel
theorem dX7_pairs_118 : decode cX7_pairs 118 = .ok (.iload 6, 2) := by decide +kernel
theorem dX7_pairs_120 : decode cX7_pairs 120 = .ok (.iconst (-1), 1) := by decide +kernel
theorem dX7_pairs_121 : decode cX7_pairs 121 = .ok (.ixor, 1) := by decide +kernel
theorem dX7_pairs_122 : decode cX7_pairs 122 = .ok (.iand, 1) := by decide +kernel
theorem dX7_pairs_123 : decode cX7_pairs 123 = .ok (.iaload, 1) := by decide +kernel
theorem dX7_pairs_124 : decode cX7_pairs 124 = .ok (.iconst 1, 1) := by decide +kernel
theorem dX7_pairs_125 : decode cX7_pairs 125 = .ok (.iadd, 1) := by decide +kernel
theorem dX7_pairs_126 : decode cX7_pairs 126 = .ok (.aload_n 0, 1) := by decide +kernel
theorem dX7_pairs_127 : decode cX7_pairs 127 = .ok (.getfield 44, 3) := by decide +kernel
theorem dX7_pairs_130 : decode cX7_pairs 130 = .ok (.iload_n 3, 1) := by decide +kernel
theorem dX7_pairs_131 : decode cX7_pairs 131 = .ok (.iaload, 1) := by decide +kernel
theorem dX7_pairs_132 : decode cX7_pairs 132 = .ok (.if_icmp .le 22, 3) := by decide +kernel
theorem dX7_pairs_135 : decode cX7_pairs 135 = .ok (.aload_n 0, 1) := by decide +kernel
theorem dX7_pairs_136 : decode cX7_pairs 136 = .ok (.getfield 44, 3) := by decide +kernel
theorem dX7_pairs_139 : decode cX7_pairs 139 = .ok (.iload_n 3, 1) := by decide +kernel
theorem dX7_pairs_140 : decode cX7_pairs 140 = .ok (.aload_n 0, 1) := by decide +kernel
theorem dX7_pairs_141 : decode cX7_pairs 141 = .ok (.getfield 44, 3) := by decide +kernel
theorem dX7_pairs_144 : decode cX7_pairs 144 = .ok (.iload_n 3, 1) := by decide +kernel
theorem dX7_pairs_145 : decode cX7_pairs 145 = .ok (.iload 6, 2) := by decide +kernel
theorem dX7_pairs_147 : decode cX7_pairs 147 = .ok (.iconst (-1), 1) := by decide +kernel
theorem dX7_pairs_148 : decode cX7_pairs 148 = .ok (.ixor, 1) := by decide +kernel
theorem dX7_pairs_149 : decode cX7_pairs 149 = .ok (.iand, 1) := by decide +kernel
theorem dX7_pairs_150 : decode cX7_pairs 150 = .ok (.iaload, 1) := by decide +kernel
theorem dX7_pairs_151 : decode cX7_pairs 151 = .ok (.iconst 1, 1) := by decide +kernel
theorem dX7_pairs_152 : decode cX7_pairs 152 = .ok (.iadd, 1) := by decide +kernel
theorem dX7_pairs_153 : decode cX7_pairs 153 = .ok (.iastore, 1) := by decide +kernel
theorem dX7_pairs_154 : decode cX7_pairs 154 = .ok (.iinc 5 1, 3) := by decide +kernel
theorem dX7_pairs_157 : decode cX7_pairs 157 = .ok (.goto (-101), 3) := by decide +kernel
theorem dX7_pairs_160 : decode cX7_pairs 160 = .ok (.iinc 4 1, 3) := by decide +kernel
theorem dX7_pairs_163 : decode cX7_pairs 163 = .ok (.goto (-122), 3) := by decide +kernel
theorem dX7_pairs_166 : decode cX7_pairs 166 = .ok (.iconst 0, 1) := by decide +kernel
theorem dX7_pairs_167 : decode cX7_pairs 167 = .ok (.istore 4, 2) := by decide +kernel
theorem dX7_pairs_169 : decode cX7_pairs 169 = .ok (.iload 4, 2) := by decide +kernel
theorem dX7_pairs_171 : decode cX7_pairs 171 = .ok (.aload_n 0, 1) := by decide +kernel
theorem dX7_pairs_172 : decode cX7_pairs 172 = .ok (.getfield 7, 3) := by decide +kernel
theorem dX7_pairs_175 : decode cX7_pairs 175 = .ok (.bipush 63, 2) := by decide +kernel
theorem dX7_pairs_177 : decode cX7_pairs 177 = .ok (.iaload, 1) := by decide +kernel
theorem dX7_pairs_178 : decode cX7_pairs 178 = .ok (.if_icmp .ge 60, 3) := by decide +kernel
theorem dX7_pairs_181 : decode cX7_pairs 181 = .ok (.iload_n 3, 1) := by decide +kernel
theorem dX7_pairs_182 : decode cX7_pairs 182 = .ok (.iload 4, 2) := by decide +kernel
theorem dX7_pairs_184 : decode cX7_pairs 184 = .ok (.ishr, 1) := by decide +kernel
theorem dX7_pairs_185 : decode cX7_pairs 185 = .ok (.iconst 1, 1) := by decide +kernel
theorem dX7_pairs_186 : decode cX7_pairs 186 = .ok (.iand, 1) := by decide +kernel
theorem dX7_pairs_187 : decode cX7_pairs 187 = .ok (.iconst 1, 1) := by decide +kernel
theorem dX7_pairs_188 : decode cX7_pairs 188 = .ok (.if_icmp .ne 44, 3) := by decide +kernel
theorem dX7_pairs_191 : decode cX7_pairs 191 = .ok (.aload_n 0, 1) := by decide +kernel
theorem dX7_pairs_192 : decode cX7_pairs 192 = .ok (.getfield 44, 3) := by decide +kernel
theorem dX7_pairs_195 : decode cX7_pairs 195 = .ok (.iload_n 3, 1) := by decide +kernel
theorem dX7_pairs_196 : decode cX7_pairs 196 = .ok (.iconst 1, 1) := by decide +kernel
theorem dX7_pairs_197 : decode cX7_pairs 197 = .ok (.iload 4, 2) := by decide +kernel
theorem dX7_pairs_199 : decode cX7_pairs 199 = .ok (.ishl, 1) := by decide +kernel
theorem dX7_pairs_200 : decode cX7_pairs 200 = .ok (.iconst (-1), 1) := by decide +kernel
theorem dX7_pairs_201 : decode cX7_pairs 201 = .ok (.ixor, 1) := by decide +kernel
theorem dX7_pairs_202 : decode cX7_pairs 202 = .ok (.iand, 1) := by decide +kernel
theorem dX7_pairs_203 : decode cX7_pairs 203 = .ok (.iaload, 1) := by decide +kernel
theorem dX7_pairs_204 : decode cX7_pairs 204 = .ok (.aload_n 0, 1) := by decide +kernel
theorem dX7_pairs_205 : decode cX7_pairs 205 = .ok (.getfield 44, 3) := by decide +kernel
theorem dX7_pairs_208 : decode cX7_pairs 208 = .ok (.iload_n 3, 1) := by decide +kernel
theorem dX7_pairs_209 : decode cX7_pairs 209 = .ok (.iaload, 1) := by decide +kernel
theorem dX7_pairs_210 : decode cX7_pairs 210 = .ok (.if_icmp .le 22, 3) := by decide +kernel
theorem dX7_pairs_213 : decode cX7_pairs 213 = .ok (.aload_n 0, 1) := by decide +kernel
theorem dX7_pairs_214 : decode cX7_pairs 214 = .ok (.getfield 44, 3) := by decide +kernel
theorem dX7_pairs_217 : decode cX7_pairs 217 = .ok (.iload_n 3, 1) := by decide +kernel
theorem dX7_pairs_218 : decode cX7_pairs 218 = .ok (.aload_n 0, 1) := by decide +kernel
theorem dX7_pairs_219 : decode cX7_pairs 219 = .ok (.getfield 44, 3) := by decide +kernel
theorem dX7_pairs_222 : decode cX7_pairs 222 = .ok (.iload_n 3, 1) := by decide +kernel
theorem dX7_pairs_223 : decode cX7_pairs 223 = .ok (.iconst 1, 1) := by decide +kernel
theorem dX7_pairs_224 : decode cX7_pairs 224 = .ok (.iload 4, 2) := by decide +kernel
theorem dX7_pairs_226 : decode cX7_pairs 226 = .ok (.ishl, 1) := by decide +kernel
theorem dX7_pairs_227 : decode cX7_pairs 227 = .ok (.iconst (-1), 1) := by decide +kernel
theorem dX7_pairs_228 : decode cX7_pairs 228 = .ok (.ixor, 1) := by decide +kernel
theorem dX7_pairs_229 : decode cX7_pairs 229 = .ok (.iand, 1) := by decide +kernel
theorem dX7_pairs_230 : decode cX7_pairs 230 = .ok (.iaload, 1) := by decide +kernel
theorem dX7_pairs_231 : decode cX7_pairs 231 = .ok (.iastore, 1) := by decide +kernel
theorem dX7_pairs_232 : decode cX7_pairs 232 = .ok (.iinc 4 1, 3) := by decide +kernel
theorem dX7_pairs_235 : decode cX7_pairs 235 = .ok (.goto (-66), 3) := by decide +kernel
theorem dX7_pairs_238 : decode cX7_pairs 238 = .ok (.iinc 3 1, 3) := by decide +kernel
theorem dX7_pairs_241 : decode cX7_pairs 241 = .ok (.goto (-215), 3) := by decide +kernel
theorem dX7_pairs_244 : decode cX7_pairs 244 = .ok (.aload_n 0, 1) := by decide +kernel
theorem dX7_pairs_245 : decode cX7_pairs 245 = .ok (.getfield 44, 3) := by decide +kernel
theorem dX7_pairs_248 : decode cX7_pairs 248 = .ok (.iload_n 2, 1) := by decide +kernel
theorem dX7_pairs_249 : decode cX7_pairs 249 = .ok (.iconst 1, 1) := by decide +kernel
theorem dX7_pairs_250 : decode cX7_pairs 250 = .ok (.isub, 1) := by decide +kernel
theorem dX7_pairs_251 : decode cX7_pairs 251 = .ok (.iaload, 1) := by decide +kernel
theorem dX7_pairs_252 : decode cX7_pairs 252 = .ok (.ireturn, 1) := by decide +kernel
theorem dX7_isDry_0 : decode cX7_isDry 0 = .ok (.iconst 0, 1) := by decide +kernel
theorem dX7_isDry_1 : decode cX7_isDry 1 = .ok (.istore 4, 2) := by decide +kernel
theorem dX7_isDry_3 : decode cX7_isDry 3 = .ok (.iload 4, 2) := by decide +kernel
theorem dX7_isDry_5 : decode cX7_isDry 5 = .ok (.bipush 24, 2) := by decide +kernel
theorem dX7_isDry_7 : decode cX7_isDry 7 = .ok (.if_icmp .ge 58, 3) := by decide +kernel
theorem dX7_isDry_10 : decode cX7_isDry 10 = .ok (.aload_n 0, 1) := by decide +kernel
theorem dX7_isDry_11 : decode cX7_isDry 11 = .ok (.aload_n 0, 1) := by decide +kernel
theorem dX7_isDry_12 : decode cX7_isDry 12 = .ok (.getfield 7, 3) := by decide +kernel
theorem dX7_isDry_15 : decode cX7_isDry 15 = .ok (.bipush 66, 2) := by decide +kernel
theorem dX7_isDry_17 : decode cX7_isDry 17 = .ok (.iload_n 1, 1) := by decide +kernel
theorem dX7_isDry_18 : decode cX7_isDry 18 = .ok (.iadd, 1) := by decide +kernel
theorem dX7_isDry_19 : decode cX7_isDry 19 = .ok (.iaload, 1) := by decide +kernel
theorem dX7_isDry_20 : decode cX7_isDry 20 = .ok (.iload_n 2, 1) := by decide +kernel
theorem dX7_isDry_21 : decode cX7_isDry 21 = .ok (.aload_n 0, 1) := by decide +kernel
theorem dX7_isDry_22 : decode cX7_isDry 22 = .ok (.getfield 7, 3) := by decide +kernel
theorem dX7_isDry_25 : decode cX7_isDry 25 = .ok (.bipush 65, 2) := by decide +kernel
theorem dX7_isDry_27 : decode cX7_isDry 27 = .ok (.iaload, 1) := by decide +kernel
theorem dX7_isDry_28 : decode cX7_isDry 28 = .ok (.aload_n 0, 1) := by decide +kernel
theorem dX7_isDry_29 : decode cX7_isDry 29 = .ok (.aload_n 0, 1) := by decide +kernel
theorem dX7_isDry_30 : decode cX7_isDry 30 = .ok (.getfield 7, 3) := by decide +kernel
theorem dX7_isDry_33 : decode cX7_isDry 33 = .ok (.iconst 0, 1) := by decide +kernel
theorem dX7_isDry_34 : decode cX7_isDry 34 = .ok (.aload_n 0, 1) := by decide +kernel
theorem dX7_isDry_35 : decode cX7_isDry 35 = .ok (.getfield 7, 3) := by decide +kernel
theorem dX7_isDry_38 : decode cX7_isDry 38 = .ok (.bipush 82, 2) := by decide +kernel
theorem dX7_isDry_40 : decode cX7_isDry 40 = .ok (.iload_n 1, 1) := by decide +kernel
theorem dX7_isDry_41 : decode cX7_isDry 41 = .ok (.iadd, 1) := by decide +kernel
theorem dX7_isDry_42 : decode cX7_isDry 42 = .ok (.iaload, 1) := by decide +kernel
theorem dX7_isDry_43 : decode cX7_isDry 43 = .ok (.iadd, 1) := by decide +kernel
theorem dX7_isDry_44 : decode cX7_isDry 44 = .ok (.iaload, 1) := by decide +kernel
theorem dX7_isDry_45 : decode cX7_isDry 45 = .ok (.iload 4, 2) := by decide +kernel
theorem dX7_isDry_47 : decode cX7_isDry 47 = .ok (.iload_n 3, 1) := by decide +kernel
theorem dX7_isDry_48 : decode cX7_isDry 48 = .ok (.invokevirtual 157, 3) := by decide +kernel
theorem dX7_isDry_51 : decode cX7_isDry 51 = .ok (.invokevirtual 160, 3) := by decide +kernel
theorem dX7_isDry_54 : decode cX7_isDry 54 = .ok (.ifCond .ne 5, 3) := by decide +kernel
theorem dX7_isDry_57 : decode cX7_isDry 57 = .ok (.iconst 0, 1) := by decide +kernel
theorem dX7_isDry_58 : decode cX7_isDry 58 = .ok (.ireturn, 1) := by decide +kernel
theorem dX7_isDry_59 : decode cX7_isDry 59 = .ok (.iinc 4 1, 3) := by decide +kernel
theorem dX7_isDry_62 : decode cX7_isDry 62 = .ok (.goto (-59), 3) := by decide +kernel
theorem dX7_isDry_65 : decode cX7_isDry 65 = .ok (.iconst 1, 1) := by decide +kernel
theorem dX7_isDry_66 : decode cX7_isDry 66 = .ok (.ireturn, 1) := by decide +kernel
theorem dX7_dry_0 : decode cX7_dry 0 = .ok (.aload_n 0, 1) := by decide +kernel
theorem dX7_dry_1 : decode cX7_dry 1 = .ok (.iload_n 1, 1) := by decide +kernel
theorem dX7_dry_2 : decode cX7_dry 2 = .ok (.aload_n 0, 1) := by decide +kernel
theorem dX7_dry_3 : decode cX7_dry 3 = .ok (.getfield 7, 3) := by decide +kernel
theorem dX7_dry_6 : decode cX7_dry 6 = .ok (.bipush 74, 2) := by decide +kernel
theorem dX7_dry_8 : decode cX7_dry 8 = .ok (.iload_n 2, 1) := by decide +kernel
theorem dX7_dry_9 : decode cX7_dry 9 = .ok (.iadd, 1) := by decide +kernel
theorem dX7_dry_10 : decode cX7_dry 10 = .ok (.iaload, 1) := by decide +kernel
theorem dX7_dry_11 : decode cX7_dry 11 = .ok (.iload_n 3, 1) := by decide +kernel
theorem dX7_dry_12 : decode cX7_dry 12 = .ok (.invokevirtual 231, 3) := by decide +kernel
theorem dX7_dry_15 : decode cX7_dry 15 = .ok (.ifCond .eq 7, 3) := by decide +kernel
theorem dX7_dry_18 : decode cX7_dry 18 = .ok (.iconst 1, 1) := by decide +kernel
theorem dX7_dry_19 : decode cX7_dry 19 = .ok (.goto 4, 3) := by decide +kernel
theorem dX7_dry_22 : decode cX7_dry 22 = .ok (.iconst 0, 1) := by decide +kernel
theorem dX7_dry_23 : decode cX7_dry 23 = .ok (.ireturn, 1) := by decide +kernel
theorem dX7_share_0 : decode cX7_share 0 = .ok (.aload_n 0, 1) := by decide +kernel
theorem dX7_share_1 : decode cX7_share 1 = .ok (.getfield 7, 3) := by decide +kernel
theorem dX7_share_4 : decode cX7_share 4 = .ok (.bipush 63, 2) := by decide +kernel
theorem dX7_share_6 : decode cX7_share 6 = .ok (.iaload, 1) := by decide +kernel
theorem dX7_share_7 : decode cX7_share 7 = .ok (.istore_n 2, 1) := by decide +kernel
theorem dX7_share_8 : decode cX7_share 8 = .ok (.iconst 0, 1) := by decide +kernel
theorem dX7_share_9 : decode cX7_share 9 = .ok (.istore_n 3, 1) := by decide +kernel
theorem dX7_share_10 : decode cX7_share 10 = .ok (.iload_n 3, 1) := by decide +kernel
theorem dX7_share_11 : decode cX7_share 11 = .ok (.iconst 1, 1) := by decide +kernel
theorem dX7_share_12 : decode cX7_share 12 = .ok (.iload_n 2, 1) := by decide +kernel
theorem dX7_share_13 : decode cX7_share 13 = .ok (.ishl, 1) := by decide +kernel
theorem dX7_share_14 : decode cX7_share 14 = .ok (.if_icmp .ge 110, 3) := by decide +kernel
theorem dX7_share_17 : decode cX7_share 17 = .ok (.aload_n 0, 1) := by decide +kernel
theorem dX7_share_18 : decode cX7_share 18 = .ok (.getfield 44, 3) := by decide +kernel
theorem dX7_share_21 : decode cX7_share 21 = .ok (.iload_n 3, 1) := by decide +kernel
theorem dX7_share_22 : decode cX7_share 22 = .ok (.iload_n 3, 1) := by decide +kernel
theorem dX7_share_23 : decode cX7_share 23 = .ok (.ifCond .ne 7, 3) := by decide +kernel
theorem dX7_share_26 : decode cX7_share 26 = .ok (.iconst 0, 1) := by decide +kernel
theorem dX7_share_27 : decode cX7_share 27 = .ok (.goto 4, 3) := by decide +kernel
theorem dX7_share_30 : decode cX7_share 30 = .ok (.iconst (-1), 1) := by decide +kernel
theorem dX7_share_31 : decode cX7_share 31 = .ok (.iastore, 1) := by decide +kernel
theorem dX7_share_32 : decode cX7_share 32 = .ok (.iload_n 2, 1) := by decide +kernel
theorem dX7_share_33 : decode cX7_share 33 = .ok (.iload_n 3, 1) := by decide +kernel
theorem dX7_share_34 : decode cX7_share 34 = .ok (.invokestatic 195, 3) := by decide +kernel
theorem dX7_share_37 : decode cX7_share 37 = .ok (.isub, 1) := by decide +kernel
theorem dX7_share_38 : decode cX7_share 38 = .ok (.istore 4, 2) := by decide +kernel
theorem dX7_share_40 : decode cX7_share 40 = .ok (.iconst 0, 1) := by decide +kernel
theorem dX7_share_41 : decode cX7_share 41 = .ok (.istore 5, 2) := by decide +kernel
theorem dX7_share_43 : decode cX7_share 43 = .ok (.iload 5, 2) := by decide +kernel
theorem dX7_share_45 : decode cX7_share 45 = .ok (.iload_n 2, 1) := by decide +kernel
theorem dX7_share_46 : decode cX7_share 46 = .ok (.if_icmp .ge 72, 3) := by decide +kernel
theorem dX7_share_49 : decode cX7_share 49 = .ok (.iload_n 3, 1) := by decide +kernel
theorem dX7_share_50 : decode cX7_share 50 = .ok (.iload 5, 2) := by decide +kernel
theorem dX7_share_52 : decode cX7_share 52 = .ok (.ishr, 1) := by decide +kernel
theorem dX7_share_53 : decode cX7_share 53 = .ok (.iconst 1, 1) := by decide +kernel
theorem dX7_share_54 : decode cX7_share 54 = .ok (.iand, 1) := by decide +kernel
theorem dX7_share_55 : decode cX7_share 55 = .ok (.iconst 1, 1) := by decide +kernel
theorem dX7_share_56 : decode cX7_share 56 = .ok (.if_icmp .ne 56, 3) := by decide +kernel
theorem dX7_share_59 : decode cX7_share 59 = .ok (.aload_n 0, 1) := by decide +kernel
theorem dX7_share_60 : decode cX7_share 60 = .ok (.getfield 44, 3) := by decide +kernel
theorem dX7_share_63 : decode cX7_share 63 = .ok (.iload_n 3, 1) := by decide +kernel
theorem dX7_share_64 : decode cX7_share 64 = .ok (.iconst 1, 1) := by decide +kernel
theorem dX7_share_65 : decode cX7_share 65 = .ok (.iload 5, 2) := by decide +kernel
theorem dX7_share_67 : decode cX7_share 67 = .ok (.ishl, 1) := by decide +kernel
theorem dX7_share_68 : decode cX7_share 68 = .ok (.iconst (-1), 1) := by decide +kernel
theorem dX7_share_69 : decode cX7_share 69 = .ok (.ixor, 1) := by decide +kernel
theorem dX7_share_70 : decode cX7_share 70 = .ok (.iand, 1) := by decide +kernel
theorem dX7_share_71 : decode cX7_share 71 = .ok (.iaload, 1) := by decide +kernel
theorem dX7_share_72 : decode cX7_share 72 = .ok (.aload_n 0, 1) := by decide +kernel
theorem dX7_share_73 : decode cX7_share 73 = .ok (.iload 4, 2) := by decide +kernel
theorem dX7_share_75 : decode cX7_share 75 = .ok (.iload 5, 2) := by decide +kernel
theorem dX7_share_77 : decode cX7_share 77 = .ok (.iload_n 1, 1) := by decide +kernel
theorem dX7_share_78 : decode cX7_share 78 = .ok (.invokevirtual 234, 3) := by decide +kernel
theorem dX7_share_81 : decode cX7_share 81 = .ok (.iadd, 1) := by decide +kernel
theorem dX7_share_82 : decode cX7_share 82 = .ok (.istore 6, 2) := by decide +kernel
theorem dX7_share_84 : decode cX7_share 84 = .ok (.aload_n 0, 1) := by decide +kernel
theorem dX7_share_85 : decode cX7_share 85 = .ok (.getfield 44, 3) := by decide +kernel
theorem dX7_share_88 : decode cX7_share 88 = .ok (.iload_n 3, 1) := by decide +kernel
theorem dX7_share_89 : decode cX7_share 89 = .ok (.iload 6, 2) := by decide +kernel
theorem dX7_share_91 : decode cX7_share 91 = .ok (.aload_n 0, 1) := by decide +kernel
theorem dX7_share_92 : decode cX7_share 92 = .ok (.getfield 44, 3) := by decide +kernel
theorem dX7_share_95 : decode cX7_share 95 = .ok (.iload_n 3, 1) := by decide +kernel
theorem dX7_share_96 : decode cX7_share 96 = .ok (.iaload, 1) := by decide +kernel
theorem dX7_share_97 : decode cX7_share 97 = .ok (.if_icmp .le 8, 3) := by decide +kernel
theorem dX7_share_100 : decode cX7_share 100 = .ok (.iload 6, 2) := by decide +kernel
theorem dX7_share_102 : decode cX7_share 102 = .ok (.goto 9, 3) := by decide +kernel
theorem dX7_share_105 : decode cX7_share 105 = .ok (.aload_n 0, 1) := by decide +kernel
theorem dX7_share_106 : decode cX7_share 106 = .ok (.getfield 44, 3) := by decide +kernel
theorem dX7_share_109 : decode cX7_share 109 = .ok (.iload_n 3, 1) := by decide +kernel
theorem dX7_share_110 : decode cX7_share 110 = .ok (.iaload, 1) := by decide +kernel
theorem dX7_share_111 : decode cX7_share 111 = .ok (.iastore, 1) := by decide +kernel
theorem dX7_share_112 : decode cX7_share 112 = .ok (.iinc 5 1, 3) := by decide +kernel
theorem dX7_share_115 : decode cX7_share 115 = .ok (.goto (-72), 3) := by decide +kernel
theorem dX7_share_118 : decode cX7_share 118 = .ok (.iinc 3 1, 3) := by decide +kernel
theorem dX7_share_121 : decode cX7_share 121 = .ok (.goto (-111), 3) := by decide +kernel
theorem dX7_share_124 : decode cX7_share 124 = .ok (.iconst 1, 1) := by decide +kernel
theorem dX7_share_125 : decode cX7_share 125 = .ok (.iload_n 2, 1) := by decide +kernel
theorem dX7_share_126 : decode cX7_share 126 = .ok (.ishl, 1) := by decide +kernel
theorem dX7_share_127 : decode cX7_share 127 = .ok (.iconst 1, 1) := by decide +kernel
theorem dX7_share_128 : decode cX7_share 128 = .ok (.isub, 1) := by decide +kernel
theorem dX7_share_129 : decode cX7_share 129 = .ok (.istore_n 3, 1) := by decide +kernel
theorem dX7_share_130 : decode cX7_share 130 = .ok (.iconst 0, 1) := by decide +kernel
theorem dX7_share_131 : decode cX7_share 131 = .ok (.istore 4, 2) := by decide +kernel
theorem dX7_share_133 : decode cX7_share 133 = .ok (.iload 4, 2) := by decide +kernel
theorem dX7_share_135 : decode cX7_share 135 = .ok (.iload_n 2, 1) := by decide +kernel
theorem dX7_share_136 : decode cX7_share 136 = .ok (.if_icmp .ge 77, 3) := by decide +kernel
theorem dX7_share_139 : decode cX7_share 139 = .ok (.iconst 0, 1) := by decide +kernel
theorem dX7_share_140 : decode cX7_share 140 = .ok (.istore 5, 2) := by decide +kernel
theorem dX7_share_142 : decode cX7_share 142 = .ok (.iload_n 3, 1) := by decide +kernel
theorem dX7_share_143 : decode cX7_share 143 = .ok (.iload 5, 2) := by decide +kernel
theorem dX7_share_145 : decode cX7_share 145 = .ok (.ishr, 1) := by decide +kernel
theorem dX7_share_146 : decode cX7_share 146 = .ok (.iconst 1, 1) := by decide +kernel
theorem dX7_share_147 : decode cX7_share 147 = .ok (.iand, 1) := by decide +kernel
theorem dX7_share_148 : decode cX7_share 148 = .ok (.ifCond .eq 35, 3) := by decide +kernel
theorem dX7_share_151 : decode cX7_share 151 = .ok (.aload_n 0, 1) := by decide +kernel
theorem dX7_share_152 : decode cX7_share 152 = .ok (.getfield 44, 3) := by decide +kernel
theorem dX7_share_155 : decode cX7_share 155 = .ok (.iload_n 3, 1) := by decide +kernel
theorem dX7_share_156 : decode cX7_share 156 = .ok (.iconst 1, 1) := by decide +kernel
theorem dX7_share_157 : decode cX7_share 157 = .ok (.iload 5, 2) := by decide +kernel
theorem dX7_share_159 : decode cX7_share 159 = .ok (.ishl, 1) := by decide +kernel
theorem dX7_share_160 : decode cX7_share 160 = .ok (.iconst (-1), 1) := by decide +kernel
theorem dX7_share_161 : decode cX7_share 161 = .ok (.ixor, 1) := by decide +kernel
theorem dX7_share_162 : decode cX7_share 162 = .ok (.iand, 1) := by decide +kernel
theorem dX7_share_163 : decode cX7_share 163 = .ok (.iaload, 1) := by decide +kernel
theorem dX7_share_164 : decode cX7_share 164 = .ok (.aload_n 0, 1) := by decide +kernel
theorem dX7_share_165 : decode cX7_share 165 = .ok (.iload 4, 2) := by decide +kernel
theorem dX7_share_167 : decode cX7_share 167 = .ok (.iload 5, 2) := by decide +kernel
theorem dX7_share_169 : decode cX7_share 169 = .ok (.iload_n 1, 1) := by decide +kernel
theorem dX7_share_170 : decode cX7_share 170 = .ok (.invokevirtual 234, 3) := by decide +kernel
theorem dX7_share_173 : decode cX7_share 173 = .ok (.iadd, 1) := by decide +kernel
theorem dX7_share_174 : decode cX7_share 174 = .ok (.aload_n 0, 1) := by decide +kernel
theorem dX7_share_175 : decode cX7_share 175 = .ok (.getfield 44, 3) := by decide +kernel
theorem dX7_share_178 : decode cX7_share 178 = .ok (.iload_n 3, 1) := by decide +kernel
theorem dX7_share_179 : decode cX7_share 179 = .ok (.iaload, 1) := by decide +kernel
theorem dX7_share_180 : decode cX7_share 180 = .ok (.if_icmp .eq 9, 3) := by decide +kernel
theorem dX7_share_183 : decode cX7_share 183 = .ok (.iinc 5 1, 3) := by decide +kernel
theorem dX7_share_186 : decode cX7_share 186 = .ok (.goto (-44), 3) := by decide +kernel
theorem dX7_share_189 : decode cX7_share 189 = .ok (.aload_n 0, 1) := by decide +kernel
theorem dX7_share_190 : decode cX7_share 190 = .ok (.getfield 47, 3) := by decide +kernel
theorem dX7_share_193 : decode cX7_share 193 = .ok (.iload 4, 2) := by decide +kernel
theorem dX7_share_195 : decode cX7_share 195 = .ok (.iload 5, 2) := by decide +kernel
theorem dX7_share_197 : decode cX7_share 197 = .ok (.iastore, 1) := by decide +kernel
theorem dX7_share_198 : decode cX7_share 198 = .ok (.iload_n 3, 1) := by decide +kernel
theorem dX7_share_199 : decode cX7_share 199 = .ok (.iconst 1, 1) := by decide +kernel
theorem dX7_share_200 : decode cX7_share 200 = .ok (.iload 5, 2) := by decide +kernel
theorem dX7_share_202 : decode cX7_share 202 = .ok (.ishl, 1) := by decide +kernel
theorem dX7_share_203 : decode cX7_share 203 = .ok (.iconst (-1), 1) := by decide +kernel
theorem dX7_share_204 : decode cX7_share 204 = .ok (.ixor, 1) := by decide +kernel
theorem dX7_share_205 : decode cX7_share 205 = .ok (.iand, 1) := by decide +kernel
theorem dX7_share_206 : decode cX7_share 206 = .ok (.istore_n 3, 1) := by decide +kernel
theorem dX7_share_207 : decode cX7_share 207 = .ok (.iinc 4 1, 3) := by decide +kernel
theorem dX7_share_210 : decode cX7_share 210 = .ok (.goto (-77), 3) := by decide +kernel
theorem dX7_share_213 : decode cX7_share 213 = .ok (.return_, 1) := by decide +kernel
theorem dX7_flood_0 : decode cX7_flood 0 = .ok (.iload_n 1, 1) := by decide +kernel
theorem dX7_flood_1 : decode cX7_flood 1 = .ok (.i2l, 1) := by decide +kernel
theorem dX7_flood_2 : decode cX7_flood 2 = .ok (.lconst 0, 1) := by decide +kernel
theorem dX7_flood_3 : decode cX7_flood 3 = .ok (.ldc2_w 91, 3) := by decide +kernel
theorem dX7_flood_6 : decode cX7_flood 6 = .ok (.invokestatic 50, 3) := by decide +kernel
theorem dX7_flood_9 : decode cX7_flood 9 = .ok (.ifCond .eq 24, 3) := by decide +kernel
theorem dX7_flood_12 : decode cX7_flood 12 = .ok (.iload_n 2, 1) := by decide +kernel
theorem dX7_flood_13 : decode cX7_flood 13 = .ok (.i2l, 1) := by decide +kernel
theorem dX7_flood_14 : decode cX7_flood 14 = .ok (.ldc2_w 237, 3) := by decide +kernel
theorem dX7_flood_17 : decode cX7_flood 17 = .ok (.aload_n 0, 1) := by decide +kernel
theorem dX7_flood_18 : decode cX7_flood 18 = .ok (.getfield 7, 3) := by decide +kernel
theorem dX7_flood_21 : decode cX7_flood 21 = .ok (.bipush 63, 2) := by decide +kernel
theorem dX7_flood_23 : decode cX7_flood 23 = .ok (.iaload, 1) := by decide +kernel
theorem dX7_flood_24 : decode cX7_flood 24 = .ok (.iconst 1, 1) := by decide +kernel
theorem dX7_flood_25 : decode cX7_flood 25 = .ok (.isub, 1) := by decide +kernel
theorem dX7_flood_26 : decode cX7_flood 26 = .ok (.i2l, 1) := by decide +kernel
theorem dX7_flood_27 : decode cX7_flood 27 = .ok (.invokestatic 50, 3) := by decide +kernel
theorem dX7_flood_30 : decode cX7_flood 30 = .ok (.ifCond .ne 5, 3) := by decide +kernel
theorem dX7_flood_33 : decode cX7_flood 33 = .ok (.iconst (-1), 1) := by decide +kernel
theorem dX7_flood_34 : decode cX7_flood 34 = .ok (.ireturn, 1) := by decide +kernel
theorem dX7_flood_35 : decode cX7_flood 35 = .ok (.iload_n 2, 1) := by decide +kernel
theorem dX7_flood_36 : decode cX7_flood 36 = .ok (.iconst (-1), 1) := by decide +kernel
theorem dX7_flood_37 : decode cX7_flood 37 = .ok (.if_icmp .ne 45, 3) := by decide +kernel
theorem dX7_flood_40 : decode cX7_flood 40 = .ok (.iconst 0, 1) := by decide +kernel
theorem dX7_flood_41 : decode cX7_flood 41 = .ok (.istore_n 3, 1) := by decide +kernel
theorem dX7_flood_42 : decode cX7_flood 42 = .ok (.iconst 0, 1) := by decide +kernel
theorem dX7_flood_43 : decode cX7_flood 43 = .ok (.istore 4, 2) := by decide +kernel
theorem dX7_flood_45 : decode cX7_flood 45 = .ok (.iload 4, 2) := by decide +kernel
theorem dX7_flood_47 : decode cX7_flood 47 = .ok (.aload_n 0, 1) := by decide +kernel
theorem dX7_flood_48 : decode cX7_flood 48 = .ok (.getfield 7, 3) := by decide +kernel
theorem dX7_flood_51 : decode cX7_flood 51 = .ok (.bipush 63, 2) := by decide +kernel
theorem dX7_flood_53 : decode cX7_flood 53 = .ok (.iaload, 1) := by decide +kernel
theorem dX7_flood_54 : decode cX7_flood 54 = .ok (.if_icmp .ge 26, 3) := by decide +kernel
theorem dX7_flood_57 : decode cX7_flood 57 = .ok (.iload_n 3, 1) := by decide +kernel
theorem dX7_flood_58 : decode cX7_flood 58 = .ok (.iconst 1, 1) := by decide +kernel
theorem dX7_flood_59 : decode cX7_flood 59 = .ok (.aload_n 0, 1) := by decide +kernel
theorem dX7_flood_60 : decode cX7_flood 60 = .ok (.iload 4, 2) := by decide +kernel
theorem dX7_flood_62 : decode cX7_flood 62 = .ok (.iload 4, 2) := by decide +kernel
theorem dX7_flood_64 : decode cX7_flood 64 = .ok (.iload_n 1, 1) := by decide +kernel
theorem dX7_flood_65 : decode cX7_flood 65 = .ok (.invokevirtual 234, 3) := by decide +kernel
theorem dX7_flood_68 : decode cX7_flood 68 = .ok (.isub, 1) := by decide +kernel
theorem dX7_flood_69 : decode cX7_flood 69 = .ok (.iload 4, 2) := by decide +kernel
theorem dX7_flood_71 : decode cX7_flood 71 = .ok (.ishl, 1) := by decide +kernel
theorem dX7_flood_72 : decode cX7_flood 72 = .ok (.ior, 1) := by decide +kernel
theorem dX7_flood_73 : decode cX7_flood 73 = .ok (.istore_n 3, 1) := by decide +kernel
theorem dX7_flood_74 : decode cX7_flood 74 = .ok (.iinc 4 1, 3) := by decide +kernel
theorem dX7_flood_77 : decode cX7_flood 77 = .ok (.goto (-32), 3) := by decide +kernel
theorem dX7_flood_80 : decode cX7_flood 80 = .ok (.iload_n 3, 1) := by decide +kernel
theorem dX7_flood_81 : decode cX7_flood 81 = .ok (.ireturn, 1) := by decide +kernel
theorem dX7_flood_82 : decode cX7_flood 82 = .ok (.aload_n 0, 1) := by decide +kernel
theorem dX7_flood_83 : decode cX7_flood 83 = .ok (.iload_n 1, 1) := by decide +kernel
theorem dX7_flood_84 : decode cX7_flood 84 = .ok (.invokevirtual 239, 3) := by decide +kernel
theorem dX7_flood_87 : decode cX7_flood 87 = .ok (.iload_n 2, 1) := by decide +kernel
theorem dX7_flood_88 : decode cX7_flood 88 = .ok (.bipush (-2), 2) := by decide +kernel
theorem dX7_flood_90 : decode cX7_flood 90 = .ok (.if_icmp .ne 30, 3) := by decide +kernel
theorem dX7_flood_93 : decode cX7_flood 93 = .ok (.aload_n 0, 1) := by decide +kernel
theorem dX7_flood_94 : decode cX7_flood 94 = .ok (.getfield 7, 3) := by decide +kernel
theorem dX7_flood_97 : decode cX7_flood 97 = .ok (.bipush 63, 2) := by decide +kernel
theorem dX7_flood_99 : decode cX7_flood 99 = .ok (.iaload, 1) := by decide +kernel
theorem dX7_flood_100 : decode cX7_flood 100 = .ok (.aload_n 0, 1) := by decide +kernel
theorem dX7_flood_101 : decode cX7_flood 101 = .ok (.getfield 44, 3) := by decide +kernel
theorem dX7_flood_104 : decode cX7_flood 104 = .ok (.iconst 1, 1) := by decide +kernel
theorem dX7_flood_105 : decode cX7_flood 105 = .ok (.aload_n 0, 1) := by decide +kernel
theorem dX7_flood_106 : decode cX7_flood 106 = .ok (.getfield 7, 3) := by decide +kernel
theorem dX7_flood_109 : decode cX7_flood 109 = .ok (.bipush 63, 2) := by decide +kernel
theorem dX7_flood_111 : decode cX7_flood 111 = .ok (.iaload, 1) := by decide +kernel
theorem dX7_flood_112 : decode cX7_flood 112 = .ok (.ishl, 1) := by decide +kernel
theorem dX7_flood_113 : decode cX7_flood 113 = .ok (.iconst 1, 1) := by decide +kernel
theorem dX7_flood_114 : decode cX7_flood 114 = .ok (.isub, 1) := by decide +kernel
theorem dX7_flood_115 : decode cX7_flood 115 = .ok (.iaload, 1) := by decide +kernel
theorem dX7_flood_116 : decode cX7_flood 116 = .ok (.isub, 1) := by decide +kernel
theorem dX7_flood_117 : decode cX7_flood 117 = .ok (.goto 9, 3) := by decide +kernel
theorem dX7_flood_120 : decode cX7_flood 120 = .ok (.aload_n 0, 1) := by decide +kernel
theorem dX7_flood_121 : decode cX7_flood 121 = .ok (.getfield 47, 3) := by decide +kernel
theorem dX7_flood_124 : decode cX7_flood 124 = .ok (.iload_n 2, 1) := by decide +kernel
theorem dX7_flood_125 : decode cX7_flood 125 = .ok (.iaload, 1) := by decide +kernel
theorem dX7_flood_126 : decode cX7_flood 126 = .ok (.ireturn, 1) := by decide +kernel
theorem dX7_carried_0 : decode cX7_carried 0 = .ok (.aload_n 0, 1) := by decide +kernel
theorem dX7_carried_1 : decode cX7_carried 1 = .ok (.iload_n 1, 1) := by decide +kernel
theorem dX7_carried_2 : decode cX7_carried 2 = .ok (.invokevirtual 214, 3) := by decide +kernel
theorem dX7_carried_5 : decode cX7_carried 5 = .ok (.ifCond .eq 18, 3) := by decide +kernel
theorem dX7_carried_8 : decode cX7_carried 8 = .ok (.aload_n 0, 1) := by decide +kernel
theorem dX7_carried_9 : decode cX7_carried 9 = .ok (.iload_n 2, 1) := by decide +kernel
theorem dX7_carried_10 : decode cX7_carried 10 = .ok (.invokevirtual 70, 3) := by decide +kernel
theorem dX7_carried_13 : decode cX7_carried 13 = .ok (.ifCond .eq 10, 3) := by decide +kernel
theorem dX7_carried_16 : decode cX7_carried 16 = .ok (.iload_n 3, 1) := by decide +kernel
theorem dX7_carried_17 : decode cX7_carried 17 = .ok (.invokestatic 88, 3) := by decide +kernel
theorem dX7_carried_20 : decode cX7_carried 20 = .ok (.ifCond .ne 5, 3) := by decide +kernel
theorem dX7_carried_23 : decode cX7_carried 23 = .ok (.iconst (-1), 1) := by decide +kernel
theorem dX7_carried_24 : decode cX7_carried 24 = .ok (.ireturn, 1) := by decide +kernel
theorem dX7_carried_25 : decode cX7_carried 25 = .ok (.iconst 0, 1) := by decide +kernel
theorem dX7_carried_26 : decode cX7_carried 26 = .ok (.istore 4, 2) := by decide +kernel
theorem dX7_carried_28 : decode cX7_carried 28 = .ok (.iconst 0, 1) := by decide +kernel
theorem dX7_carried_29 : decode cX7_carried 29 = .ok (.istore 5, 2) := by decide +kernel
theorem dX7_carried_31 : decode cX7_carried 31 = .ok (.iconst 0, 1) := by decide +kernel
theorem dX7_carried_32 : decode cX7_carried 32 = .ok (.istore 6, 2) := by decide +kernel
theorem dX7_carried_34 : decode cX7_carried 34 = .ok (.iload 6, 2) := by decide +kernel
theorem dX7_carried_36 : decode cX7_carried 36 = .ok (.aload_n 0, 1) := by decide +kernel
theorem dX7_carried_37 : decode cX7_carried 37 = .ok (.getfield 7, 3) := by decide +kernel
theorem dX7_carried_40 : decode cX7_carried 40 = .ok (.bipush 63, 2) := by decide +kernel
theorem dX7_carried_42 : decode cX7_carried 42 = .ok (.iaload, 1) := by decide +kernel
theorem dX7_carried_43 : decode cX7_carried 43 = .ok (.if_icmp .ge 61, 3) := by decide +kernel
theorem dX7_carried_46 : decode cX7_carried 46 = .ok (.iload_n 1, 1) := by decide +kernel
theorem dX7_carried_47 : decode cX7_carried 47 = .ok (.iload 6, 2) := by decide +kernel
theorem dX7_carried_49 : decode cX7_carried 49 = .ok (.ishr, 1) := by decide +kernel
theorem dX7_carried_50 : decode cX7_carried 50 = .ok (.iconst 1, 1) := by decide +kernel
theorem dX7_carried_51 : decode cX7_carried 51 = .ok (.iand, 1) := by decide +kernel
theorem dX7_carried_52 : decode cX7_carried 52 = .ok (.istore 7, 2) := by decide +kernel
theorem dX7_carried_54 : decode cX7_carried 54 = .ok (.iload 4, 2) := by decide +kernel
theorem dX7_carried_56 : decode cX7_carried 56 = .ok (.aload_n 0, 1) := by decide +kernel
theorem dX7_carried_57 : decode cX7_carried 57 = .ok (.iload 6, 2) := by decide +kernel
theorem dX7_carried_59 : decode cX7_carried 59 = .ok (.iload_n 2, 1) := by decide +kernel
theorem dX7_carried_60 : decode cX7_carried 60 = .ok (.iload_n 3, 1) := by decide +kernel
theorem dX7_carried_61 : decode cX7_carried 61 = .ok (.invokevirtual 167, 3) := by decide +kernel
theorem dX7_carried_64 : decode cX7_carried 64 = .ok (.ifCond .eq 8, 3) := by decide +kernel
theorem dX7_carried_67 : decode cX7_carried 67 = .ok (.iload 7, 2) := by decide +kernel
theorem dX7_carried_69 : decode cX7_carried 69 = .ok (.goto 4, 3) := by decide +kernel
theorem dX7_carried_72 : decode cX7_carried 72 = .ok (.iconst 0, 1) := by decide +kernel
theorem dX7_carried_73 : decode cX7_carried 73 = .ok (.iadd, 1) := by decide +kernel
theorem dX7_carried_74 : decode cX7_carried 74 = .ok (.istore 4, 2) := by decide +kernel
theorem dX7_carried_76 : decode cX7_carried 76 = .ok (.iload 5, 2) := by decide +kernel
theorem dX7_carried_78 : decode cX7_carried 78 = .ok (.aload_n 0, 1) := by decide +kernel
theorem dX7_carried_79 : decode cX7_carried 79 = .ok (.iload 6, 2) := by decide +kernel
theorem dX7_carried_81 : decode cX7_carried 81 = .ok (.iload_n 2, 1) := by decide +kernel
theorem dX7_carried_82 : decode cX7_carried 82 = .ok (.iload_n 3, 1) := by decide +kernel
theorem dX7_carried_83 : decode cX7_carried 83 = .ok (.invokevirtual 167, 3) := by decide +kernel
theorem dX7_carried_86 : decode cX7_carried 86 = .ok (.ifCond .eq 7, 3) := by decide +kernel
theorem dX7_carried_89 : decode cX7_carried 89 = .ok (.iconst 0, 1) := by decide +kernel
theorem dX7_carried_90 : decode cX7_carried 90 = .ok (.goto 5, 3) := by decide +kernel
theorem dX7_carried_93 : decode cX7_carried 93 = .ok (.iload 7, 2) := by decide +kernel
theorem dX7_carried_95 : decode cX7_carried 95 = .ok (.iadd, 1) := by decide +kernel
theorem dX7_carried_96 : decode cX7_carried 96 = .ok (.istore 5, 2) := by decide +kernel
theorem dX7_carried_98 : decode cX7_carried 98 = .ok (.iinc 6 1, 3) := by decide +kernel
theorem dX7_carried_101 : decode cX7_carried 101 = .ok (.goto (-67), 3) := by decide +kernel
theorem dX7_carried_104 : decode cX7_carried 104 = .ok (.iconst 1, 1) := by decide +kernel
theorem dX7_carried_105 : decode cX7_carried 105 = .ok (.istore 6, 2) := by decide +kernel
theorem dX7_carried_107 : decode cX7_carried 107 = .ok (.iconst 0, 1) := by decide +kernel
theorem dX7_carried_108 : decode cX7_carried 108 = .ok (.istore 7, 2) := by decide +kernel
theorem dX7_carried_110 : decode cX7_carried 110 = .ok (.iload 7, 2) := by decide +kernel
theorem dX7_carried_112 : decode cX7_carried 112 = .ok (.iload 5, 2) := by decide +kernel
theorem dX7_carried_114 : decode cX7_carried 114 = .ok (.if_icmp .ge 30, 3) := by decide +kernel
theorem dX7_carried_117 : decode cX7_carried 117 = .ok (.iload 6, 2) := by decide +kernel
theorem dX7_carried_119 : decode cX7_carried 119 = .ok (.iload 4, 2) := by decide +kernel
theorem dX7_carried_121 : decode cX7_carried 121 = .ok (.iload 7, 2) := by decide +kernel
theorem dX7_carried_123 : decode cX7_carried 123 = .ok (.if_icmp .le 11, 3) := by decide +kernel
theorem dX7_carried_126 : decode cX7_carried 126 = .ok (.iload 4, 2) := by decide +kernel
theorem dX7_carried_128 : decode cX7_carried 128 = .ok (.iload 7, 2) := by decide +kernel
theorem dX7_carried_130 : decode cX7_carried 130 = .ok (.isub, 1) := by decide +kernel
theorem dX7_carried_131 : decode cX7_carried 131 = .ok (.goto 4, 3) := by decide +kernel
theorem dX7_carried_134 : decode cX7_carried 134 = .ok (.iconst 0, 1) := by decide +kernel
theorem dX7_carried_135 : decode cX7_carried 135 = .ok (.imul, 1) := by decide +kernel
theorem dX7_carried_136 : decode cX7_carried 136 = .ok (.istore 6, 2) := by decide +kernel
theorem dX7_carried_138 : decode cX7_carried 138 = .ok (.iinc 7 1, 3) := by decide +kernel
theorem dX7_carried_141 : decode cX7_carried 141 = .ok (.goto (-31), 3) := by decide +kernel
theorem dX7_carried_144 : decode cX7_carried 144 = .ok (.iload 6, 2) := by decide +kernel
theorem dX7_carried_146 : decode cX7_carried 146 = .ok (.ireturn, 1) := by decide +kernel
theorem dX7_wrong_0 : decode cX7_wrong 0 = .ok (.iload_n 1, 1) := by decide +kernel
theorem dX7_wrong_1 : decode cX7_wrong 1 = .ok (.i2l, 1) := by decide +kernel
theorem dX7_wrong_2 : decode cX7_wrong 2 = .ok (.lconst 1, 1) := by decide +kernel
theorem dX7_wrong_3 : decode cX7_wrong 3 = .ok (.ldc2_w 171, 3) := by decide +kernel
theorem dX7_wrong_6 : decode cX7_wrong 6 = .ok (.invokestatic 50, 3) := by decide +kernel
theorem dX7_wrong_9 : decode cX7_wrong 9 = .ok (.ifCond .eq 10, 3) := by decide +kernel
theorem dX7_wrong_12 : decode cX7_wrong 12 = .ok (.iload_n 2, 1) := by decide +kernel
theorem dX7_wrong_13 : decode cX7_wrong 13 = .ok (.invokestatic 88, 3) := by decide +kernel
theorem dX7_wrong_16 : decode cX7_wrong 16 = .ok (.ifCond .ne 5, 3) := by decide +kernel
theorem dX7_wrong_19 : decode cX7_wrong 19 = .ok (.iconst (-1), 1) := by decide +kernel
theorem dX7_wrong_20 : decode cX7_wrong 20 = .ok (.ireturn, 1) := by decide +kernel
theorem dX7_wrong_21 : decode cX7_wrong 21 = .ok (.iconst 0, 1) := by decide +kernel
theorem dX7_wrong_22 : decode cX7_wrong 22 = .ok (.istore_n 3, 1) := by decide +kernel
theorem dX7_wrong_23 : decode cX7_wrong 23 = .ok (.iconst 0, 1) := by decide +kernel
theorem dX7_wrong_24 : decode cX7_wrong 24 = .ok (.istore 4, 2) := by decide +kernel
theorem dX7_wrong_26 : decode cX7_wrong 26 = .ok (.iload 4, 2) := by decide +kernel
theorem dX7_wrong_28 : decode cX7_wrong 28 = .ok (.aload_n 0, 1) := by decide +kernel
theorem dX7_wrong_29 : decode cX7_wrong 29 = .ok (.getfield 7, 3) := by decide +kernel
theorem dX7_wrong_32 : decode cX7_wrong 32 = .ok (.bipush 63, 2) := by decide +kernel
theorem dX7_wrong_34 : decode cX7_wrong 34 = .ok (.iaload, 1) := by decide +kernel
theorem dX7_wrong_35 : decode cX7_wrong 35 = .ok (.if_icmp .ge 141, 3) := by decide +kernel
theorem dX7_wrong_38 : decode cX7_wrong 38 = .ok (.aload_n 0, 1) := by decide +kernel
theorem dX7_wrong_39 : decode cX7_wrong 39 = .ok (.getfield 7, 3) := by decide +kernel
theorem dX7_wrong_42 : decode cX7_wrong 42 = .ok (.bipush 82, 2) := by decide +kernel
theorem dX7_wrong_44 : decode cX7_wrong 44 = .ok (.iload 4, 2) := by decide +kernel
theorem dX7_wrong_46 : decode cX7_wrong 46 = .ok (.iadd, 1) := by decide +kernel
theorem dX7_wrong_47 : decode cX7_wrong 47 = .ok (.iaload, 1) := by decide +kernel
theorem dX7_wrong_48 : decode cX7_wrong 48 = .ok (.istore 5, 2) := by decide +kernel
theorem dX7_wrong_50 : decode cX7_wrong 50 = .ok (.aload_n 0, 1) := by decide +kernel
theorem dX7_wrong_51 : decode cX7_wrong 51 = .ok (.getfield 7, 3) := by decide +kernel
theorem dX7_wrong_54 : decode cX7_wrong 54 = .ok (.iconst 0, 1) := by decide +kernel
theorem dX7_wrong_55 : decode cX7_wrong 55 = .ok (.iload 5, 2) := by decide +kernel
theorem dX7_wrong_57 : decode cX7_wrong 57 = .ok (.iadd, 1) := by decide +kernel
theorem dX7_wrong_58 : decode cX7_wrong 58 = .ok (.iaload, 1) := by decide +kernel
theorem dX7_wrong_59 : decode cX7_wrong 59 = .ok (.istore 6, 2) := by decide +kernel
theorem dX7_wrong_61 : decode cX7_wrong 61 = .ok (.iconst 0, 1) := by decide +kernel
theorem dX7_wrong_62 : decode cX7_wrong 62 = .ok (.istore 7, 2) := by decide +kernel
theorem dX7_wrong_64 : decode cX7_wrong 64 = .ok (.iload 7, 2) := by decide +kernel
theorem dX7_wrong_66 : decode cX7_wrong 66 = .ok (.iload_n 1, 1) := by decide +kernel
theorem dX7_wrong_67 : decode cX7_wrong 67 = .ok (.if_icmp .ge 26, 3) := by decide +kernel
theorem dX7_wrong_70 : decode cX7_wrong 70 = .ok (.iload 6, 2) := by decide +kernel
theorem dX7_wrong_72 : decode cX7_wrong 72 = .ok (.aload_n 0, 1) := by decide +kernel
theorem dX7_wrong_73 : decode cX7_wrong 73 = .ok (.getfield 7, 3) := by decide +kernel
theorem dX7_wrong_76 : decode cX7_wrong 76 = .ok (.bipush 24, 2) := by decide +kernel
theorem dX7_wrong_78 : decode cX7_wrong 78 = .ok (.iload 5, 2) := by decide +kernel
theorem dX7_wrong_80 : decode cX7_wrong 80 = .ok (.iadd, 1) := by decide +kernel
theorem dX7_wrong_81 : decode cX7_wrong 81 = .ok (.iaload, 1) := by decide +kernel
theorem dX7_wrong_82 : decode cX7_wrong 82 = .ok (.invokestatic 173, 3) := by decide +kernel
theorem dX7_wrong_85 : decode cX7_wrong 85 = .ok (.istore 6, 2) := by decide +kernel
theorem dX7_wrong_87 : decode cX7_wrong 87 = .ok (.iinc 7 1, 3) := by decide +kernel
theorem dX7_wrong_90 : decode cX7_wrong 90 = .ok (.goto (-26), 3) := by decide +kernel
theorem dX7_wrong_93 : decode cX7_wrong 93 = .ok (.aload_n 0, 1) := by decide +kernel
theorem dX7_wrong_94 : decode cX7_wrong 94 = .ok (.aload_n 0, 1) := by decide +kernel
theorem dX7_wrong_95 : decode cX7_wrong 95 = .ok (.getfield 7, 3) := by decide +kernel
theorem dX7_wrong_98 : decode cX7_wrong 98 = .ok (.bipush 66, 2) := by decide +kernel
theorem dX7_wrong_100 : decode cX7_wrong 100 = .ok (.iload 4, 2) := by decide +kernel
theorem dX7_wrong_102 : decode cX7_wrong 102 = .ok (.iadd, 1) := by decide +kernel
theorem dX7_wrong_103 : decode cX7_wrong 103 = .ok (.iaload, 1) := by decide +kernel
theorem dX7_wrong_104 : decode cX7_wrong 104 = .ok (.aload_n 0, 1) := by decide +kernel
theorem dX7_wrong_105 : decode cX7_wrong 105 = .ok (.getfield 7, 3) := by decide +kernel
theorem dX7_wrong_108 : decode cX7_wrong 108 = .ok (.bipush 74, 2) := by decide +kernel
theorem dX7_wrong_110 : decode cX7_wrong 110 = .ok (.iload 4, 2) := by decide +kernel
theorem dX7_wrong_112 : decode cX7_wrong 112 = .ok (.iadd, 1) := by decide +kernel
theorem dX7_wrong_113 : decode cX7_wrong 113 = .ok (.iaload, 1) := by decide +kernel
theorem dX7_wrong_114 : decode cX7_wrong 114 = .ok (.aload_n 0, 1) := by decide +kernel
theorem dX7_wrong_115 : decode cX7_wrong 115 = .ok (.getfield 7, 3) := by decide +kernel
theorem dX7_wrong_118 : decode cX7_wrong 118 = .ok (.bipush 65, 2) := by decide +kernel
theorem dX7_wrong_120 : decode cX7_wrong 120 = .ok (.iaload, 1) := by decide +kernel
theorem dX7_wrong_121 : decode cX7_wrong 121 = .ok (.iload_n 1, 1) := by decide +kernel
theorem dX7_wrong_122 : decode cX7_wrong 122 = .ok (.iadd, 1) := by decide +kernel
theorem dX7_wrong_123 : decode cX7_wrong 123 = .ok (.aload_n 0, 1) := by decide +kernel
theorem dX7_wrong_124 : decode cX7_wrong 124 = .ok (.iload 6, 2) := by decide +kernel
theorem dX7_wrong_126 : decode cX7_wrong 126 = .ok (.iload_n 2, 1) := by decide +kernel
theorem dX7_wrong_127 : decode cX7_wrong 127 = .ok (.aload_n 0, 1) := by decide +kernel
theorem dX7_wrong_128 : decode cX7_wrong 128 = .ok (.getfield 7, 3) := by decide +kernel
theorem dX7_wrong_131 : decode cX7_wrong 131 = .ok (.bipush 60, 2) := by decide +kernel
theorem dX7_wrong_133 : decode cX7_wrong 133 = .ok (.iaload, 1) := by decide +kernel
theorem dX7_wrong_134 : decode cX7_wrong 134 = .ok (.invokevirtual 157, 3) := by decide +kernel
theorem dX7_wrong_137 : decode cX7_wrong 137 = .ok (.invokevirtual 160, 3) := by decide +kernel
theorem dX7_wrong_140 : decode cX7_wrong 140 = .ok (.istore 7, 2) := by decide +kernel
theorem dX7_wrong_142 : decode cX7_wrong 142 = .ok (.iload_n 3, 1) := by decide +kernel
theorem dX7_wrong_143 : decode cX7_wrong 143 = .ok (.aload_n 0, 1) := by decide +kernel
theorem dX7_wrong_144 : decode cX7_wrong 144 = .ok (.iload 4, 2) := by decide +kernel
theorem dX7_wrong_146 : decode cX7_wrong 146 = .ok (.iload 5, 2) := by decide +kernel
theorem dX7_wrong_148 : decode cX7_wrong 148 = .ok (.iload_n 2, 1) := by decide +kernel
theorem dX7_wrong_149 : decode cX7_wrong 149 = .ok (.invokevirtual 167, 3) := by decide +kernel
theorem dX7_wrong_152 : decode cX7_wrong 152 = .ok (.ifCond .eq 15, 3) := by decide +kernel
theorem dX7_wrong_155 : decode cX7_wrong 155 = .ok (.iload 7, 2) := by decide +kernel
theorem dX7_wrong_157 : decode cX7_wrong 157 = .ok (.ifCond .ne 10, 3) := by decide +kernel
theorem dX7_wrong_160 : decode cX7_wrong 160 = .ok (.iconst 1, 1) := by decide +kernel
theorem dX7_wrong_161 : decode cX7_wrong 161 = .ok (.iload 4, 2) := by decide +kernel
theorem dX7_wrong_163 : decode cX7_wrong 163 = .ok (.ishl, 1) := by decide +kernel
theorem dX7_wrong_164 : decode cX7_wrong 164 = .ok (.goto 4, 3) := by decide +kernel
theorem dX7_wrong_167 : decode cX7_wrong 167 = .ok (.iconst 0, 1) := by decide +kernel
theorem dX7_wrong_168 : decode cX7_wrong 168 = .ok (.ior, 1) := by decide +kernel
theorem dX7_wrong_169 : decode cX7_wrong 169 = .ok (.istore_n 3, 1) := by decide +kernel
theorem dX7_wrong_170 : decode cX7_wrong 170 = .ok (.iinc 4 1, 3) := by decide +kernel
theorem dX7_wrong_173 : decode cX7_wrong 173 = .ok (.goto (-147), 3) := by decide +kernel
theorem dX7_wrong_176 : decode cX7_wrong 176 = .ok (.iload_n 3, 1) := by decide +kernel
theorem dX7_wrong_177 : decode cX7_wrong 177 = .ok (.ireturn, 1) := by decide +kernel
theorem dX7_clear_0 : decode cX7_clear 0 = .ok (.aload_n 0, 1) := by decide +kernel
theorem dX7_clear_1 : decode cX7_clear 1 = .ok (.getfield 7, 3) := by decide +kernel
theorem dX7_clear_4 : decode cX7_clear 4 = .ok (.bipush 63, 2) := by decide +kernel
theorem dX7_clear_6 : decode cX7_clear 6 = .ok (.iaload, 1) := by decide +kernel
theorem dX7_clear_7 : decode cX7_clear 7 = .ok (.istore_n 1, 1) := by decide +kernel
theorem dX7_clear_8 : decode cX7_clear 8 = .ok (.aload_n 0, 1) := by decide +kernel
theorem dX7_clear_9 : decode cX7_clear 9 = .ok (.getfield 7, 3) := by decide +kernel
theorem dX7_clear_12 : decode cX7_clear 12 = .ok (.bipush 63, 2) := by decide +kernel
theorem dX7_clear_14 : decode cX7_clear 14 = .ok (.iconst 0, 1) := by decide +kernel
theorem dX7_clear_15 : decode cX7_clear 15 = .ok (.iastore, 1) := by decide +kernel
theorem dX7_clear_16 : decode cX7_clear 16 = .ok (.aload_n 0, 1) := by decide +kernel
theorem dX7_clear_17 : decode cX7_clear 17 = .ok (.getfield 7, 3) := by decide +kernel
theorem dX7_clear_20 : decode cX7_clear 20 = .ok (.bipush 64, 2) := by decide +kernel
theorem dX7_clear_22 : decode cX7_clear 22 = .ok (.iconst 0, 1) := by decide +kernel
theorem dX7_clear_23 : decode cX7_clear 23 = .ok (.iastore, 1) := by decide +kernel
theorem dX7_clear_24 : decode cX7_clear 24 = .ok (.iload_n 1, 1) := by decide +kernel
theorem dX7_clear_25 : decode cX7_clear 25 = .ok (.ireturn, 1) := by decide +kernel
theorem dX7_image_0 : decode cX7_image 0 = .ok (.iconst 0, 1) := by decide +kernel
theorem dX7_image_1 : decode cX7_image 1 = .ok (.istore_n 1, 1) := by decide +kernel
theorem dX7_image_2 : decode cX7_image 2 = .ok (.iload_n 1, 1) := by decide +kernel
theorem dX7_image_3 : decode cX7_image 3 = .ok (.sipush 264, 3) := by decide +kernel
theorem dX7_image_6 : decode cX7_image 6 = .ok (.if_icmp .ge 25, 3) := by decide +kernel
theorem dX7_image_9 : decode cX7_image 9 = .ok (.aload_n 0, 1) := by decide +kernel
theorem dX7_image_10 : decode cX7_image 10 = .ok (.getfield 7, 3) := by decide +kernel
theorem dX7_image_13 : decode cX7_image 13 = .ok (.sipush 264, 3) := by decide +kernel
theorem dX7_image_16 : decode cX7_image 16 = .ok (.iload_n 1, 1) := by decide +kernel
theorem dX7_image_17 : decode cX7_image 17 = .ok (.iadd, 1) := by decide +kernel
theorem dX7_image_18 : decode cX7_image 18 = .ok (.aload_n 0, 1) := by decide +kernel
theorem dX7_image_19 : decode cX7_image 19 = .ok (.getfield 7, 3) := by decide +kernel
theorem dX7_image_22 : decode cX7_image 22 = .ok (.iload_n 1, 1) := by decide +kernel
theorem dX7_image_23 : decode cX7_image 23 = .ok (.iaload, 1) := by decide +kernel
theorem dX7_image_24 : decode cX7_image 24 = .ok (.iastore, 1) := by decide +kernel
theorem dX7_image_25 : decode cX7_image 25 = .ok (.iinc 1 1, 3) := by decide +kernel
theorem dX7_image_28 : decode cX7_image 28 = .ok (.goto (-26), 3) := by decide +kernel
theorem dX7_image_31 : decode cX7_image 31 = .ok (.aload_n 0, 1) := by decide +kernel
theorem dX7_image_32 : decode cX7_image 32 = .ok (.iconst 1, 1) := by decide +kernel
theorem dX7_image_33 : decode cX7_image 33 = .ok (.putfield 242, 3) := by decide +kernel
theorem dX7_image_36 : decode cX7_image 36 = .ok (.iconst 1, 1) := by decide +kernel
theorem dX7_image_37 : decode cX7_image 37 = .ok (.ireturn, 1) := by decide +kernel
theorem dX7_restore_0 : decode cX7_restore 0 = .ok (.aload_n 0, 1) := by decide +kernel
theorem dX7_restore_1 : decode cX7_restore 1 = .ok (.getfield 242, 3) := by decide +kernel
theorem dX7_restore_4 : decode cX7_restore 4 = .ok (.ifCond .ne 6, 3) := by decide +kernel
theorem dX7_restore_7 : decode cX7_restore 7 = .ok (.bipush (-4), 2) := by decide +kernel
theorem dX7_restore_9 : decode cX7_restore 9 = .ok (.ireturn, 1) := by decide +kernel
theorem dX7_restore_10 : decode cX7_restore 10 = .ok (.iconst 0, 1) := by decide +kernel
theorem dX7_restore_11 : decode cX7_restore 11 = .ok (.istore_n 1, 1) := by decide +kernel
theorem dX7_restore_12 : decode cX7_restore 12 = .ok (.iload_n 1, 1) := by decide +kernel
theorem dX7_restore_13 : decode cX7_restore 13 = .ok (.sipush 264, 3) := by decide +kernel
theorem dX7_restore_16 : decode cX7_restore 16 = .ok (.if_icmp .ge 25, 3) := by decide +kernel
theorem dX7_restore_19 : decode cX7_restore 19 = .ok (.aload_n 0, 1) := by decide +kernel
theorem dX7_restore_20 : decode cX7_restore 20 = .ok (.getfield 7, 3) := by decide +kernel
theorem dX7_restore_23 : decode cX7_restore 23 = .ok (.iload_n 1, 1) := by decide +kernel
theorem dX7_restore_24 : decode cX7_restore 24 = .ok (.aload_n 0, 1) := by decide +kernel
theorem dX7_restore_25 : decode cX7_restore 25 = .ok (.getfield 7, 3) := by decide +kernel
theorem dX7_restore_28 : decode cX7_restore 28 = .ok (.sipush 264, 3) := by decide +kernel
theorem dX7_restore_31 : decode cX7_restore 31 = .ok (.iload_n 1, 1) := by decide +kernel
theorem dX7_restore_32 : decode cX7_restore 32 = .ok (.iadd, 1) := by decide +kernel
theorem dX7_restore_33 : decode cX7_restore 33 = .ok (.iaload, 1) := by decide +kernel
theorem dX7_restore_34 : decode cX7_restore 34 = .ok (.iastore, 1) := by decide +kernel
theorem dX7_restore_35 : decode cX7_restore 35 = .ok (.iinc 1 1, 3) := by decide +kernel
theorem dX7_restore_38 : decode cX7_restore 38 = .ok (.goto (-26), 3) := by decide +kernel
theorem dX7_restore_41 : decode cX7_restore 41 = .ok (.iconst 1, 1) := by decide +kernel
theorem dX7_restore_42 : decode cX7_restore 42 = .ok (.ireturn, 1) := by decide +kernel
theorem dX7_isSheet_0 : decode cX7_isSheet 0 = .ok (.iload_n 0, 1) := by decide +kernel
theorem dX7_isSheet_1 : decode cX7_isSheet 1 = .ok (.i2l, 1) := by decide +kernel
theorem dX7_isSheet_2 : decode cX7_isSheet 2 = .ok (.lconst 0, 1) := by decide +kernel
theorem dX7_isSheet_3 : decode cX7_isSheet 3 = .ok (.ldc2_w 93, 3) := by decide +kernel
theorem dX7_isSheet_6 : decode cX7_isSheet 6 = .ok (.invokestatic 50, 3) := by decide +kernel
theorem dX7_isSheet_9 : decode cX7_isSheet 9 = .ok (.ireturn, 1) := by decide +kernel
theorem dX7_isLane_0 : decode cX7_isLane 0 = .ok (.iload_n 0, 1) := by decide +kernel
theorem dX7_isLane_1 : decode cX7_isLane 1 = .ok (.i2l, 1) := by decide +kernel
theorem dX7_isLane_2 : decode cX7_isLane 2 = .ok (.lconst 0, 1) := by decide +kernel
theorem dX7_isLane_3 : decode cX7_isLane 3 = .ok (.ldc2_w 226, 3) := by decide +kernel
theorem dX7_isLane_6 : decode cX7_isLane 6 = .ok (.invokestatic 50, 3) := by decide +kernel
theorem dX7_isLane_9 : decode cX7_isLane 9 = .ok (.ireturn, 1) := by decide +kernel
theorem dX7_tides_0 : decode cX7_tides 0 = .ok (.iload_n 1, 1) := by decide +kernel
theorem dX7_tides_1 : decode cX7_tides 1 = .ok (.invokestatic 246, 3) := by decide +kernel
theorem dX7_tides_4 : decode cX7_tides 4 = .ok (.ifCond .eq 10, 3) := by decide +kernel
theorem dX7_tides_7 : decode cX7_tides 7 = .ok (.iload_n 2, 1) := by decide +kernel
theorem dX7_tides_8 : decode cX7_tides 8 = .ok (.invokestatic 249, 3) := by decide +kernel
theorem dX7_tides_11 : decode cX7_tides 11 = .ok (.ifCond .ne 5, 3) := by decide +kernel
theorem dX7_tides_14 : decode cX7_tides 14 = .ok (.iconst (-1), 1) := by decide +kernel
theorem dX7_tides_15 : decode cX7_tides 15 = .ok (.ireturn, 1) := by decide +kernel
theorem dX7_tides_16 : decode cX7_tides 16 = .ok (.aload_n 0, 1) := by decide +kernel
theorem dX7_tides_17 : decode cX7_tides 17 = .ok (.getfield 22, 3) := by decide +kernel
theorem dX7_tides_20 : decode cX7_tides 20 = .ok (.iload_n 1, 1) := by decide +kernel
theorem dX7_tides_21 : decode cX7_tides 21 = .ok (.iaload, 1) := by decide +kernel
theorem dX7_tides_22 : decode cX7_tides 22 = .ok (.ifCond .lt 13, 3) := by decide +kernel
theorem dX7_tides_25 : decode cX7_tides 25 = .ok (.aload_n 0, 1) := by decide +kernel
theorem dX7_tides_26 : decode cX7_tides 26 = .ok (.getfield 22, 3) := by decide +kernel
theorem dX7_tides_29 : decode cX7_tides 29 = .ok (.iload_n 1, 1) := by decide +kernel
theorem dX7_tides_30 : decode cX7_tides 30 = .ok (.iaload, 1) := by decide +kernel
theorem dX7_tides_31 : decode cX7_tides 31 = .ok (.iload_n 2, 1) := by decide +kernel
theorem dX7_tides_32 : decode cX7_tides 32 = .ok (.if_icmp .eq 20, 3) := by decide +kernel
theorem dX7_tides_35 : decode cX7_tides 35 = .ok (.aload_n 0, 1) := by decide +kernel
theorem dX7_tides_36 : decode cX7_tides 36 = .ok (.getfield 22, 3) := by decide +kernel
theorem dX7_tides_39 : decode cX7_tides 39 = .ok (.iload_n 1, 1) := by decide +kernel
theorem dX7_tides_40 : decode cX7_tides 40 = .ok (.iaload, 1) := by decide +kernel
theorem dX7_tides_41 : decode cX7_tides 41 = .ok (.ifCond .ge 8, 3) := by decide +kernel
theorem dX7_tides_44 : decode cX7_tides 44 = .ok (.bipush (-11), 2) := by decide +kernel
theorem dX7_tides_46 : decode cX7_tides 46 = .ok (.goto 5, 3) := by decide +kernel
theorem dX7_tides_49 : decode cX7_tides 49 = .ok (.bipush (-12), 2) := by decide +kernel
theorem dX7_tides_51 : decode cX7_tides 51 = .ok (.ireturn, 1) := by decide +kernel
theorem dX7_tides_52 : decode cX7_tides 52 = .ok (.aload_n 0, 1) := by decide +kernel
theorem dX7_tides_53 : decode cX7_tides 53 = .ok (.getfield 25, 3) := by decide +kernel
theorem dX7_tides_56 : decode cX7_tides 56 = .ok (.iload_n 1, 1) := by decide +kernel
theorem dX7_tides_57 : decode cX7_tides 57 = .ok (.iaload, 1) := by decide +kernel
theorem dX7_tides_58 : decode cX7_tides 58 = .ok (.bipush 24, 2) := by decide +kernel
theorem dX7_tides_60 : decode cX7_tides 60 = .ok (.if_icmp .ge 6, 3) := by decide +kernel
theorem dX7_tides_63 : decode cX7_tides 63 = .ok (.bipush (-13), 2) := by decide +kernel
theorem dX7_tides_65 : decode cX7_tides 65 = .ok (.ireturn, 1) := by decide +kernel
theorem dX7_tides_66 : decode cX7_tides 66 = .ok (.iconst 0, 1) := by decide +kernel
theorem dX7_tides_67 : decode cX7_tides 67 = .ok (.istore_n 3, 1) := by decide +kernel
theorem dX7_tides_68 : decode cX7_tides 68 = .ok (.iload_n 3, 1) := by decide +kernel
theorem dX7_tides_69 : decode cX7_tides 69 = .ok (.bipush 24, 2) := by decide +kernel
theorem dX7_tides_71 : decode cX7_tides 71 = .ok (.if_icmp .ge 36, 3) := by decide +kernel
theorem dX7_tides_74 : decode cX7_tides 74 = .ok (.aload_n 0, 1) := by decide +kernel
theorem dX7_tides_75 : decode cX7_tides 75 = .ok (.getfield 19, 3) := by decide +kernel
theorem dX7_tides_78 : decode cX7_tides 78 = .ok (.bipush 24, 2) := by decide +kernel
theorem dX7_tides_80 : decode cX7_tides 80 = .ok (.iload_n 1, 1) := by decide +kernel
theorem dX7_tides_81 : decode cX7_tides 81 = .ok (.imul, 1) := by decide +kernel
theorem dX7_tides_82 : decode cX7_tides 82 = .ok (.iload_n 3, 1) := by decide +kernel
theorem dX7_tides_83 : decode cX7_tides 83 = .ok (.iadd, 1) := by decide +kernel
theorem dX7_tides_84 : decode cX7_tides 84 = .ok (.iaload, 1) := by decide +kernel
theorem dX7_tides_85 : decode cX7_tides 85 = .ok (.i2l, 1) := by decide +kernel
theorem dX7_tides_86 : decode cX7_tides 86 = .ok (.ldc2_w 56, 3) := by decide +kernel
theorem dX7_tides_89 : decode cX7_tides 89 = .ok (.ldc2_w 64, 3) := by decide +kernel
theorem dX7_tides_92 : decode cX7_tides 92 = .ok (.invokestatic 50, 3) := by decide +kernel
theorem dX7_tides_95 : decode cX7_tides 95 = .ok (.ifCond .ne 6, 3) := by decide +kernel
theorem dX7_tides_98 : decode cX7_tides 98 = .ok (.bipush (-2), 2) := by decide +kernel
theorem dX7_tides_100 : decode cX7_tides 100 = .ok (.ireturn, 1) := by decide +kernel
theorem dX7_tides_101 : decode cX7_tides 101 = .ok (.iinc 3 1, 3) := by decide +kernel
theorem dX7_tides_104 : decode cX7_tides 104 = .ok (.goto (-36), 3) := by decide +kernel
theorem dX7_tides_107 : decode cX7_tides 107 = .ok (.iconst 0, 1) := by decide +kernel
theorem dX7_tides_108 : decode cX7_tides 108 = .ok (.istore_n 3, 1) := by decide +kernel
theorem dX7_tides_109 : decode cX7_tides 109 = .ok (.iload_n 3, 1) := by decide +kernel
theorem dX7_tides_110 : decode cX7_tides 110 = .ok (.bipush 24, 2) := by decide +kernel
theorem dX7_tides_112 : decode cX7_tides 112 = .ok (.if_icmp .ge 29, 3) := by decide +kernel
theorem dX7_tides_115 : decode cX7_tides 115 = .ok (.aload_n 0, 1) := by decide +kernel
theorem dX7_tides_116 : decode cX7_tides 116 = .ok (.getfield 7, 3) := by decide +kernel
theorem dX7_tides_119 : decode cX7_tides 119 = .ok (.bipush 36, 2) := by decide +kernel
theorem dX7_tides_121 : decode cX7_tides 121 = .ok (.iload_n 3, 1) := by decide +kernel
theorem dX7_tides_122 : decode cX7_tides 122 = .ok (.iadd, 1) := by decide +kernel
theorem dX7_tides_123 : decode cX7_tides 123 = .ok (.aload_n 0, 1) := by decide +kernel
theorem dX7_tides_124 : decode cX7_tides 124 = .ok (.getfield 19, 3) := by decide +kernel
theorem dX7_tides_127 : decode cX7_tides 127 = .ok (.bipush 24, 2) := by decide +kernel
theorem dX7_tides_129 : decode cX7_tides 129 = .ok (.iload_n 1, 1) := by decide +kernel
theorem dX7_tides_130 : decode cX7_tides 130 = .ok (.imul, 1) := by decide +kernel
theorem dX7_tides_131 : decode cX7_tides 131 = .ok (.iload_n 3, 1) := by decide +kernel
theorem dX7_tides_132 : decode cX7_tides 132 = .ok (.iadd, 1) := by decide +kernel
theorem dX7_tides_133 : decode cX7_tides 133 = .ok (.iaload, 1) := by decide +kernel
theorem dX7_tides_134 : decode cX7_tides 134 = .ok (.iastore, 1) := by decide +kernel
theorem dX7_tides_135 : decode cX7_tides 135 = .ok (.iinc 3 1, 3) := by decide +kernel
theorem dX7_tides_138 : decode cX7_tides 138 = .ok (.goto (-29), 3) := by decide +kernel
theorem dX7_tides_141 : decode cX7_tides 141 = .ok (.iconst 1, 1) := by decide +kernel
theorem dX7_tides_142 : decode cX7_tides 142 = .ok (.ireturn, 1) := by decide +kernel
theorem dX7_sheet_0 : decode cX7_sheet 0 = .ok (.iload_n 1, 1) := by decide +kernel
theorem dX7_sheet_1 : decode cX7_sheet 1 = .ok (.invokestatic 246, 3) := by decide +kernel
theorem dX7_sheet_4 : decode cX7_sheet 4 = .ok (.ifCond .eq 16, 3) := by decide +kernel
theorem dX7_sheet_7 : decode cX7_sheet 7 = .ok (.iload_n 2, 1) := by decide +kernel
theorem dX7_sheet_8 : decode cX7_sheet 8 = .ok (.invokestatic 249, 3) := by decide +kernel
theorem dX7_sheet_11 : decode cX7_sheet 11 = .ok (.ifCond .eq 9, 3) := by decide +kernel
theorem dX7_sheet_14 : decode cX7_sheet 14 = .ok (.iload_n 3, 1) := by decide +kernel
theorem dX7_sheet_15 : decode cX7_sheet 15 = .ok (.bipush 24, 2) := by decide +kernel
theorem dX7_sheet_17 : decode cX7_sheet 17 = .ok (.if_icmp .le 5, 3) := by decide +kernel
theorem dX7_sheet_20 : decode cX7_sheet 20 = .ok (.iconst (-1), 1) := by decide +kernel
theorem dX7_sheet_21 : decode cX7_sheet 21 = .ok (.ireturn, 1) := by decide +kernel
theorem dX7_sheet_22 : decode cX7_sheet 22 = .ok (.iload_n 3, 1) := by decide +kernel
theorem dX7_sheet_23 : decode cX7_sheet 23 = .ok (.ifCond .ge 6, 3) := by decide +kernel
theorem dX7_sheet_26 : decode cX7_sheet 26 = .ok (.bipush (-14), 2) := by decide +kernel
theorem dX7_sheet_28 : decode cX7_sheet 28 = .ok (.ireturn, 1) := by decide +kernel
theorem dX7_sheet_29 : decode cX7_sheet 29 = .ok (.aload_n 0, 1) := by decide +kernel
theorem dX7_sheet_30 : decode cX7_sheet 30 = .ok (.getfield 22, 3) := by decide +kernel
theorem dX7_sheet_33 : decode cX7_sheet 33 = .ok (.iload_n 1, 1) := by decide +kernel
theorem dX7_sheet_34 : decode cX7_sheet 34 = .ok (.iload_n 2, 1) := by decide +kernel
theorem dX7_sheet_35 : decode cX7_sheet 35 = .ok (.iastore, 1) := by decide +kernel
theorem dX7_sheet_36 : decode cX7_sheet 36 = .ok (.aload_n 0, 1) := by decide +kernel
theorem dX7_sheet_37 : decode cX7_sheet 37 = .ok (.getfield 25, 3) := by decide +kernel
theorem dX7_sheet_40 : decode cX7_sheet 40 = .ok (.iload_n 1, 1) := by decide +kernel
theorem dX7_sheet_41 : decode cX7_sheet 41 = .ok (.iload_n 3, 1) := by decide +kernel
theorem dX7_sheet_42 : decode cX7_sheet 42 = .ok (.iastore, 1) := by decide +kernel
theorem dX7_sheet_43 : decode cX7_sheet 43 = .ok (.iconst 0, 1) := by decide +kernel
theorem dX7_sheet_44 : decode cX7_sheet 44 = .ok (.istore 4, 2) := by decide +kernel
theorem dX7_sheet_46 : decode cX7_sheet 46 = .ok (.iload 4, 2) := by decide +kernel
theorem dX7_sheet_48 : decode cX7_sheet 48 = .ok (.iload_n 3, 1) := by decide +kernel
theorem dX7_sheet_49 : decode cX7_sheet 49 = .ok (.if_icmp .ge 22, 3) := by decide +kernel
theorem dX7_sheet_52 : decode cX7_sheet 52 = .ok (.aload_n 0, 1) := by decide +kernel
theorem dX7_sheet_53 : decode cX7_sheet 53 = .ok (.getfield 19, 3) := by decide +kernel
theorem dX7_sheet_56 : decode cX7_sheet 56 = .ok (.bipush 24, 2) := by decide +kernel
theorem dX7_sheet_58 : decode cX7_sheet 58 = .ok (.iload_n 1, 1) := by decide +kernel
theorem dX7_sheet_59 : decode cX7_sheet 59 = .ok (.imul, 1) := by decide +kernel
theorem dX7_sheet_60 : decode cX7_sheet 60 = .ok (.iload 4, 2) := by decide +kernel
theorem dX7_sheet_62 : decode cX7_sheet 62 = .ok (.iadd, 1) := by decide +kernel
theorem dX7_sheet_63 : decode cX7_sheet 63 = .ok (.iconst 0, 1) := by decide +kernel
theorem dX7_sheet_64 : decode cX7_sheet 64 = .ok (.iastore, 1) := by decide +kernel
theorem dX7_sheet_65 : decode cX7_sheet 65 = .ok (.iinc 4 1, 3) := by decide +kernel
theorem dX7_sheet_68 : decode cX7_sheet 68 = .ok (.goto (-22), 3) := by decide +kernel
theorem dX7_sheet_71 : decode cX7_sheet 71 = .ok (.iload_n 3, 1) := by decide +kernel
theorem dX7_sheet_72 : decode cX7_sheet 72 = .ok (.ireturn, 1) := by decide +kernel
theorem dX7_drop_0 : decode cX7_drop 0 = .ok (.iload_n 1, 1) := by decide +kernel
theorem dX7_drop_1 : decode cX7_drop 1 = .ok (.invokestatic 246, 3) := by decide +kernel
theorem dX7_drop_4 : decode cX7_drop 4 = .ok (.ifCond .ne 5, 3) := by decide +kernel
theorem dX7_drop_7 : decode cX7_drop 7 = .ok (.iconst (-1), 1) := by decide +kernel
theorem dX7_drop_8 : decode cX7_drop 8 = .ok (.ireturn, 1) := by decide +kernel
theorem dX7_drop_9 : decode cX7_drop 9 = .ok (.aload_n 0, 1) := by decide +kernel
theorem dX7_drop_10 : decode cX7_drop 10 = .ok (.getfield 22, 3) := by decide +kernel
theorem dX7_drop_13 : decode cX7_drop 13 = .ok (.iload_n 1, 1) := by decide +kernel
theorem dX7_drop_14 : decode cX7_drop 14 = .ok (.iaload, 1) := by decide +kernel
theorem dX7_drop_15 : decode cX7_drop 15 = .ok (.ifCond .ge 6, 3) := by decide +kernel
theorem dX7_drop_18 : decode cX7_drop 18 = .ok (.bipush (-11), 2) := by decide +kernel
theorem dX7_drop_20 : decode cX7_drop 20 = .ok (.ireturn, 1) := by decide +kernel
theorem dX7_drop_21 : decode cX7_drop 21 = .ok (.aload_n 0, 1) := by decide +kernel
theorem dX7_drop_22 : decode cX7_drop 22 = .ok (.getfield 22, 3) := by decide +kernel
theorem dX7_drop_25 : decode cX7_drop 25 = .ok (.iload_n 1, 1) := by decide +kernel
theorem dX7_drop_26 : decode cX7_drop 26 = .ok (.iconst (-1), 1) := by decide +kernel
theorem dX7_drop_27 : decode cX7_drop 27 = .ok (.iastore, 1) := by decide +kernel
theorem dX7_drop_28 : decode cX7_drop 28 = .ok (.aload_n 0, 1) := by decide +kernel
theorem dX7_drop_29 : decode cX7_drop 29 = .ok (.getfield 25, 3) := by decide +kernel
theorem dX7_drop_32 : decode cX7_drop 32 = .ok (.iload_n 1, 1) := by decide +kernel
theorem dX7_drop_33 : decode cX7_drop 33 = .ok (.iaload, 1) := by decide +kernel
theorem dX7_drop_34 : decode cX7_drop 34 = .ok (.ireturn, 1) := by decide +kernel
theorem dX7_item_0 : decode cX7_item 0 = .ok (.iload_n 1, 1) := by decide +kernel
theorem dX7_item_1 : decode cX7_item 1 = .ok (.invokestatic 246, 3) := by decide +kernel
theorem dX7_item_4 : decode cX7_item 4 = .ok (.ifCond .eq 10, 3) := by decide +kernel
theorem dX7_item_7 : decode cX7_item 7 = .ok (.iload_n 2, 1) := by decide +kernel
theorem dX7_item_8 : decode cX7_item 8 = .ok (.invokestatic 249, 3) := by decide +kernel
theorem dX7_item_11 : decode cX7_item 11 = .ok (.ifCond .ne 5, 3) := by decide +kernel
theorem dX7_item_14 : decode cX7_item 14 = .ok (.iconst (-1), 1) := by decide +kernel
theorem dX7_item_15 : decode cX7_item 15 = .ok (.ireturn, 1) := by decide +kernel
theorem dX7_item_16 : decode cX7_item 16 = .ok (.aload_n 0, 1) := by decide +kernel
theorem dX7_item_17 : decode cX7_item 17 = .ok (.getfield 22, 3) := by decide +kernel
theorem dX7_item_20 : decode cX7_item 20 = .ok (.iload_n 1, 1) := by decide +kernel
theorem dX7_item_21 : decode cX7_item 21 = .ok (.iaload, 1) := by decide +kernel
theorem dX7_item_22 : decode cX7_item 22 = .ok (.ifCond .lt 13, 3) := by decide +kernel
theorem dX7_item_25 : decode cX7_item 25 = .ok (.aload_n 0, 1) := by decide +kernel
theorem dX7_item_26 : decode cX7_item 26 = .ok (.getfield 22, 3) := by decide +kernel
theorem dX7_item_29 : decode cX7_item 29 = .ok (.iload_n 1, 1) := by decide +kernel
theorem dX7_item_30 : decode cX7_item 30 = .ok (.iaload, 1) := by decide +kernel
theorem dX7_item_31 : decode cX7_item 31 = .ok (.iload_n 2, 1) := by decide +kernel
theorem dX7_item_32 : decode cX7_item 32 = .ok (.if_icmp .eq 20, 3) := by decide +kernel
theorem dX7_item_35 : decode cX7_item 35 = .ok (.aload_n 0, 1) := by decide +kernel
theorem dX7_item_36 : decode cX7_item 36 = .ok (.getfield 22, 3) := by decide +kernel
theorem dX7_item_39 : decode cX7_item 39 = .ok (.iload_n 1, 1) := by decide +kernel
theorem dX7_item_40 : decode cX7_item 40 = .ok (.iaload, 1) := by decide +kernel
theorem dX7_item_41 : decode cX7_item 41 = .ok (.ifCond .ge 8, 3) := by decide +kernel
theorem dX7_item_44 : decode cX7_item 44 = .ok (.bipush (-11), 2) := by decide +kernel
theorem dX7_item_46 : decode cX7_item 46 = .ok (.goto 5, 3) := by decide +kernel
theorem dX7_item_49 : decode cX7_item 49 = .ok (.bipush (-12), 2) := by decide +kernel
theorem dX7_item_51 : decode cX7_item 51 = .ok (.ireturn, 1) := by decide +kernel
theorem dX7_item_52 : decode cX7_item 52 = .ok (.iload_n 3, 1) := by decide +kernel
theorem dX7_item_53 : decode cX7_item 53 = .ok (.i2l, 1) := by decide +kernel
theorem dX7_item_54 : decode cX7_item 54 = .ok (.lconst 0, 1) := by decide +kernel
theorem dX7_item_55 : decode cX7_item 55 = .ok (.aload_n 0, 1) := by decide +kernel
theorem dX7_item_56 : decode cX7_item 56 = .ok (.getfield 25, 3) := by decide +kernel
theorem dX7_item_59 : decode cX7_item 59 = .ok (.iload_n 1, 1) := by decide +kernel
theorem dX7_item_60 : decode cX7_item 60 = .ok (.iaload, 1) := by decide +kernel
theorem dX7_item_61 : decode cX7_item 61 = .ok (.iconst 1, 1) := by decide +kernel
theorem dX7_item_62 : decode cX7_item 62 = .ok (.isub, 1) := by decide +kernel
theorem dX7_item_63 : decode cX7_item 63 = .ok (.i2l, 1) := by decide +kernel
theorem dX7_item_64 : decode cX7_item 64 = .ok (.invokestatic 50, 3) := by decide +kernel
theorem dX7_item_67 : decode cX7_item 67 = .ok (.ifCond .ne 6, 3) := by decide +kernel
theorem dX7_item_70 : decode cX7_item 70 = .ok (.bipush (-13), 2) := by decide +kernel
theorem dX7_item_72 : decode cX7_item 72 = .ok (.ireturn, 1) := by decide +kernel
theorem dX7_item_73 : decode cX7_item 73 = .ok (.aload_n 0, 1) := by decide +kernel
theorem dX7_item_74 : decode cX7_item 74 = .ok (.getfield 19, 3) := by decide +kernel
theorem dX7_item_77 : decode cX7_item 77 = .ok (.bipush 24, 2) := by decide +kernel
theorem dX7_item_79 : decode cX7_item 79 = .ok (.iload_n 1, 1) := by decide +kernel
theorem dX7_item_80 : decode cX7_item 80 = .ok (.imul, 1) := by decide +kernel
theorem dX7_item_81 : decode cX7_item 81 = .ok (.iload_n 3, 1) := by decide +kernel
theorem dX7_item_82 : decode cX7_item 82 = .ok (.iadd, 1) := by decide +kernel
theorem dX7_item_83 : decode cX7_item 83 = .ok (.iload_n 2, 1) := by decide +kernel
theorem dX7_item_84 : decode cX7_item 84 = .ok (.ifCond .ne 9, 3) := by decide +kernel
theorem dX7_item_87 : decode cX7_item 87 = .ok (.iload 4, 2) := by decide +kernel
theorem dX7_item_89 : decode cX7_item 89 = .ok (.i2b, 1) := by decide +kernel
theorem dX7_item_90 : decode cX7_item 90 = .ok (.goto 16, 3) := by decide +kernel
theorem dX7_item_93 : decode cX7_item 93 = .ok (.iload_n 2, 1) := by decide +kernel
theorem dX7_item_94 : decode cX7_item 94 = .ok (.iconst 1, 1) := by decide +kernel
theorem dX7_item_95 : decode cX7_item 95 = .ok (.if_icmp .ne 9, 3) := by decide +kernel
theorem dX7_item_98 : decode cX7_item 98 = .ok (.iload 4, 2) := by decide +kernel
theorem dX7_item_100 : decode cX7_item 100 = .ok (.i2s, 1) := by decide +kernel
theorem dX7_item_101 : decode cX7_item 101 = .ok (.goto 5, 3) := by decide +kernel
theorem dX7_item_104 : decode cX7_item 104 = .ok (.iload 4, 2) := by decide +kernel
theorem dX7_item_106 : decode cX7_item 106 = .ok (.iastore, 1) := by decide +kernel
theorem dX7_item_107 : decode cX7_item 107 = .ok (.iconst 1, 1) := by decide +kernel
theorem dX7_item_108 : decode cX7_item 108 = .ok (.ireturn, 1) := by decide +kernel
theorem dX7_copy_0 : decode cX7_copy 0 = .ok (.iload_n 1, 1) := by decide +kernel
theorem dX7_copy_1 : decode cX7_copy 1 = .ok (.invokestatic 246, 3) := by decide +kernel
theorem dX7_copy_4 : decode cX7_copy 4 = .ok (.ifCond .eq 10, 3) := by decide +kernel
theorem dX7_copy_7 : decode cX7_copy 7 = .ok (.iload_n 3, 1) := by decide +kernel
theorem dX7_copy_8 : decode cX7_copy 8 = .ok (.invokestatic 246, 3) := by decide +kernel
theorem dX7_copy_11 : decode cX7_copy 11 = .ok (.ifCond .ne 5, 3) := by decide +kernel
theorem dX7_copy_14 : decode cX7_copy 14 = .ok (.iconst (-1), 1) := by decide +kernel
theorem dX7_copy_15 : decode cX7_copy 15 = .ok (.ireturn, 1) := by decide +kernel
theorem dX7_copy_16 : decode cX7_copy 16 = .ok (.aload_n 0, 1) := by decide +kernel
theorem dX7_copy_17 : decode cX7_copy 17 = .ok (.getfield 22, 3) := by decide +kernel
theorem dX7_copy_20 : decode cX7_copy 20 = .ok (.iload_n 1, 1) := by decide +kernel
theorem dX7_copy_21 : decode cX7_copy 21 = .ok (.iaload, 1) := by decide +kernel
theorem dX7_copy_22 : decode cX7_copy 22 = .ok (.ifCond .lt 12, 3) := by decide +kernel
theorem dX7_copy_25 : decode cX7_copy 25 = .ok (.aload_n 0, 1) := by decide +kernel
theorem dX7_copy_26 : decode cX7_copy 26 = .ok (.getfield 22, 3) := by decide +kernel
theorem dX7_copy_29 : decode cX7_copy 29 = .ok (.iload_n 3, 1) := by decide +kernel
theorem dX7_copy_30 : decode cX7_copy 30 = .ok (.iaload, 1) := by decide +kernel
theorem dX7_copy_31 : decode cX7_copy 31 = .ok (.ifCond .ge 6, 3) := by decide +kernel
theorem dX7_copy_34 : decode cX7_copy 34 = .ok (.bipush (-11), 2) := by decide +kernel
theorem dX7_copy_36 : decode cX7_copy 36 = .ok (.ireturn, 1) := by decide +kernel
theorem dX7_copy_37 : decode cX7_copy 37 = .ok (.aload_n 0, 1) := by decide +kernel
theorem dX7_copy_38 : decode cX7_copy 38 = .ok (.getfield 22, 3) := by decide +kernel
theorem dX7_copy_41 : decode cX7_copy 41 = .ok (.iload_n 1, 1) := by decide +kernel
theorem dX7_copy_42 : decode cX7_copy 42 = .ok (.iaload, 1) := by decide +kernel
theorem dX7_copy_43 : decode cX7_copy 43 = .ok (.aload_n 0, 1) := by decide +kernel
theorem dX7_copy_44 : decode cX7_copy 44 = .ok (.getfield 22, 3) := by decide +kernel
theorem dX7_copy_47 : decode cX7_copy 47 = .ok (.iload_n 3, 1) := by decide +kernel
theorem dX7_copy_48 : decode cX7_copy 48 = .ok (.iaload, 1) := by decide +kernel
theorem dX7_copy_49 : decode cX7_copy 49 = .ok (.if_icmp .eq 6, 3) := by decide +kernel
theorem dX7_copy_52 : decode cX7_copy 52 = .ok (.bipush (-12), 2) := by decide +kernel
theorem dX7_copy_54 : decode cX7_copy 54 = .ok (.ireturn, 1) := by decide +kernel
theorem dX7_copy_55 : decode cX7_copy 55 = .ok (.iload_n 2, 1) := by decide +kernel
theorem dX7_copy_56 : decode cX7_copy 56 = .ok (.ifCond .lt 48, 3) := by decide +kernel
theorem dX7_copy_59 : decode cX7_copy 59 = .ok (.iload 4, 2) := by decide +kernel
theorem dX7_copy_61 : decode cX7_copy 61 = .ok (.ifCond .lt 43, 3) := by decide +kernel
theorem dX7_copy_64 : decode cX7_copy 64 = .ok (.iload 5, 2) := by decide +kernel
theorem dX7_copy_66 : decode cX7_copy 66 = .ok (.ifCond .lt 38, 3) := by decide +kernel
theorem dX7_copy_69 : decode cX7_copy 69 = .ok (.iload_n 2, 1) := by decide +kernel
theorem dX7_copy_70 : decode cX7_copy 70 = .ok (.i2l, 1) := by decide +kernel
theorem dX7_copy_71 : decode cX7_copy 71 = .ok (.iload 5, 2) := by decide +kernel
theorem dX7_copy_73 : decode cX7_copy 73 = .ok (.i2l, 1) := by decide +kernel
theorem dX7_copy_74 : decode cX7_copy 74 = .ok (.ladd, 1) := by decide +kernel
theorem dX7_copy_75 : decode cX7_copy 75 = .ok (.aload_n 0, 1) := by decide +kernel
theorem dX7_copy_76 : decode cX7_copy 76 = .ok (.getfield 25, 3) := by decide +kernel
theorem dX7_copy_79 : decode cX7_copy 79 = .ok (.iload_n 1, 1) := by decide +kernel
theorem dX7_copy_80 : decode cX7_copy 80 = .ok (.iaload, 1) := by decide +kernel
theorem dX7_copy_81 : decode cX7_copy 81 = .ok (.i2l, 1) := by decide +kernel
theorem dX7_copy_82 : decode cX7_copy 82 = .ok (.lcmp, 1) := by decide +kernel
theorem dX7_copy_83 : decode cX7_copy 83 = .ok (.ifCond .gt 21, 3) := by decide +kernel
theorem dX7_copy_86 : decode cX7_copy 86 = .ok (.iload 4, 2) := by decide +kernel
theorem dX7_copy_88 : decode cX7_copy 88 = .ok (.i2l, 1) := by decide +kernel
theorem dX7_copy_89 : decode cX7_copy 89 = .ok (.iload 5, 2) := by decide +kernel
theorem dX7_copy_91 : decode cX7_copy 91 = .ok (.i2l, 1) := by decide +kernel
theorem dX7_copy_92 : decode cX7_copy 92 = .ok (.ladd, 1) := by decide +kernel
theorem dX7_copy_93 : decode cX7_copy 93 = .ok (.aload_n 0, 1) := by decide +kernel
theorem dX7_copy_94 : decode cX7_copy 94 = .ok (.getfield 25, 3) := by decide +kernel
theorem dX7_copy_97 : decode cX7_copy 97 = .ok (.iload_n 3, 1) := by decide +kernel
theorem dX7_copy_98 : decode cX7_copy 98 = .ok (.iaload, 1) := by decide +kernel
theorem dX7_copy_99 : decode cX7_copy 99 = .ok (.i2l, 1) := by decide +kernel
theorem dX7_copy_100 : decode cX7_copy 100 = .ok (.lcmp, 1) := by decide +kernel
theorem dX7_copy_101 : decode cX7_copy 101 = .ok (.ifCond .le 6, 3) := by decide +kernel
theorem dX7_copy_104 : decode cX7_copy 104 = .ok (.bipush (-13), 2) := by decide +kernel
theorem dX7_copy_106 : decode cX7_copy 106 = .ok (.ireturn, 1) := by decide +kernel
theorem dX7_copy_107 : decode cX7_copy 107 = .ok (.iconst 0, 1) := by decide +kernel
theorem dX7_copy_108 : decode cX7_copy 108 = .ok (.istore 6, 2) := by decide +kernel
theorem dX7_copy_110 : decode cX7_copy 110 = .ok (.iload 6, 2) := by decide +kernel
theorem dX7_copy_112 : decode cX7_copy 112 = .ok (.iload 5, 2) := by decide +kernel
theorem dX7_copy_114 : decode cX7_copy 114 = .ok (.if_icmp .ge 30, 3) := by decide +kernel
theorem dX7_copy_117 : decode cX7_copy 117 = .ok (.aload_n 0, 1) := by decide +kernel
theorem dX7_copy_118 : decode cX7_copy 118 = .ok (.getfield 28, 3) := by decide +kernel
theorem dX7_copy_121 : decode cX7_copy 121 = .ok (.iload 6, 2) := by decide +kernel
theorem dX7_copy_123 : decode cX7_copy 123 = .ok (.aload_n 0, 1) := by decide +kernel
theorem dX7_copy_124 : decode cX7_copy 124 = .ok (.getfield 19, 3) := by decide +kernel
theorem dX7_copy_127 : decode cX7_copy 127 = .ok (.bipush 24, 2) := by decide +kernel
theorem dX7_copy_129 : decode cX7_copy 129 = .ok (.iload_n 1, 1) := by decide +kernel
theorem dX7_copy_130 : decode cX7_copy 130 = .ok (.imul, 1) := by decide +kernel
theorem dX7_copy_131 : decode cX7_copy 131 = .ok (.iload_n 2, 1) := by decide +kernel
theorem dX7_copy_132 : decode cX7_copy 132 = .ok (.iadd, 1) := by decide +kernel
theorem dX7_copy_133 : decode cX7_copy 133 = .ok (.iload 6, 2) := by decide +kernel
theorem dX7_copy_135 : decode cX7_copy 135 = .ok (.iadd, 1) := by decide +kernel
theorem dX7_copy_136 : decode cX7_copy 136 = .ok (.iaload, 1) := by decide +kernel
theorem dX7_copy_137 : decode cX7_copy 137 = .ok (.iastore, 1) := by decide +kernel
theorem dX7_copy_138 : decode cX7_copy 138 = .ok (.iinc 6 1, 3) := by decide +kernel
theorem dX7_copy_141 : decode cX7_copy 141 = .ok (.goto (-31), 3) := by decide +kernel
theorem dX7_copy_144 : decode cX7_copy 144 = .ok (.iconst 0, 1) := by decide +kernel
theorem dX7_copy_145 : decode cX7_copy 145 = .ok (.istore 6, 2) := by decide +kernel
theorem dX7_copy_147 : decode cX7_copy 147 = .ok (.iload 6, 2) := by decide +kernel
theorem dX7_copy_149 : decode cX7_copy 149 = .ok (.iload 5, 2) := by decide +kernel
theorem dX7_copy_151 : decode cX7_copy 151 = .ok (.if_icmp .ge 31, 3) := by decide +kernel
theorem dX7_copy_154 : decode cX7_copy 154 = .ok (.aload_n 0, 1) := by decide +kernel
theorem dX7_copy_155 : decode cX7_copy 155 = .ok (.getfield 19, 3) := by decide +kernel
theorem dX7_copy_158 : decode cX7_copy 158 = .ok (.bipush 24, 2) := by decide +kernel
theorem dX7_copy_160 : decode cX7_copy 160 = .ok (.iload_n 3, 1) := by decide +kernel
theorem dX7_copy_161 : decode cX7_copy 161 = .ok (.imul, 1) := by decide +kernel
theorem dX7_copy_162 : decode cX7_copy 162 = .ok (.iload 4, 2) := by decide +kernel
theorem dX7_copy_164 : decode cX7_copy 164 = .ok (.iadd, 1) := by decide +kernel
theorem dX7_copy_165 : decode cX7_copy 165 = .ok (.iload 6, 2) := by decide +kernel
theorem dX7_copy_167 : decode cX7_copy 167 = .ok (.iadd, 1) := by decide +kernel
theorem dX7_copy_168 : decode cX7_copy 168 = .ok (.aload_n 0, 1) := by decide +kernel
theorem dX7_copy_169 : decode cX7_copy 169 = .ok (.getfield 28, 3) := by decide +kernel
theorem dX7_copy_172 : decode cX7_copy 172 = .ok (.iload 6, 2) := by decide +kernel
theorem dX7_copy_174 : decode cX7_copy 174 = .ok (.iaload, 1) := by decide +kernel
theorem dX7_copy_175 : decode cX7_copy 175 = .ok (.iastore, 1) := by decide +kernel
theorem dX7_copy_176 : decode cX7_copy 176 = .ok (.iinc 6 1, 3) := by decide +kernel
theorem dX7_copy_179 : decode cX7_copy 179 = .ok (.goto (-32), 3) := by decide +kernel
theorem dX7_copy_182 : decode cX7_copy 182 = .ok (.iload 5, 2) := by decide +kernel
theorem dX7_copy_184 : decode cX7_copy 184 = .ok (.ireturn, 1) := by decide +kernel
