theorem dX0_init_0 : decode cX0_init 0 = .ok (.aload_n 0, 1) := by decide +kernel
theorem dX0_init_1 : decode cX0_init 1 = .ok (.invokespecial 3, 3) := by decide +kernel
theorem dX0_init_4 : decode cX0_init 4 = .ok (.aload_n 0, 1) := by decide +kernel
theorem dX0_init_5 : decode cX0_init 5 = .ok (.new 9, 3) := by decide +kernel
theorem dX0_init_8 : decode cX0_init 8 = .ok (.dup, 1) := by decide +kernel
theorem dX0_init_9 : decode cX0_init 9 = .ok (.invokespecial 11, 3) := by decide +kernel
theorem dX0_init_12 : decode cX0_init 12 = .ok (.putfield 12, 3) := by decide +kernel
theorem dX0_init_15 : decode cX0_init 15 = .ok (.aload_n 0, 1) := by decide +kernel
theorem dX0_init_16 : decode cX0_init 16 = .ok (.bipush 6, 2) := by decide +kernel
theorem dX0_init_18 : decode cX0_init 18 = .ok (.newarray .int, 2) := by decide +kernel
theorem dX0_init_20 : decode cX0_init 20 = .ok (.putfield 18, 3) := by decide +kernel
theorem dX0_init_23 : decode cX0_init 23 = .ok (.return_, 1) := by decide +kernel
theorem dX0_hoursUntilLevel_0 : decode cX0_hoursUntilLevel 0 = .ok (.iconst 0, 1) := by decide +kernel
theorem dX0_hoursUntilLevel_1 : decode cX0_hoursUntilLevel 1 = .ok (.istore_n 2, 1) := by decide +kernel
theorem dX0_hoursUntilLevel_2 : decode cX0_hoursUntilLevel 2 = .ok (.iload_n 2, 1) := by decide +kernel
theorem dX0_hoursUntilLevel_3 : decode cX0_hoursUntilLevel 3 = .ok (.bipush 20, 2) := by decide +kernel
theorem dX0_hoursUntilLevel_5 : decode cX0_hoursUntilLevel 5 = .ok (.if_icmp .gt 40, 3) := by decide +kernel
theorem dX0_hoursUntilLevel_8 : decode cX0_hoursUntilLevel 8 = .ok (.aload_n 0, 1) := by decide +kernel
theorem dX0_hoursUntilLevel_9 : decode cX0_hoursUntilLevel 9 = .ok (.getfield 12, 3) := by decide +kernel
theorem dX0_hoursUntilLevel_12 : decode cX0_hoursUntilLevel 12 = .ok (.aload_n 1, 1) := by decide +kernel
theorem dX0_hoursUntilLevel_13 : decode cX0_hoursUntilLevel 13 = .ok (.aload_n 1, 1) := by decide +kernel
theorem dX0_hoursUntilLevel_14 : decode cX0_hoursUntilLevel 14 = .ok (.getfield 22, 3) := by decide +kernel
theorem dX0_hoursUntilLevel_17 : decode cX0_hoursUntilLevel 17 = .ok (.iload_n 2, 1) := by decide +kernel
theorem dX0_hoursUntilLevel_18 : decode cX0_hoursUntilLevel 18 = .ok (.iadd, 1) := by decide +kernel
theorem dX0_hoursUntilLevel_19 : decode cX0_hoursUntilLevel 19 = .ok (.invokevirtual 28, 3) := by decide +kernel
theorem dX0_hoursUntilLevel_22 : decode cX0_hoursUntilLevel 22 = .ok (.aload_n 0, 1) := by decide +kernel
theorem dX0_hoursUntilLevel_23 : decode cX0_hoursUntilLevel 23 = .ok (.getfield 12, 3) := by decide +kernel
theorem dX0_hoursUntilLevel_26 : decode cX0_hoursUntilLevel 26 = .ok (.aload_n 1, 1) := by decide +kernel
theorem dX0_hoursUntilLevel_27 : decode cX0_hoursUntilLevel 27 = .ok (.aload_n 1, 1) := by decide +kernel
theorem dX0_hoursUntilLevel_28 : decode cX0_hoursUntilLevel 28 = .ok (.getfield 32, 3) := by decide +kernel
theorem dX0_hoursUntilLevel_31 : decode cX0_hoursUntilLevel 31 = .ok (.invokevirtual 33, 3) := by decide +kernel
theorem dX0_hoursUntilLevel_34 : decode cX0_hoursUntilLevel 34 = .ok (.ifCond .eq 5, 3) := by decide +kernel
theorem dX0_hoursUntilLevel_37 : decode cX0_hoursUntilLevel 37 = .ok (.iload_n 2, 1) := by decide +kernel
theorem dX0_hoursUntilLevel_38 : decode cX0_hoursUntilLevel 38 = .ok (.ireturn, 1) := by decide +kernel
theorem dX0_hoursUntilLevel_39 : decode cX0_hoursUntilLevel 39 = .ok (.iinc 2 1, 3) := by decide +kernel
theorem dX0_hoursUntilLevel_42 : decode cX0_hoursUntilLevel 42 = .ok (.goto (-40), 3) := by decide +kernel
theorem dX0_hoursUntilLevel_45 : decode cX0_hoursUntilLevel 45 = .ok (.iconst (-1), 1) := by decide +kernel
theorem dX0_hoursUntilLevel_46 : decode cX0_hoursUntilLevel 46 = .ok (.ireturn, 1) := by decide +kernel
theorem dX0_pass_0 : decode cX0_pass 0 = .ok (.aload_n 0, 1) := by decide +kernel
theorem dX0_pass_1 : decode cX0_pass 1 = .ok (.iload_n 3, 1) := by decide +kernel
theorem dX0_pass_2 : decode cX0_pass 2 = .ok (.putfield 37, 3) := by decide +kernel
theorem dX0_pass_5 : decode cX0_pass 5 = .ok (.aload_n 0, 1) := by decide +kernel
theorem dX0_pass_6 : decode cX0_pass 6 = .ok (.iconst 0, 1) := by decide +kernel
theorem dX0_pass_7 : decode cX0_pass 7 = .ok (.putfield 40, 3) := by decide +kernel
theorem dX0_pass_10 : decode cX0_pass 10 = .ok (.iconst 0, 1) := by decide +kernel
theorem dX0_pass_11 : decode cX0_pass 11 = .ok (.istore 4, 2) := by decide +kernel
theorem dX0_pass_13 : decode cX0_pass 13 = .ok (.iload 4, 2) := by decide +kernel
theorem dX0_pass_15 : decode cX0_pass 15 = .ok (.bipush 6, 2) := by decide +kernel
theorem dX0_pass_17 : decode cX0_pass 17 = .ok (.if_icmp .ge 23, 3) := by decide +kernel
theorem dX0_pass_20 : decode cX0_pass 20 = .ok (.aload_n 0, 1) := by decide +kernel
theorem dX0_pass_21 : decode cX0_pass 21 = .ok (.getfield 18, 3) := by decide +kernel
theorem dX0_pass_24 : decode cX0_pass 24 = .ok (.iload 4, 2) := by decide +kernel
theorem dX0_pass_26 : decode cX0_pass 26 = .ok (.aload_n 1, 1) := by decide +kernel
theorem dX0_pass_27 : decode cX0_pass 27 = .ok (.getfield 32, 3) := by decide +kernel
theorem dX0_pass_30 : decode cX0_pass 30 = .ok (.iload 4, 2) := by decide +kernel
theorem dX0_pass_32 : decode cX0_pass 32 = .ok (.iaload, 1) := by decide +kernel
theorem dX0_pass_33 : decode cX0_pass 33 = .ok (.iastore, 1) := by decide +kernel
theorem dX0_pass_34 : decode cX0_pass 34 = .ok (.iinc 4 1, 3) := by decide +kernel
theorem dX0_pass_37 : decode cX0_pass 37 = .ok (.goto (-24), 3) := by decide +kernel
theorem dX0_pass_40 : decode cX0_pass 40 = .ok (.iconst 1, 1) := by decide +kernel
theorem dX0_pass_41 : decode cX0_pass 41 = .ok (.istore 4, 2) := by decide +kernel
theorem dX0_pass_43 : decode cX0_pass 43 = .ok (.iload 4, 2) := by decide +kernel
theorem dX0_pass_45 : decode cX0_pass 45 = .ok (.iload_n 2, 1) := by decide +kernel
theorem dX0_pass_46 : decode cX0_pass 46 = .ok (.if_icmp .gt 111, 3) := by decide +kernel
theorem dX0_pass_49 : decode cX0_pass 49 = .ok (.aload_n 0, 1) := by decide +kernel
theorem dX0_pass_50 : decode cX0_pass 50 = .ok (.aload_n 1, 1) := by decide +kernel
theorem dX0_pass_51 : decode cX0_pass 51 = .ok (.getfield 43, 3) := by decide +kernel
theorem dX0_pass_54 : decode cX0_pass 54 = .ok (.invokevirtual 46, 3) := by decide +kernel
theorem dX0_pass_57 : decode cX0_pass 57 = .ok (.istore 5, 2) := by decide +kernel
theorem dX0_pass_59 : decode cX0_pass 59 = .ok (.aload_n 0, 1) := by decide +kernel
theorem dX0_pass_60 : decode cX0_pass 60 = .ok (.aload_n 1, 1) := by decide +kernel
theorem dX0_pass_61 : decode cX0_pass 61 = .ok (.getfield 43, 3) := by decide +kernel
theorem dX0_pass_64 : decode cX0_pass 64 = .ok (.invokevirtual 46, 3) := by decide +kernel
theorem dX0_pass_67 : decode cX0_pass 67 = .ok (.istore 6, 2) := by decide +kernel
theorem dX0_pass_69 : decode cX0_pass 69 = .ok (.iload 5, 2) := by decide +kernel
theorem dX0_pass_71 : decode cX0_pass 71 = .ok (.iload 6, 2) := by decide +kernel
theorem dX0_pass_73 : decode cX0_pass 73 = .ok (.if_icmp .eq 34, 3) := by decide +kernel
theorem dX0_pass_76 : decode cX0_pass 76 = .ok (.aload_n 1, 1) := by decide +kernel
theorem dX0_pass_77 : decode cX0_pass 77 = .ok (.getfield 50, 3) := by decide +kernel
theorem dX0_pass_80 : decode cX0_pass 80 = .ok (.iload 5, 2) := by decide +kernel
theorem dX0_pass_82 : decode cX0_pass 82 = .ok (.baload, 1) := by decide +kernel
theorem dX0_pass_83 : decode cX0_pass 83 = .ok (.ifCond .ne 24, 3) := by decide +kernel
theorem dX0_pass_86 : decode cX0_pass 86 = .ok (.aload_n 1, 1) := by decide +kernel
theorem dX0_pass_87 : decode cX0_pass 87 = .ok (.getfield 50, 3) := by decide +kernel
theorem dX0_pass_90 : decode cX0_pass 90 = .ok (.iload 6, 2) := by decide +kernel
theorem dX0_pass_92 : decode cX0_pass 92 = .ok (.baload, 1) := by decide +kernel
theorem dX0_pass_93 : decode cX0_pass 93 = .ok (.ifCond .ne 14, 3) := by decide +kernel
theorem dX0_pass_96 : decode cX0_pass 96 = .ok (.aload_n 0, 1) := by decide +kernel
theorem dX0_pass_97 : decode cX0_pass 97 = .ok (.getfield 18, 3) := by decide +kernel
theorem dX0_pass_100 : decode cX0_pass 100 = .ok (.iload 5, 2) := by decide +kernel
theorem dX0_pass_102 : decode cX0_pass 102 = .ok (.iload 6, 2) := by decide +kernel
theorem dX0_pass_104 : decode cX0_pass 104 = .ok (.invokestatic 54, 3) := by decide +kernel
theorem dX0_pass_107 : decode cX0_pass 107 = .ok (.aload_n 0, 1) := by decide +kernel
theorem dX0_pass_108 : decode cX0_pass 108 = .ok (.getfield 12, 3) := by decide +kernel
theorem dX0_pass_111 : decode cX0_pass 111 = .ok (.aload_n 1, 1) := by decide +kernel
theorem dX0_pass_112 : decode cX0_pass 112 = .ok (.aload_n 1, 1) := by decide +kernel
theorem dX0_pass_113 : decode cX0_pass 113 = .ok (.getfield 22, 3) := by decide +kernel
theorem dX0_pass_116 : decode cX0_pass 116 = .ok (.iload 4, 2) := by decide +kernel
theorem dX0_pass_118 : decode cX0_pass 118 = .ok (.iadd, 1) := by decide +kernel
theorem dX0_pass_119 : decode cX0_pass 119 = .ok (.invokevirtual 28, 3) := by decide +kernel
theorem dX0_pass_122 : decode cX0_pass 122 = .ok (.aload_n 0, 1) := by decide +kernel
theorem dX0_pass_123 : decode cX0_pass 123 = .ok (.getfield 12, 3) := by decide +kernel
theorem dX0_pass_126 : decode cX0_pass 126 = .ok (.aload_n 1, 1) := by decide +kernel
theorem dX0_pass_127 : decode cX0_pass 127 = .ok (.aload_n 0, 1) := by decide +kernel
theorem dX0_pass_128 : decode cX0_pass 128 = .ok (.getfield 18, 3) := by decide +kernel
theorem dX0_pass_131 : decode cX0_pass 131 = .ok (.invokevirtual 58, 3) := by decide +kernel
theorem dX0_pass_134 : decode cX0_pass 134 = .ok (.aload_n 0, 1) := by decide +kernel
theorem dX0_pass_135 : decode cX0_pass 135 = .ok (.dup, 1) := by decide +kernel
theorem dX0_pass_136 : decode cX0_pass 136 = .ok (.getfield 40, 3) := by decide +kernel
theorem dX0_pass_139 : decode cX0_pass 139 = .ok (.aload_n 0, 1) := by decide +kernel
theorem dX0_pass_140 : decode cX0_pass 140 = .ok (.getfield 12, 3) := by decide +kernel
theorem dX0_pass_143 : decode cX0_pass 143 = .ok (.aload_n 1, 1) := by decide +kernel
theorem dX0_pass_144 : decode cX0_pass 144 = .ok (.invokevirtual 62, 3) := by decide +kernel
theorem dX0_pass_147 : decode cX0_pass 147 = .ok (.iadd, 1) := by decide +kernel
theorem dX0_pass_148 : decode cX0_pass 148 = .ok (.putfield 40, 3) := by decide +kernel
theorem dX0_pass_151 : decode cX0_pass 151 = .ok (.iinc 4 1, 3) := by decide +kernel
theorem dX0_pass_154 : decode cX0_pass 154 = .ok (.goto (-111), 3) := by decide +kernel
theorem dX0_pass_157 : decode cX0_pass 157 = .ok (.aload_n 0, 1) := by decide +kernel
theorem dX0_pass_158 : decode cX0_pass 158 = .ok (.aload_n 0, 1) := by decide +kernel
theorem dX0_pass_159 : decode cX0_pass 159 = .ok (.getfield 12, 3) := by decide +kernel
theorem dX0_pass_162 : decode cX0_pass 162 = .ok (.getfield 66, 3) := by decide +kernel
theorem dX0_pass_165 : decode cX0_pass 165 = .ok (.iconst 0, 1) := by decide +kernel
theorem dX0_pass_166 : decode cX0_pass 166 = .ok (.iaload, 1) := by decide +kernel
theorem dX0_pass_167 : decode cX0_pass 167 = .ok (.putfield 69, 3) := by decide +kernel
theorem dX0_pass_170 : decode cX0_pass 170 = .ok (.return_, 1) := by decide +kernel
theorem dX0_draw_0 : decode cX0_draw 0 = .ok (.aload_n 0, 1) := by decide +kernel
theorem dX0_draw_1 : decode cX0_draw 1 = .ok (.ldc2_w 72, 3) := by decide +kernel
theorem dX0_draw_4 : decode cX0_draw 4 = .ok (.aload_n 0, 1) := by decide +kernel
theorem dX0_draw_5 : decode cX0_draw 5 = .ok (.getfield 37, 3) := by decide +kernel
theorem dX0_draw_8 : decode cX0_draw 8 = .ok (.i2l, 1) := by decide +kernel
theorem dX0_draw_9 : decode cX0_draw 9 = .ok (.lmul, 1) := by decide +kernel
theorem dX0_draw_10 : decode cX0_draw 10 = .ok (.ldc2_w 74, 3) := by decide +kernel
theorem dX0_draw_13 : decode cX0_draw 13 = .ok (.ladd, 1) := by decide +kernel
theorem dX0_draw_14 : decode cX0_draw 14 = .ok (.ldc2_w 76, 3) := by decide +kernel
theorem dX0_draw_17 : decode cX0_draw 17 = .ok (.land, 1) := by decide +kernel
theorem dX0_draw_18 : decode cX0_draw 18 = .ok (.l2i, 1) := by decide +kernel
theorem dX0_draw_19 : decode cX0_draw 19 = .ok (.putfield 37, 3) := by decide +kernel
theorem dX0_draw_22 : decode cX0_draw 22 = .ok (.iload_n 1, 1) := by decide +kernel
theorem dX0_draw_23 : decode cX0_draw 23 = .ok (.ifCond .le 15, 3) := by decide +kernel
theorem dX0_draw_26 : decode cX0_draw 26 = .ok (.aload_n 0, 1) := by decide +kernel
theorem dX0_draw_27 : decode cX0_draw 27 = .ok (.getfield 37, 3) := by decide +kernel
theorem dX0_draw_30 : decode cX0_draw 30 = .ok (.ldc 78, 2) := by decide +kernel
theorem dX0_draw_32 : decode cX0_draw 32 = .ok (.idiv, 1) := by decide +kernel
theorem dX0_draw_33 : decode cX0_draw 33 = .ok (.iload_n 1, 1) := by decide +kernel
theorem dX0_draw_34 : decode cX0_draw 34 = .ok (.irem, 1) := by decide +kernel
theorem dX0_draw_35 : decode cX0_draw 35 = .ok (.goto 4, 3) := by decide +kernel
theorem dX0_draw_38 : decode cX0_draw 38 = .ok (.iconst 0, 1) := by decide +kernel
theorem dX0_draw_39 : decode cX0_draw 39 = .ok (.ireturn, 1) := by decide +kernel
theorem dX1_isKind_0 : decode cX1_isKind 0 = .ok (.iload_n 0, 1) := by decide +kernel
theorem dX1_isKind_1 : decode cX1_isKind 1 = .ok (.ifCond .lt 12, 3) := by decide +kernel
theorem dX1_isKind_4 : decode cX1_isKind 4 = .ok (.iload_n 0, 1) := by decide +kernel
theorem dX1_isKind_5 : decode cX1_isKind 5 = .ok (.iconst 4, 1) := by decide +kernel
theorem dX1_isKind_6 : decode cX1_isKind 6 = .ok (.if_icmp .gt 7, 3) := by decide +kernel
theorem dX1_isKind_9 : decode cX1_isKind 9 = .ok (.iconst 1, 1) := by decide +kernel
theorem dX1_isKind_10 : decode cX1_isKind 10 = .ok (.goto 4, 3) := by decide +kernel
theorem dX1_isKind_13 : decode cX1_isKind 13 = .ok (.iconst 0, 1) := by decide +kernel
theorem dX1_isKind_14 : decode cX1_isKind 14 = .ok (.ireturn, 1) := by decide +kernel
theorem dX1_isA_0 : decode cX1_isA 0 = .ok (.iload_n 1, 1) := by decide +kernel
theorem dX1_isA_1 : decode cX1_isA 1 = .ok (.iload_n 0, 1) := by decide +kernel
theorem dX1_isA_2 : decode cX1_isA 2 = .ok (.if_icmp .eq 17, 3) := by decide +kernel
theorem dX1_isA_5 : decode cX1_isA 5 = .ok (.iload_n 1, 1) := by decide +kernel
theorem dX1_isA_6 : decode cX1_isA 6 = .ok (.ifCond .eq 13, 3) := by decide +kernel
theorem dX1_isA_9 : decode cX1_isA 9 = .ok (.iload_n 0, 1) := by decide +kernel
theorem dX1_isA_10 : decode cX1_isA 10 = .ok (.iconst 4, 1) := by decide +kernel
theorem dX1_isA_11 : decode cX1_isA 11 = .ok (.if_icmp .ne 12, 3) := by decide +kernel
theorem dX1_isA_14 : decode cX1_isA 14 = .ok (.iload_n 1, 1) := by decide +kernel
theorem dX1_isA_15 : decode cX1_isA 15 = .ok (.iconst 1, 1) := by decide +kernel
theorem dX1_isA_16 : decode cX1_isA 16 = .ok (.if_icmp .ne 7, 3) := by decide +kernel
theorem dX1_isA_19 : decode cX1_isA 19 = .ok (.iconst 1, 1) := by decide +kernel
theorem dX1_isA_20 : decode cX1_isA 20 = .ok (.goto 4, 3) := by decide +kernel
theorem dX1_isA_23 : decode cX1_isA 23 = .ok (.iconst 0, 1) := by decide +kernel
theorem dX1_isA_24 : decode cX1_isA 24 = .ok (.ireturn, 1) := by decide +kernel
theorem dX1_weight_0 : decode cX1_weight 0 = .ok (.iload_n 0, 1) := by decide +kernel
theorem dX1_weight_1 : decode cX1_weight 1 = .ok (.tableswitch 50 1 4 #[31, 35, 37, 40], 31) := by decide +kernel
theorem dX1_weight_32 : decode cX1_weight 32 = .ok (.iconst 2, 1) := by decide +kernel
theorem dX1_weight_33 : decode cX1_weight 33 = .ok (.iload_n 1, 1) := by decide +kernel
theorem dX1_weight_34 : decode cX1_weight 34 = .ok (.imul, 1) := by decide +kernel
theorem dX1_weight_35 : decode cX1_weight 35 = .ok (.ireturn, 1) := by decide +kernel
theorem dX1_weight_36 : decode cX1_weight 36 = .ok (.iconst 0, 1) := by decide +kernel
theorem dX1_weight_37 : decode cX1_weight 37 = .ok (.ireturn, 1) := by decide +kernel
theorem dX1_weight_38 : decode cX1_weight 38 = .ok (.iload_n 1, 1) := by decide +kernel
theorem dX1_weight_39 : decode cX1_weight 39 = .ok (.ineg, 1) := by decide +kernel
theorem dX1_weight_40 : decode cX1_weight 40 = .ok (.ireturn, 1) := by decide +kernel
theorem dX1_weight_41 : decode cX1_weight 41 = .ok (.iconst 0, 1) := by decide +kernel
theorem dX1_weight_42 : decode cX1_weight 42 = .ok (.iconst 2, 1) := by decide +kernel
theorem dX1_weight_43 : decode cX1_weight 43 = .ok (.iload_n 1, 1) := by decide +kernel
theorem dX1_weight_44 : decode cX1_weight 44 = .ok (.imul, 1) := by decide +kernel
theorem dX1_weight_45 : decode cX1_weight 45 = .ok (.iload_n 2, 1) := by decide +kernel
theorem dX1_weight_46 : decode cX1_weight 46 = .ok (.isub, 1) := by decide +kernel
theorem dX1_weight_47 : decode cX1_weight 47 = .ok (.invokestatic 9, 3) := by decide +kernel
theorem dX1_weight_50 : decode cX1_weight 50 = .ok (.ireturn, 1) := by decide +kernel
theorem dX1_weight_51 : decode cX1_weight 51 = .ok (.iload_n 1, 1) := by decide +kernel
theorem dX1_weight_52 : decode cX1_weight 52 = .ok (.ireturn, 1) := by decide +kernel
theorem dX2_init_0 : decode cX2_init 0 = .ok (.aload_n 0, 1) := by decide +kernel
theorem dX2_init_1 : decode cX2_init 1 = .ok (.invokespecial 3, 3) := by decide +kernel
theorem dX2_init_4 : decode cX2_init 4 = .ok (.aload_n 0, 1) := by decide +kernel
theorem dX2_init_5 : decode cX2_init 5 = .ok (.bipush 6, 2) := by decide +kernel
theorem dX2_init_7 : decode cX2_init 7 = .ok (.newarray .int, 2) := by decide +kernel
theorem dX2_init_9 : decode cX2_init 9 = .ok (.putfield 9, 3) := by decide +kernel
theorem dX2_init_12 : decode cX2_init 12 = .ok (.aload_n 0, 1) := by decide +kernel
theorem dX2_init_13 : decode cX2_init 13 = .ok (.new 15, 3) := by decide +kernel
theorem dX2_init_16 : decode cX2_init 16 = .ok (.dup, 1) := by decide +kernel
theorem dX2_init_17 : decode cX2_init 17 = .ok (.invokespecial 17, 3) := by decide +kernel
theorem dX2_init_20 : decode cX2_init 20 = .ok (.putfield 18, 3) := by decide +kernel
theorem dX2_init_23 : decode cX2_init 23 = .ok (.aload_n 0, 1) := by decide +kernel
theorem dX2_init_24 : decode cX2_init 24 = .ok (.bipush 6, 2) := by decide +kernel
theorem dX2_init_26 : decode cX2_init 26 = .ok (.newarray .int, 2) := by decide +kernel
theorem dX2_init_28 : decode cX2_init 28 = .ok (.putfield 22, 3) := by decide +kernel
theorem dX2_init_31 : decode cX2_init 31 = .ok (.aload_n 0, 1) := by decide +kernel
theorem dX2_init_32 : decode cX2_init 32 = .ok (.bipush 6, 2) := by decide +kernel
theorem dX2_init_34 : decode cX2_init 34 = .ok (.newarray .int, 2) := by decide +kernel
theorem dX2_init_36 : decode cX2_init 36 = .ok (.putfield 25, 3) := by decide +kernel
theorem dX2_init_39 : decode cX2_init 39 = .ok (.aload_n 0, 1) := by decide +kernel
theorem dX2_init_40 : decode cX2_init 40 = .ok (.bipush 6, 2) := by decide +kernel
theorem dX2_init_42 : decode cX2_init 42 = .ok (.newarray .int, 2) := by decide +kernel
theorem dX2_init_44 : decode cX2_init 44 = .ok (.putfield 28, 3) := by decide +kernel
theorem dX2_init_47 : decode cX2_init 47 = .ok (.return_, 1) := by decide +kernel
theorem dX2_bestExchange_0 : decode cX2_bestExchange 0 = .ok (.aload_n 0, 1) := by decide +kernel
theorem dX2_bestExchange_1 : decode cX2_bestExchange 1 = .ok (.getfield 18, 3) := by decide +kernel
theorem dX2_bestExchange_4 : decode cX2_bestExchange 4 = .ok (.aload_n 1, 1) := by decide +kernel
theorem dX2_bestExchange_5 : decode cX2_bestExchange 5 = .ok (.invokevirtual 31, 3) := by decide +kernel
theorem dX2_bestExchange_8 : decode cX2_bestExchange 8 = .ok (.aload_n 0, 1) := by decide +kernel
theorem dX2_bestExchange_9 : decode cX2_bestExchange 9 = .ok (.getfield 18, 3) := by decide +kernel
theorem dX2_bestExchange_12 : decode cX2_bestExchange 12 = .ok (.aload_n 1, 1) := by decide +kernel
theorem dX2_bestExchange_13 : decode cX2_bestExchange 13 = .ok (.invokevirtual 35, 3) := by decide +kernel
theorem dX2_bestExchange_16 : decode cX2_bestExchange 16 = .ok (.istore_n 2, 1) := by decide +kernel
theorem dX2_bestExchange_17 : decode cX2_bestExchange 17 = .ok (.iconst (-1), 1) := by decide +kernel
theorem dX2_bestExchange_18 : decode cX2_bestExchange 18 = .ok (.istore_n 3, 1) := by decide +kernel
theorem dX2_bestExchange_19 : decode cX2_bestExchange 19 = .ok (.aload_n 0, 1) := by decide +kernel
theorem dX2_bestExchange_20 : decode cX2_bestExchange 20 = .ok (.aload_n 1, 1) := by decide +kernel
theorem dX2_bestExchange_21 : decode cX2_bestExchange 21 = .ok (.invokevirtual 39, 3) := by decide +kernel
theorem dX2_bestExchange_24 : decode cX2_bestExchange 24 = .ok (.iconst 0, 1) := by decide +kernel
theorem dX2_bestExchange_25 : decode cX2_bestExchange 25 = .ok (.istore 4, 2) := by decide +kernel
theorem dX2_bestExchange_27 : decode cX2_bestExchange 27 = .ok (.iload 4, 2) := by decide +kernel
theorem dX2_bestExchange_29 : decode cX2_bestExchange 29 = .ok (.aload_n 1, 1) := by decide +kernel
theorem dX2_bestExchange_30 : decode cX2_bestExchange 30 = .ok (.getfield 42, 3) := by decide +kernel
theorem dX2_bestExchange_33 : decode cX2_bestExchange 33 = .ok (.if_icmp .ge 59, 3) := by decide +kernel
theorem dX2_bestExchange_36 : decode cX2_bestExchange 36 = .ok (.iload 4, 2) := by decide +kernel
theorem dX2_bestExchange_38 : decode cX2_bestExchange 38 = .ok (.iconst 1, 1) := by decide +kernel
theorem dX2_bestExchange_39 : decode cX2_bestExchange 39 = .ok (.iadd, 1) := by decide +kernel
theorem dX2_bestExchange_40 : decode cX2_bestExchange 40 = .ok (.istore 5, 2) := by decide +kernel
theorem dX2_bestExchange_42 : decode cX2_bestExchange 42 = .ok (.iload 5, 2) := by decide +kernel
theorem dX2_bestExchange_44 : decode cX2_bestExchange 44 = .ok (.aload_n 1, 1) := by decide +kernel
theorem dX2_bestExchange_45 : decode cX2_bestExchange 45 = .ok (.getfield 42, 3) := by decide +kernel
theorem dX2_bestExchange_48 : decode cX2_bestExchange 48 = .ok (.if_icmp .ge 38, 3) := by decide +kernel
theorem dX2_bestExchange_51 : decode cX2_bestExchange 51 = .ok (.aload_n 0, 1) := by decide +kernel
theorem dX2_bestExchange_52 : decode cX2_bestExchange 52 = .ok (.aload_n 1, 1) := by decide +kernel
theorem dX2_bestExchange_53 : decode cX2_bestExchange 53 = .ok (.iload 4, 2) := by decide +kernel
theorem dX2_bestExchange_55 : decode cX2_bestExchange 55 = .ok (.iload 5, 2) := by decide +kernel
theorem dX2_bestExchange_57 : decode cX2_bestExchange 57 = .ok (.invokevirtual 48, 3) := by decide +kernel
theorem dX2_bestExchange_60 : decode cX2_bestExchange 60 = .ok (.istore 6, 2) := by decide +kernel
theorem dX2_bestExchange_62 : decode cX2_bestExchange 62 = .ok (.iload 6, 2) := by decide +kernel
theorem dX2_bestExchange_64 : decode cX2_bestExchange 64 = .ok (.iload_n 2, 1) := by decide +kernel
theorem dX2_bestExchange_65 : decode cX2_bestExchange 65 = .ok (.if_icmp .le 15, 3) := by decide +kernel
theorem dX2_bestExchange_68 : decode cX2_bestExchange 68 = .ok (.iload 6, 2) := by decide +kernel
theorem dX2_bestExchange_70 : decode cX2_bestExchange 70 = .ok (.istore_n 2, 1) := by decide +kernel
theorem dX2_bestExchange_71 : decode cX2_bestExchange 71 = .ok (.bipush 10, 2) := by decide +kernel
theorem dX2_bestExchange_73 : decode cX2_bestExchange 73 = .ok (.iload 4, 2) := by decide +kernel
theorem dX2_bestExchange_75 : decode cX2_bestExchange 75 = .ok (.imul, 1) := by decide +kernel
theorem dX2_bestExchange_76 : decode cX2_bestExchange 76 = .ok (.iload 5, 2) := by decide +kernel
theorem dX2_bestExchange_78 : decode cX2_bestExchange 78 = .ok (.iadd, 1) := by decide +kernel
theorem dX2_bestExchange_79 : decode cX2_bestExchange 79 = .ok (.istore_n 3, 1) := by decide +kernel
theorem dX2_bestExchange_80 : decode cX2_bestExchange 80 = .ok (.iinc 5 1, 3) := by decide +kernel
theorem dX2_bestExchange_83 : decode cX2_bestExchange 83 = .ok (.goto (-41), 3) := by decide +kernel
theorem dX2_bestExchange_86 : decode cX2_bestExchange 86 = .ok (.iinc 4 1, 3) := by decide +kernel
theorem dX2_bestExchange_89 : decode cX2_bestExchange 89 = .ok (.goto (-62), 3) := by decide +kernel
theorem dX2_bestExchange_92 : decode cX2_bestExchange 92 = .ok (.iload_n 3, 1) := by decide +kernel
theorem dX2_bestExchange_93 : decode cX2_bestExchange 93 = .ok (.ireturn, 1) := by decide +kernel
theorem dX2_levelIfSwapped_0 : decode cX2_levelIfSwapped 0 = .ok (.aload_n 1, 1) := by decide +kernel
theorem dX2_levelIfSwapped_1 : decode cX2_levelIfSwapped 1 = .ok (.getfield 52, 3) := by decide +kernel
theorem dX2_levelIfSwapped_4 : decode cX2_levelIfSwapped 4 = .ok (.iload_n 2, 1) := by decide +kernel
theorem dX2_levelIfSwapped_5 : decode cX2_levelIfSwapped 5 = .ok (.baload, 1) := by decide +kernel
theorem dX2_levelIfSwapped_6 : decode cX2_levelIfSwapped 6 = .ok (.ifCond .ne 12, 3) := by decide +kernel
theorem dX2_levelIfSwapped_9 : decode cX2_levelIfSwapped 9 = .ok (.aload_n 1, 1) := by decide +kernel
theorem dX2_levelIfSwapped_10 : decode cX2_levelIfSwapped 10 = .ok (.getfield 52, 3) := by decide +kernel
theorem dX2_levelIfSwapped_13 : decode cX2_levelIfSwapped 13 = .ok (.iload_n 3, 1) := by decide +kernel
theorem dX2_levelIfSwapped_14 : decode cX2_levelIfSwapped 14 = .ok (.baload, 1) := by decide +kernel
theorem dX2_levelIfSwapped_15 : decode cX2_levelIfSwapped 15 = .ok (.ifCond .eq 5, 3) := by decide +kernel
theorem dX2_levelIfSwapped_18 : decode cX2_levelIfSwapped 18 = .ok (.iconst (-1), 1) := by decide +kernel
theorem dX2_levelIfSwapped_19 : decode cX2_levelIfSwapped 19 = .ok (.ireturn, 1) := by decide +kernel
theorem dX2_levelIfSwapped_20 : decode cX2_levelIfSwapped 20 = .ok (.aload_n 0, 1) := by decide +kernel
theorem dX2_levelIfSwapped_21 : decode cX2_levelIfSwapped 21 = .ok (.getfield 22, 3) := by decide +kernel
theorem dX2_levelIfSwapped_24 : decode cX2_levelIfSwapped 24 = .ok (.iload_n 2, 1) := by decide +kernel
theorem dX2_levelIfSwapped_25 : decode cX2_levelIfSwapped 25 = .ok (.iload_n 3, 1) := by decide +kernel
theorem dX2_levelIfSwapped_26 : decode cX2_levelIfSwapped 26 = .ok (.invokestatic 56, 3) := by decide +kernel
theorem dX2_levelIfSwapped_29 : decode cX2_levelIfSwapped 29 = .ok (.aload_n 0, 1) := by decide +kernel
theorem dX2_levelIfSwapped_30 : decode cX2_levelIfSwapped 30 = .ok (.getfield 18, 3) := by decide +kernel
theorem dX2_levelIfSwapped_33 : decode cX2_levelIfSwapped 33 = .ok (.aload_n 1, 1) := by decide +kernel
theorem dX2_levelIfSwapped_34 : decode cX2_levelIfSwapped 34 = .ok (.aload_n 0, 1) := by decide +kernel
theorem dX2_levelIfSwapped_35 : decode cX2_levelIfSwapped 35 = .ok (.getfield 22, 3) := by decide +kernel
theorem dX2_levelIfSwapped_38 : decode cX2_levelIfSwapped 38 = .ok (.invokevirtual 60, 3) := by decide +kernel
theorem dX2_levelIfSwapped_41 : decode cX2_levelIfSwapped 41 = .ok (.aload_n 0, 1) := by decide +kernel
theorem dX2_levelIfSwapped_42 : decode cX2_levelIfSwapped 42 = .ok (.getfield 22, 3) := by decide +kernel
theorem dX2_levelIfSwapped_45 : decode cX2_levelIfSwapped 45 = .ok (.iload_n 2, 1) := by decide +kernel
theorem dX2_levelIfSwapped_46 : decode cX2_levelIfSwapped 46 = .ok (.iload_n 3, 1) := by decide +kernel
theorem dX2_levelIfSwapped_47 : decode cX2_levelIfSwapped 47 = .ok (.invokestatic 56, 3) := by decide +kernel
theorem dX2_levelIfSwapped_50 : decode cX2_levelIfSwapped 50 = .ok (.aload_n 0, 1) := by decide +kernel
theorem dX2_levelIfSwapped_51 : decode cX2_levelIfSwapped 51 = .ok (.getfield 18, 3) := by decide +kernel
theorem dX2_levelIfSwapped_54 : decode cX2_levelIfSwapped 54 = .ok (.aload_n 1, 1) := by decide +kernel
theorem dX2_levelIfSwapped_55 : decode cX2_levelIfSwapped 55 = .ok (.invokevirtual 35, 3) := by decide +kernel
theorem dX2_levelIfSwapped_58 : decode cX2_levelIfSwapped 58 = .ok (.ireturn, 1) := by decide +kernel
theorem dX2_findBestLaying_0 : decode cX2_findBestLaying 0 = .ok (.aload_n 0, 1) := by decide +kernel
theorem dX2_findBestLaying_1 : decode cX2_findBestLaying 1 = .ok (.aload_n 1, 1) := by decide +kernel
theorem dX2_findBestLaying_2 : decode cX2_findBestLaying 2 = .ok (.invokevirtual 64, 3) := by decide +kernel
theorem dX2_findBestLaying_5 : decode cX2_findBestLaying 5 = .ok (.aload_n 0, 1) := by decide +kernel
theorem dX2_findBestLaying_6 : decode cX2_findBestLaying 6 = .ok (.iconst (-1), 1) := by decide +kernel
theorem dX2_findBestLaying_7 : decode cX2_findBestLaying 7 = .ok (.putfield 67, 3) := by decide +kernel
theorem dX2_findBestLaying_10 : decode cX2_findBestLaying 10 = .ok (.iconst 0, 1) := by decide +kernel
theorem dX2_findBestLaying_11 : decode cX2_findBestLaying 11 = .ok (.istore_n 2, 1) := by decide +kernel
theorem dX2_findBestLaying_12 : decode cX2_findBestLaying 12 = .ok (.iload_n 2, 1) := by decide +kernel
theorem dX2_findBestLaying_13 : decode cX2_findBestLaying 13 = .ok (.aload_n 0, 1) := by decide +kernel
theorem dX2_findBestLaying_14 : decode cX2_findBestLaying 14 = .ok (.getfield 70, 3) := by decide +kernel
theorem dX2_findBestLaying_17 : decode cX2_findBestLaying 17 = .ok (.if_icmp .ge 49, 3) := by decide +kernel
theorem dX2_findBestLaying_20 : decode cX2_findBestLaying 20 = .ok (.aload_n 0, 1) := by decide +kernel
theorem dX2_findBestLaying_21 : decode cX2_findBestLaying 21 = .ok (.invokevirtual 73, 3) := by decide +kernel
theorem dX2_findBestLaying_24 : decode cX2_findBestLaying 24 = .ok (.aload_n 0, 1) := by decide +kernel
theorem dX2_findBestLaying_25 : decode cX2_findBestLaying 25 = .ok (.getfield 18, 3) := by decide +kernel
theorem dX2_findBestLaying_28 : decode cX2_findBestLaying 28 = .ok (.aload_n 1, 1) := by decide +kernel
theorem dX2_findBestLaying_29 : decode cX2_findBestLaying 29 = .ok (.aload_n 0, 1) := by decide +kernel
theorem dX2_findBestLaying_30 : decode cX2_findBestLaying 30 = .ok (.getfield 22, 3) := by decide +kernel
theorem dX2_findBestLaying_33 : decode cX2_findBestLaying 33 = .ok (.invokevirtual 60, 3) := by decide +kernel
theorem dX2_findBestLaying_36 : decode cX2_findBestLaying 36 = .ok (.aload_n 0, 1) := by decide +kernel
theorem dX2_findBestLaying_37 : decode cX2_findBestLaying 37 = .ok (.aload_n 0, 1) := by decide +kernel
theorem dX2_findBestLaying_38 : decode cX2_findBestLaying 38 = .ok (.getfield 18, 3) := by decide +kernel
theorem dX2_findBestLaying_41 : decode cX2_findBestLaying 41 = .ok (.aload_n 1, 1) := by decide +kernel
theorem dX2_findBestLaying_42 : decode cX2_findBestLaying 42 = .ok (.invokevirtual 35, 3) := by decide +kernel
theorem dX2_findBestLaying_45 : decode cX2_findBestLaying 45 = .ok (.aload_n 0, 1) := by decide +kernel
theorem dX2_findBestLaying_46 : decode cX2_findBestLaying 46 = .ok (.getfield 18, 3) := by decide +kernel
theorem dX2_findBestLaying_49 : decode cX2_findBestLaying 49 = .ok (.aload_n 1, 1) := by decide +kernel
theorem dX2_findBestLaying_50 : decode cX2_findBestLaying 50 = .ok (.invokevirtual 76, 3) := by decide +kernel
theorem dX2_findBestLaying_53 : decode cX2_findBestLaying 53 = .ok (.invokevirtual 79, 3) := by decide +kernel
theorem dX2_findBestLaying_56 : decode cX2_findBestLaying 56 = .ok (.aload_n 0, 1) := by decide +kernel
theorem dX2_findBestLaying_57 : decode cX2_findBestLaying 57 = .ok (.invokevirtual 83, 3) := by decide +kernel
theorem dX2_findBestLaying_60 : decode cX2_findBestLaying 60 = .ok (.iinc 2 1, 3) := by decide +kernel
theorem dX2_findBestLaying_63 : decode cX2_findBestLaying 63 = .ok (.goto (-51), 3) := by decide +kernel
theorem dX2_findBestLaying_66 : decode cX2_findBestLaying 66 = .ok (.return_, 1) := by decide +kernel
theorem dX2_keepIfBetter_0 : decode cX2_keepIfBetter 0 = .ok (.iload_n 1, 1) := by decide +kernel
theorem dX2_keepIfBetter_1 : decode cX2_keepIfBetter 1 = .ok (.aload_n 0, 1) := by decide +kernel
theorem dX2_keepIfBetter_2 : decode cX2_keepIfBetter 2 = .ok (.getfield 67, 3) := by decide +kernel
theorem dX2_keepIfBetter_5 : decode cX2_keepIfBetter 5 = .ok (.if_icmp .lt 19, 3) := by decide +kernel
theorem dX2_keepIfBetter_8 : decode cX2_keepIfBetter 8 = .ok (.iload_n 1, 1) := by decide +kernel
theorem dX2_keepIfBetter_9 : decode cX2_keepIfBetter 9 = .ok (.aload_n 0, 1) := by decide +kernel
theorem dX2_keepIfBetter_10 : decode cX2_keepIfBetter 10 = .ok (.getfield 67, 3) := by decide +kernel
theorem dX2_keepIfBetter_13 : decode cX2_keepIfBetter 13 = .ok (.if_icmp .ne 12, 3) := by decide +kernel
theorem dX2_keepIfBetter_16 : decode cX2_keepIfBetter 16 = .ok (.iload_n 2, 1) := by decide +kernel
theorem dX2_keepIfBetter_17 : decode cX2_keepIfBetter 17 = .ok (.aload_n 0, 1) := by decide +kernel
theorem dX2_keepIfBetter_18 : decode cX2_keepIfBetter 18 = .ok (.getfield 86, 3) := by decide +kernel
theorem dX2_keepIfBetter_21 : decode cX2_keepIfBetter 21 = .ok (.if_icmp .lt 4, 3) := by decide +kernel
theorem dX2_keepIfBetter_24 : decode cX2_keepIfBetter 24 = .ok (.return_, 1) := by decide +kernel
theorem dX2_keepIfBetter_25 : decode cX2_keepIfBetter 25 = .ok (.aload_n 0, 1) := by decide +kernel
theorem dX2_keepIfBetter_26 : decode cX2_keepIfBetter 26 = .ok (.iload_n 1, 1) := by decide +kernel
theorem dX2_keepIfBetter_27 : decode cX2_keepIfBetter 27 = .ok (.putfield 67, 3) := by decide +kernel
theorem dX2_keepIfBetter_30 : decode cX2_keepIfBetter 30 = .ok (.aload_n 0, 1) := by decide +kernel
theorem dX2_keepIfBetter_31 : decode cX2_keepIfBetter 31 = .ok (.iload_n 2, 1) := by decide +kernel
theorem dX2_keepIfBetter_32 : decode cX2_keepIfBetter 32 = .ok (.putfield 86, 3) := by decide +kernel
theorem dX2_keepIfBetter_35 : decode cX2_keepIfBetter 35 = .ok (.iconst 0, 1) := by decide +kernel
theorem dX2_keepIfBetter_36 : decode cX2_keepIfBetter 36 = .ok (.istore_n 3, 1) := by decide +kernel
theorem dX2_keepIfBetter_37 : decode cX2_keepIfBetter 37 = .ok (.iload_n 3, 1) := by decide +kernel
theorem dX2_keepIfBetter_38 : decode cX2_keepIfBetter 38 = .ok (.bipush 6, 2) := by decide +kernel
theorem dX2_keepIfBetter_40 : decode cX2_keepIfBetter 40 = .ok (.if_icmp .ge 16, 3) := by decide +kernel
theorem dX2_keepIfBetter_43 : decode cX2_keepIfBetter 43 = .ok (.aload_n 0, 1) := by decide +kernel
theorem dX2_keepIfBetter_44 : decode cX2_keepIfBetter 44 = .ok (.getfield 9, 3) := by decide +kernel
theorem dX2_keepIfBetter_47 : decode cX2_keepIfBetter 47 = .ok (.iload_n 3, 1) := by decide +kernel
theorem dX2_keepIfBetter_48 : decode cX2_keepIfBetter 48 = .ok (.iconst (-1), 1) := by decide +kernel
theorem dX2_keepIfBetter_49 : decode cX2_keepIfBetter 49 = .ok (.iastore, 1) := by decide +kernel
theorem dX2_keepIfBetter_50 : decode cX2_keepIfBetter 50 = .ok (.iinc 3 1, 3) := by decide +kernel
theorem dX2_keepIfBetter_53 : decode cX2_keepIfBetter 53 = .ok (.goto (-16), 3) := by decide +kernel
theorem dX2_keepIfBetter_56 : decode cX2_keepIfBetter 56 = .ok (.iconst 0, 1) := by decide +kernel
theorem dX2_keepIfBetter_57 : decode cX2_keepIfBetter 57 = .ok (.istore_n 3, 1) := by decide +kernel
theorem dX2_keepIfBetter_58 : decode cX2_keepIfBetter 58 = .ok (.iload_n 3, 1) := by decide +kernel
theorem dX2_keepIfBetter_59 : decode cX2_keepIfBetter 59 = .ok (.aload_n 0, 1) := by decide +kernel
theorem dX2_keepIfBetter_60 : decode cX2_keepIfBetter 60 = .ok (.getfield 89, 3) := by decide +kernel
theorem dX2_keepIfBetter_63 : decode cX2_keepIfBetter 63 = .ok (.if_icmp .ge 26, 3) := by decide +kernel
theorem dX2_keepIfBetter_66 : decode cX2_keepIfBetter 66 = .ok (.aload_n 0, 1) := by decide +kernel
theorem dX2_keepIfBetter_67 : decode cX2_keepIfBetter 67 = .ok (.getfield 9, 3) := by decide +kernel
theorem dX2_keepIfBetter_70 : decode cX2_keepIfBetter 70 = .ok (.aload_n 0, 1) := by decide +kernel
theorem dX2_keepIfBetter_71 : decode cX2_keepIfBetter 71 = .ok (.getfield 25, 3) := by decide +kernel
theorem dX2_keepIfBetter_74 : decode cX2_keepIfBetter 74 = .ok (.iload_n 3, 1) := by decide +kernel
theorem dX2_keepIfBetter_75 : decode cX2_keepIfBetter 75 = .ok (.iaload, 1) := by decide +kernel
theorem dX2_keepIfBetter_76 : decode cX2_keepIfBetter 76 = .ok (.aload_n 0, 1) := by decide +kernel
theorem dX2_keepIfBetter_77 : decode cX2_keepIfBetter 77 = .ok (.getfield 28, 3) := by decide +kernel
theorem dX2_keepIfBetter_80 : decode cX2_keepIfBetter 80 = .ok (.iload_n 3, 1) := by decide +kernel
theorem dX2_keepIfBetter_81 : decode cX2_keepIfBetter 81 = .ok (.iaload, 1) := by decide +kernel
theorem dX2_keepIfBetter_82 : decode cX2_keepIfBetter 82 = .ok (.iastore, 1) := by decide +kernel
theorem dX2_keepIfBetter_83 : decode cX2_keepIfBetter 83 = .ok (.iinc 3 1, 3) := by decide +kernel
theorem dX2_keepIfBetter_86 : decode cX2_keepIfBetter 86 = .ok (.goto (-28), 3) := by decide +kernel
theorem dX2_keepIfBetter_89 : decode cX2_keepIfBetter 89 = .ok (.return_, 1) := by decide +kernel
theorem dX2_findOdds_0 : decode cX2_findOdds 0 = .ok (.aload_n 0, 1) := by decide +kernel
theorem dX2_findOdds_1 : decode cX2_findOdds 1 = .ok (.aload_n 1, 1) := by decide +kernel
theorem dX2_findOdds_2 : decode cX2_findOdds 2 = .ok (.invokevirtual 64, 3) := by decide +kernel
theorem dX2_findOdds_5 : decode cX2_findOdds 5 = .ok (.iconst 0, 1) := by decide +kernel
theorem dX2_findOdds_6 : decode cX2_findOdds 6 = .ok (.istore_n 2, 1) := by decide +kernel
theorem dX2_findOdds_7 : decode cX2_findOdds 7 = .ok (.iconst 0, 1) := by decide +kernel
theorem dX2_findOdds_8 : decode cX2_findOdds 8 = .ok (.istore_n 3, 1) := by decide +kernel
theorem dX2_findOdds_9 : decode cX2_findOdds 9 = .ok (.iload_n 3, 1) := by decide +kernel
theorem dX2_findOdds_10 : decode cX2_findOdds 10 = .ok (.aload_n 0, 1) := by decide +kernel
theorem dX2_findOdds_11 : decode cX2_findOdds 11 = .ok (.getfield 70, 3) := by decide +kernel
theorem dX2_findOdds_14 : decode cX2_findOdds 14 = .ok (.if_icmp .ge 40, 3) := by decide +kernel
theorem dX2_findOdds_17 : decode cX2_findOdds 17 = .ok (.aload_n 0, 1) := by decide +kernel
theorem dX2_findOdds_18 : decode cX2_findOdds 18 = .ok (.invokevirtual 73, 3) := by decide +kernel
theorem dX2_findOdds_21 : decode cX2_findOdds 21 = .ok (.iload_n 2, 1) := by decide +kernel
theorem dX2_findOdds_22 : decode cX2_findOdds 22 = .ok (.aload_n 0, 1) := by decide +kernel
theorem dX2_findOdds_23 : decode cX2_findOdds 23 = .ok (.getfield 18, 3) := by decide +kernel
theorem dX2_findOdds_26 : decode cX2_findOdds 26 = .ok (.aload_n 1, 1) := by decide +kernel
theorem dX2_findOdds_27 : decode cX2_findOdds 27 = .ok (.aload_n 0, 1) := by decide +kernel
theorem dX2_findOdds_28 : decode cX2_findOdds 28 = .ok (.getfield 22, 3) := by decide +kernel
theorem dX2_findOdds_31 : decode cX2_findOdds 31 = .ok (.invokevirtual 92, 3) := by decide +kernel
theorem dX2_findOdds_34 : decode cX2_findOdds 34 = .ok (.ifCond .eq 7, 3) := by decide +kernel
theorem dX2_findOdds_37 : decode cX2_findOdds 37 = .ok (.iconst 1, 1) := by decide +kernel
theorem dX2_findOdds_38 : decode cX2_findOdds 38 = .ok (.goto 4, 3) := by decide +kernel
theorem dX2_findOdds_41 : decode cX2_findOdds 41 = .ok (.iconst 0, 1) := by decide +kernel
theorem dX2_findOdds_42 : decode cX2_findOdds 42 = .ok (.iadd, 1) := by decide +kernel
theorem dX2_findOdds_43 : decode cX2_findOdds 43 = .ok (.istore_n 2, 1) := by decide +kernel
theorem dX2_findOdds_44 : decode cX2_findOdds 44 = .ok (.aload_n 0, 1) := by decide +kernel
theorem dX2_findOdds_45 : decode cX2_findOdds 45 = .ok (.invokevirtual 83, 3) := by decide +kernel
theorem dX2_findOdds_48 : decode cX2_findOdds 48 = .ok (.iinc 3 1, 3) := by decide +kernel
theorem dX2_findOdds_51 : decode cX2_findOdds 51 = .ok (.goto (-42), 3) := by decide +kernel
theorem dX2_findOdds_54 : decode cX2_findOdds 54 = .ok (.iload_n 2, 1) := by decide +kernel
theorem dX2_findOdds_55 : decode cX2_findOdds 55 = .ok (.aload_n 0, 1) := by decide +kernel
theorem dX2_findOdds_56 : decode cX2_findOdds 56 = .ok (.getfield 70, 3) := by decide +kernel
theorem dX2_findOdds_59 : decode cX2_findOdds 59 = .ok (.invokestatic 96, 3) := by decide +kernel
theorem dX2_findOdds_62 : decode cX2_findOdds 62 = .ok (.istore_n 3, 1) := by decide +kernel
theorem dX2_findOdds_63 : decode cX2_findOdds 63 = .ok (.aload_n 0, 1) := by decide +kernel
theorem dX2_findOdds_64 : decode cX2_findOdds 64 = .ok (.iload_n 2, 1) := by decide +kernel
theorem dX2_findOdds_65 : decode cX2_findOdds 65 = .ok (.iload_n 3, 1) := by decide +kernel
theorem dX2_findOdds_66 : decode cX2_findOdds 66 = .ok (.idiv, 1) := by decide +kernel
theorem dX2_findOdds_67 : decode cX2_findOdds 67 = .ok (.putfield 100, 3) := by decide +kernel
theorem dX2_findOdds_70 : decode cX2_findOdds 70 = .ok (.aload_n 0, 1) := by decide +kernel
theorem dX2_findOdds_71 : decode cX2_findOdds 71 = .ok (.aload_n 0, 1) := by decide +kernel
theorem dX2_findOdds_72 : decode cX2_findOdds 72 = .ok (.getfield 70, 3) := by decide +kernel
theorem dX2_findOdds_75 : decode cX2_findOdds 75 = .ok (.iload_n 3, 1) := by decide +kernel
theorem dX2_findOdds_76 : decode cX2_findOdds 76 = .ok (.idiv, 1) := by decide +kernel
theorem dX2_findOdds_77 : decode cX2_findOdds 77 = .ok (.putfield 103, 3) := by decide +kernel
theorem dX2_findOdds_80 : decode cX2_findOdds 80 = .ok (.return_, 1) := by decide +kernel
theorem dX2_beginOrders_0 : decode cX2_beginOrders 0 = .ok (.aload_n 0, 1) := by decide +kernel
theorem dX2_beginOrders_1 : decode cX2_beginOrders 1 = .ok (.getfield 18, 3) := by decide +kernel
theorem dX2_beginOrders_4 : decode cX2_beginOrders 4 = .ok (.aload_n 1, 1) := by decide +kernel
theorem dX2_beginOrders_5 : decode cX2_beginOrders 5 = .ok (.aload_n 1, 1) := by decide +kernel
theorem dX2_beginOrders_6 : decode cX2_beginOrders 6 = .ok (.getfield 106, 3) := by decide +kernel
theorem dX2_beginOrders_9 : decode cX2_beginOrders 9 = .ok (.invokevirtual 109, 3) := by decide +kernel
theorem dX2_beginOrders_12 : decode cX2_beginOrders 12 = .ok (.aload_n 0, 1) := by decide +kernel
theorem dX2_beginOrders_13 : decode cX2_beginOrders 13 = .ok (.aload_n 1, 1) := by decide +kernel
theorem dX2_beginOrders_14 : decode cX2_beginOrders 14 = .ok (.invokevirtual 39, 3) := by decide +kernel
theorem dX2_beginOrders_17 : decode cX2_beginOrders 17 = .ok (.aload_n 0, 1) := by decide +kernel
theorem dX2_beginOrders_18 : decode cX2_beginOrders 18 = .ok (.iconst 0, 1) := by decide +kernel
theorem dX2_beginOrders_19 : decode cX2_beginOrders 19 = .ok (.putfield 89, 3) := by decide +kernel
theorem dX2_beginOrders_22 : decode cX2_beginOrders 22 = .ok (.aload_n 0, 1) := by decide +kernel
theorem dX2_beginOrders_23 : decode cX2_beginOrders 23 = .ok (.iconst 1, 1) := by decide +kernel
theorem dX2_beginOrders_24 : decode cX2_beginOrders 24 = .ok (.putfield 70, 3) := by decide +kernel
theorem dX2_beginOrders_27 : decode cX2_beginOrders 27 = .ok (.iconst 0, 1) := by decide +kernel
theorem dX2_beginOrders_28 : decode cX2_beginOrders 28 = .ok (.istore_n 2, 1) := by decide +kernel
theorem dX2_beginOrders_29 : decode cX2_beginOrders 29 = .ok (.iload_n 2, 1) := by decide +kernel
theorem dX2_beginOrders_30 : decode cX2_beginOrders 30 = .ok (.aload_n 1, 1) := by decide +kernel
theorem dX2_beginOrders_31 : decode cX2_beginOrders 31 = .ok (.getfield 42, 3) := by decide +kernel
theorem dX2_beginOrders_34 : decode cX2_beginOrders 34 = .ok (.if_icmp .ge 56, 3) := by decide +kernel
theorem dX2_beginOrders_37 : decode cX2_beginOrders 37 = .ok (.aload_n 1, 1) := by decide +kernel
theorem dX2_beginOrders_38 : decode cX2_beginOrders 38 = .ok (.getfield 52, 3) := by decide +kernel
theorem dX2_beginOrders_41 : decode cX2_beginOrders 41 = .ok (.aload_n 0, 1) := by decide +kernel
theorem dX2_beginOrders_42 : decode cX2_beginOrders 42 = .ok (.getfield 22, 3) := by decide +kernel
theorem dX2_beginOrders_45 : decode cX2_beginOrders 45 = .ok (.iload_n 2, 1) := by decide +kernel
theorem dX2_beginOrders_46 : decode cX2_beginOrders 46 = .ok (.iaload, 1) := by decide +kernel
theorem dX2_beginOrders_47 : decode cX2_beginOrders 47 = .ok (.baload, 1) := by decide +kernel
theorem dX2_beginOrders_48 : decode cX2_beginOrders 48 = .ok (.ifCond .ne 36, 3) := by decide +kernel
theorem dX2_beginOrders_51 : decode cX2_beginOrders 51 = .ok (.aload_n 0, 1) := by decide +kernel
theorem dX2_beginOrders_52 : decode cX2_beginOrders 52 = .ok (.getfield 25, 3) := by decide +kernel
theorem dX2_beginOrders_55 : decode cX2_beginOrders 55 = .ok (.aload_n 0, 1) := by decide +kernel
theorem dX2_beginOrders_56 : decode cX2_beginOrders 56 = .ok (.getfield 89, 3) := by decide +kernel
theorem dX2_beginOrders_59 : decode cX2_beginOrders 59 = .ok (.iload_n 2, 1) := by decide +kernel
theorem dX2_beginOrders_60 : decode cX2_beginOrders 60 = .ok (.iastore, 1) := by decide +kernel
theorem dX2_beginOrders_61 : decode cX2_beginOrders 61 = .ok (.aload_n 0, 1) := by decide +kernel
theorem dX2_beginOrders_62 : decode cX2_beginOrders 62 = .ok (.dup, 1) := by decide +kernel
theorem dX2_beginOrders_63 : decode cX2_beginOrders 63 = .ok (.getfield 89, 3) := by decide +kernel
theorem dX2_beginOrders_66 : decode cX2_beginOrders 66 = .ok (.iconst 1, 1) := by decide +kernel
theorem dX2_beginOrders_67 : decode cX2_beginOrders 67 = .ok (.iadd, 1) := by decide +kernel
theorem dX2_beginOrders_68 : decode cX2_beginOrders 68 = .ok (.putfield 89, 3) := by decide +kernel
theorem dX2_beginOrders_71 : decode cX2_beginOrders 71 = .ok (.aload_n 0, 1) := by decide +kernel
theorem dX2_beginOrders_72 : decode cX2_beginOrders 72 = .ok (.dup, 1) := by decide +kernel
theorem dX2_beginOrders_73 : decode cX2_beginOrders 73 = .ok (.getfield 70, 3) := by decide +kernel
theorem dX2_beginOrders_76 : decode cX2_beginOrders 76 = .ok (.aload_n 0, 1) := by decide +kernel
theorem dX2_beginOrders_77 : decode cX2_beginOrders 77 = .ok (.getfield 89, 3) := by decide +kernel
theorem dX2_beginOrders_80 : decode cX2_beginOrders 80 = .ok (.imul, 1) := by decide +kernel
theorem dX2_beginOrders_81 : decode cX2_beginOrders 81 = .ok (.putfield 70, 3) := by decide +kernel
theorem dX2_beginOrders_84 : decode cX2_beginOrders 84 = .ok (.iinc 2 1, 3) := by decide +kernel
theorem dX2_beginOrders_87 : decode cX2_beginOrders 87 = .ok (.goto (-58), 3) := by decide +kernel
theorem dX2_beginOrders_90 : decode cX2_beginOrders 90 = .ok (.iconst 0, 1) := by decide +kernel
theorem dX2_beginOrders_91 : decode cX2_beginOrders 91 = .ok (.istore_n 2, 1) := by decide +kernel
theorem dX2_beginOrders_92 : decode cX2_beginOrders 92 = .ok (.iconst 0, 1) := by decide +kernel
theorem dX2_beginOrders_93 : decode cX2_beginOrders 93 = .ok (.istore_n 3, 1) := by decide +kernel
theorem dX2_beginOrders_94 : decode cX2_beginOrders 94 = .ok (.iload_n 3, 1) := by decide +kernel
theorem dX2_beginOrders_95 : decode cX2_beginOrders 95 = .ok (.aload_n 1, 1) := by decide +kernel
theorem dX2_beginOrders_96 : decode cX2_beginOrders 96 = .ok (.getfield 42, 3) := by decide +kernel
theorem dX2_beginOrders_99 : decode cX2_beginOrders 99 = .ok (.if_icmp .ge 36, 3) := by decide +kernel
theorem dX2_beginOrders_102 : decode cX2_beginOrders 102 = .ok (.iload_n 2, 1) := by decide +kernel
theorem dX2_beginOrders_103 : decode cX2_beginOrders 103 = .ok (.aload_n 0, 1) := by decide +kernel
theorem dX2_beginOrders_104 : decode cX2_beginOrders 104 = .ok (.getfield 89, 3) := by decide +kernel
theorem dX2_beginOrders_107 : decode cX2_beginOrders 107 = .ok (.if_icmp .ge 28, 3) := by decide +kernel
theorem dX2_beginOrders_110 : decode cX2_beginOrders 110 = .ok (.aload_n 1, 1) := by decide +kernel
theorem dX2_beginOrders_111 : decode cX2_beginOrders 111 = .ok (.getfield 52, 3) := by decide +kernel
theorem dX2_beginOrders_114 : decode cX2_beginOrders 114 = .ok (.iload_n 3, 1) := by decide +kernel
theorem dX2_beginOrders_115 : decode cX2_beginOrders 115 = .ok (.baload, 1) := by decide +kernel
theorem dX2_beginOrders_116 : decode cX2_beginOrders 116 = .ok (.ifCond .ne 13, 3) := by decide +kernel
theorem dX2_beginOrders_119 : decode cX2_beginOrders 119 = .ok (.aload_n 0, 1) := by decide +kernel
theorem dX2_beginOrders_120 : decode cX2_beginOrders 120 = .ok (.getfield 28, 3) := by decide +kernel
theorem dX2_beginOrders_123 : decode cX2_beginOrders 123 = .ok (.iload_n 2, 1) := by decide +kernel
theorem dX2_beginOrders_124 : decode cX2_beginOrders 124 = .ok (.iload_n 3, 1) := by decide +kernel
theorem dX2_beginOrders_125 : decode cX2_beginOrders 125 = .ok (.iastore, 1) := by decide +kernel
theorem dX2_beginOrders_126 : decode cX2_beginOrders 126 = .ok (.iinc 2 1, 3) := by decide +kernel
theorem dX2_beginOrders_129 : decode cX2_beginOrders 129 = .ok (.iinc 3 1, 3) := by decide +kernel
theorem dX2_beginOrders_132 : decode cX2_beginOrders 132 = .ok (.goto (-38), 3) := by decide +kernel
theorem dX2_beginOrders_135 : decode cX2_beginOrders 135 = .ok (.return_, 1) := by decide +kernel
theorem dX2_copyLaid_0 : decode cX2_copyLaid 0 = .ok (.iconst 0, 1) := by decide +kernel
theorem dX2_copyLaid_1 : decode cX2_copyLaid 1 = .ok (.istore_n 2, 1) := by decide +kernel
theorem dX2_copyLaid_2 : decode cX2_copyLaid 2 = .ok (.iload_n 2, 1) := by decide +kernel
theorem dX2_copyLaid_3 : decode cX2_copyLaid 3 = .ok (.bipush 6, 2) := by decide +kernel
theorem dX2_copyLaid_5 : decode cX2_copyLaid 5 = .ok (.if_icmp .ge 21, 3) := by decide +kernel
theorem dX2_copyLaid_8 : decode cX2_copyLaid 8 = .ok (.aload_n 0, 1) := by decide +kernel
theorem dX2_copyLaid_9 : decode cX2_copyLaid 9 = .ok (.getfield 22, 3) := by decide +kernel
theorem dX2_copyLaid_12 : decode cX2_copyLaid 12 = .ok (.iload_n 2, 1) := by decide +kernel
theorem dX2_copyLaid_13 : decode cX2_copyLaid 13 = .ok (.aload_n 1, 1) := by decide +kernel
theorem dX2_copyLaid_14 : decode cX2_copyLaid 14 = .ok (.getfield 113, 3) := by decide +kernel
theorem dX2_copyLaid_17 : decode cX2_copyLaid 17 = .ok (.iload_n 2, 1) := by decide +kernel
theorem dX2_copyLaid_18 : decode cX2_copyLaid 18 = .ok (.iaload, 1) := by decide +kernel
theorem dX2_copyLaid_19 : decode cX2_copyLaid 19 = .ok (.iastore, 1) := by decide +kernel
theorem dX2_copyLaid_20 : decode cX2_copyLaid 20 = .ok (.iinc 2 1, 3) := by decide +kernel
theorem dX2_copyLaid_23 : decode cX2_copyLaid 23 = .ok (.goto (-21), 3) := by decide +kernel
theorem dX2_copyLaid_26 : decode cX2_copyLaid 26 = .ok (.return_, 1) := by decide +kernel
theorem dX2_layInOrder_0 : decode cX2_layInOrder 0 = .ok (.iconst 0, 1) := by decide +kernel
theorem dX2_layInOrder_1 : decode cX2_layInOrder 1 = .ok (.istore_n 1, 1) := by decide +kernel
theorem dX2_layInOrder_2 : decode cX2_layInOrder 2 = .ok (.iload_n 1, 1) := by decide +kernel
theorem dX2_layInOrder_3 : decode cX2_layInOrder 3 = .ok (.aload_n 0, 1) := by decide +kernel
theorem dX2_layInOrder_4 : decode cX2_layInOrder 4 = .ok (.getfield 89, 3) := by decide +kernel
theorem dX2_layInOrder_7 : decode cX2_layInOrder 7 = .ok (.if_icmp .ge 26, 3) := by decide +kernel
theorem dX2_layInOrder_10 : decode cX2_layInOrder 10 = .ok (.aload_n 0, 1) := by decide +kernel
theorem dX2_layInOrder_11 : decode cX2_layInOrder 11 = .ok (.getfield 22, 3) := by decide +kernel
theorem dX2_layInOrder_14 : decode cX2_layInOrder 14 = .ok (.aload_n 0, 1) := by decide +kernel
theorem dX2_layInOrder_15 : decode cX2_layInOrder 15 = .ok (.getfield 25, 3) := by decide +kernel
theorem dX2_layInOrder_18 : decode cX2_layInOrder 18 = .ok (.iload_n 1, 1) := by decide +kernel
theorem dX2_layInOrder_19 : decode cX2_layInOrder 19 = .ok (.iaload, 1) := by decide +kernel
theorem dX2_layInOrder_20 : decode cX2_layInOrder 20 = .ok (.aload_n 0, 1) := by decide +kernel
theorem dX2_layInOrder_21 : decode cX2_layInOrder 21 = .ok (.getfield 28, 3) := by decide +kernel
theorem dX2_layInOrder_24 : decode cX2_layInOrder 24 = .ok (.iload_n 1, 1) := by decide +kernel
theorem dX2_layInOrder_25 : decode cX2_layInOrder 25 = .ok (.iaload, 1) := by decide +kernel
theorem dX2_layInOrder_26 : decode cX2_layInOrder 26 = .ok (.iastore, 1) := by decide +kernel
theorem dX2_layInOrder_27 : decode cX2_layInOrder 27 = .ok (.iinc 1 1, 3) := by decide +kernel
theorem dX2_layInOrder_30 : decode cX2_layInOrder 30 = .ok (.goto (-28), 3) := by decide +kernel
theorem dX2_layInOrder_33 : decode cX2_layInOrder 33 = .ok (.return_, 1) := by decide +kernel
theorem dX2_nextOrder_0 : decode cX2_nextOrder 0 = .ok (.aload_n 0, 1) := by decide +kernel
theorem dX2_nextOrder_1 : decode cX2_nextOrder 1 = .ok (.getfield 89, 3) := by decide +kernel
theorem dX2_nextOrder_4 : decode cX2_nextOrder 4 = .ok (.iconst 2, 1) := by decide +kernel
theorem dX2_nextOrder_5 : decode cX2_nextOrder 5 = .ok (.isub, 1) := by decide +kernel
theorem dX2_nextOrder_6 : decode cX2_nextOrder 6 = .ok (.istore_n 1, 1) := by decide +kernel
theorem dX2_nextOrder_7 : decode cX2_nextOrder 7 = .ok (.iload_n 1, 1) := by decide +kernel
theorem dX2_nextOrder_8 : decode cX2_nextOrder 8 = .ok (.ifCond .lt 26, 3) := by decide +kernel
theorem dX2_nextOrder_11 : decode cX2_nextOrder 11 = .ok (.aload_n 0, 1) := by decide +kernel
theorem dX2_nextOrder_12 : decode cX2_nextOrder 12 = .ok (.getfield 28, 3) := by decide +kernel
theorem dX2_nextOrder_15 : decode cX2_nextOrder 15 = .ok (.iload_n 1, 1) := by decide +kernel
theorem dX2_nextOrder_16 : decode cX2_nextOrder 16 = .ok (.iaload, 1) := by decide +kernel
theorem dX2_nextOrder_17 : decode cX2_nextOrder 17 = .ok (.aload_n 0, 1) := by decide +kernel
theorem dX2_nextOrder_18 : decode cX2_nextOrder 18 = .ok (.getfield 28, 3) := by decide +kernel
theorem dX2_nextOrder_21 : decode cX2_nextOrder 21 = .ok (.iload_n 1, 1) := by decide +kernel
theorem dX2_nextOrder_22 : decode cX2_nextOrder 22 = .ok (.iconst 1, 1) := by decide +kernel
theorem dX2_nextOrder_23 : decode cX2_nextOrder 23 = .ok (.iadd, 1) := by decide +kernel
theorem dX2_nextOrder_24 : decode cX2_nextOrder 24 = .ok (.iaload, 1) := by decide +kernel
theorem dX2_nextOrder_25 : decode cX2_nextOrder 25 = .ok (.if_icmp .le 9, 3) := by decide +kernel
theorem dX2_nextOrder_28 : decode cX2_nextOrder 28 = .ok (.iinc 1 (-1), 3) := by decide +kernel
theorem dX2_nextOrder_31 : decode cX2_nextOrder 31 = .ok (.goto (-24), 3) := by decide +kernel
theorem dX2_nextOrder_34 : decode cX2_nextOrder 34 = .ok (.iload_n 1, 1) := by decide +kernel
theorem dX2_nextOrder_35 : decode cX2_nextOrder 35 = .ok (.ifCond .ge 4, 3) := by decide +kernel
theorem dX2_nextOrder_38 : decode cX2_nextOrder 38 = .ok (.return_, 1) := by decide +kernel
theorem dX2_nextOrder_39 : decode cX2_nextOrder 39 = .ok (.aload_n 0, 1) := by decide +kernel
theorem dX2_nextOrder_40 : decode cX2_nextOrder 40 = .ok (.getfield 89, 3) := by decide +kernel
theorem dX2_nextOrder_43 : decode cX2_nextOrder 43 = .ok (.iconst 1, 1) := by decide +kernel
theorem dX2_nextOrder_44 : decode cX2_nextOrder 44 = .ok (.isub, 1) := by decide +kernel
theorem dX2_nextOrder_45 : decode cX2_nextOrder 45 = .ok (.istore_n 2, 1) := by decide +kernel
theorem dX2_nextOrder_46 : decode cX2_nextOrder 46 = .ok (.iload_n 2, 1) := by decide +kernel
theorem dX2_nextOrder_47 : decode cX2_nextOrder 47 = .ok (.iload_n 1, 1) := by decide +kernel
theorem dX2_nextOrder_48 : decode cX2_nextOrder 48 = .ok (.if_icmp .le 24, 3) := by decide +kernel
theorem dX2_nextOrder_51 : decode cX2_nextOrder 51 = .ok (.aload_n 0, 1) := by decide +kernel
theorem dX2_nextOrder_52 : decode cX2_nextOrder 52 = .ok (.getfield 28, 3) := by decide +kernel
theorem dX2_nextOrder_55 : decode cX2_nextOrder 55 = .ok (.iload_n 2, 1) := by decide +kernel
theorem dX2_nextOrder_56 : decode cX2_nextOrder 56 = .ok (.iaload, 1) := by decide +kernel
theorem dX2_nextOrder_57 : decode cX2_nextOrder 57 = .ok (.aload_n 0, 1) := by decide +kernel
theorem dX2_nextOrder_58 : decode cX2_nextOrder 58 = .ok (.getfield 28, 3) := by decide +kernel
theorem dX2_nextOrder_61 : decode cX2_nextOrder 61 = .ok (.iload_n 1, 1) := by decide +kernel
theorem dX2_nextOrder_62 : decode cX2_nextOrder 62 = .ok (.iaload, 1) := by decide +kernel
theorem dX2_nextOrder_63 : decode cX2_nextOrder 63 = .ok (.if_icmp .ge 9, 3) := by decide +kernel
theorem dX2_nextOrder_66 : decode cX2_nextOrder 66 = .ok (.iinc 2 (-1), 3) := by decide +kernel
theorem dX2_nextOrder_69 : decode cX2_nextOrder 69 = .ok (.goto (-23), 3) := by decide +kernel
theorem dX2_nextOrder_72 : decode cX2_nextOrder 72 = .ok (.aload_n 0, 1) := by decide +kernel
theorem dX2_nextOrder_73 : decode cX2_nextOrder 73 = .ok (.iload_n 1, 1) := by decide +kernel
theorem dX2_nextOrder_74 : decode cX2_nextOrder 74 = .ok (.iload_n 2, 1) := by decide +kernel
theorem dX2_nextOrder_75 : decode cX2_nextOrder 75 = .ok (.invokevirtual 114, 3) := by decide +kernel
theorem dX2_nextOrder_78 : decode cX2_nextOrder 78 = .ok (.aload_n 0, 1) := by decide +kernel
theorem dX2_nextOrder_79 : decode cX2_nextOrder 79 = .ok (.getfield 89, 3) := by decide +kernel
theorem dX2_nextOrder_82 : decode cX2_nextOrder 82 = .ok (.iconst 1, 1) := by decide +kernel
theorem dX2_nextOrder_83 : decode cX2_nextOrder 83 = .ok (.isub, 1) := by decide +kernel
theorem dX2_nextOrder_84 : decode cX2_nextOrder 84 = .ok (.istore_n 3, 1) := by decide +kernel
theorem dX2_nextOrder_85 : decode cX2_nextOrder 85 = .ok (.iload_n 1, 1) := by decide +kernel
theorem dX2_nextOrder_86 : decode cX2_nextOrder 86 = .ok (.iconst 1, 1) := by decide +kernel
theorem dX2_nextOrder_87 : decode cX2_nextOrder 87 = .ok (.iadd, 1) := by decide +kernel
theorem dX2_nextOrder_88 : decode cX2_nextOrder 88 = .ok (.istore 4, 2) := by decide +kernel
theorem dX2_nextOrder_90 : decode cX2_nextOrder 90 = .ok (.iload 4, 2) := by decide +kernel
theorem dX2_nextOrder_92 : decode cX2_nextOrder 92 = .ok (.iload_n 3, 1) := by decide +kernel
theorem dX2_nextOrder_93 : decode cX2_nextOrder 93 = .ok (.if_icmp .ge 19, 3) := by decide +kernel
theorem dX2_nextOrder_96 : decode cX2_nextOrder 96 = .ok (.aload_n 0, 1) := by decide +kernel
theorem dX2_nextOrder_97 : decode cX2_nextOrder 97 = .ok (.iload 4, 2) := by decide +kernel
theorem dX2_nextOrder_99 : decode cX2_nextOrder 99 = .ok (.iload_n 3, 1) := by decide +kernel
theorem dX2_nextOrder_100 : decode cX2_nextOrder 100 = .ok (.invokevirtual 114, 3) := by decide +kernel
theorem dX2_nextOrder_103 : decode cX2_nextOrder 103 = .ok (.iinc 3 (-1), 3) := by decide +kernel
theorem dX2_nextOrder_106 : decode cX2_nextOrder 106 = .ok (.iinc 4 1, 3) := by decide +kernel
theorem dX2_nextOrder_109 : decode cX2_nextOrder 109 = .ok (.goto (-19), 3) := by decide +kernel
theorem dX2_nextOrder_112 : decode cX2_nextOrder 112 = .ok (.return_, 1) := by decide +kernel
theorem dX2_swapAt_0 : decode cX2_swapAt 0 = .ok (.aload_n 0, 1) := by decide +kernel
theorem dX2_swapAt_1 : decode cX2_swapAt 1 = .ok (.getfield 28, 3) := by decide +kernel
theorem dX2_swapAt_4 : decode cX2_swapAt 4 = .ok (.iload_n 1, 1) := by decide +kernel
theorem dX2_swapAt_5 : decode cX2_swapAt 5 = .ok (.iaload, 1) := by decide +kernel
theorem dX2_swapAt_6 : decode cX2_swapAt 6 = .ok (.istore_n 3, 1) := by decide +kernel
theorem dX2_swapAt_7 : decode cX2_swapAt 7 = .ok (.aload_n 0, 1) := by decide +kernel
theorem dX2_swapAt_8 : decode cX2_swapAt 8 = .ok (.getfield 28, 3) := by decide +kernel
theorem dX2_swapAt_11 : decode cX2_swapAt 11 = .ok (.iload_n 1, 1) := by decide +kernel
theorem dX2_swapAt_12 : decode cX2_swapAt 12 = .ok (.aload_n 0, 1) := by decide +kernel
theorem dX2_swapAt_13 : decode cX2_swapAt 13 = .ok (.getfield 28, 3) := by decide +kernel
theorem dX2_swapAt_16 : decode cX2_swapAt 16 = .ok (.iload_n 2, 1) := by decide +kernel
theorem dX2_swapAt_17 : decode cX2_swapAt 17 = .ok (.iaload, 1) := by decide +kernel
theorem dX2_swapAt_18 : decode cX2_swapAt 18 = .ok (.iastore, 1) := by decide +kernel
theorem dX2_swapAt_19 : decode cX2_swapAt 19 = .ok (.aload_n 0, 1) := by decide +kernel
theorem dX2_swapAt_20 : decode cX2_swapAt 20 = .ok (.getfield 28, 3) := by decide +kernel
theorem dX2_swapAt_23 : decode cX2_swapAt 23 = .ok (.iload_n 2, 1) := by decide +kernel
theorem dX2_swapAt_24 : decode cX2_swapAt 24 = .ok (.iload_n 3, 1) := by decide +kernel
theorem dX2_swapAt_25 : decode cX2_swapAt 25 = .ok (.iastore, 1) := by decide +kernel
theorem dX2_swapAt_26 : decode cX2_swapAt 26 = .ok (.return_, 1) := by decide +kernel
theorem dX2_greatestDivisor_0 : decode cX2_greatestDivisor 0 = .ok (.iload_n 1, 1) := by decide +kernel
theorem dX2_greatestDivisor_1 : decode cX2_greatestDivisor 1 = .ok (.istore_n 2, 1) := by decide +kernel
theorem dX2_greatestDivisor_2 : decode cX2_greatestDivisor 2 = .ok (.iload_n 2, 1) := by decide +kernel
theorem dX2_greatestDivisor_3 : decode cX2_greatestDivisor 3 = .ok (.iconst 1, 1) := by decide +kernel
theorem dX2_greatestDivisor_4 : decode cX2_greatestDivisor 4 = .ok (.if_icmp .le 23, 3) := by decide +kernel
theorem dX2_greatestDivisor_7 : decode cX2_greatestDivisor 7 = .ok (.iload_n 0, 1) := by decide +kernel
theorem dX2_greatestDivisor_8 : decode cX2_greatestDivisor 8 = .ok (.iload_n 2, 1) := by decide +kernel
theorem dX2_greatestDivisor_9 : decode cX2_greatestDivisor 9 = .ok (.irem, 1) := by decide +kernel
theorem dX2_greatestDivisor_10 : decode cX2_greatestDivisor 10 = .ok (.ifCond .ne 11, 3) := by decide +kernel
theorem dX2_greatestDivisor_13 : decode cX2_greatestDivisor 13 = .ok (.iload_n 1, 1) := by decide +kernel
theorem dX2_greatestDivisor_14 : decode cX2_greatestDivisor 14 = .ok (.iload_n 2, 1) := by decide +kernel
theorem dX2_greatestDivisor_15 : decode cX2_greatestDivisor 15 = .ok (.irem, 1) := by decide +kernel
theorem dX2_greatestDivisor_16 : decode cX2_greatestDivisor 16 = .ok (.ifCond .ne 5, 3) := by decide +kernel
theorem dX2_greatestDivisor_19 : decode cX2_greatestDivisor 19 = .ok (.iload_n 2, 1) := by decide +kernel
theorem dX2_greatestDivisor_20 : decode cX2_greatestDivisor 20 = .ok (.ireturn, 1) := by decide +kernel
theorem dX2_greatestDivisor_21 : decode cX2_greatestDivisor 21 = .ok (.iinc 2 (-1), 3) := by decide +kernel
theorem dX2_greatestDivisor_24 : decode cX2_greatestDivisor 24 = .ok (.goto (-22), 3) := by decide +kernel
theorem dX2_greatestDivisor_27 : decode cX2_greatestDivisor 27 = .ok (.iconst 1, 1) := by decide +kernel
theorem dX2_greatestDivisor_28 : decode cX2_greatestDivisor 28 = .ok (.ireturn, 1) := by decide +kernel
theorem dX3_init_0 : decode cX3_init 0 = .ok (.aload_n 0, 1) := by decide +kernel
theorem dX3_init_1 : decode cX3_init 1 = .ok (.invokespecial 3, 3) := by decide +kernel
theorem dX3_init_4 : decode cX3_init 4 = .ok (.aload_n 0, 1) := by decide +kernel
theorem dX3_init_5 : decode cX3_init 5 = .ok (.bipush 10, 2) := by decide +kernel
theorem dX3_init_7 : decode cX3_init 7 = .ok (.newarray .int, 2) := by decide +kernel
theorem dX3_init_9 : decode cX3_init 9 = .ok (.putfield 9, 3) := by decide +kernel
theorem dX3_init_12 : decode cX3_init 12 = .ok (.aload_n 0, 1) := by decide +kernel
theorem dX3_init_13 : decode cX3_init 13 = .ok (.bipush 10, 2) := by decide +kernel
theorem dX3_init_15 : decode cX3_init 15 = .ok (.newarray .int, 2) := by decide +kernel
theorem dX3_init_17 : decode cX3_init 17 = .ok (.putfield 15, 3) := by decide +kernel
theorem dX3_init_20 : decode cX3_init 20 = .ok (.aload_n 0, 1) := by decide +kernel
theorem dX3_init_21 : decode cX3_init 21 = .ok (.bipush 6, 2) := by decide +kernel
theorem dX3_init_23 : decode cX3_init 23 = .ok (.newarray .int, 2) := by decide +kernel
theorem dX3_init_25 : decode cX3_init 25 = .ok (.putfield 18, 3) := by decide +kernel
theorem dX3_init_28 : decode cX3_init 28 = .ok (.aload_n 0, 1) := by decide +kernel
theorem dX3_init_29 : decode cX3_init 29 = .ok (.bipush 6, 2) := by decide +kernel
theorem dX3_init_31 : decode cX3_init 31 = .ok (.newarray .int, 2) := by decide +kernel
theorem dX3_init_33 : decode cX3_init 33 = .ok (.putfield 21, 3) := by decide +kernel
theorem dX3_init_36 : decode cX3_init 36 = .ok (.aload_n 0, 1) := by decide +kernel
theorem dX3_init_37 : decode cX3_init 37 = .ok (.bipush 6, 2) := by decide +kernel
theorem dX3_init_39 : decode cX3_init 39 = .ok (.newarray .int, 2) := by decide +kernel
theorem dX3_init_41 : decode cX3_init 41 = .ok (.putfield 24, 3) := by decide +kernel
theorem dX3_init_44 : decode cX3_init 44 = .ok (.aload_n 0, 1) := by decide +kernel
theorem dX3_init_45 : decode cX3_init 45 = .ok (.bipush 6, 2) := by decide +kernel
theorem dX3_init_47 : decode cX3_init 47 = .ok (.newarray .boolean, 2) := by decide +kernel
theorem dX3_init_49 : decode cX3_init 49 = .ok (.putfield 27, 3) := by decide +kernel
theorem dX3_init_52 : decode cX3_init 52 = .ok (.aload_n 0, 1) := by decide +kernel
theorem dX3_init_53 : decode cX3_init 53 = .ok (.iconst 5, 1) := by decide +kernel
theorem dX3_init_54 : decode cX3_init 54 = .ok (.newarray .boolean, 2) := by decide +kernel
theorem dX3_init_56 : decode cX3_init 56 = .ok (.putfield 31, 3) := by decide +kernel
theorem dX3_init_59 : decode cX3_init 59 = .ok (.aload_n 0, 1) := by decide +kernel
theorem dX3_init_60 : decode cX3_init 60 = .ok (.new 34, 3) := by decide +kernel
theorem dX3_init_63 : decode cX3_init 63 = .ok (.dup, 1) := by decide +kernel
theorem dX3_init_64 : decode cX3_init 64 = .ok (.invokespecial 36, 3) := by decide +kernel
theorem dX3_init_67 : decode cX3_init 67 = .ok (.putfield 37, 3) := by decide +kernel
theorem dX3_init_70 : decode cX3_init 70 = .ok (.return_, 1) := by decide +kernel
theorem dX3_hangAsRead_0 : decode cX3_hangAsRead 0 = .ok (.aload_n 0, 1) := by decide +kernel
theorem dX3_hangAsRead_1 : decode cX3_hangAsRead 1 = .ok (.aload_n 1, 1) := by decide +kernel
theorem dX3_hangAsRead_2 : decode cX3_hangAsRead 2 = .ok (.getfield 41, 3) := by decide +kernel
theorem dX3_hangAsRead_5 : decode cX3_hangAsRead 5 = .ok (.iconst 1, 1) := by decide +kernel
theorem dX3_hangAsRead_6 : decode cX3_hangAsRead 6 = .ok (.iadd, 1) := by decide +kernel
theorem dX3_hangAsRead_7 : decode cX3_hangAsRead 7 = .ok (.putfield 47, 3) := by decide +kernel
theorem dX3_hangAsRead_10 : decode cX3_hangAsRead 10 = .ok (.aload_n 0, 1) := by decide +kernel
theorem dX3_hangAsRead_11 : decode cX3_hangAsRead 11 = .ok (.aload_n 1, 1) := by decide +kernel
theorem dX3_hangAsRead_12 : decode cX3_hangAsRead 12 = .ok (.getfield 50, 3) := by decide +kernel
theorem dX3_hangAsRead_15 : decode cX3_hangAsRead 15 = .ok (.putfield 53, 3) := by decide +kernel
theorem dX3_hangAsRead_18 : decode cX3_hangAsRead 18 = .ok (.aload_n 0, 1) := by decide +kernel
theorem dX3_hangAsRead_19 : decode cX3_hangAsRead 19 = .ok (.iconst 0, 1) := by decide +kernel
theorem dX3_hangAsRead_20 : decode cX3_hangAsRead 20 = .ok (.putfield 56, 3) := by decide +kernel
theorem dX3_hangAsRead_23 : decode cX3_hangAsRead 23 = .ok (.iconst 0, 1) := by decide +kernel
theorem dX3_hangAsRead_24 : decode cX3_hangAsRead 24 = .ok (.istore_n 2, 1) := by decide +kernel
theorem dX3_hangAsRead_25 : decode cX3_hangAsRead 25 = .ok (.iload_n 2, 1) := by decide +kernel
theorem dX3_hangAsRead_26 : decode cX3_hangAsRead 26 = .ok (.bipush 10, 2) := by decide +kernel
theorem dX3_hangAsRead_28 : decode cX3_hangAsRead 28 = .ok (.if_icmp .ge 33, 3) := by decide +kernel
theorem dX3_hangAsRead_31 : decode cX3_hangAsRead 31 = .ok (.aload_n 0, 1) := by decide +kernel
theorem dX3_hangAsRead_32 : decode cX3_hangAsRead 32 = .ok (.getfield 9, 3) := by decide +kernel
theorem dX3_hangAsRead_35 : decode cX3_hangAsRead 35 = .ok (.iload_n 2, 1) := by decide +kernel
theorem dX3_hangAsRead_36 : decode cX3_hangAsRead 36 = .ok (.aload_n 1, 1) := by decide +kernel
theorem dX3_hangAsRead_37 : decode cX3_hangAsRead 37 = .ok (.getfield 59, 3) := by decide +kernel
theorem dX3_hangAsRead_40 : decode cX3_hangAsRead 40 = .ok (.iload_n 2, 1) := by decide +kernel
theorem dX3_hangAsRead_41 : decode cX3_hangAsRead 41 = .ok (.iaload, 1) := by decide +kernel
theorem dX3_hangAsRead_42 : decode cX3_hangAsRead 42 = .ok (.iastore, 1) := by decide +kernel
theorem dX3_hangAsRead_43 : decode cX3_hangAsRead 43 = .ok (.aload_n 0, 1) := by decide +kernel
theorem dX3_hangAsRead_44 : decode cX3_hangAsRead 44 = .ok (.getfield 15, 3) := by decide +kernel
theorem dX3_hangAsRead_47 : decode cX3_hangAsRead 47 = .ok (.iload_n 2, 1) := by decide +kernel
theorem dX3_hangAsRead_48 : decode cX3_hangAsRead 48 = .ok (.aload_n 1, 1) := by decide +kernel
theorem dX3_hangAsRead_49 : decode cX3_hangAsRead 49 = .ok (.getfield 60, 3) := by decide +kernel
theorem dX3_hangAsRead_52 : decode cX3_hangAsRead 52 = .ok (.iload_n 2, 1) := by decide +kernel
theorem dX3_hangAsRead_53 : decode cX3_hangAsRead 53 = .ok (.iaload, 1) := by decide +kernel
theorem dX3_hangAsRead_54 : decode cX3_hangAsRead 54 = .ok (.iastore, 1) := by decide +kernel
theorem dX3_hangAsRead_55 : decode cX3_hangAsRead 55 = .ok (.iinc 2 1, 3) := by decide +kernel
theorem dX3_hangAsRead_58 : decode cX3_hangAsRead 58 = .ok (.goto (-33), 3) := by decide +kernel
theorem dX3_hangAsRead_61 : decode cX3_hangAsRead 61 = .ok (.iconst 0, 1) := by decide +kernel
theorem dX3_hangAsRead_62 : decode cX3_hangAsRead 62 = .ok (.istore_n 2, 1) := by decide +kernel
theorem dX3_hangAsRead_63 : decode cX3_hangAsRead 63 = .ok (.iload_n 2, 1) := by decide +kernel
theorem dX3_hangAsRead_64 : decode cX3_hangAsRead 64 = .ok (.bipush 6, 2) := by decide +kernel
theorem dX3_hangAsRead_66 : decode cX3_hangAsRead 66 = .ok (.if_icmp .ge 40, 3) := by decide +kernel
theorem dX3_hangAsRead_69 : decode cX3_hangAsRead 69 = .ok (.aload_n 0, 1) := by decide +kernel
theorem dX3_hangAsRead_70 : decode cX3_hangAsRead 70 = .ok (.getfield 18, 3) := by decide +kernel
theorem dX3_hangAsRead_73 : decode cX3_hangAsRead 73 = .ok (.iload_n 2, 1) := by decide +kernel
theorem dX3_hangAsRead_74 : decode cX3_hangAsRead 74 = .ok (.iload_n 2, 1) := by decide +kernel
theorem dX3_hangAsRead_75 : decode cX3_hangAsRead 75 = .ok (.iastore, 1) := by decide +kernel
theorem dX3_hangAsRead_76 : decode cX3_hangAsRead 76 = .ok (.aload_n 0, 1) := by decide +kernel
theorem dX3_hangAsRead_77 : decode cX3_hangAsRead 77 = .ok (.getfield 21, 3) := by decide +kernel
theorem dX3_hangAsRead_80 : decode cX3_hangAsRead 80 = .ok (.iload_n 2, 1) := by decide +kernel
theorem dX3_hangAsRead_81 : decode cX3_hangAsRead 81 = .ok (.aload_n 1, 1) := by decide +kernel
theorem dX3_hangAsRead_82 : decode cX3_hangAsRead 82 = .ok (.getfield 61, 3) := by decide +kernel
theorem dX3_hangAsRead_85 : decode cX3_hangAsRead 85 = .ok (.iload_n 2, 1) := by decide +kernel
theorem dX3_hangAsRead_86 : decode cX3_hangAsRead 86 = .ok (.iaload, 1) := by decide +kernel
theorem dX3_hangAsRead_87 : decode cX3_hangAsRead 87 = .ok (.iastore, 1) := by decide +kernel
theorem dX3_hangAsRead_88 : decode cX3_hangAsRead 88 = .ok (.aload_n 0, 1) := by decide +kernel
theorem dX3_hangAsRead_89 : decode cX3_hangAsRead 89 = .ok (.getfield 24, 3) := by decide +kernel
theorem dX3_hangAsRead_92 : decode cX3_hangAsRead 92 = .ok (.iload_n 2, 1) := by decide +kernel
theorem dX3_hangAsRead_93 : decode cX3_hangAsRead 93 = .ok (.aload_n 1, 1) := by decide +kernel
theorem dX3_hangAsRead_94 : decode cX3_hangAsRead 94 = .ok (.getfield 62, 3) := by decide +kernel
theorem dX3_hangAsRead_97 : decode cX3_hangAsRead 97 = .ok (.iload_n 2, 1) := by decide +kernel
theorem dX3_hangAsRead_98 : decode cX3_hangAsRead 98 = .ok (.iaload, 1) := by decide +kernel
theorem dX3_hangAsRead_99 : decode cX3_hangAsRead 99 = .ok (.iastore, 1) := by decide +kernel
theorem dX3_hangAsRead_100 : decode cX3_hangAsRead 100 = .ok (.iinc 2 1, 3) := by decide +kernel
theorem dX3_hangAsRead_103 : decode cX3_hangAsRead 103 = .ok (.goto (-40), 3) := by decide +kernel
theorem dX3_hangAsRead_106 : decode cX3_hangAsRead 106 = .ok (.aload_n 0, 1) := by decide +kernel
theorem dX3_hangAsRead_107 : decode cX3_hangAsRead 107 = .ok (.invokevirtual 63, 3) := by decide +kernel
theorem dX3_hangAsRead_110 : decode cX3_hangAsRead 110 = .ok (.pop, 1) := by decide +kernel
theorem dX3_hangAsRead_111 : decode cX3_hangAsRead 111 = .ok (.aload_n 0, 1) := by decide +kernel
theorem dX3_hangAsRead_112 : decode cX3_hangAsRead 112 = .ok (.getfield 37, 3) := by decide +kernel
theorem dX3_hangAsRead_115 : decode cX3_hangAsRead 115 = .ok (.iconst 0, 1) := by decide +kernel
theorem dX3_hangAsRead_116 : decode cX3_hangAsRead 116 = .ok (.putfield 67, 3) := by decide +kernel
theorem dX3_hangAsRead_119 : decode cX3_hangAsRead 119 = .ok (.return_, 1) := by decide +kernel
theorem dX3_copyFrom_0 : decode cX3_copyFrom 0 = .ok (.aload_n 0, 1) := by decide +kernel
theorem dX3_copyFrom_1 : decode cX3_copyFrom 1 = .ok (.aload_n 1, 1) := by decide +kernel
theorem dX3_copyFrom_2 : decode cX3_copyFrom 2 = .ok (.getfield 47, 3) := by decide +kernel
theorem dX3_copyFrom_5 : decode cX3_copyFrom 5 = .ok (.putfield 47, 3) := by decide +kernel
theorem dX3_copyFrom_8 : decode cX3_copyFrom 8 = .ok (.aload_n 0, 1) := by decide +kernel
theorem dX3_copyFrom_9 : decode cX3_copyFrom 9 = .ok (.aload_n 1, 1) := by decide +kernel
theorem dX3_copyFrom_10 : decode cX3_copyFrom 10 = .ok (.getfield 53, 3) := by decide +kernel
theorem dX3_copyFrom_13 : decode cX3_copyFrom 13 = .ok (.putfield 53, 3) := by decide +kernel
theorem dX3_copyFrom_16 : decode cX3_copyFrom 16 = .ok (.aload_n 0, 1) := by decide +kernel
theorem dX3_copyFrom_17 : decode cX3_copyFrom 17 = .ok (.aload_n 1, 1) := by decide +kernel
theorem dX3_copyFrom_18 : decode cX3_copyFrom 18 = .ok (.getfield 56, 3) := by decide +kernel
theorem dX3_copyFrom_21 : decode cX3_copyFrom 21 = .ok (.putfield 56, 3) := by decide +kernel
theorem dX3_copyFrom_24 : decode cX3_copyFrom 24 = .ok (.iconst 0, 1) := by decide +kernel
theorem dX3_copyFrom_25 : decode cX3_copyFrom 25 = .ok (.istore_n 2, 1) := by decide +kernel
theorem dX3_copyFrom_26 : decode cX3_copyFrom 26 = .ok (.iload_n 2, 1) := by decide +kernel
theorem dX3_copyFrom_27 : decode cX3_copyFrom 27 = .ok (.bipush 10, 2) := by decide +kernel
theorem dX3_copyFrom_29 : decode cX3_copyFrom 29 = .ok (.if_icmp .ge 33, 3) := by decide +kernel
theorem dX3_copyFrom_32 : decode cX3_copyFrom 32 = .ok (.aload_n 0, 1) := by decide +kernel
theorem dX3_copyFrom_33 : decode cX3_copyFrom 33 = .ok (.getfield 9, 3) := by decide +kernel
theorem dX3_copyFrom_36 : decode cX3_copyFrom 36 = .ok (.iload_n 2, 1) := by decide +kernel
theorem dX3_copyFrom_37 : decode cX3_copyFrom 37 = .ok (.aload_n 1, 1) := by decide +kernel
theorem dX3_copyFrom_38 : decode cX3_copyFrom 38 = .ok (.getfield 9, 3) := by decide +kernel
theorem dX3_copyFrom_41 : decode cX3_copyFrom 41 = .ok (.iload_n 2, 1) := by decide +kernel
theorem dX3_copyFrom_42 : decode cX3_copyFrom 42 = .ok (.iaload, 1) := by decide +kernel
theorem dX3_copyFrom_43 : decode cX3_copyFrom 43 = .ok (.iastore, 1) := by decide +kernel
theorem dX3_copyFrom_44 : decode cX3_copyFrom 44 = .ok (.aload_n 0, 1) := by decide +kernel
theorem dX3_copyFrom_45 : decode cX3_copyFrom 45 = .ok (.getfield 15, 3) := by decide +kernel
theorem dX3_copyFrom_48 : decode cX3_copyFrom 48 = .ok (.iload_n 2, 1) := by decide +kernel
theorem dX3_copyFrom_49 : decode cX3_copyFrom 49 = .ok (.aload_n 1, 1) := by decide +kernel
theorem dX3_copyFrom_50 : decode cX3_copyFrom 50 = .ok (.getfield 15, 3) := by decide +kernel
theorem dX3_copyFrom_53 : decode cX3_copyFrom 53 = .ok (.iload_n 2, 1) := by decide +kernel
theorem dX3_copyFrom_54 : decode cX3_copyFrom 54 = .ok (.iaload, 1) := by decide +kernel
theorem dX3_copyFrom_55 : decode cX3_copyFrom 55 = .ok (.iastore, 1) := by decide +kernel
theorem dX3_copyFrom_56 : decode cX3_copyFrom 56 = .ok (.iinc 2 1, 3) := by decide +kernel
theorem dX3_copyFrom_59 : decode cX3_copyFrom 59 = .ok (.goto (-33), 3) := by decide +kernel
theorem dX3_copyFrom_62 : decode cX3_copyFrom 62 = .ok (.iconst 0, 1) := by decide +kernel
theorem dX3_copyFrom_63 : decode cX3_copyFrom 63 = .ok (.istore_n 2, 1) := by decide +kernel
theorem dX3_copyFrom_64 : decode cX3_copyFrom 64 = .ok (.iload_n 2, 1) := by decide +kernel
theorem dX3_copyFrom_65 : decode cX3_copyFrom 65 = .ok (.bipush 6, 2) := by decide +kernel
theorem dX3_copyFrom_67 : decode cX3_copyFrom 67 = .ok (.if_icmp .ge 57, 3) := by decide +kernel
theorem dX3_copyFrom_70 : decode cX3_copyFrom 70 = .ok (.aload_n 0, 1) := by decide +kernel
theorem dX3_copyFrom_71 : decode cX3_copyFrom 71 = .ok (.getfield 18, 3) := by decide +kernel
theorem dX3_copyFrom_74 : decode cX3_copyFrom 74 = .ok (.iload_n 2, 1) := by decide +kernel
theorem dX3_copyFrom_75 : decode cX3_copyFrom 75 = .ok (.aload_n 1, 1) := by decide +kernel
theorem dX3_copyFrom_76 : decode cX3_copyFrom 76 = .ok (.getfield 18, 3) := by decide +kernel
theorem dX3_copyFrom_79 : decode cX3_copyFrom 79 = .ok (.iload_n 2, 1) := by decide +kernel
theorem dX3_copyFrom_80 : decode cX3_copyFrom 80 = .ok (.iaload, 1) := by decide +kernel
theorem dX3_copyFrom_81 : decode cX3_copyFrom 81 = .ok (.iastore, 1) := by decide +kernel
theorem dX3_copyFrom_82 : decode cX3_copyFrom 82 = .ok (.aload_n 0, 1) := by decide +kernel
theorem dX3_copyFrom_83 : decode cX3_copyFrom 83 = .ok (.getfield 21, 3) := by decide +kernel
theorem dX3_copyFrom_86 : decode cX3_copyFrom 86 = .ok (.iload_n 2, 1) := by decide +kernel
theorem dX3_copyFrom_87 : decode cX3_copyFrom 87 = .ok (.aload_n 1, 1) := by decide +kernel
theorem dX3_copyFrom_88 : decode cX3_copyFrom 88 = .ok (.getfield 21, 3) := by decide +kernel
theorem dX3_copyFrom_91 : decode cX3_copyFrom 91 = .ok (.iload_n 2, 1) := by decide +kernel
theorem dX3_copyFrom_92 : decode cX3_copyFrom 92 = .ok (.iaload, 1) := by decide +kernel
theorem dX3_copyFrom_93 : decode cX3_copyFrom 93 = .ok (.iastore, 1) := by decide +kernel
theorem dX3_copyFrom_94 : decode cX3_copyFrom 94 = .ok (.aload_n 0, 1) := by decide +kernel
theorem dX3_copyFrom_95 : decode cX3_copyFrom 95 = .ok (.getfield 24, 3) := by decide +kernel
theorem dX3_copyFrom_98 : decode cX3_copyFrom 98 = .ok (.iload_n 2, 1) := by decide +kernel
theorem dX3_copyFrom_99 : decode cX3_copyFrom 99 = .ok (.aload_n 1, 1) := by decide +kernel
theorem dX3_copyFrom_100 : decode cX3_copyFrom 100 = .ok (.getfield 24, 3) := by decide +kernel
theorem dX3_copyFrom_103 : decode cX3_copyFrom 103 = .ok (.iload_n 2, 1) := by decide +kernel
theorem dX3_copyFrom_104 : decode cX3_copyFrom 104 = .ok (.iaload, 1) := by decide +kernel
theorem dX3_copyFrom_105 : decode cX3_copyFrom 105 = .ok (.iastore, 1) := by decide +kernel
theorem dX3_copyFrom_106 : decode cX3_copyFrom 106 = .ok (.aload_n 0, 1) := by decide +kernel
theorem dX3_copyFrom_107 : decode cX3_copyFrom 107 = .ok (.getfield 27, 3) := by decide +kernel
theorem dX3_copyFrom_110 : decode cX3_copyFrom 110 = .ok (.iload_n 2, 1) := by decide +kernel
theorem dX3_copyFrom_111 : decode cX3_copyFrom 111 = .ok (.aload_n 1, 1) := by decide +kernel
theorem dX3_copyFrom_112 : decode cX3_copyFrom 112 = .ok (.getfield 27, 3) := by decide +kernel
theorem dX3_copyFrom_115 : decode cX3_copyFrom 115 = .ok (.iload_n 2, 1) := by decide +kernel
theorem dX3_copyFrom_116 : decode cX3_copyFrom 116 = .ok (.baload, 1) := by decide +kernel
theorem dX3_copyFrom_117 : decode cX3_copyFrom 117 = .ok (.bastore, 1) := by decide +kernel
theorem dX3_copyFrom_118 : decode cX3_copyFrom 118 = .ok (.iinc 2 1, 3) := by decide +kernel
theorem dX3_copyFrom_121 : decode cX3_copyFrom 121 = .ok (.goto (-57), 3) := by decide +kernel
theorem dX3_copyFrom_124 : decode cX3_copyFrom 124 = .ok (.iconst 0, 1) := by decide +kernel
theorem dX3_copyFrom_125 : decode cX3_copyFrom 125 = .ok (.istore_n 2, 1) := by decide +kernel
theorem dX3_copyFrom_126 : decode cX3_copyFrom 126 = .ok (.iload_n 2, 1) := by decide +kernel
theorem dX3_copyFrom_127 : decode cX3_copyFrom 127 = .ok (.iconst 5, 1) := by decide +kernel
theorem dX3_copyFrom_128 : decode cX3_copyFrom 128 = .ok (.if_icmp .ge 21, 3) := by decide +kernel
theorem dX3_copyFrom_131 : decode cX3_copyFrom 131 = .ok (.aload_n 0, 1) := by decide +kernel
theorem dX3_copyFrom_132 : decode cX3_copyFrom 132 = .ok (.getfield 31, 3) := by decide +kernel
theorem dX3_copyFrom_135 : decode cX3_copyFrom 135 = .ok (.iload_n 2, 1) := by decide +kernel
theorem dX3_copyFrom_136 : decode cX3_copyFrom 136 = .ok (.aload_n 1, 1) := by decide +kernel
theorem dX3_copyFrom_137 : decode cX3_copyFrom 137 = .ok (.getfield 31, 3) := by decide +kernel
theorem dX3_copyFrom_140 : decode cX3_copyFrom 140 = .ok (.iload_n 2, 1) := by decide +kernel
theorem dX3_copyFrom_141 : decode cX3_copyFrom 141 = .ok (.baload, 1) := by decide +kernel
theorem dX3_copyFrom_142 : decode cX3_copyFrom 142 = .ok (.bastore, 1) := by decide +kernel
theorem dX3_copyFrom_143 : decode cX3_copyFrom 143 = .ok (.iinc 2 1, 3) := by decide +kernel
theorem dX3_copyFrom_146 : decode cX3_copyFrom 146 = .ok (.goto (-20), 3) := by decide +kernel
theorem dX3_copyFrom_149 : decode cX3_copyFrom 149 = .ok (.aload_n 0, 1) := by decide +kernel
theorem dX3_copyFrom_150 : decode cX3_copyFrom 150 = .ok (.getfield 37, 3) := by decide +kernel
theorem dX3_copyFrom_153 : decode cX3_copyFrom 153 = .ok (.aload_n 1, 1) := by decide +kernel
theorem dX3_copyFrom_154 : decode cX3_copyFrom 154 = .ok (.getfield 37, 3) := by decide +kernel
theorem dX3_copyFrom_157 : decode cX3_copyFrom 157 = .ok (.invokevirtual 70, 3) := by decide +kernel
theorem dX3_copyFrom_160 : decode cX3_copyFrom 160 = .ok (.return_, 1) := by decide +kernel
theorem dX3_hangAllAgain_0 : decode cX3_hangAllAgain 0 = .ok (.iconst 0, 1) := by decide +kernel
theorem dX3_hangAllAgain_1 : decode cX3_hangAllAgain 1 = .ok (.istore_n 1, 1) := by decide +kernel
theorem dX3_hangAllAgain_2 : decode cX3_hangAllAgain 2 = .ok (.iconst 0, 1) := by decide +kernel
theorem dX3_hangAllAgain_3 : decode cX3_hangAllAgain 3 = .ok (.istore_n 2, 1) := by decide +kernel
theorem dX3_hangAllAgain_4 : decode cX3_hangAllAgain 4 = .ok (.iload_n 2, 1) := by decide +kernel
theorem dX3_hangAllAgain_5 : decode cX3_hangAllAgain 5 = .ok (.bipush 6, 2) := by decide +kernel
theorem dX3_hangAllAgain_7 : decode cX3_hangAllAgain 7 = .ok (.if_icmp .ge 33, 3) := by decide +kernel
theorem dX3_hangAllAgain_10 : decode cX3_hangAllAgain 10 = .ok (.iload_n 1, 1) := by decide +kernel
theorem dX3_hangAllAgain_11 : decode cX3_hangAllAgain 11 = .ok (.aload_n 0, 1) := by decide +kernel
theorem dX3_hangAllAgain_12 : decode cX3_hangAllAgain 12 = .ok (.getfield 27, 3) := by decide +kernel
theorem dX3_hangAllAgain_15 : decode cX3_hangAllAgain 15 = .ok (.iload_n 2, 1) := by decide +kernel
theorem dX3_hangAllAgain_16 : decode cX3_hangAllAgain 16 = .ok (.baload, 1) := by decide +kernel
theorem dX3_hangAllAgain_17 : decode cX3_hangAllAgain 17 = .ok (.ifCond .eq 7, 3) := by decide +kernel
theorem dX3_hangAllAgain_20 : decode cX3_hangAllAgain 20 = .ok (.iconst 1, 1) := by decide +kernel
theorem dX3_hangAllAgain_21 : decode cX3_hangAllAgain 21 = .ok (.goto 4, 3) := by decide +kernel
theorem dX3_hangAllAgain_24 : decode cX3_hangAllAgain 24 = .ok (.iconst 0, 1) := by decide +kernel
theorem dX3_hangAllAgain_25 : decode cX3_hangAllAgain 25 = .ok (.iadd, 1) := by decide +kernel
theorem dX3_hangAllAgain_26 : decode cX3_hangAllAgain 26 = .ok (.istore_n 1, 1) := by decide +kernel
theorem dX3_hangAllAgain_27 : decode cX3_hangAllAgain 27 = .ok (.aload_n 0, 1) := by decide +kernel
theorem dX3_hangAllAgain_28 : decode cX3_hangAllAgain 28 = .ok (.getfield 27, 3) := by decide +kernel
theorem dX3_hangAllAgain_31 : decode cX3_hangAllAgain 31 = .ok (.iload_n 2, 1) := by decide +kernel
theorem dX3_hangAllAgain_32 : decode cX3_hangAllAgain 32 = .ok (.iconst 0, 1) := by decide +kernel
theorem dX3_hangAllAgain_33 : decode cX3_hangAllAgain 33 = .ok (.bastore, 1) := by decide +kernel
theorem dX3_hangAllAgain_34 : decode cX3_hangAllAgain 34 = .ok (.iinc 2 1, 3) := by decide +kernel
theorem dX3_hangAllAgain_37 : decode cX3_hangAllAgain 37 = .ok (.goto (-33), 3) := by decide +kernel
theorem dX3_hangAllAgain_40 : decode cX3_hangAllAgain 40 = .ok (.iconst 0, 1) := by decide +kernel
theorem dX3_hangAllAgain_41 : decode cX3_hangAllAgain 41 = .ok (.istore_n 2, 1) := by decide +kernel
theorem dX3_hangAllAgain_42 : decode cX3_hangAllAgain 42 = .ok (.iload_n 2, 1) := by decide +kernel
theorem dX3_hangAllAgain_43 : decode cX3_hangAllAgain 43 = .ok (.iconst 5, 1) := by decide +kernel
theorem dX3_hangAllAgain_44 : decode cX3_hangAllAgain 44 = .ok (.if_icmp .ge 33, 3) := by decide +kernel
theorem dX3_hangAllAgain_47 : decode cX3_hangAllAgain 47 = .ok (.iload_n 1, 1) := by decide +kernel
theorem dX3_hangAllAgain_48 : decode cX3_hangAllAgain 48 = .ok (.aload_n 0, 1) := by decide +kernel
theorem dX3_hangAllAgain_49 : decode cX3_hangAllAgain 49 = .ok (.getfield 31, 3) := by decide +kernel
theorem dX3_hangAllAgain_52 : decode cX3_hangAllAgain 52 = .ok (.iload_n 2, 1) := by decide +kernel
theorem dX3_hangAllAgain_53 : decode cX3_hangAllAgain 53 = .ok (.baload, 1) := by decide +kernel
theorem dX3_hangAllAgain_54 : decode cX3_hangAllAgain 54 = .ok (.ifCond .eq 7, 3) := by decide +kernel
theorem dX3_hangAllAgain_57 : decode cX3_hangAllAgain 57 = .ok (.iconst 1, 1) := by decide +kernel
theorem dX3_hangAllAgain_58 : decode cX3_hangAllAgain 58 = .ok (.goto 4, 3) := by decide +kernel
theorem dX3_hangAllAgain_61 : decode cX3_hangAllAgain 61 = .ok (.iconst 0, 1) := by decide +kernel
theorem dX3_hangAllAgain_62 : decode cX3_hangAllAgain 62 = .ok (.iadd, 1) := by decide +kernel
theorem dX3_hangAllAgain_63 : decode cX3_hangAllAgain 63 = .ok (.istore_n 1, 1) := by decide +kernel
theorem dX3_hangAllAgain_64 : decode cX3_hangAllAgain 64 = .ok (.aload_n 0, 1) := by decide +kernel
theorem dX3_hangAllAgain_65 : decode cX3_hangAllAgain 65 = .ok (.getfield 31, 3) := by decide +kernel
theorem dX3_hangAllAgain_68 : decode cX3_hangAllAgain 68 = .ok (.iload_n 2, 1) := by decide +kernel
theorem dX3_hangAllAgain_69 : decode cX3_hangAllAgain 69 = .ok (.iconst 0, 1) := by decide +kernel
theorem dX3_hangAllAgain_70 : decode cX3_hangAllAgain 70 = .ok (.bastore, 1) := by decide +kernel
theorem dX3_hangAllAgain_71 : decode cX3_hangAllAgain 71 = .ok (.iinc 2 1, 3) := by decide +kernel
theorem dX3_hangAllAgain_74 : decode cX3_hangAllAgain 74 = .ok (.goto (-32), 3) := by decide +kernel
theorem dX3_hangAllAgain_77 : decode cX3_hangAllAgain 77 = .ok (.iload_n 1, 1) := by decide +kernel
theorem dX3_hangAllAgain_78 : decode cX3_hangAllAgain 78 = .ok (.ireturn, 1) := by decide +kernel
theorem dX3_hangingFrom_0 : decode cX3_hangingFrom 0 = .ok (.aload_n 0, 1) := by decide +kernel
theorem dX3_hangingFrom_1 : decode cX3_hangingFrom 1 = .ok (.getfield 15, 3) := by decide +kernel
theorem dX3_hangingFrom_4 : decode cX3_hangingFrom 4 = .ok (.iload_n 1, 1) := by decide +kernel
theorem dX3_hangingFrom_5 : decode cX3_hangingFrom 5 = .ok (.iaload, 1) := by decide +kernel
theorem dX3_hangingFrom_6 : decode cX3_hangingFrom 6 = .ok (.istore_n 2, 1) := by decide +kernel
theorem dX3_hangingFrom_7 : decode cX3_hangingFrom 7 = .ok (.iload_n 2, 1) := by decide +kernel
theorem dX3_hangingFrom_8 : decode cX3_hangingFrom 8 = .ok (.bipush 10, 2) := by decide +kernel
theorem dX3_hangingFrom_10 : decode cX3_hangingFrom 10 = .ok (.if_icmp .ge 7, 3) := by decide +kernel
theorem dX3_hangingFrom_13 : decode cX3_hangingFrom 13 = .ok (.iload_n 2, 1) := by decide +kernel
theorem dX3_hangingFrom_14 : decode cX3_hangingFrom 14 = .ok (.goto 15, 3) := by decide +kernel
theorem dX3_hangingFrom_17 : decode cX3_hangingFrom 17 = .ok (.bipush 10, 2) := by decide +kernel
theorem dX3_hangingFrom_19 : decode cX3_hangingFrom 19 = .ok (.aload_n 0, 1) := by decide +kernel
theorem dX3_hangingFrom_20 : decode cX3_hangingFrom 20 = .ok (.getfield 18, 3) := by decide +kernel
theorem dX3_hangingFrom_23 : decode cX3_hangingFrom 23 = .ok (.iload_n 2, 1) := by decide +kernel
theorem dX3_hangingFrom_24 : decode cX3_hangingFrom 24 = .ok (.bipush 10, 2) := by decide +kernel
theorem dX3_hangingFrom_26 : decode cX3_hangingFrom 26 = .ok (.isub, 1) := by decide +kernel
theorem dX3_hangingFrom_27 : decode cX3_hangingFrom 27 = .ok (.iaload, 1) := by decide +kernel
theorem dX3_hangingFrom_28 : decode cX3_hangingFrom 28 = .ok (.iadd, 1) := by decide +kernel
theorem dX3_hangingFrom_29 : decode cX3_hangingFrom 29 = .ok (.ireturn, 1) := by decide +kernel
theorem dX3_armOf_0 : decode cX3_armOf 0 = .ok (.iconst 0, 1) := by decide +kernel
theorem dX3_armOf_1 : decode cX3_armOf 1 = .ok (.istore_n 2, 1) := by decide +kernel
theorem dX3_armOf_2 : decode cX3_armOf 2 = .ok (.iload_n 2, 1) := by decide +kernel
theorem dX3_armOf_3 : decode cX3_armOf 3 = .ok (.iconst 2, 1) := by decide +kernel
theorem dX3_armOf_4 : decode cX3_armOf 4 = .ok (.aload_n 0, 1) := by decide +kernel
theorem dX3_armOf_5 : decode cX3_armOf 5 = .ok (.getfield 47, 3) := by decide +kernel
theorem dX3_armOf_8 : decode cX3_armOf 8 = .ok (.imul, 1) := by decide +kernel
theorem dX3_armOf_9 : decode cX3_armOf 9 = .ok (.if_icmp .ge 23, 3) := by decide +kernel
theorem dX3_armOf_12 : decode cX3_armOf 12 = .ok (.aload_n 0, 1) := by decide +kernel
theorem dX3_armOf_13 : decode cX3_armOf 13 = .ok (.iload_n 2, 1) := by decide +kernel
theorem dX3_armOf_14 : decode cX3_armOf 14 = .ok (.invokevirtual 74, 3) := by decide +kernel
theorem dX3_armOf_17 : decode cX3_armOf 17 = .ok (.bipush 10, 2) := by decide +kernel
theorem dX3_armOf_19 : decode cX3_armOf 19 = .ok (.iload_n 1, 1) := by decide +kernel
theorem dX3_armOf_20 : decode cX3_armOf 20 = .ok (.iadd, 1) := by decide +kernel
theorem dX3_armOf_21 : decode cX3_armOf 21 = .ok (.if_icmp .ne 5, 3) := by decide +kernel
theorem dX3_armOf_24 : decode cX3_armOf 24 = .ok (.iload_n 2, 1) := by decide +kernel
theorem dX3_armOf_25 : decode cX3_armOf 25 = .ok (.ireturn, 1) := by decide +kernel
theorem dX3_armOf_26 : decode cX3_armOf 26 = .ok (.iinc 2 1, 3) := by decide +kernel
theorem dX3_armOf_29 : decode cX3_armOf 29 = .ok (.goto (-27), 3) := by decide +kernel
theorem dX3_armOf_32 : decode cX3_armOf 32 = .ok (.iconst 0, 1) := by decide +kernel
theorem dX3_armOf_33 : decode cX3_armOf 33 = .ok (.ireturn, 1) := by decide +kernel
theorem dX4_init_0 : decode cX4_init 0 = .ok (.aload_n 0, 1) := by decide +kernel
theorem dX4_init_1 : decode cX4_init 1 = .ok (.invokespecial 3, 3) := by decide +kernel
theorem dX4_init_4 : decode cX4_init 4 = .ok (.aload_n 0, 1) := by decide +kernel
theorem dX4_init_5 : decode cX4_init 5 = .ok (.bipush 46, 2) := by decide +kernel
theorem dX4_init_7 : decode cX4_init 7 = .ok (.newarray .int, 2) := by decide +kernel
theorem dX4_init_9 : decode cX4_init 9 = .ok (.putfield 9, 3) := by decide +kernel
theorem dX4_init_12 : decode cX4_init 12 = .ok (.return_, 1) := by decide +kernel
theorem dX5_init_0 : decode cX5_init 0 = .ok (.aload_n 0, 1) := by decide +kernel
theorem dX5_init_1 : decode cX5_init 1 = .ok (.invokespecial 3, 3) := by decide +kernel
theorem dX5_init_4 : decode cX5_init 4 = .ok (.aload_n 0, 1) := by decide +kernel
theorem dX5_init_5 : decode cX5_init 5 = .ok (.bipush 10, 2) := by decide +kernel
theorem dX5_init_7 : decode cX5_init 7 = .ok (.newarray .int, 2) := by decide +kernel
theorem dX5_init_9 : decode cX5_init 9 = .ok (.putfield 9, 3) := by decide +kernel
theorem dX5_init_12 : decode cX5_init 12 = .ok (.aload_n 0, 1) := by decide +kernel
theorem dX5_init_13 : decode cX5_init 13 = .ok (.bipush 10, 2) := by decide +kernel
theorem dX5_init_15 : decode cX5_init 15 = .ok (.newarray .int, 2) := by decide +kernel
theorem dX5_init_17 : decode cX5_init 17 = .ok (.putfield 15, 3) := by decide +kernel
theorem dX5_init_20 : decode cX5_init 20 = .ok (.aload_n 0, 1) := by decide +kernel
theorem dX5_init_21 : decode cX5_init 21 = .ok (.bipush 6, 2) := by decide +kernel
theorem dX5_init_23 : decode cX5_init 23 = .ok (.newarray .int, 2) := by decide +kernel
theorem dX5_init_25 : decode cX5_init 25 = .ok (.putfield 18, 3) := by decide +kernel
theorem dX5_init_28 : decode cX5_init 28 = .ok (.aload_n 0, 1) := by decide +kernel
theorem dX5_init_29 : decode cX5_init 29 = .ok (.bipush 6, 2) := by decide +kernel
theorem dX5_init_31 : decode cX5_init 31 = .ok (.newarray .int, 2) := by decide +kernel
theorem dX5_init_33 : decode cX5_init 33 = .ok (.putfield 21, 3) := by decide +kernel
theorem dX5_init_36 : decode cX5_init 36 = .ok (.aload_n 0, 1) := by decide +kernel
theorem dX5_init_37 : decode cX5_init 37 = .ok (.iconst 5, 1) := by decide +kernel
theorem dX5_init_38 : decode cX5_init 38 = .ok (.newarray .boolean, 2) := by decide +kernel
theorem dX5_init_40 : decode cX5_init 40 = .ok (.putfield 24, 3) := by decide +kernel
theorem dX5_init_43 : decode cX5_init 43 = .ok (.return_, 1) := by decide +kernel
theorem dX5_readLetters_0 : decode cX5_readLetters 0 = .ok (.aload_n 0, 1) := by decide +kernel
theorem dX5_readLetters_1 : decode cX5_readLetters 1 = .ok (.invokevirtual 28, 3) := by decide +kernel
theorem dX5_readLetters_4 : decode cX5_readLetters 4 = .ok (.iconst 0, 1) := by decide +kernel
theorem dX5_readLetters_5 : decode cX5_readLetters 5 = .ok (.istore_n 2, 1) := by decide +kernel
theorem dX5_readLetters_6 : decode cX5_readLetters 6 = .ok (.iload_n 2, 1) := by decide +kernel
theorem dX5_readLetters_7 : decode cX5_readLetters 7 = .ok (.aload_n 1, 1) := by decide +kernel
theorem dX5_readLetters_8 : decode cX5_readLetters 8 = .ok (.getfield 31, 3) := by decide +kernel
theorem dX5_readLetters_11 : decode cX5_readLetters 11 = .ok (.if_icmp .ge 24, 3) := by decide +kernel
theorem dX5_readLetters_14 : decode cX5_readLetters 14 = .ok (.aload_n 0, 1) := by decide +kernel
theorem dX5_readLetters_15 : decode cX5_readLetters 15 = .ok (.aload_n 1, 1) := by decide +kernel
theorem dX5_readLetters_16 : decode cX5_readLetters 16 = .ok (.getfield 37, 3) := by decide +kernel
theorem dX5_readLetters_19 : decode cX5_readLetters 19 = .ok (.iload_n 2, 1) := by decide +kernel
theorem dX5_readLetters_20 : decode cX5_readLetters 20 = .ok (.iaload, 1) := by decide +kernel
theorem dX5_readLetters_21 : decode cX5_readLetters 21 = .ok (.invokevirtual 40, 3) := by decide +kernel
theorem dX5_readLetters_24 : decode cX5_readLetters 24 = .ok (.ifCond .ne 5, 3) := by decide +kernel
theorem dX5_readLetters_27 : decode cX5_readLetters 27 = .ok (.iload_n 2, 1) := by decide +kernel
theorem dX5_readLetters_28 : decode cX5_readLetters 28 = .ok (.ireturn, 1) := by decide +kernel
theorem dX5_readLetters_29 : decode cX5_readLetters 29 = .ok (.iinc 2 1, 3) := by decide +kernel
theorem dX5_readLetters_32 : decode cX5_readLetters 32 = .ok (.goto (-26), 3) := by decide +kernel
theorem dX5_readLetters_35 : decode cX5_readLetters 35 = .ok (.aload_n 1, 1) := by decide +kernel
theorem dX5_readLetters_36 : decode cX5_readLetters 36 = .ok (.getfield 31, 3) := by decide +kernel
theorem dX5_readLetters_39 : decode cX5_readLetters 39 = .ok (.ireturn, 1) := by decide +kernel
theorem dX5_isWhole_0 : decode cX5_isWhole 0 = .ok (.aload_n 0, 1) := by decide +kernel
theorem dX5_isWhole_1 : decode cX5_isWhole 1 = .ok (.getfield 44, 3) := by decide +kernel
theorem dX5_isWhole_4 : decode cX5_isWhole 4 = .ok (.iconst 5, 1) := by decide +kernel
theorem dX5_isWhole_5 : decode cX5_isWhole 5 = .ok (.if_icmp .ne 18, 3) := by decide +kernel
theorem dX5_isWhole_8 : decode cX5_isWhole 8 = .ok (.aload_n 0, 1) := by decide +kernel
theorem dX5_isWhole_9 : decode cX5_isWhole 9 = .ok (.getfield 47, 3) := by decide +kernel
theorem dX5_isWhole_12 : decode cX5_isWhole 12 = .ok (.aload_n 0, 1) := by decide +kernel
theorem dX5_isWhole_13 : decode cX5_isWhole 13 = .ok (.getfield 50, 3) := by decide +kernel
theorem dX5_isWhole_16 : decode cX5_isWhole 16 = .ok (.if_icmp .ne 7, 3) := by decide +kernel
theorem dX5_isWhole_19 : decode cX5_isWhole 19 = .ok (.iconst 1, 1) := by decide +kernel
theorem dX5_isWhole_20 : decode cX5_isWhole 20 = .ok (.goto 4, 3) := by decide +kernel
theorem dX5_isWhole_23 : decode cX5_isWhole 23 = .ok (.iconst 0, 1) := by decide +kernel
theorem dX5_isWhole_24 : decode cX5_isWhole 24 = .ok (.ireturn, 1) := by decide +kernel
theorem dX5_begin_0 : decode cX5_begin 0 = .ok (.aload_n 0, 1) := by decide +kernel
theorem dX5_begin_1 : decode cX5_begin 1 = .ok (.iconst 0, 1) := by decide +kernel
theorem dX5_begin_2 : decode cX5_begin 2 = .ok (.putfield 44, 3) := by decide +kernel
theorem dX5_begin_5 : decode cX5_begin 5 = .ok (.aload_n 0, 1) := by decide +kernel
theorem dX5_begin_6 : decode cX5_begin 6 = .ok (.iconst 0, 1) := by decide +kernel
theorem dX5_begin_7 : decode cX5_begin 7 = .ok (.putfield 53, 3) := by decide +kernel
theorem dX5_begin_10 : decode cX5_begin 10 = .ok (.aload_n 0, 1) := by decide +kernel
theorem dX5_begin_11 : decode cX5_begin 11 = .ok (.iconst 0, 1) := by decide +kernel
theorem dX5_begin_12 : decode cX5_begin 12 = .ok (.putfield 47, 3) := by decide +kernel
theorem dX5_begin_15 : decode cX5_begin 15 = .ok (.aload_n 0, 1) := by decide +kernel
theorem dX5_begin_16 : decode cX5_begin 16 = .ok (.iconst 0, 1) := by decide +kernel
theorem dX5_begin_17 : decode cX5_begin 17 = .ok (.putfield 50, 3) := by decide +kernel
theorem dX5_begin_20 : decode cX5_begin 20 = .ok (.aload_n 0, 1) := by decide +kernel
theorem dX5_begin_21 : decode cX5_begin 21 = .ok (.iconst 0, 1) := by decide +kernel
theorem dX5_begin_22 : decode cX5_begin 22 = .ok (.putfield 56, 3) := by decide +kernel
theorem dX5_begin_25 : decode cX5_begin 25 = .ok (.iconst 0, 1) := by decide +kernel
theorem dX5_begin_26 : decode cX5_begin 26 = .ok (.istore_n 1, 1) := by decide +kernel
theorem dX5_begin_27 : decode cX5_begin 27 = .ok (.iload_n 1, 1) := by decide +kernel
theorem dX5_begin_28 : decode cX5_begin 28 = .ok (.iconst 5, 1) := by decide +kernel
theorem dX5_begin_29 : decode cX5_begin 29 = .ok (.if_icmp .ge 24, 3) := by decide +kernel
theorem dX5_begin_32 : decode cX5_begin 32 = .ok (.aload_n 0, 1) := by decide +kernel
theorem dX5_begin_33 : decode cX5_begin 33 = .ok (.getfield 24, 3) := by decide +kernel
theorem dX5_begin_36 : decode cX5_begin 36 = .ok (.iload_n 1, 1) := by decide +kernel
theorem dX5_begin_37 : decode cX5_begin 37 = .ok (.iload_n 1, 1) := by decide +kernel
theorem dX5_begin_38 : decode cX5_begin 38 = .ok (.ifCond .ne 7, 3) := by decide +kernel
theorem dX5_begin_41 : decode cX5_begin 41 = .ok (.iconst 1, 1) := by decide +kernel
theorem dX5_begin_42 : decode cX5_begin 42 = .ok (.goto 4, 3) := by decide +kernel
theorem dX5_begin_45 : decode cX5_begin 45 = .ok (.iconst 0, 1) := by decide +kernel
theorem dX5_begin_46 : decode cX5_begin 46 = .ok (.bastore, 1) := by decide +kernel
theorem dX5_begin_47 : decode cX5_begin 47 = .ok (.iinc 1 1, 3) := by decide +kernel
theorem dX5_begin_50 : decode cX5_begin 50 = .ok (.goto (-23), 3) := by decide +kernel
theorem dX5_begin_53 : decode cX5_begin 53 = .ok (.return_, 1) := by decide +kernel
theorem dX5_takes_0 : decode cX5_takes 0 = .ok (.aload_n 0, 1) := by decide +kernel
theorem dX5_takes_1 : decode cX5_takes 1 = .ok (.getfield 44, 3) := by decide +kernel
theorem dX5_takes_4 : decode cX5_takes 4 = .ok (.tableswitch 66 0 4 #[36, 42, 48, 54, 60], 36) := by decide +kernel
theorem dX5_takes_40 : decode cX5_takes 40 = .ok (.aload_n 0, 1) := by decide +kernel
theorem dX5_takes_41 : decode cX5_takes 41 = .ok (.iload_n 1, 1) := by decide +kernel
theorem dX5_takes_42 : decode cX5_takes 42 = .ok (.invokevirtual 59, 3) := by decide +kernel
theorem dX5_takes_45 : decode cX5_takes 45 = .ok (.ireturn, 1) := by decide +kernel
theorem dX5_takes_46 : decode cX5_takes 46 = .ok (.aload_n 0, 1) := by decide +kernel
theorem dX5_takes_47 : decode cX5_takes 47 = .ok (.iload_n 1, 1) := by decide +kernel
theorem dX5_takes_48 : decode cX5_takes 48 = .ok (.invokevirtual 62, 3) := by decide +kernel
theorem dX5_takes_51 : decode cX5_takes 51 = .ok (.ireturn, 1) := by decide +kernel
theorem dX5_takes_52 : decode cX5_takes 52 = .ok (.aload_n 0, 1) := by decide +kernel
theorem dX5_takes_53 : decode cX5_takes 53 = .ok (.iload_n 1, 1) := by decide +kernel
theorem dX5_takes_54 : decode cX5_takes 54 = .ok (.invokevirtual 65, 3) := by decide +kernel
theorem dX5_takes_57 : decode cX5_takes 57 = .ok (.ireturn, 1) := by decide +kernel
theorem dX5_takes_58 : decode cX5_takes 58 = .ok (.aload_n 0, 1) := by decide +kernel
theorem dX5_takes_59 : decode cX5_takes 59 = .ok (.iload_n 1, 1) := by decide +kernel
theorem dX5_takes_60 : decode cX5_takes 60 = .ok (.invokevirtual 68, 3) := by decide +kernel
theorem dX5_takes_63 : decode cX5_takes 63 = .ok (.ireturn, 1) := by decide +kernel
theorem dX5_takes_64 : decode cX5_takes 64 = .ok (.aload_n 0, 1) := by decide +kernel
theorem dX5_takes_65 : decode cX5_takes 65 = .ok (.iload_n 1, 1) := by decide +kernel
theorem dX5_takes_66 : decode cX5_takes 66 = .ok (.invokevirtual 71, 3) := by decide +kernel
theorem dX5_takes_69 : decode cX5_takes 69 = .ok (.ireturn, 1) := by decide +kernel
theorem dX5_takes_70 : decode cX5_takes 70 = .ok (.aload_n 0, 1) := by decide +kernel
theorem dX5_takes_71 : decode cX5_takes 71 = .ok (.iload_n 1, 1) := by decide +kernel
theorem dX5_takes_72 : decode cX5_takes 72 = .ok (.invokevirtual 74, 3) := by decide +kernel
theorem dX5_takes_75 : decode cX5_takes 75 = .ok (.ireturn, 1) := by decide +kernel
theorem dX5_takesLength_0 : decode cX5_takesLength 0 = .ok (.iload_n 1, 1) := by decide +kernel
theorem dX5_takesLength_1 : decode cX5_takesLength 1 = .ok (.bipush 49, 2) := by decide +kernel
theorem dX5_takesLength_3 : decode cX5_takesLength 3 = .ok (.if_icmp .lt 18, 3) := by decide +kernel
theorem dX5_takesLength_6 : decode cX5_takesLength 6 = .ok (.iload_n 1, 1) := by decide +kernel
theorem dX5_takesLength_7 : decode cX5_takesLength 7 = .ok (.bipush 57, 2) := by decide +kernel
theorem dX5_takesLength_9 : decode cX5_takesLength 9 = .ok (.if_icmp .gt 12, 3) := by decide +kernel
theorem dX5_takesLength_12 : decode cX5_takesLength 12 = .ok (.aload_n 0, 1) := by decide +kernel
theorem dX5_takesLength_13 : decode cX5_takesLength 13 = .ok (.getfield 53, 3) := by decide +kernel
theorem dX5_takesLength_16 : decode cX5_takesLength 16 = .ok (.bipush 10, 2) := by decide +kernel
theorem dX5_takesLength_18 : decode cX5_takesLength 18 = .ok (.if_icmp .lt 5, 3) := by decide +kernel
theorem dX5_takesLength_21 : decode cX5_takesLength 21 = .ok (.iconst 0, 1) := by decide +kernel
theorem dX5_takesLength_22 : decode cX5_takesLength 22 = .ok (.ireturn, 1) := by decide +kernel
theorem dX5_takesLength_23 : decode cX5_takesLength 23 = .ok (.aload_n 0, 1) := by decide +kernel
theorem dX5_takesLength_24 : decode cX5_takesLength 24 = .ok (.getfield 9, 3) := by decide +kernel
theorem dX5_takesLength_27 : decode cX5_takesLength 27 = .ok (.aload_n 0, 1) := by decide +kernel
theorem dX5_takesLength_28 : decode cX5_takesLength 28 = .ok (.getfield 53, 3) := by decide +kernel
theorem dX5_takesLength_31 : decode cX5_takesLength 31 = .ok (.iload_n 1, 1) := by decide +kernel
theorem dX5_takesLength_32 : decode cX5_takesLength 32 = .ok (.bipush 48, 2) := by decide +kernel
theorem dX5_takesLength_34 : decode cX5_takesLength 34 = .ok (.isub, 1) := by decide +kernel
theorem dX5_takesLength_35 : decode cX5_takesLength 35 = .ok (.iastore, 1) := by decide +kernel
theorem dX5_takesLength_36 : decode cX5_takesLength 36 = .ok (.aload_n 0, 1) := by decide +kernel
theorem dX5_takesLength_37 : decode cX5_takesLength 37 = .ok (.iconst 1, 1) := by decide +kernel
theorem dX5_takesLength_38 : decode cX5_takesLength 38 = .ok (.putfield 44, 3) := by decide +kernel
theorem dX5_takesLength_41 : decode cX5_takesLength 41 = .ok (.iconst 1, 1) := by decide +kernel
theorem dX5_takesLength_42 : decode cX5_takesLength 42 = .ok (.ireturn, 1) := by decide +kernel
theorem dX5_takesEnd_0 : decode cX5_takesEnd 0 = .ok (.aload_n 0, 1) := by decide +kernel
theorem dX5_takesEnd_1 : decode cX5_takesEnd 1 = .ok (.getfield 53, 3) := by decide +kernel
theorem dX5_takesEnd_4 : decode cX5_takesEnd 4 = .ok (.iconst 2, 1) := by decide +kernel
theorem dX5_takesEnd_5 : decode cX5_takesEnd 5 = .ok (.idiv, 1) := by decide +kernel
theorem dX5_takesEnd_6 : decode cX5_takesEnd 6 = .ok (.istore_n 2, 1) := by decide +kernel
theorem dX5_takesEnd_7 : decode cX5_takesEnd 7 = .ok (.iload_n 1, 1) := by decide +kernel
theorem dX5_takesEnd_8 : decode cX5_takesEnd 8 = .ok (.bipush 42, 2) := by decide +kernel
theorem dX5_takesEnd_10 : decode cX5_takesEnd 10 = .ok (.if_icmp .ne 41, 3) := by decide +kernel
theorem dX5_takesEnd_13 : decode cX5_takesEnd 13 = .ok (.aload_n 0, 1) := by decide +kernel
theorem dX5_takesEnd_14 : decode cX5_takesEnd 14 = .ok (.getfield 50, 3) := by decide +kernel
theorem dX5_takesEnd_17 : decode cX5_takesEnd 17 = .ok (.bipush 6, 2) := by decide +kernel
theorem dX5_takesEnd_19 : decode cX5_takesEnd 19 = .ok (.if_icmp .ge 32, 3) := by decide +kernel
theorem dX5_takesEnd_22 : decode cX5_takesEnd 22 = .ok (.aload_n 0, 1) := by decide +kernel
theorem dX5_takesEnd_23 : decode cX5_takesEnd 23 = .ok (.getfield 15, 3) := by decide +kernel
theorem dX5_takesEnd_26 : decode cX5_takesEnd 26 = .ok (.aload_n 0, 1) := by decide +kernel
theorem dX5_takesEnd_27 : decode cX5_takesEnd 27 = .ok (.getfield 53, 3) := by decide +kernel
theorem dX5_takesEnd_30 : decode cX5_takesEnd 30 = .ok (.bipush 10, 2) := by decide +kernel
theorem dX5_takesEnd_32 : decode cX5_takesEnd 32 = .ok (.aload_n 0, 1) := by decide +kernel
theorem dX5_takesEnd_33 : decode cX5_takesEnd 33 = .ok (.getfield 50, 3) := by decide +kernel
theorem dX5_takesEnd_36 : decode cX5_takesEnd 36 = .ok (.iadd, 1) := by decide +kernel
theorem dX5_takesEnd_37 : decode cX5_takesEnd 37 = .ok (.iastore, 1) := by decide +kernel
theorem dX5_takesEnd_38 : decode cX5_takesEnd 38 = .ok (.aload_n 0, 1) := by decide +kernel
theorem dX5_takesEnd_39 : decode cX5_takesEnd 39 = .ok (.dup, 1) := by decide +kernel
theorem dX5_takesEnd_40 : decode cX5_takesEnd 40 = .ok (.getfield 50, 3) := by decide +kernel
theorem dX5_takesEnd_43 : decode cX5_takesEnd 43 = .ok (.iconst 1, 1) := by decide +kernel
theorem dX5_takesEnd_44 : decode cX5_takesEnd 44 = .ok (.iadd, 1) := by decide +kernel
theorem dX5_takesEnd_45 : decode cX5_takesEnd 45 = .ok (.putfield 50, 3) := by decide +kernel
theorem dX5_takesEnd_48 : decode cX5_takesEnd 48 = .ok (.goto 58, 3) := by decide +kernel
theorem dX5_takesEnd_51 : decode cX5_takesEnd 51 = .ok (.aload_n 0, 1) := by decide +kernel
theorem dX5_takesEnd_52 : decode cX5_takesEnd 52 = .ok (.iload_n 1, 1) := by decide +kernel
theorem dX5_takesEnd_53 : decode cX5_takesEnd 53 = .ok (.bipush 48, 2) := by decide +kernel
theorem dX5_takesEnd_55 : decode cX5_takesEnd 55 = .ok (.isub, 1) := by decide +kernel
theorem dX5_takesEnd_56 : decode cX5_takesEnd 56 = .ok (.iload_n 2, 1) := by decide +kernel
theorem dX5_takesEnd_57 : decode cX5_takesEnd 57 = .ok (.invokevirtual 77, 3) := by decide +kernel
theorem dX5_takesEnd_60 : decode cX5_takesEnd 60 = .ok (.ifCond .eq 44, 3) := by decide +kernel
theorem dX5_takesEnd_63 : decode cX5_takesEnd 63 = .ok (.aload_n 0, 1) := by decide +kernel
theorem dX5_takesEnd_64 : decode cX5_takesEnd 64 = .ok (.getfield 15, 3) := by decide +kernel
theorem dX5_takesEnd_67 : decode cX5_takesEnd 67 = .ok (.aload_n 0, 1) := by decide +kernel
theorem dX5_takesEnd_68 : decode cX5_takesEnd 68 = .ok (.getfield 53, 3) := by decide +kernel
theorem dX5_takesEnd_71 : decode cX5_takesEnd 71 = .ok (.iload_n 1, 1) := by decide +kernel
theorem dX5_takesEnd_72 : decode cX5_takesEnd 72 = .ok (.bipush 48, 2) := by decide +kernel
theorem dX5_takesEnd_74 : decode cX5_takesEnd 74 = .ok (.isub, 1) := by decide +kernel
theorem dX5_takesEnd_75 : decode cX5_takesEnd 75 = .ok (.iastore, 1) := by decide +kernel
theorem dX5_takesEnd_76 : decode cX5_takesEnd 76 = .ok (.aload_n 0, 1) := by decide +kernel
theorem dX5_takesEnd_77 : decode cX5_takesEnd 77 = .ok (.getfield 24, 3) := by decide +kernel
theorem dX5_takesEnd_80 : decode cX5_takesEnd 80 = .ok (.iload_n 1, 1) := by decide +kernel
theorem dX5_takesEnd_81 : decode cX5_takesEnd 81 = .ok (.bipush 48, 2) := by decide +kernel
theorem dX5_takesEnd_83 : decode cX5_takesEnd 83 = .ok (.isub, 1) := by decide +kernel
theorem dX5_takesEnd_84 : decode cX5_takesEnd 84 = .ok (.iconst 1, 1) := by decide +kernel
theorem dX5_takesEnd_85 : decode cX5_takesEnd 85 = .ok (.bastore, 1) := by decide +kernel
theorem dX5_takesEnd_86 : decode cX5_takesEnd 86 = .ok (.aload_n 0, 1) := by decide +kernel
theorem dX5_takesEnd_87 : decode cX5_takesEnd 87 = .ok (.aload_n 0, 1) := by decide +kernel
theorem dX5_takesEnd_88 : decode cX5_takesEnd 88 = .ok (.getfield 56, 3) := by decide +kernel
theorem dX5_takesEnd_91 : decode cX5_takesEnd 91 = .ok (.iload_n 1, 1) := by decide +kernel
theorem dX5_takesEnd_92 : decode cX5_takesEnd 92 = .ok (.bipush 48, 2) := by decide +kernel
theorem dX5_takesEnd_94 : decode cX5_takesEnd 94 = .ok (.isub, 1) := by decide +kernel
theorem dX5_takesEnd_95 : decode cX5_takesEnd 95 = .ok (.invokestatic 81, 3) := by decide +kernel
theorem dX5_takesEnd_98 : decode cX5_takesEnd 98 = .ok (.putfield 56, 3) := by decide +kernel
theorem dX5_takesEnd_101 : decode cX5_takesEnd 101 = .ok (.goto 5, 3) := by decide +kernel
theorem dX5_takesEnd_104 : decode cX5_takesEnd 104 = .ok (.iconst 0, 1) := by decide +kernel
theorem dX5_takesEnd_105 : decode cX5_takesEnd 105 = .ok (.ireturn, 1) := by decide +kernel
theorem dX5_takesEnd_106 : decode cX5_takesEnd 106 = .ok (.aload_n 0, 1) := by decide +kernel
theorem dX5_takesEnd_107 : decode cX5_takesEnd 107 = .ok (.getfield 53, 3) := by decide +kernel
theorem dX5_takesEnd_110 : decode cX5_takesEnd 110 = .ok (.iconst 2, 1) := by decide +kernel
theorem dX5_takesEnd_111 : decode cX5_takesEnd 111 = .ok (.irem, 1) := by decide +kernel
theorem dX5_takesEnd_112 : decode cX5_takesEnd 112 = .ok (.iconst 1, 1) := by decide +kernel
theorem dX5_takesEnd_113 : decode cX5_takesEnd 113 = .ok (.if_icmp .ne 7, 3) := by decide +kernel
theorem dX5_takesEnd_116 : decode cX5_takesEnd 116 = .ok (.iconst 1, 1) := by decide +kernel
theorem dX5_takesEnd_117 : decode cX5_takesEnd 117 = .ok (.goto 4, 3) := by decide +kernel
theorem dX5_takesEnd_120 : decode cX5_takesEnd 120 = .ok (.iconst 0, 1) := by decide +kernel
theorem dX5_takesEnd_121 : decode cX5_takesEnd 121 = .ok (.istore_n 3, 1) := by decide +kernel
theorem dX5_takesEnd_122 : decode cX5_takesEnd 122 = .ok (.aload_n 0, 1) := by decide +kernel
theorem dX5_takesEnd_123 : decode cX5_takesEnd 123 = .ok (.dup, 1) := by decide +kernel
theorem dX5_takesEnd_124 : decode cX5_takesEnd 124 = .ok (.getfield 53, 3) := by decide +kernel
theorem dX5_takesEnd_127 : decode cX5_takesEnd 127 = .ok (.iconst 1, 1) := by decide +kernel
theorem dX5_takesEnd_128 : decode cX5_takesEnd 128 = .ok (.iadd, 1) := by decide +kernel
theorem dX5_takesEnd_129 : decode cX5_takesEnd 129 = .ok (.putfield 53, 3) := by decide +kernel
theorem dX5_takesEnd_132 : decode cX5_takesEnd 132 = .ok (.aload_n 0, 1) := by decide +kernel
theorem dX5_takesEnd_133 : decode cX5_takesEnd 133 = .ok (.iload_n 3, 1) := by decide +kernel
theorem dX5_takesEnd_134 : decode cX5_takesEnd 134 = .ok (.ifCond .eq 7, 3) := by decide +kernel
theorem dX5_takesEnd_137 : decode cX5_takesEnd 137 = .ok (.iconst 2, 1) := by decide +kernel
theorem dX5_takesEnd_138 : decode cX5_takesEnd 138 = .ok (.goto 4, 3) := by decide +kernel
theorem dX5_takesEnd_141 : decode cX5_takesEnd 141 = .ok (.iconst 0, 1) := by decide +kernel
theorem dX5_takesEnd_142 : decode cX5_takesEnd 142 = .ok (.putfield 44, 3) := by decide +kernel
theorem dX5_takesEnd_145 : decode cX5_takesEnd 145 = .ok (.iload_n 3, 1) := by decide +kernel
theorem dX5_takesEnd_146 : decode cX5_takesEnd 146 = .ok (.ifCond .eq 13, 3) := by decide +kernel
theorem dX5_takesEnd_149 : decode cX5_takesEnd 149 = .ok (.aload_n 0, 1) := by decide +kernel
theorem dX5_takesEnd_150 : decode cX5_takesEnd 150 = .ok (.iload_n 2, 1) := by decide +kernel
theorem dX5_takesEnd_151 : decode cX5_takesEnd 151 = .ok (.iconst 1, 1) := by decide +kernel
theorem dX5_takesEnd_152 : decode cX5_takesEnd 152 = .ok (.iadd, 1) := by decide +kernel
theorem dX5_takesEnd_153 : decode cX5_takesEnd 153 = .ok (.invokevirtual 87, 3) := by decide +kernel
theorem dX5_takesEnd_156 : decode cX5_takesEnd 156 = .ok (.ifCond .eq 7, 3) := by decide +kernel
theorem dX5_takesEnd_159 : decode cX5_takesEnd 159 = .ok (.iconst 1, 1) := by decide +kernel
theorem dX5_takesEnd_160 : decode cX5_takesEnd 160 = .ok (.goto 4, 3) := by decide +kernel
theorem dX5_takesEnd_163 : decode cX5_takesEnd 163 = .ok (.iconst 0, 1) := by decide +kernel
theorem dX5_takesEnd_164 : decode cX5_takesEnd 164 = .ok (.ireturn, 1) := by decide +kernel
theorem dX5_canTell_0 : decode cX5_canTell 0 = .ok (.iload_n 1, 1) := by decide +kernel
theorem dX5_canTell_1 : decode cX5_canTell 1 = .ok (.iload_n 2, 1) := by decide +kernel
theorem dX5_canTell_2 : decode cX5_canTell 2 = .ok (.if_icmp .le 21, 3) := by decide +kernel
theorem dX5_canTell_5 : decode cX5_canTell 5 = .ok (.iload_n 1, 1) := by decide +kernel
theorem dX5_canTell_6 : decode cX5_canTell 6 = .ok (.iconst 5, 1) := by decide +kernel
theorem dX5_canTell_7 : decode cX5_canTell 7 = .ok (.if_icmp .ge 16, 3) := by decide +kernel
theorem dX5_canTell_10 : decode cX5_canTell 10 = .ok (.aload_n 0, 1) := by decide +kernel
theorem dX5_canTell_11 : decode cX5_canTell 11 = .ok (.getfield 24, 3) := by decide +kernel
theorem dX5_canTell_14 : decode cX5_canTell 14 = .ok (.iload_n 1, 1) := by decide +kernel
theorem dX5_canTell_15 : decode cX5_canTell 15 = .ok (.baload, 1) := by decide +kernel
theorem dX5_canTell_16 : decode cX5_canTell 16 = .ok (.ifCond .ne 7, 3) := by decide +kernel
theorem dX5_canTell_19 : decode cX5_canTell 19 = .ok (.iconst 1, 1) := by decide +kernel
theorem dX5_canTell_20 : decode cX5_canTell 20 = .ok (.goto 4, 3) := by decide +kernel
theorem dX5_canTell_23 : decode cX5_canTell 23 = .ok (.iconst 0, 1) := by decide +kernel
theorem dX5_canTell_24 : decode cX5_canTell 24 = .ok (.ireturn, 1) := by decide +kernel
theorem dX5_canFollow_0 : decode cX5_canFollow 0 = .ok (.iload_n 1, 1) := by decide +kernel
theorem dX5_canFollow_1 : decode cX5_canFollow 1 = .ok (.aload_n 0, 1) := by decide +kernel
theorem dX5_canFollow_2 : decode cX5_canFollow 2 = .ok (.getfield 56, 3) := by decide +kernel
theorem dX5_canFollow_5 : decode cX5_canFollow 5 = .ok (.if_icmp .gt 12, 3) := by decide +kernel
theorem dX5_canFollow_8 : decode cX5_canFollow 8 = .ok (.aload_n 0, 1) := by decide +kernel
theorem dX5_canFollow_9 : decode cX5_canFollow 9 = .ok (.getfield 24, 3) := by decide +kernel
theorem dX5_canFollow_12 : decode cX5_canFollow 12 = .ok (.iload_n 1, 1) := by decide +kernel
theorem dX5_canFollow_13 : decode cX5_canFollow 13 = .ok (.baload, 1) := by decide +kernel
theorem dX5_canFollow_14 : decode cX5_canFollow 14 = .ok (.ifCond .eq 7, 3) := by decide +kernel
theorem dX5_canFollow_17 : decode cX5_canFollow 17 = .ok (.iconst 1, 1) := by decide +kernel
theorem dX5_canFollow_18 : decode cX5_canFollow 18 = .ok (.goto 4, 3) := by decide +kernel
theorem dX5_canFollow_21 : decode cX5_canFollow 21 = .ok (.iconst 0, 1) := by decide +kernel
theorem dX5_canFollow_22 : decode cX5_canFollow 22 = .ok (.ireturn, 1) := by decide +kernel
theorem dX5_takesBehindRod_0 : decode cX5_takesBehindRod 0 = .ok (.aload_n 0, 1) := by decide +kernel
theorem dX5_takesBehindRod_1 : decode cX5_takesBehindRod 1 = .ok (.getfield 53, 3) := by decide +kernel
theorem dX5_takesBehindRod_4 : decode cX5_takesBehindRod 4 = .ok (.iconst 2, 1) := by decide +kernel
theorem dX5_takesBehindRod_5 : decode cX5_takesBehindRod 5 = .ok (.idiv, 1) := by decide +kernel
theorem dX5_takesBehindRod_6 : decode cX5_takesBehindRod 6 = .ok (.aload_n 0, 1) := by decide +kernel
theorem dX5_takesBehindRod_7 : decode cX5_takesBehindRod 7 = .ok (.getfield 56, 3) := by decide +kernel
theorem dX5_takesBehindRod_10 : decode cX5_takesBehindRod 10 = .ok (.if_icmp .le 7, 3) := by decide +kernel
theorem dX5_takesBehindRod_13 : decode cX5_takesBehindRod 13 = .ok (.iconst 1, 1) := by decide +kernel
theorem dX5_takesBehindRod_14 : decode cX5_takesBehindRod 14 = .ok (.goto 4, 3) := by decide +kernel
theorem dX5_takesBehindRod_17 : decode cX5_takesBehindRod 17 = .ok (.iconst 0, 1) := by decide +kernel
theorem dX5_takesBehindRod_18 : decode cX5_takesBehindRod 18 = .ok (.istore_n 2, 1) := by decide +kernel
theorem dX5_takesBehindRod_19 : decode cX5_takesBehindRod 19 = .ok (.aload_n 0, 1) := by decide +kernel
theorem dX5_takesBehindRod_20 : decode cX5_takesBehindRod 20 = .ok (.iload_n 2, 1) := by decide +kernel
theorem dX5_takesBehindRod_21 : decode cX5_takesBehindRod 21 = .ok (.ifCond .eq 7, 3) := by decide +kernel
theorem dX5_takesBehindRod_24 : decode cX5_takesBehindRod 24 = .ok (.iconst 3, 1) := by decide +kernel
theorem dX5_takesBehindRod_25 : decode cX5_takesBehindRod 25 = .ok (.goto 4, 3) := by decide +kernel
theorem dX5_takesBehindRod_28 : decode cX5_takesBehindRod 28 = .ok (.iconst 0, 1) := by decide +kernel
theorem dX5_takesBehindRod_29 : decode cX5_takesBehindRod 29 = .ok (.putfield 44, 3) := by decide +kernel
theorem dX5_takesBehindRod_32 : decode cX5_takesBehindRod 32 = .ok (.iload_n 1, 1) := by decide +kernel
theorem dX5_takesBehindRod_33 : decode cX5_takesBehindRod 33 = .ok (.iload_n 2, 1) := by decide +kernel
theorem dX5_takesBehindRod_34 : decode cX5_takesBehindRod 34 = .ok (.ifCond .eq 8, 3) := by decide +kernel
theorem dX5_takesBehindRod_37 : decode cX5_takesBehindRod 37 = .ok (.bipush 59, 2) := by decide +kernel
theorem dX5_takesBehindRod_39 : decode cX5_takesBehindRod 39 = .ok (.goto 5, 3) := by decide +kernel
theorem dX5_takesBehindRod_42 : decode cX5_takesBehindRod 42 = .ok (.bipush 44, 2) := by decide +kernel
theorem dX5_takesBehindRod_44 : decode cX5_takesBehindRod 44 = .ok (.if_icmp .ne 7, 3) := by decide +kernel
theorem dX5_takesBehindRod_47 : decode cX5_takesBehindRod 47 = .ok (.iconst 1, 1) := by decide +kernel
theorem dX5_takesBehindRod_48 : decode cX5_takesBehindRod 48 = .ok (.goto 4, 3) := by decide +kernel
theorem dX5_takesBehindRod_51 : decode cX5_takesBehindRod 51 = .ok (.iconst 0, 1) := by decide +kernel
theorem dX5_takesBehindRod_52 : decode cX5_takesBehindRod 52 = .ok (.ireturn, 1) := by decide +kernel
theorem dX5_takesKind_0 : decode cX5_takesKind 0 = .ok (.ldc 92, 2) := by decide +kernel
theorem dX5_takesKind_2 : decode cX5_takesKind 2 = .ok (.iload_n 1, 1) := by decide +kernel
theorem dX5_takesKind_3 : decode cX5_takesKind 3 = .ok (.i2c, 1) := by decide +kernel
theorem dX5_takesKind_4 : decode cX5_takesKind 4 = .ok (.invokevirtual 94, 3) := by decide +kernel
theorem dX5_takesKind_7 : decode cX5_takesKind 7 = .ok (.istore_n 2, 1) := by decide +kernel
theorem dX5_takesKind_8 : decode cX5_takesKind 8 = .ok (.iload_n 2, 1) := by decide +kernel
theorem dX5_takesKind_9 : decode cX5_takesKind 9 = .ok (.ifCond .lt 12, 3) := by decide +kernel
theorem dX5_takesKind_12 : decode cX5_takesKind 12 = .ok (.aload_n 0, 1) := by decide +kernel
theorem dX5_takesKind_13 : decode cX5_takesKind 13 = .ok (.getfield 47, 3) := by decide +kernel
theorem dX5_takesKind_16 : decode cX5_takesKind 16 = .ok (.bipush 6, 2) := by decide +kernel
theorem dX5_takesKind_18 : decode cX5_takesKind 18 = .ok (.if_icmp .lt 5, 3) := by decide +kernel
theorem dX5_takesKind_21 : decode cX5_takesKind 21 = .ok (.iconst 0, 1) := by decide +kernel
theorem dX5_takesKind_22 : decode cX5_takesKind 22 = .ok (.ireturn, 1) := by decide +kernel
theorem dX5_takesKind_23 : decode cX5_takesKind 23 = .ok (.aload_n 0, 1) := by decide +kernel
theorem dX5_takesKind_24 : decode cX5_takesKind 24 = .ok (.getfield 18, 3) := by decide +kernel
theorem dX5_takesKind_27 : decode cX5_takesKind 27 = .ok (.aload_n 0, 1) := by decide +kernel
theorem dX5_takesKind_28 : decode cX5_takesKind 28 = .ok (.getfield 47, 3) := by decide +kernel
theorem dX5_takesKind_31 : decode cX5_takesKind 31 = .ok (.iload_n 2, 1) := by decide +kernel
theorem dX5_takesKind_32 : decode cX5_takesKind 32 = .ok (.iastore, 1) := by decide +kernel
theorem dX5_takesKind_33 : decode cX5_takesKind 33 = .ok (.aload_n 0, 1) := by decide +kernel
theorem dX5_takesKind_34 : decode cX5_takesKind 34 = .ok (.iconst 4, 1) := by decide +kernel
theorem dX5_takesKind_35 : decode cX5_takesKind 35 = .ok (.putfield 44, 3) := by decide +kernel
theorem dX5_takesKind_38 : decode cX5_takesKind 38 = .ok (.iconst 1, 1) := by decide +kernel
theorem dX5_takesKind_39 : decode cX5_takesKind 39 = .ok (.ireturn, 1) := by decide +kernel
theorem dX5_takesSize_0 : decode cX5_takesSize 0 = .ok (.iload_n 1, 1) := by decide +kernel
theorem dX5_takesSize_1 : decode cX5_takesSize 1 = .ok (.bipush 48, 2) := by decide +kernel
theorem dX5_takesSize_3 : decode cX5_takesSize 3 = .ok (.if_icmp .lt 18, 3) := by decide +kernel
theorem dX5_takesSize_6 : decode cX5_takesSize 6 = .ok (.iload_n 1, 1) := by decide +kernel
theorem dX5_takesSize_7 : decode cX5_takesSize 7 = .ok (.bipush 57, 2) := by decide +kernel
theorem dX5_takesSize_9 : decode cX5_takesSize 9 = .ok (.if_icmp .gt 12, 3) := by decide +kernel
theorem dX5_takesSize_12 : decode cX5_takesSize 12 = .ok (.aload_n 0, 1) := by decide +kernel
theorem dX5_takesSize_13 : decode cX5_takesSize 13 = .ok (.getfield 47, 3) := by decide +kernel
theorem dX5_takesSize_16 : decode cX5_takesSize 16 = .ok (.bipush 6, 2) := by decide +kernel
theorem dX5_takesSize_18 : decode cX5_takesSize 18 = .ok (.if_icmp .lt 5, 3) := by decide +kernel
theorem dX5_takesSize_21 : decode cX5_takesSize 21 = .ok (.iconst 0, 1) := by decide +kernel
theorem dX5_takesSize_22 : decode cX5_takesSize 22 = .ok (.ireturn, 1) := by decide +kernel
theorem dX5_takesSize_23 : decode cX5_takesSize 23 = .ok (.aload_n 0, 1) := by decide +kernel
theorem dX5_takesSize_24 : decode cX5_takesSize 24 = .ok (.getfield 21, 3) := by decide +kernel
theorem dX5_takesSize_27 : decode cX5_takesSize 27 = .ok (.aload_n 0, 1) := by decide +kernel
theorem dX5_takesSize_28 : decode cX5_takesSize 28 = .ok (.getfield 47, 3) := by decide +kernel
theorem dX5_takesSize_31 : decode cX5_takesSize 31 = .ok (.iload_n 1, 1) := by decide +kernel
theorem dX5_takesSize_32 : decode cX5_takesSize 32 = .ok (.bipush 48, 2) := by decide +kernel
theorem dX5_takesSize_34 : decode cX5_takesSize 34 = .ok (.isub, 1) := by decide +kernel
theorem dX5_takesSize_35 : decode cX5_takesSize 35 = .ok (.iastore, 1) := by decide +kernel
theorem dX5_takesSize_36 : decode cX5_takesSize 36 = .ok (.aload_n 0, 1) := by decide +kernel
theorem dX5_takesSize_37 : decode cX5_takesSize 37 = .ok (.dup, 1) := by decide +kernel
theorem dX5_takesSize_38 : decode cX5_takesSize 38 = .ok (.getfield 47, 3) := by decide +kernel
theorem dX5_takesSize_41 : decode cX5_takesSize 41 = .ok (.iconst 1, 1) := by decide +kernel
theorem dX5_takesSize_42 : decode cX5_takesSize 42 = .ok (.iadd, 1) := by decide +kernel
theorem dX5_takesSize_43 : decode cX5_takesSize 43 = .ok (.putfield 47, 3) := by decide +kernel
theorem dX5_takesSize_46 : decode cX5_takesSize 46 = .ok (.aload_n 0, 1) := by decide +kernel
theorem dX5_takesSize_47 : decode cX5_takesSize 47 = .ok (.iconst 5, 1) := by decide +kernel
theorem dX5_takesSize_48 : decode cX5_takesSize 48 = .ok (.putfield 44, 3) := by decide +kernel
theorem dX5_takesSize_51 : decode cX5_takesSize 51 = .ok (.iconst 1, 1) := by decide +kernel
theorem dX5_takesSize_52 : decode cX5_takesSize 52 = .ok (.ireturn, 1) := by decide +kernel
theorem dX5_takesBehindThing_0 : decode cX5_takesBehindThing 0 = .ok (.aload_n 0, 1) := by decide +kernel
theorem dX5_takesBehindThing_1 : decode cX5_takesBehindThing 1 = .ok (.iconst 3, 1) := by decide +kernel
theorem dX5_takesBehindThing_2 : decode cX5_takesBehindThing 2 = .ok (.putfield 44, 3) := by decide +kernel
theorem dX5_takesBehindThing_5 : decode cX5_takesBehindThing 5 = .ok (.iload_n 1, 1) := by decide +kernel
theorem dX5_takesBehindThing_6 : decode cX5_takesBehindThing 6 = .ok (.bipush 44, 2) := by decide +kernel
theorem dX5_takesBehindThing_8 : decode cX5_takesBehindThing 8 = .ok (.if_icmp .ne 18, 3) := by decide +kernel
theorem dX5_takesBehindThing_11 : decode cX5_takesBehindThing 11 = .ok (.aload_n 0, 1) := by decide +kernel
theorem dX5_takesBehindThing_12 : decode cX5_takesBehindThing 12 = .ok (.getfield 47, 3) := by decide +kernel
theorem dX5_takesBehindThing_15 : decode cX5_takesBehindThing 15 = .ok (.aload_n 0, 1) := by decide +kernel
theorem dX5_takesBehindThing_16 : decode cX5_takesBehindThing 16 = .ok (.getfield 50, 3) := by decide +kernel
theorem dX5_takesBehindThing_19 : decode cX5_takesBehindThing 19 = .ok (.if_icmp .ge 7, 3) := by decide +kernel
theorem dX5_takesBehindThing_22 : decode cX5_takesBehindThing 22 = .ok (.iconst 1, 1) := by decide +kernel
theorem dX5_takesBehindThing_23 : decode cX5_takesBehindThing 23 = .ok (.goto 4, 3) := by decide +kernel
theorem dX5_takesBehindThing_26 : decode cX5_takesBehindThing 26 = .ok (.iconst 0, 1) := by decide +kernel
theorem dX5_takesBehindThing_27 : decode cX5_takesBehindThing 27 = .ok (.ireturn, 1) := by decide +kernel
