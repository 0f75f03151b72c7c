theorem dX9_init_0 : decode cX9_init 0 = .ok (.aload_n 0, 1) := by decide +kernel
theorem dX9_init_1 : decode cX9_init 1 = .ok (.invokespecial 1, 3) := by decide +kernel
theorem dX9_init_4 : decode cX9_init 4 = .ok (.aload_n 0, 1) := by decide +kernel
theorem dX9_init_5 : decode cX9_init 5 = .ok (.bipush 46, 2) := by decide +kernel
theorem dX9_init_7 : decode cX9_init 7 = .ok (.newarray .int, 2) := by decide +kernel
theorem dX9_init_9 : decode cX9_init 9 = .ok (.putfield 7, 3) := by decide +kernel
theorem dX9_init_12 : decode cX9_init 12 = .ok (.aload_n 0, 1) := by decide +kernel
theorem dX9_init_13 : decode cX9_init 13 = .ok (.bipush 10, 2) := by decide +kernel
theorem dX9_init_15 : decode cX9_init 15 = .ok (.newarray .int, 2) := by decide +kernel
theorem dX9_init_17 : decode cX9_init 17 = .ok (.putfield 13, 3) := by decide +kernel
theorem dX9_init_20 : decode cX9_init 20 = .ok (.aload_n 0, 1) := by decide +kernel
theorem dX9_init_21 : decode cX9_init 21 = .ok (.bipush 10, 2) := by decide +kernel
theorem dX9_init_23 : decode cX9_init 23 = .ok (.newarray .int, 2) := by decide +kernel
theorem dX9_init_25 : decode cX9_init 25 = .ok (.putfield 16, 3) := by decide +kernel
theorem dX9_init_28 : decode cX9_init 28 = .ok (.aload_n 0, 1) := by decide +kernel
theorem dX9_init_29 : decode cX9_init 29 = .ok (.bipush 6, 2) := by decide +kernel
theorem dX9_init_31 : decode cX9_init 31 = .ok (.newarray .int, 2) := by decide +kernel
theorem dX9_init_33 : decode cX9_init 33 = .ok (.putfield 19, 3) := by decide +kernel
theorem dX9_init_36 : decode cX9_init 36 = .ok (.aload_n 0, 1) := by decide +kernel
theorem dX9_init_37 : decode cX9_init 37 = .ok (.bipush 6, 2) := by decide +kernel
theorem dX9_init_39 : decode cX9_init 39 = .ok (.newarray .int, 2) := by decide +kernel
theorem dX9_init_41 : decode cX9_init 41 = .ok (.putfield 22, 3) := by decide +kernel
theorem dX9_init_44 : decode cX9_init 44 = .ok (.aload_n 0, 1) := by decide +kernel
theorem dX9_init_45 : decode cX9_init 45 = .ok (.bipush 6, 2) := by decide +kernel
theorem dX9_init_47 : decode cX9_init 47 = .ok (.newarray .int, 2) := by decide +kernel
theorem dX9_init_49 : decode cX9_init 49 = .ok (.putfield 25, 3) := by decide +kernel
theorem dX9_init_52 : decode cX9_init 52 = .ok (.aload_n 0, 1) := by decide +kernel
theorem dX9_init_53 : decode cX9_init 53 = .ok (.bipush 6, 2) := by decide +kernel
theorem dX9_init_55 : decode cX9_init 55 = .ok (.newarray .int, 2) := by decide +kernel
theorem dX9_init_57 : decode cX9_init 57 = .ok (.putfield 28, 3) := by decide +kernel
theorem dX9_init_60 : decode cX9_init 60 = .ok (.aload_n 0, 1) := by decide +kernel
theorem dX9_init_61 : decode cX9_init 61 = .ok (.bipush 6, 2) := by decide +kernel
theorem dX9_init_63 : decode cX9_init 63 = .ok (.newarray .int, 2) := by decide +kernel
theorem dX9_init_65 : decode cX9_init 65 = .ok (.putfield 31, 3) := by decide +kernel
theorem dX9_init_68 : decode cX9_init 68 = .ok (.aload_n 0, 1) := by decide +kernel
theorem dX9_init_69 : decode cX9_init 69 = .ok (.iconst 5, 1) := by decide +kernel
theorem dX9_init_70 : decode cX9_init 70 = .ok (.newarray .int, 2) := by decide +kernel
theorem dX9_init_72 : decode cX9_init 72 = .ok (.putfield 34, 3) := by decide +kernel
theorem dX9_init_75 : decode cX9_init 75 = .ok (.aload_n 0, 1) := by decide +kernel
theorem dX9_init_76 : decode cX9_init 76 = .ok (.iconst 5, 1) := by decide +kernel
theorem dX9_init_77 : decode cX9_init 77 = .ok (.newarray .int, 2) := by decide +kernel
theorem dX9_init_79 : decode cX9_init 79 = .ok (.putfield 37, 3) := by decide +kernel
theorem dX9_init_82 : decode cX9_init 82 = .ok (.aload_n 0, 1) := by decide +kernel
theorem dX9_init_83 : decode cX9_init 83 = .ok (.bipush 24, 2) := by decide +kernel
theorem dX9_init_85 : decode cX9_init 85 = .ok (.newarray .int, 2) := by decide +kernel
theorem dX9_init_87 : decode cX9_init 87 = .ok (.putfield 40, 3) := by decide +kernel
theorem dX9_init_90 : decode cX9_init 90 = .ok (.aload_n 0, 1) := by decide +kernel
theorem dX9_init_91 : decode cX9_init 91 = .ok (.bipush 10, 2) := by decide +kernel
theorem dX9_init_93 : decode cX9_init 93 = .ok (.newarray .int, 2) := by decide +kernel
theorem dX9_init_95 : decode cX9_init 95 = .ok (.putfield 43, 3) := by decide +kernel
theorem dX9_init_98 : decode cX9_init 98 = .ok (.aload_n 0, 1) := by decide +kernel
theorem dX9_init_99 : decode cX9_init 99 = .ok (.bipush 6, 2) := by decide +kernel
theorem dX9_init_101 : decode cX9_init 101 = .ok (.newarray .int, 2) := by decide +kernel
theorem dX9_init_103 : decode cX9_init 103 = .ok (.putfield 46, 3) := by decide +kernel
theorem dX9_init_106 : decode cX9_init 106 = .ok (.aload_n 0, 1) := by decide +kernel
theorem dX9_init_107 : decode cX9_init 107 = .ok (.bipush 6, 2) := by decide +kernel
theorem dX9_init_109 : decode cX9_init 109 = .ok (.newarray .int, 2) := by decide +kernel
theorem dX9_init_111 : decode cX9_init 111 = .ok (.putfield 49, 3) := by decide +kernel
theorem dX9_init_114 : decode cX9_init 114 = .ok (.aload_n 0, 1) := by decide +kernel
theorem dX9_init_115 : decode cX9_init 115 = .ok (.bipush 6, 2) := by decide +kernel
theorem dX9_init_117 : decode cX9_init 117 = .ok (.newarray .int, 2) := by decide +kernel
theorem dX9_init_119 : decode cX9_init 119 = .ok (.putfield 52, 3) := by decide +kernel
theorem dX9_init_122 : decode cX9_init 122 = .ok (.aload_n 0, 1) := by decide +kernel
theorem dX9_init_123 : decode cX9_init 123 = .ok (.bipush 24, 2) := by decide +kernel
theorem dX9_init_125 : decode cX9_init 125 = .ok (.newarray .int, 2) := by decide +kernel
theorem dX9_init_127 : decode cX9_init 127 = .ok (.putfield 55, 3) := by decide +kernel
theorem dX9_init_130 : decode cX9_init 130 = .ok (.aload_n 0, 1) := by decide +kernel
theorem dX9_init_131 : decode cX9_init 131 = .ok (.iconst (-1), 1) := by decide +kernel
theorem dX9_init_132 : decode cX9_init 132 = .ok (.putfield 58, 3) := by decide +kernel
theorem dX9_init_135 : decode cX9_init 135 = .ok (.return_, 1) := by decide +kernel
theorem dX9_in_0 : decode cX9_in 0 = .ok (.lload_n 0, 1) := by decide +kernel
theorem dX9_in_1 : decode cX9_in 1 = .ok (.lload_n 2, 1) := by decide +kernel
theorem dX9_in_2 : decode cX9_in 2 = .ok (.lcmp, 1) := by decide +kernel
theorem dX9_in_3 : decode cX9_in 3 = .ok (.ifCond .lt 14, 3) := by decide +kernel
theorem dX9_in_6 : decode cX9_in 6 = .ok (.lload_n 0, 1) := by decide +kernel
theorem dX9_in_7 : decode cX9_in 7 = .ok (.lload 4, 2) := by decide +kernel
theorem dX9_in_9 : decode cX9_in 9 = .ok (.lcmp, 1) := by decide +kernel
theorem dX9_in_10 : decode cX9_in 10 = .ok (.ifCond .gt 7, 3) := by decide +kernel
theorem dX9_in_13 : decode cX9_in 13 = .ok (.iconst 1, 1) := by decide +kernel
theorem dX9_in_14 : decode cX9_in 14 = .ok (.goto 4, 3) := by decide +kernel
theorem dX9_in_17 : decode cX9_in 17 = .ok (.iconst 0, 1) := by decide +kernel
theorem dX9_in_18 : decode cX9_in 18 = .ok (.ireturn, 1) := by decide +kernel
theorem dX9_copy_0 : decode cX9_copy 0 = .ok (.iconst 0, 1) := by decide +kernel
theorem dX9_copy_1 : decode cX9_copy 1 = .ok (.istore_n 2, 1) := by decide +kernel
theorem dX9_copy_2 : decode cX9_copy 2 = .ok (.iload_n 2, 1) := by decide +kernel
theorem dX9_copy_3 : decode cX9_copy 3 = .ok (.aload_n 0, 1) := by decide +kernel
theorem dX9_copy_4 : decode cX9_copy 4 = .ok (.arraylength, 1) := by decide +kernel
theorem dX9_copy_5 : decode cX9_copy 5 = .ok (.if_icmp .ge 15, 3) := by decide +kernel
theorem dX9_copy_8 : decode cX9_copy 8 = .ok (.aload_n 1, 1) := by decide +kernel
theorem dX9_copy_9 : decode cX9_copy 9 = .ok (.iload_n 2, 1) := by decide +kernel
theorem dX9_copy_10 : decode cX9_copy 10 = .ok (.aload_n 0, 1) := by decide +kernel
theorem dX9_copy_11 : decode cX9_copy 11 = .ok (.iload_n 2, 1) := by decide +kernel
theorem dX9_copy_12 : decode cX9_copy 12 = .ok (.iaload, 1) := by decide +kernel
theorem dX9_copy_13 : decode cX9_copy 13 = .ok (.iastore, 1) := by decide +kernel
theorem dX9_copy_14 : decode cX9_copy 14 = .ok (.iinc 2 1, 3) := by decide +kernel
theorem dX9_copy_17 : decode cX9_copy 17 = .ok (.goto (-15), 3) := by decide +kernel
theorem dX9_copy_20 : decode cX9_copy 20 = .ok (.return_, 1) := by decide +kernel
theorem dX9_letter_0 : decode cX9_letter 0 = .ok (.iload_n 1, 1) := by decide +kernel
theorem dX9_letter_1 : decode cX9_letter 1 = .ok (.i2l, 1) := by decide +kernel
theorem dX9_letter_2 : decode cX9_letter 2 = .ok (.lconst 1, 1) := by decide +kernel
theorem dX9_letter_3 : decode cX9_letter 3 = .ok (.ldc2_w 62, 3) := by decide +kernel
theorem dX9_letter_6 : decode cX9_letter 6 = .ok (.invokestatic 64, 3) := by decide +kernel
theorem dX9_letter_9 : decode cX9_letter 9 = .ok (.ifCond .ne 6, 3) := by decide +kernel
theorem dX9_letter_12 : decode cX9_letter 12 = .ok (.bipush (-102), 2) := by decide +kernel
theorem dX9_letter_14 : decode cX9_letter 14 = .ok (.ireturn, 1) := by decide +kernel
theorem dX9_letter_15 : decode cX9_letter 15 = .ok (.aload_n 0, 1) := by decide +kernel
theorem dX9_letter_16 : decode cX9_letter 16 = .ok (.getfield 68, 3) := by decide +kernel
theorem dX9_letter_19 : decode cX9_letter 19 = .ok (.bipush 46, 2) := by decide +kernel
theorem dX9_letter_21 : decode cX9_letter 21 = .ok (.if_icmp .ne 6, 3) := by decide +kernel
theorem dX9_letter_24 : decode cX9_letter 24 = .ok (.bipush (-104), 2) := by decide +kernel
theorem dX9_letter_26 : decode cX9_letter 26 = .ok (.ireturn, 1) := by decide +kernel
theorem dX9_letter_27 : decode cX9_letter 27 = .ok (.aload_n 0, 1) := by decide +kernel
theorem dX9_letter_28 : decode cX9_letter 28 = .ok (.getfield 7, 3) := by decide +kernel
theorem dX9_letter_31 : decode cX9_letter 31 = .ok (.aload_n 0, 1) := by decide +kernel
theorem dX9_letter_32 : decode cX9_letter 32 = .ok (.getfield 68, 3) := by decide +kernel
theorem dX9_letter_35 : decode cX9_letter 35 = .ok (.iload_n 1, 1) := by decide +kernel
theorem dX9_letter_36 : decode cX9_letter 36 = .ok (.iastore, 1) := by decide +kernel
theorem dX9_letter_37 : decode cX9_letter 37 = .ok (.aload_n 0, 1) := by decide +kernel
theorem dX9_letter_38 : decode cX9_letter 38 = .ok (.dup, 1) := by decide +kernel
theorem dX9_letter_39 : decode cX9_letter 39 = .ok (.getfield 68, 3) := by decide +kernel
theorem dX9_letter_42 : decode cX9_letter 42 = .ok (.iconst 1, 1) := by decide +kernel
theorem dX9_letter_43 : decode cX9_letter 43 = .ok (.iadd, 1) := by decide +kernel
theorem dX9_letter_44 : decode cX9_letter 44 = .ok (.putfield 68, 3) := by decide +kernel
theorem dX9_letter_47 : decode cX9_letter 47 = .ok (.aload_n 0, 1) := by decide +kernel
theorem dX9_letter_48 : decode cX9_letter 48 = .ok (.getfield 68, 3) := by decide +kernel
theorem dX9_letter_51 : decode cX9_letter 51 = .ok (.ireturn, 1) := by decide +kernel
theorem dX9_blank_0 : decode cX9_blank 0 = .ok (.aload_n 0, 1) := by decide +kernel
theorem dX9_blank_1 : decode cX9_blank 1 = .ok (.getfield 68, 3) := by decide +kernel
theorem dX9_blank_4 : decode cX9_blank 4 = .ok (.istore_n 1, 1) := by decide +kernel
theorem dX9_blank_5 : decode cX9_blank 5 = .ok (.aload_n 0, 1) := by decide +kernel
theorem dX9_blank_6 : decode cX9_blank 6 = .ok (.iconst 0, 1) := by decide +kernel
theorem dX9_blank_7 : decode cX9_blank 7 = .ok (.putfield 68, 3) := by decide +kernel
theorem dX9_blank_10 : decode cX9_blank 10 = .ok (.iload_n 1, 1) := by decide +kernel
theorem dX9_blank_11 : decode cX9_blank 11 = .ok (.ireturn, 1) := by decide +kernel
theorem dX9_kindBy_0 : decode cX9_kindBy 0 = .ok (.iload_n 0, 1) := by decide +kernel
theorem dX9_kindBy_1 : decode cX9_kindBy 1 = .ok (.tableswitch 81 98 111 #[71, 81, 79, 81, 75, 81, 81, 81, 81, 81, 73, 81, 81, 77], 71) := by decide +kernel
theorem dX9_kindBy_72 : decode cX9_kindBy 72 = .ok (.iconst 0, 1) := by decide +kernel
theorem dX9_kindBy_73 : decode cX9_kindBy 73 = .ok (.ireturn, 1) := by decide +kernel
theorem dX9_kindBy_74 : decode cX9_kindBy 74 = .ok (.iconst 1, 1) := by decide +kernel
theorem dX9_kindBy_75 : decode cX9_kindBy 75 = .ok (.ireturn, 1) := by decide +kernel
theorem dX9_kindBy_76 : decode cX9_kindBy 76 = .ok (.iconst 2, 1) := by decide +kernel
theorem dX9_kindBy_77 : decode cX9_kindBy 77 = .ok (.ireturn, 1) := by decide +kernel
theorem dX9_kindBy_78 : decode cX9_kindBy 78 = .ok (.iconst 3, 1) := by decide +kernel
theorem dX9_kindBy_79 : decode cX9_kindBy 79 = .ok (.ireturn, 1) := by decide +kernel
theorem dX9_kindBy_80 : decode cX9_kindBy 80 = .ok (.iconst 4, 1) := by decide +kernel
theorem dX9_kindBy_81 : decode cX9_kindBy 81 = .ok (.ireturn, 1) := by decide +kernel
theorem dX9_kindBy_82 : decode cX9_kindBy 82 = .ok (.iconst (-1), 1) := by decide +kernel
theorem dX9_kindBy_83 : decode cX9_kindBy 83 = .ok (.ireturn, 1) := by decide +kernel
theorem dX9_isHanging_0 : decode cX9_isHanging 0 = .ok (.iload_n 1, 1) := by decide +kernel
theorem dX9_isHanging_1 : decode cX9_isHanging 1 = .ok (.bipush 42, 2) := by decide +kernel
theorem dX9_isHanging_3 : decode cX9_isHanging 3 = .ok (.if_icmp .eq 53, 3) := by decide +kernel
theorem dX9_isHanging_6 : decode cX9_isHanging 6 = .ok (.iload_n 1, 1) := by decide +kernel
theorem dX9_isHanging_7 : decode cX9_isHanging 7 = .ok (.bipush 48, 2) := by decide +kernel
theorem dX9_isHanging_9 : decode cX9_isHanging 9 = .ok (.isub, 1) := by decide +kernel
theorem dX9_isHanging_10 : decode cX9_isHanging 10 = .ok (.istore 4, 2) := by decide +kernel
theorem dX9_isHanging_12 : decode cX9_isHanging 12 = .ok (.iload 4, 2) := by decide +kernel
theorem dX9_isHanging_14 : decode cX9_isHanging 14 = .ok (.i2l, 1) := by decide +kernel
theorem dX9_isHanging_15 : decode cX9_isHanging 15 = .ok (.iload_n 2, 1) := by decide +kernel
theorem dX9_isHanging_16 : decode cX9_isHanging 16 = .ok (.iconst 1, 1) := by decide +kernel
theorem dX9_isHanging_17 : decode cX9_isHanging 17 = .ok (.iadd, 1) := by decide +kernel
theorem dX9_isHanging_18 : decode cX9_isHanging 18 = .ok (.i2l, 1) := by decide +kernel
theorem dX9_isHanging_19 : decode cX9_isHanging 19 = .ok (.ldc2_w 71, 3) := by decide +kernel
theorem dX9_isHanging_22 : decode cX9_isHanging 22 = .ok (.invokestatic 64, 3) := by decide +kernel
theorem dX9_isHanging_25 : decode cX9_isHanging 25 = .ok (.ifCond .eq 16, 3) := by decide +kernel
theorem dX9_isHanging_28 : decode cX9_isHanging 28 = .ok (.aload_n 0, 1) := by decide +kernel
theorem dX9_isHanging_29 : decode cX9_isHanging 29 = .ok (.getfield 73, 3) := by decide +kernel
theorem dX9_isHanging_32 : decode cX9_isHanging 32 = .ok (.iload 4, 2) := by decide +kernel
theorem dX9_isHanging_34 : decode cX9_isHanging 34 = .ok (.ishr, 1) := by decide +kernel
theorem dX9_isHanging_35 : decode cX9_isHanging 35 = .ok (.iconst 1, 1) := by decide +kernel
theorem dX9_isHanging_36 : decode cX9_isHanging 36 = .ok (.iand, 1) := by decide +kernel
theorem dX9_isHanging_37 : decode cX9_isHanging 37 = .ok (.iconst 1, 1) := by decide +kernel
theorem dX9_isHanging_38 : decode cX9_isHanging 38 = .ok (.if_icmp .ne 5, 3) := by decide +kernel
theorem dX9_isHanging_41 : decode cX9_isHanging 41 = .ok (.iconst 0, 1) := by decide +kernel
theorem dX9_isHanging_42 : decode cX9_isHanging 42 = .ok (.ireturn, 1) := by decide +kernel
theorem dX9_isHanging_43 : decode cX9_isHanging 43 = .ok (.aload_n 0, 1) := by decide +kernel
theorem dX9_isHanging_44 : decode cX9_isHanging 44 = .ok (.dup, 1) := by decide +kernel
theorem dX9_isHanging_45 : decode cX9_isHanging 45 = .ok (.getfield 73, 3) := by decide +kernel
theorem dX9_isHanging_48 : decode cX9_isHanging 48 = .ok (.iconst 1, 1) := by decide +kernel
theorem dX9_isHanging_49 : decode cX9_isHanging 49 = .ok (.iload 4, 2) := by decide +kernel
theorem dX9_isHanging_51 : decode cX9_isHanging 51 = .ok (.ishl, 1) := by decide +kernel
theorem dX9_isHanging_52 : decode cX9_isHanging 52 = .ok (.ior, 1) := by decide +kernel
theorem dX9_isHanging_53 : decode cX9_isHanging 53 = .ok (.putfield 73, 3) := by decide +kernel
theorem dX9_isHanging_56 : decode cX9_isHanging 56 = .ok (.aload_n 0, 1) := by decide +kernel
theorem dX9_isHanging_57 : decode cX9_isHanging 57 = .ok (.getfield 73, 3) := by decide +kernel
theorem dX9_isHanging_60 : decode cX9_isHanging 60 = .ok (.iload_n 2, 1) := by decide +kernel
theorem dX9_isHanging_61 : decode cX9_isHanging 61 = .ok (.iconst 1, 1) := by decide +kernel
theorem dX9_isHanging_62 : decode cX9_isHanging 62 = .ok (.iadd, 1) := by decide +kernel
theorem dX9_isHanging_63 : decode cX9_isHanging 63 = .ok (.ishr, 1) := by decide +kernel
theorem dX9_isHanging_64 : decode cX9_isHanging 64 = .ok (.ifCond .le 7, 3) := by decide +kernel
theorem dX9_isHanging_67 : decode cX9_isHanging 67 = .ok (.iconst 1, 1) := by decide +kernel
theorem dX9_isHanging_68 : decode cX9_isHanging 68 = .ok (.goto 4, 3) := by decide +kernel
theorem dX9_isHanging_71 : decode cX9_isHanging 71 = .ok (.iconst 0, 1) := by decide +kernel
theorem dX9_isHanging_72 : decode cX9_isHanging 72 = .ok (.istore 4, 2) := by decide +kernel
theorem dX9_isHanging_74 : decode cX9_isHanging 74 = .ok (.iload_n 3, 1) := by decide +kernel
theorem dX9_isHanging_75 : decode cX9_isHanging 75 = .ok (.ifCond .eq 22, 3) := by decide +kernel
theorem dX9_isHanging_78 : decode cX9_isHanging 78 = .ok (.iload 4, 2) := by decide +kernel
theorem dX9_isHanging_80 : decode cX9_isHanging 80 = .ok (.ifCond .eq 17, 3) := by decide +kernel
theorem dX9_isHanging_83 : decode cX9_isHanging 83 = .ok (.aload_n 0, 1) := by decide +kernel
theorem dX9_isHanging_84 : decode cX9_isHanging 84 = .ok (.getfield 73, 3) := by decide +kernel
theorem dX9_isHanging_87 : decode cX9_isHanging 87 = .ok (.iload_n 2, 1) := by decide +kernel
theorem dX9_isHanging_88 : decode cX9_isHanging 88 = .ok (.iconst 1, 1) := by decide +kernel
theorem dX9_isHanging_89 : decode cX9_isHanging 89 = .ok (.iadd, 1) := by decide +kernel
theorem dX9_isHanging_90 : decode cX9_isHanging 90 = .ok (.ishr, 1) := by decide +kernel
theorem dX9_isHanging_91 : decode cX9_isHanging 91 = .ok (.iconst 1, 1) := by decide +kernel
theorem dX9_isHanging_92 : decode cX9_isHanging 92 = .ok (.iand, 1) := by decide +kernel
theorem dX9_isHanging_93 : decode cX9_isHanging 93 = .ok (.iconst 1, 1) := by decide +kernel
theorem dX9_isHanging_94 : decode cX9_isHanging 94 = .ok (.if_icmp .ne 7, 3) := by decide +kernel
theorem dX9_isHanging_97 : decode cX9_isHanging 97 = .ok (.iconst 1, 1) := by decide +kernel
theorem dX9_isHanging_98 : decode cX9_isHanging 98 = .ok (.goto 4, 3) := by decide +kernel
theorem dX9_isHanging_101 : decode cX9_isHanging 101 = .ok (.iconst 0, 1) := by decide +kernel
theorem dX9_isHanging_102 : decode cX9_isHanging 102 = .ok (.ireturn, 1) := by decide +kernel
theorem dX9_isRodLetter_0 : decode cX9_isRodLetter 0 = .ok (.aload_n 0, 1) := by decide +kernel
theorem dX9_isRodLetter_1 : decode cX9_isRodLetter 1 = .ok (.getfield 7, 3) := by decide +kernel
theorem dX9_isRodLetter_4 : decode cX9_isRodLetter 4 = .ok (.iload_n 1, 1) := by decide +kernel
theorem dX9_isRodLetter_5 : decode cX9_isRodLetter 5 = .ok (.iaload, 1) := by decide +kernel
theorem dX9_isRodLetter_6 : decode cX9_isRodLetter 6 = .ok (.istore_n 2, 1) := by decide +kernel
theorem dX9_isRodLetter_7 : decode cX9_isRodLetter 7 = .ok (.iload_n 1, 1) := by decide +kernel
theorem dX9_isRodLetter_8 : decode cX9_isRodLetter 8 = .ok (.iconst 5, 1) := by decide +kernel
theorem dX9_isRodLetter_9 : decode cX9_isRodLetter 9 = .ok (.idiv, 1) := by decide +kernel
theorem dX9_isRodLetter_10 : decode cX9_isRodLetter 10 = .ok (.istore_n 3, 1) := by decide +kernel
theorem dX9_isRodLetter_11 : decode cX9_isRodLetter 11 = .ok (.iload_n 1, 1) := by decide +kernel
theorem dX9_isRodLetter_12 : decode cX9_isRodLetter 12 = .ok (.iconst 5, 1) := by decide +kernel
theorem dX9_isRodLetter_13 : decode cX9_isRodLetter 13 = .ok (.irem, 1) := by decide +kernel
theorem dX9_isRodLetter_14 : decode cX9_isRodLetter 14 = .ok (.tableswitch 58 0 3 #[30, 42, 30, 50], 30) := by decide +kernel
theorem dX9_isRodLetter_44 : decode cX9_isRodLetter 44 = .ok (.iload_n 2, 1) := by decide +kernel
theorem dX9_isRodLetter_45 : decode cX9_isRodLetter 45 = .ok (.i2l, 1) := by decide +kernel
theorem dX9_isRodLetter_46 : decode cX9_isRodLetter 46 = .ok (.ldc2_w 76, 3) := by decide +kernel
theorem dX9_isRodLetter_49 : decode cX9_isRodLetter 49 = .ok (.ldc2_w 78, 3) := by decide +kernel
theorem dX9_isRodLetter_52 : decode cX9_isRodLetter 52 = .ok (.invokestatic 64, 3) := by decide +kernel
theorem dX9_isRodLetter_55 : decode cX9_isRodLetter 55 = .ok (.ireturn, 1) := by decide +kernel
theorem dX9_isRodLetter_56 : decode cX9_isRodLetter 56 = .ok (.aload_n 0, 1) := by decide +kernel
theorem dX9_isRodLetter_57 : decode cX9_isRodLetter 57 = .ok (.iload_n 2, 1) := by decide +kernel
theorem dX9_isRodLetter_58 : decode cX9_isRodLetter 58 = .ok (.iload_n 3, 1) := by decide +kernel
theorem dX9_isRodLetter_59 : decode cX9_isRodLetter 59 = .ok (.iconst 0, 1) := by decide +kernel
theorem dX9_isRodLetter_60 : decode cX9_isRodLetter 60 = .ok (.invokevirtual 80, 3) := by decide +kernel
theorem dX9_isRodLetter_63 : decode cX9_isRodLetter 63 = .ok (.ireturn, 1) := by decide +kernel
theorem dX9_isRodLetter_64 : decode cX9_isRodLetter 64 = .ok (.aload_n 0, 1) := by decide +kernel
theorem dX9_isRodLetter_65 : decode cX9_isRodLetter 65 = .ok (.iload_n 2, 1) := by decide +kernel
theorem dX9_isRodLetter_66 : decode cX9_isRodLetter 66 = .ok (.iload_n 3, 1) := by decide +kernel
theorem dX9_isRodLetter_67 : decode cX9_isRodLetter 67 = .ok (.iconst 1, 1) := by decide +kernel
theorem dX9_isRodLetter_68 : decode cX9_isRodLetter 68 = .ok (.invokevirtual 80, 3) := by decide +kernel
theorem dX9_isRodLetter_71 : decode cX9_isRodLetter 71 = .ok (.ireturn, 1) := by decide +kernel
theorem dX9_isRodLetter_72 : decode cX9_isRodLetter 72 = .ok (.aload_n 0, 1) := by decide +kernel
theorem dX9_isRodLetter_73 : decode cX9_isRodLetter 73 = .ok (.getfield 73, 3) := by decide +kernel
theorem dX9_isRodLetter_76 : decode cX9_isRodLetter 76 = .ok (.iload_n 3, 1) := by decide +kernel
theorem dX9_isRodLetter_77 : decode cX9_isRodLetter 77 = .ok (.iconst 1, 1) := by decide +kernel
theorem dX9_isRodLetter_78 : decode cX9_isRodLetter 78 = .ok (.iadd, 1) := by decide +kernel
theorem dX9_isRodLetter_79 : decode cX9_isRodLetter 79 = .ok (.ishr, 1) := by decide +kernel
theorem dX9_isRodLetter_80 : decode cX9_isRodLetter 80 = .ok (.ifCond .le 15, 3) := by decide +kernel
theorem dX9_isRodLetter_83 : decode cX9_isRodLetter 83 = .ok (.iload_n 2, 1) := by decide +kernel
theorem dX9_isRodLetter_84 : decode cX9_isRodLetter 84 = .ok (.bipush 44, 2) := by decide +kernel
theorem dX9_isRodLetter_86 : decode cX9_isRodLetter 86 = .ok (.if_icmp .ne 7, 3) := by decide +kernel
theorem dX9_isRodLetter_89 : decode cX9_isRodLetter 89 = .ok (.iconst 1, 1) := by decide +kernel
theorem dX9_isRodLetter_90 : decode cX9_isRodLetter 90 = .ok (.goto 4, 3) := by decide +kernel
theorem dX9_isRodLetter_93 : decode cX9_isRodLetter 93 = .ok (.iconst 0, 1) := by decide +kernel
theorem dX9_isRodLetter_94 : decode cX9_isRodLetter 94 = .ok (.ireturn, 1) := by decide +kernel
theorem dX9_isRodLetter_95 : decode cX9_isRodLetter 95 = .ok (.aload_n 0, 1) := by decide +kernel
theorem dX9_isRodLetter_96 : decode cX9_isRodLetter 96 = .ok (.iload_n 1, 1) := by decide +kernel
theorem dX9_isRodLetter_97 : decode cX9_isRodLetter 97 = .ok (.putfield 84, 3) := by decide +kernel
theorem dX9_isRodLetter_100 : decode cX9_isRodLetter 100 = .ok (.iload_n 2, 1) := by decide +kernel
theorem dX9_isRodLetter_101 : decode cX9_isRodLetter 101 = .ok (.bipush 59, 2) := by decide +kernel
theorem dX9_isRodLetter_103 : decode cX9_isRodLetter 103 = .ok (.if_icmp .ne 7, 3) := by decide +kernel
theorem dX9_isRodLetter_106 : decode cX9_isRodLetter 106 = .ok (.iconst 1, 1) := by decide +kernel
theorem dX9_isRodLetter_107 : decode cX9_isRodLetter 107 = .ok (.goto 4, 3) := by decide +kernel
theorem dX9_isRodLetter_110 : decode cX9_isRodLetter 110 = .ok (.iconst 0, 1) := by decide +kernel
theorem dX9_isRodLetter_111 : decode cX9_isRodLetter 111 = .ok (.ireturn, 1) := by decide +kernel
theorem dX9_isThingLetter_0 : decode cX9_isThingLetter 0 = .ok (.aload_n 0, 1) := by decide +kernel
theorem dX9_isThingLetter_1 : decode cX9_isThingLetter 1 = .ok (.getfield 7, 3) := by decide +kernel
theorem dX9_isThingLetter_4 : decode cX9_isThingLetter 4 = .ok (.iload_n 1, 1) := by decide +kernel
theorem dX9_isThingLetter_5 : decode cX9_isThingLetter 5 = .ok (.iaload, 1) := by decide +kernel
theorem dX9_isThingLetter_6 : decode cX9_isThingLetter 6 = .ok (.istore_n 2, 1) := by decide +kernel
theorem dX9_isThingLetter_7 : decode cX9_isThingLetter 7 = .ok (.iload_n 1, 1) := by decide +kernel
theorem dX9_isThingLetter_8 : decode cX9_isThingLetter 8 = .ok (.aload_n 0, 1) := by decide +kernel
theorem dX9_isThingLetter_9 : decode cX9_isThingLetter 9 = .ok (.getfield 84, 3) := by decide +kernel
theorem dX9_isThingLetter_12 : decode cX9_isThingLetter 12 = .ok (.isub, 1) := by decide +kernel
theorem dX9_isThingLetter_13 : decode cX9_isThingLetter 13 = .ok (.iconst 1, 1) := by decide +kernel
theorem dX9_isThingLetter_14 : decode cX9_isThingLetter 14 = .ok (.isub, 1) := by decide +kernel
theorem dX9_isThingLetter_15 : decode cX9_isThingLetter 15 = .ok (.istore_n 3, 1) := by decide +kernel
theorem dX9_isThingLetter_16 : decode cX9_isThingLetter 16 = .ok (.aload_n 0, 1) := by decide +kernel
theorem dX9_isThingLetter_17 : decode cX9_isThingLetter 17 = .ok (.getfield 84, 3) := by decide +kernel
theorem dX9_isThingLetter_20 : decode cX9_isThingLetter 20 = .ok (.iconst 1, 1) := by decide +kernel
theorem dX9_isThingLetter_21 : decode cX9_isThingLetter 21 = .ok (.iadd, 1) := by decide +kernel
theorem dX9_isThingLetter_22 : decode cX9_isThingLetter 22 = .ok (.iconst 5, 1) := by decide +kernel
theorem dX9_isThingLetter_23 : decode cX9_isThingLetter 23 = .ok (.idiv, 1) := by decide +kernel
theorem dX9_isThingLetter_24 : decode cX9_isThingLetter 24 = .ok (.iconst 1, 1) := by decide +kernel
theorem dX9_isThingLetter_25 : decode cX9_isThingLetter 25 = .ok (.iadd, 1) := by decide +kernel
theorem dX9_isThingLetter_26 : decode cX9_isThingLetter 26 = .ok (.istore 4, 2) := by decide +kernel
theorem dX9_isThingLetter_28 : decode cX9_isThingLetter 28 = .ok (.iload_n 3, 1) := by decide +kernel
theorem dX9_isThingLetter_29 : decode cX9_isThingLetter 29 = .ok (.iconst 3, 1) := by decide +kernel
theorem dX9_isThingLetter_30 : decode cX9_isThingLetter 30 = .ok (.irem, 1) := by decide +kernel
theorem dX9_isThingLetter_31 : decode cX9_isThingLetter 31 = .ok (.lookupswitch 51 #[(0, 25), (1, 39)], 25) := by decide +kernel
theorem dX9_isThingLetter_56 : decode cX9_isThingLetter 56 = .ok (.iload_n 2, 1) := by decide +kernel
theorem dX9_isThingLetter_57 : decode cX9_isThingLetter 57 = .ok (.invokestatic 87, 3) := by decide +kernel
theorem dX9_isThingLetter_60 : decode cX9_isThingLetter 60 = .ok (.iconst (-1), 1) := by decide +kernel
theorem dX9_isThingLetter_61 : decode cX9_isThingLetter 61 = .ok (.if_icmp .eq 7, 3) := by decide +kernel
theorem dX9_isThingLetter_64 : decode cX9_isThingLetter 64 = .ok (.iconst 1, 1) := by decide +kernel
theorem dX9_isThingLetter_65 : decode cX9_isThingLetter 65 = .ok (.goto 4, 3) := by decide +kernel
theorem dX9_isThingLetter_68 : decode cX9_isThingLetter 68 = .ok (.iconst 0, 1) := by decide +kernel
theorem dX9_isThingLetter_69 : decode cX9_isThingLetter 69 = .ok (.ireturn, 1) := by decide +kernel
theorem dX9_isThingLetter_70 : decode cX9_isThingLetter 70 = .ok (.iload_n 2, 1) := by decide +kernel
theorem dX9_isThingLetter_71 : decode cX9_isThingLetter 71 = .ok (.i2l, 1) := by decide +kernel
theorem dX9_isThingLetter_72 : decode cX9_isThingLetter 72 = .ok (.ldc2_w 91, 3) := by decide +kernel
theorem dX9_isThingLetter_75 : decode cX9_isThingLetter 75 = .ok (.ldc2_w 78, 3) := by decide +kernel
theorem dX9_isThingLetter_78 : decode cX9_isThingLetter 78 = .ok (.invokestatic 64, 3) := by decide +kernel
theorem dX9_isThingLetter_81 : decode cX9_isThingLetter 81 = .ok (.ireturn, 1) := by decide +kernel
theorem dX9_isThingLetter_82 : decode cX9_isThingLetter 82 = .ok (.iload_n 2, 1) := by decide +kernel
theorem dX9_isThingLetter_83 : decode cX9_isThingLetter 83 = .ok (.bipush 44, 2) := by decide +kernel
theorem dX9_isThingLetter_85 : decode cX9_isThingLetter 85 = .ok (.if_icmp .ne 17, 3) := by decide +kernel
theorem dX9_isThingLetter_88 : decode cX9_isThingLetter 88 = .ok (.iload_n 3, 1) := by decide +kernel
theorem dX9_isThingLetter_89 : decode cX9_isThingLetter 89 = .ok (.iconst 3, 1) := by decide +kernel
theorem dX9_isThingLetter_90 : decode cX9_isThingLetter 90 = .ok (.iload 4, 2) := by decide +kernel
theorem dX9_isThingLetter_92 : decode cX9_isThingLetter 92 = .ok (.imul, 1) := by decide +kernel
theorem dX9_isThingLetter_93 : decode cX9_isThingLetter 93 = .ok (.iconst 1, 1) := by decide +kernel
theorem dX9_isThingLetter_94 : decode cX9_isThingLetter 94 = .ok (.isub, 1) := by decide +kernel
theorem dX9_isThingLetter_95 : decode cX9_isThingLetter 95 = .ok (.if_icmp .ge 7, 3) := by decide +kernel
theorem dX9_isThingLetter_98 : decode cX9_isThingLetter 98 = .ok (.iconst 1, 1) := by decide +kernel
theorem dX9_isThingLetter_99 : decode cX9_isThingLetter 99 = .ok (.goto 4, 3) := by decide +kernel
theorem dX9_isThingLetter_102 : decode cX9_isThingLetter 102 = .ok (.iconst 0, 1) := by decide +kernel
theorem dX9_isThingLetter_103 : decode cX9_isThingLetter 103 = .ok (.ireturn, 1) := by decide +kernel
theorem dX9_faultOf_0 : decode cX9_faultOf 0 = .ok (.aload_n 0, 1) := by decide +kernel
theorem dX9_faultOf_1 : decode cX9_faultOf 1 = .ok (.iconst 0, 1) := by decide +kernel
theorem dX9_faultOf_2 : decode cX9_faultOf 2 = .ok (.putfield 84, 3) := by decide +kernel
theorem dX9_faultOf_5 : decode cX9_faultOf 5 = .ok (.aload_n 0, 1) := by decide +kernel
theorem dX9_faultOf_6 : decode cX9_faultOf 6 = .ok (.iconst 0, 1) := by decide +kernel
theorem dX9_faultOf_7 : decode cX9_faultOf 7 = .ok (.putfield 73, 3) := by decide +kernel
theorem dX9_faultOf_10 : decode cX9_faultOf 10 = .ok (.iconst 0, 1) := by decide +kernel
theorem dX9_faultOf_11 : decode cX9_faultOf 11 = .ok (.istore_n 1, 1) := by decide +kernel
theorem dX9_faultOf_12 : decode cX9_faultOf 12 = .ok (.iload_n 1, 1) := by decide +kernel
theorem dX9_faultOf_13 : decode cX9_faultOf 13 = .ok (.aload_n 0, 1) := by decide +kernel
theorem dX9_faultOf_14 : decode cX9_faultOf 14 = .ok (.getfield 68, 3) := by decide +kernel
theorem dX9_faultOf_17 : decode cX9_faultOf 17 = .ok (.if_icmp .ge 35, 3) := by decide +kernel
theorem dX9_faultOf_20 : decode cX9_faultOf 20 = .ok (.aload_n 0, 1) := by decide +kernel
theorem dX9_faultOf_21 : decode cX9_faultOf 21 = .ok (.getfield 84, 3) := by decide +kernel
theorem dX9_faultOf_24 : decode cX9_faultOf 24 = .ok (.ifCond .ne 14, 3) := by decide +kernel
theorem dX9_faultOf_27 : decode cX9_faultOf 27 = .ok (.aload_n 0, 1) := by decide +kernel
theorem dX9_faultOf_28 : decode cX9_faultOf 28 = .ok (.iload_n 1, 1) := by decide +kernel
theorem dX9_faultOf_29 : decode cX9_faultOf 29 = .ok (.invokevirtual 93, 3) := by decide +kernel
theorem dX9_faultOf_32 : decode cX9_faultOf 32 = .ok (.ifCond .eq 20, 3) := by decide +kernel
theorem dX9_faultOf_35 : decode cX9_faultOf 35 = .ok (.goto 11, 3) := by decide +kernel
theorem dX9_faultOf_38 : decode cX9_faultOf 38 = .ok (.aload_n 0, 1) := by decide +kernel
theorem dX9_faultOf_39 : decode cX9_faultOf 39 = .ok (.iload_n 1, 1) := by decide +kernel
theorem dX9_faultOf_40 : decode cX9_faultOf 40 = .ok (.invokevirtual 97, 3) := by decide +kernel
theorem dX9_faultOf_43 : decode cX9_faultOf 43 = .ok (.ifCond .eq 9, 3) := by decide +kernel
theorem dX9_faultOf_46 : decode cX9_faultOf 46 = .ok (.iinc 1 1, 3) := by decide +kernel
theorem dX9_faultOf_49 : decode cX9_faultOf 49 = .ok (.goto (-37), 3) := by decide +kernel
theorem dX9_faultOf_52 : decode cX9_faultOf 52 = .ok (.iload_n 1, 1) := by decide +kernel
theorem dX9_faultOf_53 : decode cX9_faultOf 53 = .ok (.ireturn, 1) := by decide +kernel
theorem dX9_fault_0 : decode cX9_fault 0 = .ok (.aload_n 0, 1) := by decide +kernel
theorem dX9_fault_1 : decode cX9_fault 1 = .ok (.invokevirtual 100, 3) := by decide +kernel
theorem dX9_fault_4 : decode cX9_fault 4 = .ok (.ireturn, 1) := by decide +kernel
theorem dX9_mobile_0 : decode cX9_mobile 0 = .ok (.aload_n 0, 1) := by decide +kernel
theorem dX9_mobile_1 : decode cX9_mobile 1 = .ok (.invokevirtual 100, 3) := by decide +kernel
theorem dX9_mobile_4 : decode cX9_mobile 4 = .ok (.istore_n 1, 1) := by decide +kernel
theorem dX9_mobile_5 : decode cX9_mobile 5 = .ok (.iload_n 1, 1) := by decide +kernel
theorem dX9_mobile_6 : decode cX9_mobile 6 = .ok (.aload_n 0, 1) := by decide +kernel
theorem dX9_mobile_7 : decode cX9_mobile 7 = .ok (.getfield 68, 3) := by decide +kernel
theorem dX9_mobile_10 : decode cX9_mobile 10 = .ok (.if_icmp .lt 34, 3) := by decide +kernel
theorem dX9_mobile_13 : decode cX9_mobile 13 = .ok (.aload_n 0, 1) := by decide +kernel
theorem dX9_mobile_14 : decode cX9_mobile 14 = .ok (.getfield 84, 3) := by decide +kernel
theorem dX9_mobile_17 : decode cX9_mobile 17 = .ok (.ifCond .eq 27, 3) := by decide +kernel
theorem dX9_mobile_20 : decode cX9_mobile 20 = .ok (.aload_n 0, 1) := by decide +kernel
theorem dX9_mobile_21 : decode cX9_mobile 21 = .ok (.getfield 68, 3) := by decide +kernel
theorem dX9_mobile_24 : decode cX9_mobile 24 = .ok (.aload_n 0, 1) := by decide +kernel
theorem dX9_mobile_25 : decode cX9_mobile 25 = .ok (.getfield 84, 3) := by decide +kernel
theorem dX9_mobile_28 : decode cX9_mobile 28 = .ok (.isub, 1) := by decide +kernel
theorem dX9_mobile_29 : decode cX9_mobile 29 = .ok (.iconst 3, 1) := by decide +kernel
theorem dX9_mobile_30 : decode cX9_mobile 30 = .ok (.aload_n 0, 1) := by decide +kernel
theorem dX9_mobile_31 : decode cX9_mobile 31 = .ok (.getfield 84, 3) := by decide +kernel
theorem dX9_mobile_34 : decode cX9_mobile 34 = .ok (.iconst 1, 1) := by decide +kernel
theorem dX9_mobile_35 : decode cX9_mobile 35 = .ok (.iadd, 1) := by decide +kernel
theorem dX9_mobile_36 : decode cX9_mobile 36 = .ok (.iconst 5, 1) := by decide +kernel
theorem dX9_mobile_37 : decode cX9_mobile 37 = .ok (.idiv, 1) := by decide +kernel
theorem dX9_mobile_38 : decode cX9_mobile 38 = .ok (.iconst 1, 1) := by decide +kernel
theorem dX9_mobile_39 : decode cX9_mobile 39 = .ok (.iadd, 1) := by decide +kernel
theorem dX9_mobile_40 : decode cX9_mobile 40 = .ok (.imul, 1) := by decide +kernel
theorem dX9_mobile_41 : decode cX9_mobile 41 = .ok (.if_icmp .eq 6, 3) := by decide +kernel
theorem dX9_mobile_44 : decode cX9_mobile 44 = .ok (.bipush (-103), 2) := by decide +kernel
theorem dX9_mobile_46 : decode cX9_mobile 46 = .ok (.ireturn, 1) := by decide +kernel
theorem dX9_mobile_47 : decode cX9_mobile 47 = .ok (.aload_n 0, 1) := by decide +kernel
theorem dX9_mobile_48 : decode cX9_mobile 48 = .ok (.aload_n 0, 1) := by decide +kernel
theorem dX9_mobile_49 : decode cX9_mobile 49 = .ok (.getfield 84, 3) := by decide +kernel
theorem dX9_mobile_52 : decode cX9_mobile 52 = .ok (.iconst 1, 1) := by decide +kernel
theorem dX9_mobile_53 : decode cX9_mobile 53 = .ok (.iadd, 1) := by decide +kernel
theorem dX9_mobile_54 : decode cX9_mobile 54 = .ok (.iconst 5, 1) := by decide +kernel
theorem dX9_mobile_55 : decode cX9_mobile 55 = .ok (.idiv, 1) := by decide +kernel
theorem dX9_mobile_56 : decode cX9_mobile 56 = .ok (.putfield 104, 3) := by decide +kernel
theorem dX9_mobile_59 : decode cX9_mobile 59 = .ok (.aload_n 0, 1) := by decide +kernel
theorem dX9_mobile_60 : decode cX9_mobile 60 = .ok (.aload_n 0, 1) := by decide +kernel
theorem dX9_mobile_61 : decode cX9_mobile 61 = .ok (.getfield 104, 3) := by decide +kernel
theorem dX9_mobile_64 : decode cX9_mobile 64 = .ok (.iconst 1, 1) := by decide +kernel
theorem dX9_mobile_65 : decode cX9_mobile 65 = .ok (.iadd, 1) := by decide +kernel
theorem dX9_mobile_66 : decode cX9_mobile 66 = .ok (.putfield 107, 3) := by decide +kernel
theorem dX9_mobile_69 : decode cX9_mobile 69 = .ok (.iconst 0, 1) := by decide +kernel
theorem dX9_mobile_70 : decode cX9_mobile 70 = .ok (.istore_n 2, 1) := by decide +kernel
theorem dX9_mobile_71 : decode cX9_mobile 71 = .ok (.iconst 0, 1) := by decide +kernel
theorem dX9_mobile_72 : decode cX9_mobile 72 = .ok (.istore_n 3, 1) := by decide +kernel
theorem dX9_mobile_73 : decode cX9_mobile 73 = .ok (.iload_n 3, 1) := by decide +kernel
theorem dX9_mobile_74 : decode cX9_mobile 74 = .ok (.iconst 2, 1) := by decide +kernel
theorem dX9_mobile_75 : decode cX9_mobile 75 = .ok (.aload_n 0, 1) := by decide +kernel
theorem dX9_mobile_76 : decode cX9_mobile 76 = .ok (.getfield 104, 3) := by decide +kernel
theorem dX9_mobile_79 : decode cX9_mobile 79 = .ok (.imul, 1) := by decide +kernel
theorem dX9_mobile_80 : decode cX9_mobile 80 = .ok (.if_icmp .ge 101, 3) := by decide +kernel
theorem dX9_mobile_83 : decode cX9_mobile 83 = .ok (.iconst 5, 1) := by decide +kernel
theorem dX9_mobile_84 : decode cX9_mobile 84 = .ok (.iload_n 3, 1) := by decide +kernel
theorem dX9_mobile_85 : decode cX9_mobile 85 = .ok (.iconst 2, 1) := by decide +kernel
theorem dX9_mobile_86 : decode cX9_mobile 86 = .ok (.idiv, 1) := by decide +kernel
theorem dX9_mobile_87 : decode cX9_mobile 87 = .ok (.imul, 1) := by decide +kernel
theorem dX9_mobile_88 : decode cX9_mobile 88 = .ok (.iconst 2, 1) := by decide +kernel
theorem dX9_mobile_89 : decode cX9_mobile 89 = .ok (.iload_n 3, 1) := by decide +kernel
theorem dX9_mobile_90 : decode cX9_mobile 90 = .ok (.iconst 2, 1) := by decide +kernel
theorem dX9_mobile_91 : decode cX9_mobile 91 = .ok (.irem, 1) := by decide +kernel
theorem dX9_mobile_92 : decode cX9_mobile 92 = .ok (.imul, 1) := by decide +kernel
theorem dX9_mobile_93 : decode cX9_mobile 93 = .ok (.iadd, 1) := by decide +kernel
theorem dX9_mobile_94 : decode cX9_mobile 94 = .ok (.istore 4, 2) := by decide +kernel
theorem dX9_mobile_96 : decode cX9_mobile 96 = .ok (.aload_n 0, 1) := by decide +kernel
theorem dX9_mobile_97 : decode cX9_mobile 97 = .ok (.getfield 13, 3) := by decide +kernel
theorem dX9_mobile_100 : decode cX9_mobile 100 = .ok (.iload_n 3, 1) := by decide +kernel
theorem dX9_mobile_101 : decode cX9_mobile 101 = .ok (.aload_n 0, 1) := by decide +kernel
theorem dX9_mobile_102 : decode cX9_mobile 102 = .ok (.getfield 7, 3) := by decide +kernel
theorem dX9_mobile_105 : decode cX9_mobile 105 = .ok (.iload 4, 2) := by decide +kernel
theorem dX9_mobile_107 : decode cX9_mobile 107 = .ok (.iaload, 1) := by decide +kernel
theorem dX9_mobile_108 : decode cX9_mobile 108 = .ok (.bipush 48, 2) := by decide +kernel
theorem dX9_mobile_110 : decode cX9_mobile 110 = .ok (.isub, 1) := by decide +kernel
theorem dX9_mobile_111 : decode cX9_mobile 111 = .ok (.iastore, 1) := by decide +kernel
theorem dX9_mobile_112 : decode cX9_mobile 112 = .ok (.aload_n 0, 1) := by decide +kernel
theorem dX9_mobile_113 : decode cX9_mobile 113 = .ok (.getfield 16, 3) := by decide +kernel
theorem dX9_mobile_116 : decode cX9_mobile 116 = .ok (.iload_n 3, 1) := by decide +kernel
theorem dX9_mobile_117 : decode cX9_mobile 117 = .ok (.aload_n 0, 1) := by decide +kernel
theorem dX9_mobile_118 : decode cX9_mobile 118 = .ok (.getfield 7, 3) := by decide +kernel
theorem dX9_mobile_121 : decode cX9_mobile 121 = .ok (.iload 4, 2) := by decide +kernel
theorem dX9_mobile_123 : decode cX9_mobile 123 = .ok (.iconst 1, 1) := by decide +kernel
theorem dX9_mobile_124 : decode cX9_mobile 124 = .ok (.iadd, 1) := by decide +kernel
theorem dX9_mobile_125 : decode cX9_mobile 125 = .ok (.iaload, 1) := by decide +kernel
theorem dX9_mobile_126 : decode cX9_mobile 126 = .ok (.bipush 42, 2) := by decide +kernel
theorem dX9_mobile_128 : decode cX9_mobile 128 = .ok (.if_icmp .ne 10, 3) := by decide +kernel
theorem dX9_mobile_131 : decode cX9_mobile 131 = .ok (.bipush 10, 2) := by decide +kernel
theorem dX9_mobile_133 : decode cX9_mobile 133 = .ok (.iload_n 2, 1) := by decide +kernel
theorem dX9_mobile_134 : decode cX9_mobile 134 = .ok (.iadd, 1) := by decide +kernel
theorem dX9_mobile_135 : decode cX9_mobile 135 = .ok (.goto 15, 3) := by decide +kernel
theorem dX9_mobile_138 : decode cX9_mobile 138 = .ok (.aload_n 0, 1) := by decide +kernel
theorem dX9_mobile_139 : decode cX9_mobile 139 = .ok (.getfield 7, 3) := by decide +kernel
theorem dX9_mobile_142 : decode cX9_mobile 142 = .ok (.iload 4, 2) := by decide +kernel
theorem dX9_mobile_144 : decode cX9_mobile 144 = .ok (.iconst 1, 1) := by decide +kernel
theorem dX9_mobile_145 : decode cX9_mobile 145 = .ok (.iadd, 1) := by decide +kernel
theorem dX9_mobile_146 : decode cX9_mobile 146 = .ok (.iaload, 1) := by decide +kernel
theorem dX9_mobile_147 : decode cX9_mobile 147 = .ok (.bipush 48, 2) := by decide +kernel
theorem dX9_mobile_149 : decode cX9_mobile 149 = .ok (.isub, 1) := by decide +kernel
theorem dX9_mobile_150 : decode cX9_mobile 150 = .ok (.iastore, 1) := by decide +kernel
theorem dX9_mobile_151 : decode cX9_mobile 151 = .ok (.aload_n 0, 1) := by decide +kernel
theorem dX9_mobile_152 : decode cX9_mobile 152 = .ok (.getfield 7, 3) := by decide +kernel
theorem dX9_mobile_155 : decode cX9_mobile 155 = .ok (.iload 4, 2) := by decide +kernel
theorem dX9_mobile_157 : decode cX9_mobile 157 = .ok (.iconst 1, 1) := by decide +kernel
theorem dX9_mobile_158 : decode cX9_mobile 158 = .ok (.iadd, 1) := by decide +kernel
theorem dX9_mobile_159 : decode cX9_mobile 159 = .ok (.iaload, 1) := by decide +kernel
theorem dX9_mobile_160 : decode cX9_mobile 160 = .ok (.bipush 42, 2) := by decide +kernel
theorem dX9_mobile_162 : decode cX9_mobile 162 = .ok (.if_icmp .ne 13, 3) := by decide +kernel
theorem dX9_mobile_165 : decode cX9_mobile 165 = .ok (.aload_n 0, 1) := by decide +kernel
theorem dX9_mobile_166 : decode cX9_mobile 166 = .ok (.getfield 19, 3) := by decide +kernel
theorem dX9_mobile_169 : decode cX9_mobile 169 = .ok (.iload_n 2, 1) := by decide +kernel
theorem dX9_mobile_170 : decode cX9_mobile 170 = .ok (.iload_n 3, 1) := by decide +kernel
theorem dX9_mobile_171 : decode cX9_mobile 171 = .ok (.iastore, 1) := by decide +kernel
theorem dX9_mobile_172 : decode cX9_mobile 172 = .ok (.iinc 2 1, 3) := by decide +kernel
theorem dX9_mobile_175 : decode cX9_mobile 175 = .ok (.iinc 3 1, 3) := by decide +kernel
theorem dX9_mobile_178 : decode cX9_mobile 178 = .ok (.goto (-105), 3) := by decide +kernel
theorem dX9_mobile_181 : decode cX9_mobile 181 = .ok (.iconst 0, 1) := by decide +kernel
theorem dX9_mobile_182 : decode cX9_mobile 182 = .ok (.istore_n 3, 1) := by decide +kernel
theorem dX9_mobile_183 : decode cX9_mobile 183 = .ok (.iload_n 3, 1) := by decide +kernel
theorem dX9_mobile_184 : decode cX9_mobile 184 = .ok (.aload_n 0, 1) := by decide +kernel
theorem dX9_mobile_185 : decode cX9_mobile 185 = .ok (.getfield 107, 3) := by decide +kernel
theorem dX9_mobile_188 : decode cX9_mobile 188 = .ok (.if_icmp .ge 64, 3) := by decide +kernel
theorem dX9_mobile_191 : decode cX9_mobile 191 = .ok (.aload_n 0, 1) := by decide +kernel
theorem dX9_mobile_192 : decode cX9_mobile 192 = .ok (.getfield 22, 3) := by decide +kernel
theorem dX9_mobile_195 : decode cX9_mobile 195 = .ok (.iload_n 3, 1) := by decide +kernel
theorem dX9_mobile_196 : decode cX9_mobile 196 = .ok (.aload_n 0, 1) := by decide +kernel
theorem dX9_mobile_197 : decode cX9_mobile 197 = .ok (.getfield 7, 3) := by decide +kernel
theorem dX9_mobile_200 : decode cX9_mobile 200 = .ok (.aload_n 0, 1) := by decide +kernel
theorem dX9_mobile_201 : decode cX9_mobile 201 = .ok (.getfield 84, 3) := by decide +kernel
theorem dX9_mobile_204 : decode cX9_mobile 204 = .ok (.iconst 1, 1) := by decide +kernel
theorem dX9_mobile_205 : decode cX9_mobile 205 = .ok (.iadd, 1) := by decide +kernel
theorem dX9_mobile_206 : decode cX9_mobile 206 = .ok (.iconst 3, 1) := by decide +kernel
theorem dX9_mobile_207 : decode cX9_mobile 207 = .ok (.iload_n 3, 1) := by decide +kernel
theorem dX9_mobile_208 : decode cX9_mobile 208 = .ok (.imul, 1) := by decide +kernel
theorem dX9_mobile_209 : decode cX9_mobile 209 = .ok (.iadd, 1) := by decide +kernel
theorem dX9_mobile_210 : decode cX9_mobile 210 = .ok (.iaload, 1) := by decide +kernel
theorem dX9_mobile_211 : decode cX9_mobile 211 = .ok (.invokestatic 87, 3) := by decide +kernel
theorem dX9_mobile_214 : decode cX9_mobile 214 = .ok (.iastore, 1) := by decide +kernel
theorem dX9_mobile_215 : decode cX9_mobile 215 = .ok (.aload_n 0, 1) := by decide +kernel
theorem dX9_mobile_216 : decode cX9_mobile 216 = .ok (.getfield 25, 3) := by decide +kernel
theorem dX9_mobile_219 : decode cX9_mobile 219 = .ok (.iload_n 3, 1) := by decide +kernel
theorem dX9_mobile_220 : decode cX9_mobile 220 = .ok (.aload_n 0, 1) := by decide +kernel
theorem dX9_mobile_221 : decode cX9_mobile 221 = .ok (.getfield 7, 3) := by decide +kernel
theorem dX9_mobile_224 : decode cX9_mobile 224 = .ok (.aload_n 0, 1) := by decide +kernel
theorem dX9_mobile_225 : decode cX9_mobile 225 = .ok (.getfield 84, 3) := by decide +kernel
theorem dX9_mobile_228 : decode cX9_mobile 228 = .ok (.iconst 2, 1) := by decide +kernel
theorem dX9_mobile_229 : decode cX9_mobile 229 = .ok (.iadd, 1) := by decide +kernel
theorem dX9_mobile_230 : decode cX9_mobile 230 = .ok (.iconst 3, 1) := by decide +kernel
theorem dX9_mobile_231 : decode cX9_mobile 231 = .ok (.iload_n 3, 1) := by decide +kernel
theorem dX9_mobile_232 : decode cX9_mobile 232 = .ok (.imul, 1) := by decide +kernel
theorem dX9_mobile_233 : decode cX9_mobile 233 = .ok (.iadd, 1) := by decide +kernel
theorem dX9_mobile_234 : decode cX9_mobile 234 = .ok (.iaload, 1) := by decide +kernel
theorem dX9_mobile_235 : decode cX9_mobile 235 = .ok (.bipush 48, 2) := by decide +kernel
theorem dX9_mobile_237 : decode cX9_mobile 237 = .ok (.isub, 1) := by decide +kernel
theorem dX9_mobile_238 : decode cX9_mobile 238 = .ok (.iastore, 1) := by decide +kernel
theorem dX9_mobile_239 : decode cX9_mobile 239 = .ok (.aload_n 0, 1) := by decide +kernel
theorem dX9_mobile_240 : decode cX9_mobile 240 = .ok (.getfield 28, 3) := by decide +kernel
theorem dX9_mobile_243 : decode cX9_mobile 243 = .ok (.iload_n 3, 1) := by decide +kernel
theorem dX9_mobile_244 : decode cX9_mobile 244 = .ok (.iload_n 3, 1) := by decide +kernel
theorem dX9_mobile_245 : decode cX9_mobile 245 = .ok (.iastore, 1) := by decide +kernel
theorem dX9_mobile_246 : decode cX9_mobile 246 = .ok (.iinc 3 1, 3) := by decide +kernel
theorem dX9_mobile_249 : decode cX9_mobile 249 = .ok (.goto (-66), 3) := by decide +kernel
theorem dX9_mobile_252 : decode cX9_mobile 252 = .ok (.aload_n 0, 1) := by decide +kernel
theorem dX9_mobile_253 : decode cX9_mobile 253 = .ok (.iconst 0, 1) := by decide +kernel
theorem dX9_mobile_254 : decode cX9_mobile 254 = .ok (.putfield 110, 3) := by decide +kernel
theorem dX9_mobile_257 : decode cX9_mobile 257 = .ok (.aload_n 0, 1) := by decide +kernel
theorem dX9_mobile_258 : decode cX9_mobile 258 = .ok (.iconst 0, 1) := by decide +kernel
theorem dX9_mobile_259 : decode cX9_mobile 259 = .ok (.putfield 113, 3) := by decide +kernel
theorem dX9_mobile_262 : decode cX9_mobile 262 = .ok (.aload_n 0, 1) := by decide +kernel
theorem dX9_mobile_263 : decode cX9_mobile 263 = .ok (.iconst 0, 1) := by decide +kernel
theorem dX9_mobile_264 : decode cX9_mobile 264 = .ok (.putfield 116, 3) := by decide +kernel
theorem dX9_mobile_267 : decode cX9_mobile 267 = .ok (.aload_n 0, 1) := by decide +kernel
theorem dX9_mobile_268 : decode cX9_mobile 268 = .ok (.iconst 0, 1) := by decide +kernel
theorem dX9_mobile_269 : decode cX9_mobile 269 = .ok (.putfield 119, 3) := by decide +kernel
theorem dX9_mobile_272 : decode cX9_mobile 272 = .ok (.aload_n 0, 1) := by decide +kernel
theorem dX9_mobile_273 : decode cX9_mobile 273 = .ok (.dup, 1) := by decide +kernel
theorem dX9_mobile_274 : decode cX9_mobile 274 = .ok (.getfield 122, 3) := by decide +kernel
theorem dX9_mobile_277 : decode cX9_mobile 277 = .ok (.iconst 1, 1) := by decide +kernel
theorem dX9_mobile_278 : decode cX9_mobile 278 = .ok (.iadd, 1) := by decide +kernel
theorem dX9_mobile_279 : decode cX9_mobile 279 = .ok (.putfield 122, 3) := by decide +kernel
theorem dX9_mobile_282 : decode cX9_mobile 282 = .ok (.aload_n 0, 1) := by decide +kernel
theorem dX9_mobile_283 : decode cX9_mobile 283 = .ok (.iconst 0, 1) := by decide +kernel
theorem dX9_mobile_284 : decode cX9_mobile 284 = .ok (.putfield 68, 3) := by decide +kernel
theorem dX9_mobile_287 : decode cX9_mobile 287 = .ok (.aload_n 0, 1) := by decide +kernel
theorem dX9_mobile_288 : decode cX9_mobile 288 = .ok (.getfield 107, 3) := by decide +kernel
theorem dX9_mobile_291 : decode cX9_mobile 291 = .ok (.ireturn, 1) := by decide +kernel
theorem dX9_lacks_0 : decode cX9_lacks 0 = .ok (.aload_n 0, 1) := by decide +kernel
theorem dX9_lacks_1 : decode cX9_lacks 1 = .ok (.getfield 104, 3) := by decide +kernel
theorem dX9_lacks_4 : decode cX9_lacks 4 = .ok (.ifCond .ne 7, 3) := by decide +kernel
theorem dX9_lacks_7 : decode cX9_lacks 7 = .ok (.iconst 1, 1) := by decide +kernel
theorem dX9_lacks_8 : decode cX9_lacks 8 = .ok (.goto 4, 3) := by decide +kernel
theorem dX9_lacks_11 : decode cX9_lacks 11 = .ok (.iconst 0, 1) := by decide +kernel
theorem dX9_lacks_12 : decode cX9_lacks 12 = .ok (.ireturn, 1) := by decide +kernel
theorem dX9_isRod_0 : decode cX9_isRod 0 = .ok (.iload_n 1, 1) := by decide +kernel
theorem dX9_isRod_1 : decode cX9_isRod 1 = .ok (.i2l, 1) := by decide +kernel
theorem dX9_isRod_2 : decode cX9_isRod 2 = .ok (.lconst 0, 1) := by decide +kernel
theorem dX9_isRod_3 : decode cX9_isRod 3 = .ok (.aload_n 0, 1) := by decide +kernel
theorem dX9_isRod_4 : decode cX9_isRod 4 = .ok (.getfield 104, 3) := by decide +kernel
theorem dX9_isRod_7 : decode cX9_isRod 7 = .ok (.iconst 1, 1) := by decide +kernel
theorem dX9_isRod_8 : decode cX9_isRod 8 = .ok (.isub, 1) := by decide +kernel
theorem dX9_isRod_9 : decode cX9_isRod 9 = .ok (.i2l, 1) := by decide +kernel
theorem dX9_isRod_10 : decode cX9_isRod 10 = .ok (.invokestatic 64, 3) := by decide +kernel
theorem dX9_isRod_13 : decode cX9_isRod 13 = .ok (.ireturn, 1) := by decide +kernel
theorem dX9_isThing_0 : decode cX9_isThing 0 = .ok (.iload_n 1, 1) := by decide +kernel
theorem dX9_isThing_1 : decode cX9_isThing 1 = .ok (.i2l, 1) := by decide +kernel
theorem dX9_isThing_2 : decode cX9_isThing 2 = .ok (.lconst 0, 1) := by decide +kernel
theorem dX9_isThing_3 : decode cX9_isThing 3 = .ok (.aload_n 0, 1) := by decide +kernel
theorem dX9_isThing_4 : decode cX9_isThing 4 = .ok (.getfield 107, 3) := by decide +kernel
theorem dX9_isThing_7 : decode cX9_isThing 7 = .ok (.iconst 1, 1) := by decide +kernel
theorem dX9_isThing_8 : decode cX9_isThing 8 = .ok (.isub, 1) := by decide +kernel
theorem dX9_isThing_9 : decode cX9_isThing 9 = .ok (.i2l, 1) := by decide +kernel
theorem dX9_isThing_10 : decode cX9_isThing 10 = .ok (.invokestatic 64, 3) := by decide +kernel
theorem dX9_isThing_13 : decode cX9_isThing 13 = .ok (.ireturn, 1) := by decide +kernel
theorem dX9_weighsBy_0 : decode cX9_weighsBy 0 = .ok (.iload_n 0, 1) := by decide +kernel
theorem dX9_weighsBy_1 : decode cX9_weighsBy 1 = .ok (.tableswitch 58 1 4 #[31, 35, 37, 41], 31) := by decide +kernel
theorem dX9_weighsBy_32 : decode cX9_weighsBy 32 = .ok (.iconst 2, 1) := by decide +kernel
theorem dX9_weighsBy_33 : decode cX9_weighsBy 33 = .ok (.iload_n 1, 1) := by decide +kernel
theorem dX9_weighsBy_34 : decode cX9_weighsBy 34 = .ok (.imul, 1) := by decide +kernel
theorem dX9_weighsBy_35 : decode cX9_weighsBy 35 = .ok (.ireturn, 1) := by decide +kernel
theorem dX9_weighsBy_36 : decode cX9_weighsBy 36 = .ok (.iconst 0, 1) := by decide +kernel
theorem dX9_weighsBy_37 : decode cX9_weighsBy 37 = .ok (.ireturn, 1) := by decide +kernel
theorem dX9_weighsBy_38 : decode cX9_weighsBy 38 = .ok (.iconst 0, 1) := by decide +kernel
theorem dX9_weighsBy_39 : decode cX9_weighsBy 39 = .ok (.iload_n 1, 1) := by decide +kernel
theorem dX9_weighsBy_40 : decode cX9_weighsBy 40 = .ok (.isub, 1) := by decide +kernel
theorem dX9_weighsBy_41 : decode cX9_weighsBy 41 = .ok (.ireturn, 1) := by decide +kernel
theorem dX9_weighsBy_42 : decode cX9_weighsBy 42 = .ok (.iconst 2, 1) := by decide +kernel
theorem dX9_weighsBy_43 : decode cX9_weighsBy 43 = .ok (.iload_n 1, 1) := by decide +kernel
theorem dX9_weighsBy_44 : decode cX9_weighsBy 44 = .ok (.imul, 1) := by decide +kernel
theorem dX9_weighsBy_45 : decode cX9_weighsBy 45 = .ok (.iload_n 2, 1) := by decide +kernel
theorem dX9_weighsBy_46 : decode cX9_weighsBy 46 = .ok (.if_icmp .le 11, 3) := by decide +kernel
theorem dX9_weighsBy_49 : decode cX9_weighsBy 49 = .ok (.iconst 2, 1) := by decide +kernel
theorem dX9_weighsBy_50 : decode cX9_weighsBy 50 = .ok (.iload_n 1, 1) := by decide +kernel
theorem dX9_weighsBy_51 : decode cX9_weighsBy 51 = .ok (.imul, 1) := by decide +kernel
theorem dX9_weighsBy_52 : decode cX9_weighsBy 52 = .ok (.iload_n 2, 1) := by decide +kernel
theorem dX9_weighsBy_53 : decode cX9_weighsBy 53 = .ok (.isub, 1) := by decide +kernel
theorem dX9_weighsBy_54 : decode cX9_weighsBy 54 = .ok (.goto 4, 3) := by decide +kernel
theorem dX9_weighsBy_57 : decode cX9_weighsBy 57 = .ok (.iconst 0, 1) := by decide +kernel
theorem dX9_weighsBy_58 : decode cX9_weighsBy 58 = .ok (.ireturn, 1) := by decide +kernel
theorem dX9_weighsBy_59 : decode cX9_weighsBy 59 = .ok (.iload_n 1, 1) := by decide +kernel
theorem dX9_weighsBy_60 : decode cX9_weighsBy 60 = .ok (.ireturn, 1) := by decide +kernel
theorem dX9_begin_0 : decode cX9_begin 0 = .ok (.aload_n 0, 1) := by decide +kernel
theorem dX9_begin_1 : decode cX9_begin 1 = .ok (.getfield 28, 3) := by decide +kernel
theorem dX9_begin_4 : decode cX9_begin 4 = .ok (.aload_n 0, 1) := by decide +kernel
theorem dX9_begin_5 : decode cX9_begin 5 = .ok (.getfield 31, 3) := by decide +kernel
theorem dX9_begin_8 : decode cX9_begin 8 = .ok (.invokestatic 125, 3) := by decide +kernel
theorem dX9_begin_11 : decode cX9_begin 11 = .ok (.aload_n 0, 1) := by decide +kernel
theorem dX9_begin_12 : decode cX9_begin 12 = .ok (.aload_n 0, 1) := by decide +kernel
theorem dX9_begin_13 : decode cX9_begin 13 = .ok (.getfield 110, 3) := by decide +kernel
theorem dX9_begin_16 : decode cX9_begin 16 = .ok (.putfield 129, 3) := by decide +kernel
theorem dX9_begin_19 : decode cX9_begin 19 = .ok (.return_, 1) := by decide +kernel
theorem dX9_thingThen_0 : decode cX9_thingThen 0 = .ok (.aload_n 0, 1) := by decide +kernel
theorem dX9_thingThen_1 : decode cX9_thingThen 1 = .ok (.getfield 116, 3) := by decide +kernel
theorem dX9_thingThen_4 : decode cX9_thingThen 4 = .ok (.iload_n 1, 1) := by decide +kernel
theorem dX9_thingThen_5 : decode cX9_thingThen 5 = .ok (.ishr, 1) := by decide +kernel
theorem dX9_thingThen_6 : decode cX9_thingThen 6 = .ok (.iconst 1, 1) := by decide +kernel
theorem dX9_thingThen_7 : decode cX9_thingThen 7 = .ok (.iand, 1) := by decide +kernel
theorem dX9_thingThen_8 : decode cX9_thingThen 8 = .ok (.iconst 1, 1) := by decide +kernel
theorem dX9_thingThen_9 : decode cX9_thingThen 9 = .ok (.if_icmp .ne 7, 3) := by decide +kernel
theorem dX9_thingThen_12 : decode cX9_thingThen 12 = .ok (.iconst 0, 1) := by decide +kernel
theorem dX9_thingThen_13 : decode cX9_thingThen 13 = .ok (.goto 22, 3) := by decide +kernel
theorem dX9_thingThen_16 : decode cX9_thingThen 16 = .ok (.aload_n 0, 1) := by decide +kernel
theorem dX9_thingThen_17 : decode cX9_thingThen 17 = .ok (.getfield 22, 3) := by decide +kernel
theorem dX9_thingThen_20 : decode cX9_thingThen 20 = .ok (.iload_n 1, 1) := by decide +kernel
theorem dX9_thingThen_21 : decode cX9_thingThen 21 = .ok (.iaload, 1) := by decide +kernel
theorem dX9_thingThen_22 : decode cX9_thingThen 22 = .ok (.aload_n 0, 1) := by decide +kernel
theorem dX9_thingThen_23 : decode cX9_thingThen 23 = .ok (.getfield 25, 3) := by decide +kernel
theorem dX9_thingThen_26 : decode cX9_thingThen 26 = .ok (.iload_n 1, 1) := by decide +kernel
theorem dX9_thingThen_27 : decode cX9_thingThen 27 = .ok (.iaload, 1) := by decide +kernel
theorem dX9_thingThen_28 : decode cX9_thingThen 28 = .ok (.aload_n 0, 1) := by decide +kernel
theorem dX9_thingThen_29 : decode cX9_thingThen 29 = .ok (.getfield 129, 3) := by decide +kernel
theorem dX9_thingThen_32 : decode cX9_thingThen 32 = .ok (.invokestatic 132, 3) := by decide +kernel
theorem dX9_thingThen_35 : decode cX9_thingThen 35 = .ok (.ireturn, 1) := by decide +kernel
theorem dX9_hungThen_0 : decode cX9_hungThen 0 = .ok (.aload_n 0, 1) := by decide +kernel
theorem dX9_hungThen_1 : decode cX9_hungThen 1 = .ok (.getfield 16, 3) := by decide +kernel
theorem dX9_hungThen_4 : decode cX9_hungThen 4 = .ok (.iload_n 1, 1) := by decide +kernel
theorem dX9_hungThen_5 : decode cX9_hungThen 5 = .ok (.iaload, 1) := by decide +kernel
theorem dX9_hungThen_6 : decode cX9_hungThen 6 = .ok (.istore_n 2, 1) := by decide +kernel
theorem dX9_hungThen_7 : decode cX9_hungThen 7 = .ok (.iload_n 2, 1) := by decide +kernel
theorem dX9_hungThen_8 : decode cX9_hungThen 8 = .ok (.bipush 10, 2) := by decide +kernel
theorem dX9_hungThen_10 : decode cX9_hungThen 10 = .ok (.if_icmp .lt 17, 3) := by decide +kernel
theorem dX9_hungThen_13 : decode cX9_hungThen 13 = .ok (.aload_n 0, 1) := by decide +kernel
theorem dX9_hungThen_14 : decode cX9_hungThen 14 = .ok (.aload_n 0, 1) := by decide +kernel
theorem dX9_hungThen_15 : decode cX9_hungThen 15 = .ok (.getfield 31, 3) := by decide +kernel
theorem dX9_hungThen_18 : decode cX9_hungThen 18 = .ok (.iload_n 2, 1) := by decide +kernel
theorem dX9_hungThen_19 : decode cX9_hungThen 19 = .ok (.bipush 10, 2) := by decide +kernel
theorem dX9_hungThen_21 : decode cX9_hungThen 21 = .ok (.isub, 1) := by decide +kernel
theorem dX9_hungThen_22 : decode cX9_hungThen 22 = .ok (.iaload, 1) := by decide +kernel
theorem dX9_hungThen_23 : decode cX9_hungThen 23 = .ok (.invokevirtual 136, 3) := by decide +kernel
theorem dX9_hungThen_26 : decode cX9_hungThen 26 = .ok (.ireturn, 1) := by decide +kernel
theorem dX9_hungThen_27 : decode cX9_hungThen 27 = .ok (.aload_n 0, 1) := by decide +kernel
theorem dX9_hungThen_28 : decode cX9_hungThen 28 = .ok (.getfield 113, 3) := by decide +kernel
theorem dX9_hungThen_31 : decode cX9_hungThen 31 = .ok (.iload_n 2, 1) := by decide +kernel
theorem dX9_hungThen_32 : decode cX9_hungThen 32 = .ok (.ishr, 1) := by decide +kernel
theorem dX9_hungThen_33 : decode cX9_hungThen 33 = .ok (.iconst 1, 1) := by decide +kernel
theorem dX9_hungThen_34 : decode cX9_hungThen 34 = .ok (.iand, 1) := by decide +kernel
theorem dX9_hungThen_35 : decode cX9_hungThen 35 = .ok (.iconst 1, 1) := by decide +kernel
theorem dX9_hungThen_36 : decode cX9_hungThen 36 = .ok (.if_icmp .ne 7, 3) := by decide +kernel
theorem dX9_hungThen_39 : decode cX9_hungThen 39 = .ok (.iconst 0, 1) := by decide +kernel
theorem dX9_hungThen_40 : decode cX9_hungThen 40 = .ok (.goto 9, 3) := by decide +kernel
theorem dX9_hungThen_43 : decode cX9_hungThen 43 = .ok (.aload_n 0, 1) := by decide +kernel
theorem dX9_hungThen_44 : decode cX9_hungThen 44 = .ok (.getfield 34, 3) := by decide +kernel
theorem dX9_hungThen_47 : decode cX9_hungThen 47 = .ok (.iload_n 2, 1) := by decide +kernel
theorem dX9_hungThen_48 : decode cX9_hungThen 48 = .ok (.iaload, 1) := by decide +kernel
theorem dX9_hungThen_49 : decode cX9_hungThen 49 = .ok (.ireturn, 1) := by decide +kernel
theorem dX9_layTilts_0 : decode cX9_layTilts 0 = .ok (.aload_n 0, 1) := by decide +kernel
theorem dX9_layTilts_1 : decode cX9_layTilts 1 = .ok (.getfield 104, 3) := by decide +kernel
theorem dX9_layTilts_4 : decode cX9_layTilts 4 = .ok (.iconst 1, 1) := by decide +kernel
theorem dX9_layTilts_5 : decode cX9_layTilts 5 = .ok (.isub, 1) := by decide +kernel
theorem dX9_layTilts_6 : decode cX9_layTilts 6 = .ok (.istore_n 1, 1) := by decide +kernel
theorem dX9_layTilts_7 : decode cX9_layTilts 7 = .ok (.iload_n 1, 1) := by decide +kernel
theorem dX9_layTilts_8 : decode cX9_layTilts 8 = .ok (.ifCond .lt 65, 3) := by decide +kernel
theorem dX9_layTilts_11 : decode cX9_layTilts 11 = .ok (.aload_n 0, 1) := by decide +kernel
theorem dX9_layTilts_12 : decode cX9_layTilts 12 = .ok (.iconst 2, 1) := by decide +kernel
theorem dX9_layTilts_13 : decode cX9_layTilts 13 = .ok (.iload_n 1, 1) := by decide +kernel
theorem dX9_layTilts_14 : decode cX9_layTilts 14 = .ok (.imul, 1) := by decide +kernel
theorem dX9_layTilts_15 : decode cX9_layTilts 15 = .ok (.invokevirtual 139, 3) := by decide +kernel
theorem dX9_layTilts_18 : decode cX9_layTilts 18 = .ok (.istore_n 2, 1) := by decide +kernel
theorem dX9_layTilts_19 : decode cX9_layTilts 19 = .ok (.aload_n 0, 1) := by decide +kernel
theorem dX9_layTilts_20 : decode cX9_layTilts 20 = .ok (.iconst 2, 1) := by decide +kernel
theorem dX9_layTilts_21 : decode cX9_layTilts 21 = .ok (.iload_n 1, 1) := by decide +kernel
theorem dX9_layTilts_22 : decode cX9_layTilts 22 = .ok (.imul, 1) := by decide +kernel
theorem dX9_layTilts_23 : decode cX9_layTilts 23 = .ok (.iconst 1, 1) := by decide +kernel
theorem dX9_layTilts_24 : decode cX9_layTilts 24 = .ok (.iadd, 1) := by decide +kernel
theorem dX9_layTilts_25 : decode cX9_layTilts 25 = .ok (.invokevirtual 139, 3) := by decide +kernel
theorem dX9_layTilts_28 : decode cX9_layTilts 28 = .ok (.istore_n 3, 1) := by decide +kernel
theorem dX9_layTilts_29 : decode cX9_layTilts 29 = .ok (.aload_n 0, 1) := by decide +kernel
theorem dX9_layTilts_30 : decode cX9_layTilts 30 = .ok (.getfield 34, 3) := by decide +kernel
theorem dX9_layTilts_33 : decode cX9_layTilts 33 = .ok (.iload_n 1, 1) := by decide +kernel
theorem dX9_layTilts_34 : decode cX9_layTilts 34 = .ok (.iload_n 2, 1) := by decide +kernel
theorem dX9_layTilts_35 : decode cX9_layTilts 35 = .ok (.iload_n 3, 1) := by decide +kernel
theorem dX9_layTilts_36 : decode cX9_layTilts 36 = .ok (.iadd, 1) := by decide +kernel
theorem dX9_layTilts_37 : decode cX9_layTilts 37 = .ok (.iastore, 1) := by decide +kernel
theorem dX9_layTilts_38 : decode cX9_layTilts 38 = .ok (.aload_n 0, 1) := by decide +kernel
theorem dX9_layTilts_39 : decode cX9_layTilts 39 = .ok (.getfield 37, 3) := by decide +kernel
theorem dX9_layTilts_42 : decode cX9_layTilts 42 = .ok (.iload_n 1, 1) := by decide +kernel
theorem dX9_layTilts_43 : decode cX9_layTilts 43 = .ok (.iload_n 3, 1) := by decide +kernel
theorem dX9_layTilts_44 : decode cX9_layTilts 44 = .ok (.aload_n 0, 1) := by decide +kernel
theorem dX9_layTilts_45 : decode cX9_layTilts 45 = .ok (.getfield 13, 3) := by decide +kernel
theorem dX9_layTilts_48 : decode cX9_layTilts 48 = .ok (.iconst 2, 1) := by decide +kernel
theorem dX9_layTilts_49 : decode cX9_layTilts 49 = .ok (.iload_n 1, 1) := by decide +kernel
theorem dX9_layTilts_50 : decode cX9_layTilts 50 = .ok (.imul, 1) := by decide +kernel
theorem dX9_layTilts_51 : decode cX9_layTilts 51 = .ok (.iconst 1, 1) := by decide +kernel
theorem dX9_layTilts_52 : decode cX9_layTilts 52 = .ok (.iadd, 1) := by decide +kernel
theorem dX9_layTilts_53 : decode cX9_layTilts 53 = .ok (.iaload, 1) := by decide +kernel
theorem dX9_layTilts_54 : decode cX9_layTilts 54 = .ok (.imul, 1) := by decide +kernel
theorem dX9_layTilts_55 : decode cX9_layTilts 55 = .ok (.iload_n 2, 1) := by decide +kernel
theorem dX9_layTilts_56 : decode cX9_layTilts 56 = .ok (.aload_n 0, 1) := by decide +kernel
theorem dX9_layTilts_57 : decode cX9_layTilts 57 = .ok (.getfield 13, 3) := by decide +kernel
theorem dX9_layTilts_60 : decode cX9_layTilts 60 = .ok (.iconst 2, 1) := by decide +kernel
theorem dX9_layTilts_61 : decode cX9_layTilts 61 = .ok (.iload_n 1, 1) := by decide +kernel
theorem dX9_layTilts_62 : decode cX9_layTilts 62 = .ok (.imul, 1) := by decide +kernel
theorem dX9_layTilts_63 : decode cX9_layTilts 63 = .ok (.iaload, 1) := by decide +kernel
theorem dX9_layTilts_64 : decode cX9_layTilts 64 = .ok (.imul, 1) := by decide +kernel
theorem dX9_layTilts_65 : decode cX9_layTilts 65 = .ok (.isub, 1) := by decide +kernel
theorem dX9_layTilts_66 : decode cX9_layTilts 66 = .ok (.iastore, 1) := by decide +kernel
theorem dX9_layTilts_67 : decode cX9_layTilts 67 = .ok (.iinc 1 (-1), 3) := by decide +kernel
theorem dX9_layTilts_70 : decode cX9_layTilts 70 = .ok (.goto (-63), 3) := by decide +kernel
theorem dX9_layTilts_73 : decode cX9_layTilts 73 = .ok (.return_, 1) := by decide +kernel
theorem dX9_there_0 : decode cX9_there 0 = .ok (.aload_n 0, 1) := by decide +kernel
theorem dX9_there_1 : decode cX9_there 1 = .ok (.getfield 104, 3) := by decide +kernel
theorem dX9_there_4 : decode cX9_there 4 = .ok (.ifCond .le 7, 3) := by decide +kernel
theorem dX9_there_7 : decode cX9_there 7 = .ok (.iconst 1, 1) := by decide +kernel
theorem dX9_there_8 : decode cX9_there 8 = .ok (.goto 4, 3) := by decide +kernel
theorem dX9_there_11 : decode cX9_there 11 = .ok (.iconst 0, 1) := by decide +kernel
theorem dX9_there_12 : decode cX9_there 12 = .ok (.istore_n 1, 1) := by decide +kernel
theorem dX9_there_13 : decode cX9_there 13 = .ok (.iconst 0, 1) := by decide +kernel
theorem dX9_there_14 : decode cX9_there 14 = .ok (.istore_n 2, 1) := by decide +kernel
theorem dX9_there_15 : decode cX9_there 15 = .ok (.iload_n 2, 1) := by decide +kernel
theorem dX9_there_16 : decode cX9_there 16 = .ok (.iconst 2, 1) := by decide +kernel
theorem dX9_there_17 : decode cX9_there 17 = .ok (.aload_n 0, 1) := by decide +kernel
theorem dX9_there_18 : decode cX9_there 18 = .ok (.getfield 104, 3) := by decide +kernel
theorem dX9_there_21 : decode cX9_there 21 = .ok (.imul, 1) := by decide +kernel
theorem dX9_there_22 : decode cX9_there 22 = .ok (.if_icmp .ge 66, 3) := by decide +kernel
theorem dX9_there_25 : decode cX9_there 25 = .ok (.aload_n 0, 1) := by decide +kernel
theorem dX9_there_26 : decode cX9_there 26 = .ok (.getfield 16, 3) := by decide +kernel
theorem dX9_there_29 : decode cX9_there 29 = .ok (.iload_n 2, 1) := by decide +kernel
theorem dX9_there_30 : decode cX9_there 30 = .ok (.iaload, 1) := by decide +kernel
theorem dX9_there_31 : decode cX9_there 31 = .ok (.istore_n 3, 1) := by decide +kernel
theorem dX9_there_32 : decode cX9_there 32 = .ok (.iload_n 3, 1) := by decide +kernel
theorem dX9_there_33 : decode cX9_there 33 = .ok (.bipush 10, 2) := by decide +kernel
theorem dX9_there_35 : decode cX9_there 35 = .ok (.if_icmp .ge 29, 3) := by decide +kernel
theorem dX9_there_38 : decode cX9_there 38 = .ok (.iload_n 1, 1) := by decide +kernel
theorem dX9_there_39 : decode cX9_there 39 = .ok (.iload_n 2, 1) := by decide +kernel
theorem dX9_there_40 : decode cX9_there 40 = .ok (.iconst 2, 1) := by decide +kernel
theorem dX9_there_41 : decode cX9_there 41 = .ok (.idiv, 1) := by decide +kernel
theorem dX9_there_42 : decode cX9_there 42 = .ok (.ishr, 1) := by decide +kernel
theorem dX9_there_43 : decode cX9_there 43 = .ok (.iconst 1, 1) := by decide +kernel
theorem dX9_there_44 : decode cX9_there 44 = .ok (.iand, 1) := by decide +kernel
theorem dX9_there_45 : decode cX9_there 45 = .ok (.iconst 1, 1) := by decide +kernel
theorem dX9_there_46 : decode cX9_there 46 = .ok (.if_icmp .ne 18, 3) := by decide +kernel
theorem dX9_there_49 : decode cX9_there 49 = .ok (.aload_n 0, 1) := by decide +kernel
theorem dX9_there_50 : decode cX9_there 50 = .ok (.getfield 113, 3) := by decide +kernel
theorem dX9_there_53 : decode cX9_there 53 = .ok (.iload_n 3, 1) := by decide +kernel
theorem dX9_there_54 : decode cX9_there 54 = .ok (.ishr, 1) := by decide +kernel
theorem dX9_there_55 : decode cX9_there 55 = .ok (.iconst 1, 1) := by decide +kernel
theorem dX9_there_56 : decode cX9_there 56 = .ok (.iand, 1) := by decide +kernel
theorem dX9_there_57 : decode cX9_there 57 = .ok (.ifCond .ne 7, 3) := by decide +kernel
theorem dX9_there_60 : decode cX9_there 60 = .ok (.iconst 1, 1) := by decide +kernel
theorem dX9_there_61 : decode cX9_there 61 = .ok (.goto 4, 3) := by decide +kernel
theorem dX9_there_64 : decode cX9_there 64 = .ok (.iconst 0, 1) := by decide +kernel
theorem dX9_there_65 : decode cX9_there 65 = .ok (.istore 4, 2) := by decide +kernel
theorem dX9_there_67 : decode cX9_there 67 = .ok (.iload_n 1, 1) := by decide +kernel
theorem dX9_there_68 : decode cX9_there 68 = .ok (.iload 4, 2) := by decide +kernel
theorem dX9_there_70 : decode cX9_there 70 = .ok (.ifCond .eq 9, 3) := by decide +kernel
theorem dX9_there_73 : decode cX9_there 73 = .ok (.iconst 1, 1) := by decide +kernel
theorem dX9_there_74 : decode cX9_there 74 = .ok (.iload_n 3, 1) := by decide +kernel
theorem dX9_there_75 : decode cX9_there 75 = .ok (.ishl, 1) := by decide +kernel
theorem dX9_there_76 : decode cX9_there 76 = .ok (.goto 4, 3) := by decide +kernel
theorem dX9_there_79 : decode cX9_there 79 = .ok (.iconst 0, 1) := by decide +kernel
theorem dX9_there_80 : decode cX9_there 80 = .ok (.ior, 1) := by decide +kernel
theorem dX9_there_81 : decode cX9_there 81 = .ok (.istore_n 1, 1) := by decide +kernel
theorem dX9_there_82 : decode cX9_there 82 = .ok (.iinc 2 1, 3) := by decide +kernel
theorem dX9_there_85 : decode cX9_there 85 = .ok (.goto (-70), 3) := by decide +kernel
theorem dX9_there_88 : decode cX9_there 88 = .ok (.iload_n 1, 1) := by decide +kernel
theorem dX9_there_89 : decode cX9_there 89 = .ok (.ireturn, 1) := by decide +kernel
theorem dX9_levelThen_0 : decode cX9_levelThen 0 = .ok (.aload_n 0, 1) := by decide +kernel
theorem dX9_levelThen_1 : decode cX9_levelThen 1 = .ok (.invokevirtual 142, 3) := by decide +kernel
theorem dX9_levelThen_4 : decode cX9_levelThen 4 = .ok (.aload_n 0, 1) := by decide +kernel
theorem dX9_levelThen_5 : decode cX9_levelThen 5 = .ok (.invokevirtual 145, 3) := by decide +kernel
theorem dX9_levelThen_8 : decode cX9_levelThen 8 = .ok (.istore_n 1, 1) := by decide +kernel
theorem dX9_levelThen_9 : decode cX9_levelThen 9 = .ok (.iconst 0, 1) := by decide +kernel
theorem dX9_levelThen_10 : decode cX9_levelThen 10 = .ok (.istore_n 2, 1) := by decide +kernel
theorem dX9_levelThen_11 : decode cX9_levelThen 11 = .ok (.iconst 0, 1) := by decide +kernel
theorem dX9_levelThen_12 : decode cX9_levelThen 12 = .ok (.istore_n 3, 1) := by decide +kernel
theorem dX9_levelThen_13 : decode cX9_levelThen 13 = .ok (.iload_n 3, 1) := by decide +kernel
theorem dX9_levelThen_14 : decode cX9_levelThen 14 = .ok (.aload_n 0, 1) := by decide +kernel
theorem dX9_levelThen_15 : decode cX9_levelThen 15 = .ok (.getfield 104, 3) := by decide +kernel
theorem dX9_levelThen_18 : decode cX9_levelThen 18 = .ok (.if_icmp .ge 35, 3) := by decide +kernel
theorem dX9_levelThen_21 : decode cX9_levelThen 21 = .ok (.iload_n 2, 1) := by decide +kernel
theorem dX9_levelThen_22 : decode cX9_levelThen 22 = .ok (.iload_n 1, 1) := by decide +kernel
theorem dX9_levelThen_23 : decode cX9_levelThen 23 = .ok (.iload_n 3, 1) := by decide +kernel
theorem dX9_levelThen_24 : decode cX9_levelThen 24 = .ok (.ishr, 1) := by decide +kernel
theorem dX9_levelThen_25 : decode cX9_levelThen 25 = .ok (.iconst 1, 1) := by decide +kernel
theorem dX9_levelThen_26 : decode cX9_levelThen 26 = .ok (.iand, 1) := by decide +kernel
theorem dX9_levelThen_27 : decode cX9_levelThen 27 = .ok (.iconst 1, 1) := by decide +kernel
theorem dX9_levelThen_28 : decode cX9_levelThen 28 = .ok (.if_icmp .ne 16, 3) := by decide +kernel
theorem dX9_levelThen_31 : decode cX9_levelThen 31 = .ok (.aload_n 0, 1) := by decide +kernel
theorem dX9_levelThen_32 : decode cX9_levelThen 32 = .ok (.getfield 37, 3) := by decide +kernel
theorem dX9_levelThen_35 : decode cX9_levelThen 35 = .ok (.iload_n 3, 1) := by decide +kernel
theorem dX9_levelThen_36 : decode cX9_levelThen 36 = .ok (.iaload, 1) := by decide +kernel
theorem dX9_levelThen_37 : decode cX9_levelThen 37 = .ok (.ifCond .ne 7, 3) := by decide +kernel
theorem dX9_levelThen_40 : decode cX9_levelThen 40 = .ok (.iconst 1, 1) := by decide +kernel
theorem dX9_levelThen_41 : decode cX9_levelThen 41 = .ok (.goto 4, 3) := by decide +kernel
theorem dX9_levelThen_44 : decode cX9_levelThen 44 = .ok (.iconst 0, 1) := by decide +kernel
theorem dX9_levelThen_45 : decode cX9_levelThen 45 = .ok (.iadd, 1) := by decide +kernel
theorem dX9_levelThen_46 : decode cX9_levelThen 46 = .ok (.istore_n 2, 1) := by decide +kernel
theorem dX9_levelThen_47 : decode cX9_levelThen 47 = .ok (.iinc 3 1, 3) := by decide +kernel
theorem dX9_levelThen_50 : decode cX9_levelThen 50 = .ok (.goto (-37), 3) := by decide +kernel
theorem dX9_levelThen_53 : decode cX9_levelThen 53 = .ok (.iload_n 2, 1) := by decide +kernel
theorem dX9_levelThen_54 : decode cX9_levelThen 54 = .ok (.ireturn, 1) := by decide +kernel
theorem dX9_levelNow_0 : decode cX9_levelNow 0 = .ok (.aload_n 0, 1) := by decide +kernel
theorem dX9_levelNow_1 : decode cX9_levelNow 1 = .ok (.invokevirtual 148, 3) := by decide +kernel
theorem dX9_levelNow_4 : decode cX9_levelNow 4 = .ok (.aload_n 0, 1) := by decide +kernel
theorem dX9_levelNow_5 : decode cX9_levelNow 5 = .ok (.invokevirtual 151, 3) := by decide +kernel
theorem dX9_levelNow_8 : decode cX9_levelNow 8 = .ok (.ireturn, 1) := by decide +kernel
theorem dX9_ones_0 : decode cX9_ones 0 = .ok (.iconst 0, 1) := by decide +kernel
theorem dX9_ones_1 : decode cX9_ones 1 = .ok (.istore_n 1, 1) := by decide +kernel
theorem dX9_ones_2 : decode cX9_ones 2 = .ok (.iconst 0, 1) := by decide +kernel
theorem dX9_ones_3 : decode cX9_ones 3 = .ok (.istore_n 2, 1) := by decide +kernel
theorem dX9_ones_4 : decode cX9_ones 4 = .ok (.iload_n 2, 1) := by decide +kernel
theorem dX9_ones_5 : decode cX9_ones 5 = .ok (.bipush 10, 2) := by decide +kernel
theorem dX9_ones_7 : decode cX9_ones 7 = .ok (.if_icmp .ge 17, 3) := by decide +kernel
theorem dX9_ones_10 : decode cX9_ones 10 = .ok (.iload_n 1, 1) := by decide +kernel
theorem dX9_ones_11 : decode cX9_ones 11 = .ok (.iload_n 0, 1) := by decide +kernel
theorem dX9_ones_12 : decode cX9_ones 12 = .ok (.iload_n 2, 1) := by decide +kernel
theorem dX9_ones_13 : decode cX9_ones 13 = .ok (.ishr, 1) := by decide +kernel
theorem dX9_ones_14 : decode cX9_ones 14 = .ok (.iconst 1, 1) := by decide +kernel
theorem dX9_ones_15 : decode cX9_ones 15 = .ok (.iand, 1) := by decide +kernel
theorem dX9_ones_16 : decode cX9_ones 16 = .ok (.iadd, 1) := by decide +kernel
theorem dX9_ones_17 : decode cX9_ones 17 = .ok (.istore_n 1, 1) := by decide +kernel
theorem dX9_ones_18 : decode cX9_ones 18 = .ok (.iinc 2 1, 3) := by decide +kernel
theorem dX9_ones_21 : decode cX9_ones 21 = .ok (.goto (-17), 3) := by decide +kernel
theorem dX9_ones_24 : decode cX9_ones 24 = .ok (.iload_n 1, 1) := by decide +kernel
theorem dX9_ones_25 : decode cX9_ones 25 = .ok (.ireturn, 1) := by decide +kernel
theorem dX9_hookOf_0 : decode cX9_hookOf 0 = .ok (.aload_n 0, 1) := by decide +kernel
theorem dX9_hookOf_1 : decode cX9_hookOf 1 = .ok (.getfield 13, 3) := by decide +kernel
theorem dX9_hookOf_4 : decode cX9_hookOf 4 = .ok (.iconst 2, 1) := by decide +kernel
theorem dX9_hookOf_5 : decode cX9_hookOf 5 = .ok (.iload_n 1, 1) := by decide +kernel
theorem dX9_hookOf_6 : decode cX9_hookOf 6 = .ok (.imul, 1) := by decide +kernel
theorem dX9_hookOf_7 : decode cX9_hookOf 7 = .ok (.iaload, 1) := by decide +kernel
theorem dX9_hookOf_8 : decode cX9_hookOf 8 = .ok (.aload_n 0, 1) := by decide +kernel
theorem dX9_hookOf_9 : decode cX9_hookOf 9 = .ok (.getfield 13, 3) := by decide +kernel
theorem dX9_hookOf_12 : decode cX9_hookOf 12 = .ok (.iconst 2, 1) := by decide +kernel
theorem dX9_hookOf_13 : decode cX9_hookOf 13 = .ok (.iload_n 1, 1) := by decide +kernel
theorem dX9_hookOf_14 : decode cX9_hookOf 14 = .ok (.imul, 1) := by decide +kernel
theorem dX9_hookOf_15 : decode cX9_hookOf 15 = .ok (.iconst 1, 1) := by decide +kernel
theorem dX9_hookOf_16 : decode cX9_hookOf 16 = .ok (.iadd, 1) := by decide +kernel
theorem dX9_hookOf_17 : decode cX9_hookOf 17 = .ok (.iaload, 1) := by decide +kernel
theorem dX9_hookOf_18 : decode cX9_hookOf 18 = .ok (.iadd, 1) := by decide +kernel
theorem dX9_hookOf_19 : decode cX9_hookOf 19 = .ok (.istore_n 2, 1) := by decide +kernel
theorem dX9_hookOf_20 : decode cX9_hookOf 20 = .ok (.aload_n 0, 1) := by decide +kernel
theorem dX9_hookOf_21 : decode cX9_hookOf 21 = .ok (.iconst 2, 1) := by decide +kernel
theorem dX9_hookOf_22 : decode cX9_hookOf 22 = .ok (.iload_n 1, 1) := by decide +kernel
theorem dX9_hookOf_23 : decode cX9_hookOf 23 = .ok (.imul, 1) := by decide +kernel
theorem dX9_hookOf_24 : decode cX9_hookOf 24 = .ok (.invokevirtual 139, 3) := by decide +kernel
theorem dX9_hookOf_27 : decode cX9_hookOf 27 = .ok (.istore_n 3, 1) := by decide +kernel
theorem dX9_hookOf_28 : decode cX9_hookOf 28 = .ok (.aload_n 0, 1) := by decide +kernel
theorem dX9_hookOf_29 : decode cX9_hookOf 29 = .ok (.iconst 2, 1) := by decide +kernel
theorem dX9_hookOf_30 : decode cX9_hookOf 30 = .ok (.iload_n 1, 1) := by decide +kernel
theorem dX9_hookOf_31 : decode cX9_hookOf 31 = .ok (.imul, 1) := by decide +kernel
theorem dX9_hookOf_32 : decode cX9_hookOf 32 = .ok (.iconst 1, 1) := by decide +kernel
theorem dX9_hookOf_33 : decode cX9_hookOf 33 = .ok (.iadd, 1) := by decide +kernel
theorem dX9_hookOf_34 : decode cX9_hookOf 34 = .ok (.invokevirtual 139, 3) := by decide +kernel
theorem dX9_hookOf_37 : decode cX9_hookOf 37 = .ok (.istore 4, 2) := by decide +kernel
theorem dX9_hookOf_39 : decode cX9_hookOf 39 = .ok (.iconst 1, 1) := by decide +kernel
theorem dX9_hookOf_40 : decode cX9_hookOf 40 = .ok (.istore 5, 2) := by decide +kernel
theorem dX9_hookOf_42 : decode cX9_hookOf 42 = .ok (.iload 5, 2) := by decide +kernel
theorem dX9_hookOf_44 : decode cX9_hookOf 44 = .ok (.iload_n 2, 1) := by decide +kernel
theorem dX9_hookOf_45 : decode cX9_hookOf 45 = .ok (.if_icmp .ge 26, 3) := by decide +kernel
theorem dX9_hookOf_48 : decode cX9_hookOf 48 = .ok (.iload 4, 2) := by decide +kernel
theorem dX9_hookOf_50 : decode cX9_hookOf 50 = .ok (.iload_n 2, 1) := by decide +kernel
theorem dX9_hookOf_51 : decode cX9_hookOf 51 = .ok (.iload 5, 2) := by decide +kernel
theorem dX9_hookOf_53 : decode cX9_hookOf 53 = .ok (.isub, 1) := by decide +kernel
theorem dX9_hookOf_54 : decode cX9_hookOf 54 = .ok (.imul, 1) := by decide +kernel
theorem dX9_hookOf_55 : decode cX9_hookOf 55 = .ok (.iload_n 3, 1) := by decide +kernel
theorem dX9_hookOf_56 : decode cX9_hookOf 56 = .ok (.iload 5, 2) := by decide +kernel
theorem dX9_hookOf_58 : decode cX9_hookOf 58 = .ok (.imul, 1) := by decide +kernel
theorem dX9_hookOf_59 : decode cX9_hookOf 59 = .ok (.if_icmp .ne 6, 3) := by decide +kernel
theorem dX9_hookOf_62 : decode cX9_hookOf 62 = .ok (.iload 5, 2) := by decide +kernel
theorem dX9_hookOf_64 : decode cX9_hookOf 64 = .ok (.ireturn, 1) := by decide +kernel
theorem dX9_hookOf_65 : decode cX9_hookOf 65 = .ok (.iinc 5 1, 3) := by decide +kernel
theorem dX9_hookOf_68 : decode cX9_hookOf 68 = .ok (.goto (-26), 3) := by decide +kernel
theorem dX9_hookOf_71 : decode cX9_hookOf 71 = .ok (.iconst (-1), 1) := by decide +kernel
theorem dX9_hookOf_72 : decode cX9_hookOf 72 = .ok (.ireturn, 1) := by decide +kernel
theorem dX9_addOf_0 : decode cX9_addOf 0 = .ok (.iconst 0, 1) := by decide +kernel
theorem dX9_addOf_1 : decode cX9_addOf 1 = .ok (.istore_n 2, 1) := by decide +kernel
theorem dX9_addOf_2 : decode cX9_addOf 2 = .ok (.iload_n 2, 1) := by decide +kernel
theorem dX9_addOf_3 : decode cX9_addOf 3 = .ok (.bipush 31, 2) := by decide +kernel
theorem dX9_addOf_5 : decode cX9_addOf 5 = .ok (.if_icmp .ge 57, 3) := by decide +kernel
theorem dX9_addOf_8 : decode cX9_addOf 8 = .ok (.aload_n 0, 1) := by decide +kernel
theorem dX9_addOf_9 : decode cX9_addOf 9 = .ok (.getfield 37, 3) := by decide +kernel
theorem dX9_addOf_12 : decode cX9_addOf 12 = .ok (.iload_n 1, 1) := by decide +kernel
theorem dX9_addOf_13 : decode cX9_addOf 13 = .ok (.iaload, 1) := by decide +kernel
theorem dX9_addOf_14 : decode cX9_addOf 14 = .ok (.iload_n 2, 1) := by decide +kernel
theorem dX9_addOf_15 : decode cX9_addOf 15 = .ok (.aload_n 0, 1) := by decide +kernel
theorem dX9_addOf_16 : decode cX9_addOf 16 = .ok (.getfield 13, 3) := by decide +kernel
theorem dX9_addOf_19 : decode cX9_addOf 19 = .ok (.iconst 2, 1) := by decide +kernel
theorem dX9_addOf_20 : decode cX9_addOf 20 = .ok (.iload_n 1, 1) := by decide +kernel
theorem dX9_addOf_21 : decode cX9_addOf 21 = .ok (.imul, 1) := by decide +kernel
theorem dX9_addOf_22 : decode cX9_addOf 22 = .ok (.iconst 1, 1) := by decide +kernel
theorem dX9_addOf_23 : decode cX9_addOf 23 = .ok (.iadd, 1) := by decide +kernel
theorem dX9_addOf_24 : decode cX9_addOf 24 = .ok (.iaload, 1) := by decide +kernel
theorem dX9_addOf_25 : decode cX9_addOf 25 = .ok (.imul, 1) := by decide +kernel
theorem dX9_addOf_26 : decode cX9_addOf 26 = .ok (.iadd, 1) := by decide +kernel
theorem dX9_addOf_27 : decode cX9_addOf 27 = .ok (.ifCond .ne 5, 3) := by decide +kernel
theorem dX9_addOf_30 : decode cX9_addOf 30 = .ok (.iload_n 2, 1) := by decide +kernel
theorem dX9_addOf_31 : decode cX9_addOf 31 = .ok (.ireturn, 1) := by decide +kernel
theorem dX9_addOf_32 : decode cX9_addOf 32 = .ok (.aload_n 0, 1) := by decide +kernel
theorem dX9_addOf_33 : decode cX9_addOf 33 = .ok (.getfield 37, 3) := by decide +kernel
theorem dX9_addOf_36 : decode cX9_addOf 36 = .ok (.iload_n 1, 1) := by decide +kernel
theorem dX9_addOf_37 : decode cX9_addOf 37 = .ok (.iaload, 1) := by decide +kernel
theorem dX9_addOf_38 : decode cX9_addOf 38 = .ok (.iload_n 2, 1) := by decide +kernel
theorem dX9_addOf_39 : decode cX9_addOf 39 = .ok (.aload_n 0, 1) := by decide +kernel
theorem dX9_addOf_40 : decode cX9_addOf 40 = .ok (.getfield 13, 3) := by decide +kernel
theorem dX9_addOf_43 : decode cX9_addOf 43 = .ok (.iconst 2, 1) := by decide +kernel
theorem dX9_addOf_44 : decode cX9_addOf 44 = .ok (.iload_n 1, 1) := by decide +kernel
theorem dX9_addOf_45 : decode cX9_addOf 45 = .ok (.imul, 1) := by decide +kernel
theorem dX9_addOf_46 : decode cX9_addOf 46 = .ok (.iaload, 1) := by decide +kernel
theorem dX9_addOf_47 : decode cX9_addOf 47 = .ok (.imul, 1) := by decide +kernel
theorem dX9_addOf_48 : decode cX9_addOf 48 = .ok (.isub, 1) := by decide +kernel
theorem dX9_addOf_49 : decode cX9_addOf 49 = .ok (.ifCond .ne 7, 3) := by decide +kernel
theorem dX9_addOf_52 : decode cX9_addOf 52 = .ok (.iconst 0, 1) := by decide +kernel
theorem dX9_addOf_53 : decode cX9_addOf 53 = .ok (.iload_n 2, 1) := by decide +kernel
theorem dX9_addOf_54 : decode cX9_addOf 54 = .ok (.isub, 1) := by decide +kernel
theorem dX9_addOf_55 : decode cX9_addOf 55 = .ok (.ireturn, 1) := by decide +kernel
theorem dX9_addOf_56 : decode cX9_addOf 56 = .ok (.iinc 2 1, 3) := by decide +kernel
theorem dX9_addOf_59 : decode cX9_addOf 59 = .ok (.goto (-57), 3) := by decide +kernel
theorem dX9_addOf_62 : decode cX9_addOf 62 = .ok (.bipush 99, 2) := by decide +kernel
theorem dX9_addOf_64 : decode cX9_addOf 64 = .ok (.ireturn, 1) := by decide +kernel
theorem dX9_hangsOf_0 : decode cX9_hangsOf 0 = .ok (.aload_n 0, 1) := by decide +kernel
theorem dX9_hangsOf_1 : decode cX9_hangsOf 1 = .ok (.getfield 16, 3) := by decide +kernel
theorem dX9_hangsOf_4 : decode cX9_hangsOf 4 = .ok (.iload_n 1, 1) := by decide +kernel
theorem dX9_hangsOf_5 : decode cX9_hangsOf 5 = .ok (.iaload, 1) := by decide +kernel
theorem dX9_hangsOf_6 : decode cX9_hangsOf 6 = .ok (.bipush 10, 2) := by decide +kernel
theorem dX9_hangsOf_8 : decode cX9_hangsOf 8 = .ok (.if_icmp .ge 12, 3) := by decide +kernel
theorem dX9_hangsOf_11 : decode cX9_hangsOf 11 = .ok (.aload_n 0, 1) := by decide +kernel
theorem dX9_hangsOf_12 : decode cX9_hangsOf 12 = .ok (.getfield 16, 3) := by decide +kernel
theorem dX9_hangsOf_15 : decode cX9_hangsOf 15 = .ok (.iload_n 1, 1) := by decide +kernel
theorem dX9_hangsOf_16 : decode cX9_hangsOf 16 = .ok (.iaload, 1) := by decide +kernel
theorem dX9_hangsOf_17 : decode cX9_hangsOf 17 = .ok (.goto 20, 3) := by decide +kernel
theorem dX9_hangsOf_20 : decode cX9_hangsOf 20 = .ok (.bipush 10, 2) := by decide +kernel
theorem dX9_hangsOf_22 : decode cX9_hangsOf 22 = .ok (.aload_n 0, 1) := by decide +kernel
theorem dX9_hangsOf_23 : decode cX9_hangsOf 23 = .ok (.getfield 28, 3) := by decide +kernel
theorem dX9_hangsOf_26 : decode cX9_hangsOf 26 = .ok (.aload_n 0, 1) := by decide +kernel
theorem dX9_hangsOf_27 : decode cX9_hangsOf 27 = .ok (.getfield 16, 3) := by decide +kernel
theorem dX9_hangsOf_30 : decode cX9_hangsOf 30 = .ok (.iload_n 1, 1) := by decide +kernel
theorem dX9_hangsOf_31 : decode cX9_hangsOf 31 = .ok (.iaload, 1) := by decide +kernel
theorem dX9_hangsOf_32 : decode cX9_hangsOf 32 = .ok (.bipush 10, 2) := by decide +kernel
theorem dX9_hangsOf_34 : decode cX9_hangsOf 34 = .ok (.isub, 1) := by decide +kernel
theorem dX9_hangsOf_35 : decode cX9_hangsOf 35 = .ok (.iaload, 1) := by decide +kernel
theorem dX9_hangsOf_36 : decode cX9_hangsOf 36 = .ok (.iadd, 1) := by decide +kernel
theorem dX9_hangsOf_37 : decode cX9_hangsOf 37 = .ok (.ireturn, 1) := by decide +kernel
theorem dX9_tellRod_0 : decode cX9_tellRod 0 = .ok (.aload_n 0, 1) := by decide +kernel
theorem dX9_tellRod_1 : decode cX9_tellRod 1 = .ok (.invokevirtual 148, 3) := by decide +kernel
theorem dX9_tellRod_4 : decode cX9_tellRod 4 = .ok (.aload_n 0, 1) := by decide +kernel
theorem dX9_tellRod_5 : decode cX9_tellRod 5 = .ok (.invokevirtual 142, 3) := by decide +kernel
theorem dX9_tellRod_8 : decode cX9_tellRod 8 = .ok (.iload_n 2, 1) := by decide +kernel
theorem dX9_tellRod_9 : decode cX9_tellRod 9 = .ok (.tableswitch 145 0 10 #[59, 59, 70, 70, 82, 82, 98, 109, 124, 133, 139], 59) := by decide +kernel
theorem dX9_tellRod_68 : decode cX9_tellRod 68 = .ok (.aload_n 0, 1) := by decide +kernel
theorem dX9_tellRod_69 : decode cX9_tellRod 69 = .ok (.getfield 13, 3) := by decide +kernel
theorem dX9_tellRod_72 : decode cX9_tellRod 72 = .ok (.iconst 2, 1) := by decide +kernel
theorem dX9_tellRod_73 : decode cX9_tellRod 73 = .ok (.iload_n 1, 1) := by decide +kernel
theorem dX9_tellRod_74 : decode cX9_tellRod 74 = .ok (.imul, 1) := by decide +kernel
theorem dX9_tellRod_75 : decode cX9_tellRod 75 = .ok (.iload_n 2, 1) := by decide +kernel
theorem dX9_tellRod_76 : decode cX9_tellRod 76 = .ok (.iadd, 1) := by decide +kernel
theorem dX9_tellRod_77 : decode cX9_tellRod 77 = .ok (.iaload, 1) := by decide +kernel
theorem dX9_tellRod_78 : decode cX9_tellRod 78 = .ok (.ireturn, 1) := by decide +kernel
theorem dX9_tellRod_79 : decode cX9_tellRod 79 = .ok (.aload_n 0, 1) := by decide +kernel
theorem dX9_tellRod_80 : decode cX9_tellRod 80 = .ok (.iconst 2, 1) := by decide +kernel
theorem dX9_tellRod_81 : decode cX9_tellRod 81 = .ok (.iload_n 1, 1) := by decide +kernel
theorem dX9_tellRod_82 : decode cX9_tellRod 82 = .ok (.imul, 1) := by decide +kernel
theorem dX9_tellRod_83 : decode cX9_tellRod 83 = .ok (.iload_n 2, 1) := by decide +kernel
theorem dX9_tellRod_84 : decode cX9_tellRod 84 = .ok (.iadd, 1) := by decide +kernel
theorem dX9_tellRod_85 : decode cX9_tellRod 85 = .ok (.iconst 2, 1) := by decide +kernel
theorem dX9_tellRod_86 : decode cX9_tellRod 86 = .ok (.isub, 1) := by decide +kernel
theorem dX9_tellRod_87 : decode cX9_tellRod 87 = .ok (.invokevirtual 154, 3) := by decide +kernel
theorem dX9_tellRod_90 : decode cX9_tellRod 90 = .ok (.ireturn, 1) := by decide +kernel
theorem dX9_tellRod_91 : decode cX9_tellRod 91 = .ok (.sipush 10000, 3) := by decide +kernel
theorem dX9_tellRod_94 : decode cX9_tellRod 94 = .ok (.aload_n 0, 1) := by decide +kernel
theorem dX9_tellRod_95 : decode cX9_tellRod 95 = .ok (.iconst 2, 1) := by decide +kernel
theorem dX9_tellRod_96 : decode cX9_tellRod 96 = .ok (.iload_n 1, 1) := by decide +kernel
theorem dX9_tellRod_97 : decode cX9_tellRod 97 = .ok (.imul, 1) := by decide +kernel
theorem dX9_tellRod_98 : decode cX9_tellRod 98 = .ok (.iload_n 2, 1) := by decide +kernel
theorem dX9_tellRod_99 : decode cX9_tellRod 99 = .ok (.iadd, 1) := by decide +kernel
theorem dX9_tellRod_100 : decode cX9_tellRod 100 = .ok (.iconst 4, 1) := by decide +kernel
theorem dX9_tellRod_101 : decode cX9_tellRod 101 = .ok (.isub, 1) := by decide +kernel
theorem dX9_tellRod_102 : decode cX9_tellRod 102 = .ok (.invokevirtual 139, 3) := by decide +kernel
theorem dX9_tellRod_105 : decode cX9_tellRod 105 = .ok (.iadd, 1) := by decide +kernel
theorem dX9_tellRod_106 : decode cX9_tellRod 106 = .ok (.ireturn, 1) := by decide +kernel
theorem dX9_tellRod_107 : decode cX9_tellRod 107 = .ok (.sipush 10000, 3) := by decide +kernel
theorem dX9_tellRod_110 : decode cX9_tellRod 110 = .ok (.aload_n 0, 1) := by decide +kernel
theorem dX9_tellRod_111 : decode cX9_tellRod 111 = .ok (.getfield 37, 3) := by decide +kernel
theorem dX9_tellRod_114 : decode cX9_tellRod 114 = .ok (.iload_n 1, 1) := by decide +kernel
theorem dX9_tellRod_115 : decode cX9_tellRod 115 = .ok (.iaload, 1) := by decide +kernel
theorem dX9_tellRod_116 : decode cX9_tellRod 116 = .ok (.iadd, 1) := by decide +kernel
theorem dX9_tellRod_117 : decode cX9_tellRod 117 = .ok (.ireturn, 1) := by decide +kernel
theorem dX9_tellRod_118 : decode cX9_tellRod 118 = .ok (.aload_n 0, 1) := by decide +kernel
theorem dX9_tellRod_119 : decode cX9_tellRod 119 = .ok (.getfield 37, 3) := by decide +kernel
theorem dX9_tellRod_122 : decode cX9_tellRod 122 = .ok (.iload_n 1, 1) := by decide +kernel
theorem dX9_tellRod_123 : decode cX9_tellRod 123 = .ok (.iaload, 1) := by decide +kernel
theorem dX9_tellRod_124 : decode cX9_tellRod 124 = .ok (.ifCond .ne 7, 3) := by decide +kernel
theorem dX9_tellRod_127 : decode cX9_tellRod 127 = .ok (.iconst 1, 1) := by decide +kernel
theorem dX9_tellRod_128 : decode cX9_tellRod 128 = .ok (.goto 4, 3) := by decide +kernel
theorem dX9_tellRod_131 : decode cX9_tellRod 131 = .ok (.iconst 0, 1) := by decide +kernel
theorem dX9_tellRod_132 : decode cX9_tellRod 132 = .ok (.ireturn, 1) := by decide +kernel
theorem dX9_tellRod_133 : decode cX9_tellRod 133 = .ok (.aload_n 0, 1) := by decide +kernel
theorem dX9_tellRod_134 : decode cX9_tellRod 134 = .ok (.invokevirtual 145, 3) := by decide +kernel
theorem dX9_tellRod_137 : decode cX9_tellRod 137 = .ok (.iload_n 1, 1) := by decide +kernel
theorem dX9_tellRod_138 : decode cX9_tellRod 138 = .ok (.ishr, 1) := by decide +kernel
theorem dX9_tellRod_139 : decode cX9_tellRod 139 = .ok (.iconst 1, 1) := by decide +kernel
theorem dX9_tellRod_140 : decode cX9_tellRod 140 = .ok (.iand, 1) := by decide +kernel
theorem dX9_tellRod_141 : decode cX9_tellRod 141 = .ok (.ireturn, 1) := by decide +kernel
theorem dX9_tellRod_142 : decode cX9_tellRod 142 = .ok (.aload_n 0, 1) := by decide +kernel
theorem dX9_tellRod_143 : decode cX9_tellRod 143 = .ok (.iload_n 1, 1) := by decide +kernel
theorem dX9_tellRod_144 : decode cX9_tellRod 144 = .ok (.invokevirtual 157, 3) := by decide +kernel
theorem dX9_tellRod_147 : decode cX9_tellRod 147 = .ok (.ireturn, 1) := by decide +kernel
theorem dX9_tellRod_148 : decode cX9_tellRod 148 = .ok (.aload_n 0, 1) := by decide +kernel
theorem dX9_tellRod_149 : decode cX9_tellRod 149 = .ok (.iload_n 1, 1) := by decide +kernel
theorem dX9_tellRod_150 : decode cX9_tellRod 150 = .ok (.invokevirtual 160, 3) := by decide +kernel
theorem dX9_tellRod_153 : decode cX9_tellRod 153 = .ok (.ireturn, 1) := by decide +kernel
theorem dX9_tellRod_154 : decode cX9_tellRod 154 = .ok (.bipush (-102), 2) := by decide +kernel
theorem dX9_tellRod_156 : decode cX9_tellRod 156 = .ok (.ireturn, 1) := by decide +kernel
theorem dX9_rod_0 : decode cX9_rod 0 = .ok (.aload_n 0, 1) := by decide +kernel
theorem dX9_rod_1 : decode cX9_rod 1 = .ok (.iload_n 1, 1) := by decide +kernel
theorem dX9_rod_2 : decode cX9_rod 2 = .ok (.invokevirtual 163, 3) := by decide +kernel
theorem dX9_rod_5 : decode cX9_rod 5 = .ok (.ifCond .eq 12, 3) := by decide +kernel
theorem dX9_rod_8 : decode cX9_rod 8 = .ok (.aload_n 0, 1) := by decide +kernel
theorem dX9_rod_9 : decode cX9_rod 9 = .ok (.iload_n 1, 1) := by decide +kernel
theorem dX9_rod_10 : decode cX9_rod 10 = .ok (.iload_n 2, 1) := by decide +kernel
theorem dX9_rod_11 : decode cX9_rod 11 = .ok (.invokevirtual 166, 3) := by decide +kernel
theorem dX9_rod_14 : decode cX9_rod 14 = .ok (.goto 5, 3) := by decide +kernel
theorem dX9_rod_17 : decode cX9_rod 17 = .ok (.bipush (-101), 2) := by decide +kernel
theorem dX9_rod_19 : decode cX9_rod 19 = .ok (.ireturn, 1) := by decide +kernel
theorem dX9_armOf_0 : decode cX9_armOf 0 = .ok (.iconst 0, 1) := by decide +kernel
theorem dX9_armOf_1 : decode cX9_armOf 1 = .ok (.istore_n 2, 1) := by decide +kernel
theorem dX9_armOf_2 : decode cX9_armOf 2 = .ok (.aload_n 0, 1) := by decide +kernel
theorem dX9_armOf_3 : decode cX9_armOf 3 = .ok (.getfield 28, 3) := by decide +kernel
theorem dX9_armOf_6 : decode cX9_armOf 6 = .ok (.iload_n 2, 1) := by decide +kernel
theorem dX9_armOf_7 : decode cX9_armOf 7 = .ok (.iaload, 1) := by decide +kernel
theorem dX9_armOf_8 : decode cX9_armOf 8 = .ok (.iload_n 1, 1) := by decide +kernel
theorem dX9_armOf_9 : decode cX9_armOf 9 = .ok (.if_icmp .eq 9, 3) := by decide +kernel
theorem dX9_armOf_12 : decode cX9_armOf 12 = .ok (.iinc 2 1, 3) := by decide +kernel
theorem dX9_armOf_15 : decode cX9_armOf 15 = .ok (.goto (-13), 3) := by decide +kernel
theorem dX9_armOf_18 : decode cX9_armOf 18 = .ok (.aload_n 0, 1) := by decide +kernel
theorem dX9_armOf_19 : decode cX9_armOf 19 = .ok (.getfield 19, 3) := by decide +kernel
theorem dX9_armOf_22 : decode cX9_armOf 22 = .ok (.iload_n 2, 1) := by decide +kernel
theorem dX9_armOf_23 : decode cX9_armOf 23 = .ok (.iaload, 1) := by decide +kernel
theorem dX9_armOf_24 : decode cX9_armOf 24 = .ok (.ireturn, 1) := by decide +kernel
theorem dX9_tellThing_0 : decode cX9_tellThing 0 = .ok (.iload_n 2, 1) := by decide +kernel
theorem dX9_tellThing_1 : decode cX9_tellThing 1 = .ok (.tableswitch 112 0 6 #[43, 50, 57, 81, 90, 98, 106], 43) := by decide +kernel
theorem dX9_tellThing_44 : decode cX9_tellThing 44 = .ok (.aload_n 0, 1) := by decide +kernel
theorem dX9_tellThing_45 : decode cX9_tellThing 45 = .ok (.getfield 22, 3) := by decide +kernel
theorem dX9_tellThing_48 : decode cX9_tellThing 48 = .ok (.iload_n 1, 1) := by decide +kernel
theorem dX9_tellThing_49 : decode cX9_tellThing 49 = .ok (.iaload, 1) := by decide +kernel
theorem dX9_tellThing_50 : decode cX9_tellThing 50 = .ok (.ireturn, 1) := by decide +kernel
theorem dX9_tellThing_51 : decode cX9_tellThing 51 = .ok (.aload_n 0, 1) := by decide +kernel
theorem dX9_tellThing_52 : decode cX9_tellThing 52 = .ok (.getfield 25, 3) := by decide +kernel
theorem dX9_tellThing_55 : decode cX9_tellThing 55 = .ok (.iload_n 1, 1) := by decide +kernel
theorem dX9_tellThing_56 : decode cX9_tellThing 56 = .ok (.iaload, 1) := by decide +kernel
theorem dX9_tellThing_57 : decode cX9_tellThing 57 = .ok (.ireturn, 1) := by decide +kernel
theorem dX9_tellThing_58 : decode cX9_tellThing 58 = .ok (.sipush 10000, 3) := by decide +kernel
theorem dX9_tellThing_61 : decode cX9_tellThing 61 = .ok (.aload_n 0, 1) := by decide +kernel
theorem dX9_tellThing_62 : decode cX9_tellThing 62 = .ok (.getfield 22, 3) := by decide +kernel
theorem dX9_tellThing_65 : decode cX9_tellThing 65 = .ok (.iload_n 1, 1) := by decide +kernel
theorem dX9_tellThing_66 : decode cX9_tellThing 66 = .ok (.iaload, 1) := by decide +kernel
theorem dX9_tellThing_67 : decode cX9_tellThing 67 = .ok (.aload_n 0, 1) := by decide +kernel
theorem dX9_tellThing_68 : decode cX9_tellThing 68 = .ok (.getfield 25, 3) := by decide +kernel
theorem dX9_tellThing_71 : decode cX9_tellThing 71 = .ok (.iload_n 1, 1) := by decide +kernel
theorem dX9_tellThing_72 : decode cX9_tellThing 72 = .ok (.iaload, 1) := by decide +kernel
theorem dX9_tellThing_73 : decode cX9_tellThing 73 = .ok (.aload_n 0, 1) := by decide +kernel
theorem dX9_tellThing_74 : decode cX9_tellThing 74 = .ok (.getfield 110, 3) := by decide +kernel
theorem dX9_tellThing_77 : decode cX9_tellThing 77 = .ok (.invokestatic 132, 3) := by decide +kernel
theorem dX9_tellThing_80 : decode cX9_tellThing 80 = .ok (.iadd, 1) := by decide +kernel
theorem dX9_tellThing_81 : decode cX9_tellThing 81 = .ok (.ireturn, 1) := by decide +kernel
theorem dX9_tellThing_82 : decode cX9_tellThing 82 = .ok (.aload_n 0, 1) := by decide +kernel
theorem dX9_tellThing_83 : decode cX9_tellThing 83 = .ok (.getfield 116, 3) := by decide +kernel
theorem dX9_tellThing_86 : decode cX9_tellThing 86 = .ok (.iload_n 1, 1) := by decide +kernel
theorem dX9_tellThing_87 : decode cX9_tellThing 87 = .ok (.ishr, 1) := by decide +kernel
theorem dX9_tellThing_88 : decode cX9_tellThing 88 = .ok (.iconst 1, 1) := by decide +kernel
theorem dX9_tellThing_89 : decode cX9_tellThing 89 = .ok (.iand, 1) := by decide +kernel
theorem dX9_tellThing_90 : decode cX9_tellThing 90 = .ok (.ireturn, 1) := by decide +kernel
theorem dX9_tellThing_91 : decode cX9_tellThing 91 = .ok (.aload_n 0, 1) := by decide +kernel
theorem dX9_tellThing_92 : decode cX9_tellThing 92 = .ok (.iload_n 1, 1) := by decide +kernel
theorem dX9_tellThing_93 : decode cX9_tellThing 93 = .ok (.invokevirtual 170, 3) := by decide +kernel
theorem dX9_tellThing_96 : decode cX9_tellThing 96 = .ok (.iconst 2, 1) := by decide +kernel
theorem dX9_tellThing_97 : decode cX9_tellThing 97 = .ok (.idiv, 1) := by decide +kernel
theorem dX9_tellThing_98 : decode cX9_tellThing 98 = .ok (.ireturn, 1) := by decide +kernel
theorem dX9_tellThing_99 : decode cX9_tellThing 99 = .ok (.aload_n 0, 1) := by decide +kernel
theorem dX9_tellThing_100 : decode cX9_tellThing 100 = .ok (.iload_n 1, 1) := by decide +kernel
theorem dX9_tellThing_101 : decode cX9_tellThing 101 = .ok (.invokevirtual 170, 3) := by decide +kernel
theorem dX9_tellThing_104 : decode cX9_tellThing 104 = .ok (.iconst 2, 1) := by decide +kernel
theorem dX9_tellThing_105 : decode cX9_tellThing 105 = .ok (.irem, 1) := by decide +kernel
theorem dX9_tellThing_106 : decode cX9_tellThing 106 = .ok (.ireturn, 1) := by decide +kernel
theorem dX9_tellThing_107 : decode cX9_tellThing 107 = .ok (.aload_n 0, 1) := by decide +kernel
theorem dX9_tellThing_108 : decode cX9_tellThing 108 = .ok (.iload_n 1, 1) := by decide +kernel
theorem dX9_tellThing_109 : decode cX9_tellThing 109 = .ok (.invokevirtual 173, 3) := by decide +kernel
theorem dX9_tellThing_112 : decode cX9_tellThing 112 = .ok (.ireturn, 1) := by decide +kernel
theorem dX9_tellThing_113 : decode cX9_tellThing 113 = .ok (.bipush (-102), 2) := by decide +kernel
theorem dX9_tellThing_115 : decode cX9_tellThing 115 = .ok (.ireturn, 1) := by decide +kernel
theorem dX9_thing_0 : decode cX9_thing 0 = .ok (.aload_n 0, 1) := by decide +kernel
theorem dX9_thing_1 : decode cX9_thing 1 = .ok (.iload_n 1, 1) := by decide +kernel
theorem dX9_thing_2 : decode cX9_thing 2 = .ok (.invokevirtual 176, 3) := by decide +kernel
theorem dX9_thing_5 : decode cX9_thing 5 = .ok (.ifCond .eq 12, 3) := by decide +kernel
theorem dX9_thing_8 : decode cX9_thing 8 = .ok (.aload_n 0, 1) := by decide +kernel
theorem dX9_thing_9 : decode cX9_thing 9 = .ok (.iload_n 1, 1) := by decide +kernel
theorem dX9_thing_10 : decode cX9_thing 10 = .ok (.iload_n 2, 1) := by decide +kernel
theorem dX9_thing_11 : decode cX9_thing 11 = .ok (.invokevirtual 179, 3) := by decide +kernel
theorem dX9_thing_14 : decode cX9_thing 14 = .ok (.goto 5, 3) := by decide +kernel
theorem dX9_thing_17 : decode cX9_thing 17 = .ok (.bipush (-101), 2) := by decide +kernel
theorem dX9_thing_19 : decode cX9_thing 19 = .ok (.ireturn, 1) := by decide +kernel
theorem dX9_as_0 : decode cX9_as 0 = .ok (.aload_n 0, 1) := by decide +kernel
theorem dX9_as_1 : decode cX9_as 1 = .ok (.iload_n 1, 1) := by decide +kernel
theorem dX9_as_2 : decode cX9_as 2 = .ok (.invokevirtual 176, 3) := by decide +kernel
theorem dX9_as_5 : decode cX9_as 5 = .ok (.ifCond .ne 6, 3) := by decide +kernel
theorem dX9_as_8 : decode cX9_as 8 = .ok (.bipush (-101), 2) := by decide +kernel
theorem dX9_as_10 : decode cX9_as 10 = .ok (.ireturn, 1) := by decide +kernel
theorem dX9_as_11 : decode cX9_as 11 = .ok (.iload_n 2, 1) := by decide +kernel
theorem dX9_as_12 : decode cX9_as 12 = .ok (.i2l, 1) := by decide +kernel
theorem dX9_as_13 : decode cX9_as 13 = .ok (.lconst 0, 1) := by decide +kernel
theorem dX9_as_14 : decode cX9_as 14 = .ok (.ldc2_w 71, 3) := by decide +kernel
theorem dX9_as_17 : decode cX9_as 17 = .ok (.invokestatic 64, 3) := by decide +kernel
theorem dX9_as_20 : decode cX9_as 20 = .ok (.ifCond .ne 6, 3) := by decide +kernel
theorem dX9_as_23 : decode cX9_as 23 = .ok (.bipush (-102), 2) := by decide +kernel
theorem dX9_as_25 : decode cX9_as 25 = .ok (.ireturn, 1) := by decide +kernel
theorem dX9_as_26 : decode cX9_as 26 = .ok (.iload_n 2, 1) := by decide +kernel
theorem dX9_as_27 : decode cX9_as 27 = .ok (.ifCond .eq 28, 3) := by decide +kernel
theorem dX9_as_30 : decode cX9_as 30 = .ok (.iload_n 2, 1) := by decide +kernel
theorem dX9_as_31 : decode cX9_as 31 = .ok (.aload_n 0, 1) := by decide +kernel
theorem dX9_as_32 : decode cX9_as 32 = .ok (.getfield 22, 3) := by decide +kernel
theorem dX9_as_35 : decode cX9_as 35 = .ok (.iload_n 1, 1) := by decide +kernel
theorem dX9_as_36 : decode cX9_as 36 = .ok (.iaload, 1) := by decide +kernel
theorem dX9_as_37 : decode cX9_as 37 = .ok (.if_icmp .eq 18, 3) := by decide +kernel
theorem dX9_as_40 : decode cX9_as 40 = .ok (.iload_n 2, 1) := by decide +kernel
theorem dX9_as_41 : decode cX9_as 41 = .ok (.iconst 1, 1) := by decide +kernel
theorem dX9_as_42 : decode cX9_as 42 = .ok (.if_icmp .ne 17, 3) := by decide +kernel
theorem dX9_as_45 : decode cX9_as 45 = .ok (.aload_n 0, 1) := by decide +kernel
theorem dX9_as_46 : decode cX9_as 46 = .ok (.getfield 22, 3) := by decide +kernel
theorem dX9_as_49 : decode cX9_as 49 = .ok (.iload_n 1, 1) := by decide +kernel
theorem dX9_as_50 : decode cX9_as 50 = .ok (.iaload, 1) := by decide +kernel
theorem dX9_as_51 : decode cX9_as 51 = .ok (.iconst 4, 1) := by decide +kernel
theorem dX9_as_52 : decode cX9_as 52 = .ok (.if_icmp .ne 7, 3) := by decide +kernel
theorem dX9_as_55 : decode cX9_as 55 = .ok (.iconst 1, 1) := by decide +kernel
theorem dX9_as_56 : decode cX9_as 56 = .ok (.goto 4, 3) := by decide +kernel
theorem dX9_as_59 : decode cX9_as 59 = .ok (.iconst 0, 1) := by decide +kernel
theorem dX9_as_60 : decode cX9_as 60 = .ok (.istore_n 3, 1) := by decide +kernel
theorem dX9_as_61 : decode cX9_as 61 = .ok (.iload_n 3, 1) := by decide +kernel
theorem dX9_as_62 : decode cX9_as 62 = .ok (.ifCond .eq 7, 3) := by decide +kernel
theorem dX9_as_65 : decode cX9_as 65 = .ok (.iload_n 1, 1) := by decide +kernel
theorem dX9_as_66 : decode cX9_as 66 = .ok (.goto 4, 3) := by decide +kernel
theorem dX9_as_69 : decode cX9_as 69 = .ok (.iconst (-1), 1) := by decide +kernel
theorem dX9_as_70 : decode cX9_as 70 = .ok (.ireturn, 1) := by decide +kernel
theorem dX9_hour_0 : decode cX9_hour 0 = .ok (.aload_n 0, 1) := by decide +kernel
theorem dX9_hour_1 : decode cX9_hour 1 = .ok (.invokevirtual 182, 3) := by decide +kernel
theorem dX9_hour_4 : decode cX9_hour 4 = .ok (.ifCond .eq 6, 3) := by decide +kernel
theorem dX9_hour_7 : decode cX9_hour 7 = .ok (.bipush (-103), 2) := by decide +kernel
theorem dX9_hour_9 : decode cX9_hour 9 = .ok (.ireturn, 1) := by decide +kernel
theorem dX9_hour_10 : decode cX9_hour 10 = .ok (.aload_n 0, 1) := by decide +kernel
theorem dX9_hour_11 : decode cX9_hour 11 = .ok (.getfield 110, 3) := by decide +kernel
theorem dX9_hour_14 : decode cX9_hour 14 = .ok (.sipush 999, 3) := by decide +kernel
theorem dX9_hour_17 : decode cX9_hour 17 = .ok (.if_icmp .ne 6, 3) := by decide +kernel
theorem dX9_hour_20 : decode cX9_hour 20 = .ok (.bipush (-104), 2) := by decide +kernel
theorem dX9_hour_22 : decode cX9_hour 22 = .ok (.ireturn, 1) := by decide +kernel
theorem dX9_hour_23 : decode cX9_hour 23 = .ok (.aload_n 0, 1) := by decide +kernel
theorem dX9_hour_24 : decode cX9_hour 24 = .ok (.dup, 1) := by decide +kernel
theorem dX9_hour_25 : decode cX9_hour 25 = .ok (.getfield 110, 3) := by decide +kernel
theorem dX9_hour_28 : decode cX9_hour 28 = .ok (.iconst 1, 1) := by decide +kernel
theorem dX9_hour_29 : decode cX9_hour 29 = .ok (.iadd, 1) := by decide +kernel
theorem dX9_hour_30 : decode cX9_hour 30 = .ok (.putfield 110, 3) := by decide +kernel
theorem dX9_hour_33 : decode cX9_hour 33 = .ok (.aload_n 0, 1) := by decide +kernel
theorem dX9_hour_34 : decode cX9_hour 34 = .ok (.getfield 110, 3) := by decide +kernel
theorem dX9_hour_37 : decode cX9_hour 37 = .ok (.ireturn, 1) := by decide +kernel
theorem dX9_trade_0 : decode cX9_trade 0 = .ok (.iconst 0, 1) := by decide +kernel
theorem dX9_trade_1 : decode cX9_trade 1 = .ok (.istore_n 3, 1) := by decide +kernel
theorem dX9_trade_2 : decode cX9_trade 2 = .ok (.iload_n 3, 1) := by decide +kernel
theorem dX9_trade_3 : decode cX9_trade 3 = .ok (.bipush 6, 2) := by decide +kernel
theorem dX9_trade_5 : decode cX9_trade 5 = .ok (.if_icmp .ge 37, 3) := by decide +kernel
theorem dX9_trade_8 : decode cX9_trade 8 = .ok (.aload_n 0, 1) := by decide +kernel
theorem dX9_trade_9 : decode cX9_trade 9 = .ok (.iload_n 3, 1) := by decide +kernel
theorem dX9_trade_10 : decode cX9_trade 10 = .ok (.aload_n 0, 1) := by decide +kernel
theorem dX9_trade_11 : decode cX9_trade 11 = .ok (.iload_n 3, 1) := by decide +kernel
theorem dX9_trade_12 : decode cX9_trade 12 = .ok (.iaload, 1) := by decide +kernel
theorem dX9_trade_13 : decode cX9_trade 13 = .ok (.iload_n 1, 1) := by decide +kernel
theorem dX9_trade_14 : decode cX9_trade 14 = .ok (.if_icmp .ne 7, 3) := by decide +kernel
theorem dX9_trade_17 : decode cX9_trade 17 = .ok (.iload_n 2, 1) := by decide +kernel
theorem dX9_trade_18 : decode cX9_trade 18 = .ok (.goto 17, 3) := by decide +kernel
theorem dX9_trade_21 : decode cX9_trade 21 = .ok (.aload_n 0, 1) := by decide +kernel
theorem dX9_trade_22 : decode cX9_trade 22 = .ok (.iload_n 3, 1) := by decide +kernel
theorem dX9_trade_23 : decode cX9_trade 23 = .ok (.iaload, 1) := by decide +kernel
theorem dX9_trade_24 : decode cX9_trade 24 = .ok (.iload_n 2, 1) := by decide +kernel
theorem dX9_trade_25 : decode cX9_trade 25 = .ok (.if_icmp .ne 7, 3) := by decide +kernel
theorem dX9_trade_28 : decode cX9_trade 28 = .ok (.iload_n 1, 1) := by decide +kernel
theorem dX9_trade_29 : decode cX9_trade 29 = .ok (.goto 6, 3) := by decide +kernel
theorem dX9_trade_32 : decode cX9_trade 32 = .ok (.aload_n 0, 1) := by decide +kernel
theorem dX9_trade_33 : decode cX9_trade 33 = .ok (.iload_n 3, 1) := by decide +kernel
theorem dX9_trade_34 : decode cX9_trade 34 = .ok (.iaload, 1) := by decide +kernel
theorem dX9_trade_35 : decode cX9_trade 35 = .ok (.iastore, 1) := by decide +kernel
theorem dX9_trade_36 : decode cX9_trade 36 = .ok (.iinc 3 1, 3) := by decide +kernel
theorem dX9_trade_39 : decode cX9_trade 39 = .ok (.goto (-37), 3) := by decide +kernel
theorem dX9_trade_42 : decode cX9_trade 42 = .ok (.return_, 1) := by decide +kernel
theorem dX9_isCut_0 : decode cX9_isCut 0 = .ok (.aload_n 0, 1) := by decide +kernel
theorem dX9_isCut_1 : decode cX9_isCut 1 = .ok (.getfield 116, 3) := by decide +kernel
theorem dX9_isCut_4 : decode cX9_isCut 4 = .ok (.iload_n 1, 1) := by decide +kernel
theorem dX9_isCut_5 : decode cX9_isCut 5 = .ok (.ishr, 1) := by decide +kernel
theorem dX9_isCut_6 : decode cX9_isCut 6 = .ok (.iconst 1, 1) := by decide +kernel
theorem dX9_isCut_7 : decode cX9_isCut 7 = .ok (.iand, 1) := by decide +kernel
theorem dX9_isCut_8 : decode cX9_isCut 8 = .ok (.iconst 1, 1) := by decide +kernel
theorem dX9_isCut_9 : decode cX9_isCut 9 = .ok (.if_icmp .ne 7, 3) := by decide +kernel
theorem dX9_isCut_12 : decode cX9_isCut 12 = .ok (.iconst 1, 1) := by decide +kernel
theorem dX9_isCut_13 : decode cX9_isCut 13 = .ok (.goto 4, 3) := by decide +kernel
theorem dX9_isCut_16 : decode cX9_isCut 16 = .ok (.iconst 0, 1) := by decide +kernel
theorem dX9_isCut_17 : decode cX9_isCut 17 = .ok (.ireturn, 1) := by decide +kernel
theorem dX9_exchange_0 : decode cX9_exchange 0 = .ok (.aload_n 0, 1) := by decide +kernel
theorem dX9_exchange_1 : decode cX9_exchange 1 = .ok (.iload_n 1, 1) := by decide +kernel
theorem dX9_exchange_2 : decode cX9_exchange 2 = .ok (.invokevirtual 176, 3) := by decide +kernel
theorem dX9_exchange_5 : decode cX9_exchange 5 = .ok (.ifCond .eq 16, 3) := by decide +kernel
theorem dX9_exchange_8 : decode cX9_exchange 8 = .ok (.aload_n 0, 1) := by decide +kernel
theorem dX9_exchange_9 : decode cX9_exchange 9 = .ok (.iload_n 2, 1) := by decide +kernel
theorem dX9_exchange_10 : decode cX9_exchange 10 = .ok (.invokevirtual 176, 3) := by decide +kernel
theorem dX9_exchange_13 : decode cX9_exchange 13 = .ok (.ifCond .eq 8, 3) := by decide +kernel
theorem dX9_exchange_16 : decode cX9_exchange 16 = .ok (.iload_n 1, 1) := by decide +kernel
theorem dX9_exchange_17 : decode cX9_exchange 17 = .ok (.iload_n 2, 1) := by decide +kernel
theorem dX9_exchange_18 : decode cX9_exchange 18 = .ok (.if_icmp .ne 6, 3) := by decide +kernel
theorem dX9_exchange_21 : decode cX9_exchange 21 = .ok (.bipush (-101), 2) := by decide +kernel
theorem dX9_exchange_23 : decode cX9_exchange 23 = .ok (.ireturn, 1) := by decide +kernel
theorem dX9_exchange_24 : decode cX9_exchange 24 = .ok (.aload_n 0, 1) := by decide +kernel
theorem dX9_exchange_25 : decode cX9_exchange 25 = .ok (.iload_n 1, 1) := by decide +kernel
theorem dX9_exchange_26 : decode cX9_exchange 26 = .ok (.invokevirtual 186, 3) := by decide +kernel
theorem dX9_exchange_29 : decode cX9_exchange 29 = .ok (.ifCond .ne 11, 3) := by decide +kernel
theorem dX9_exchange_32 : decode cX9_exchange 32 = .ok (.aload_n 0, 1) := by decide +kernel
theorem dX9_exchange_33 : decode cX9_exchange 33 = .ok (.iload_n 2, 1) := by decide +kernel
theorem dX9_exchange_34 : decode cX9_exchange 34 = .ok (.invokevirtual 186, 3) := by decide +kernel
theorem dX9_exchange_37 : decode cX9_exchange 37 = .ok (.ifCond .eq 6, 3) := by decide +kernel
theorem dX9_exchange_40 : decode cX9_exchange 40 = .ok (.bipush (-103), 2) := by decide +kernel
theorem dX9_exchange_42 : decode cX9_exchange 42 = .ok (.ireturn, 1) := by decide +kernel
theorem dX9_exchange_43 : decode cX9_exchange 43 = .ok (.aload_n 0, 1) := by decide +kernel
theorem dX9_exchange_44 : decode cX9_exchange 44 = .ok (.getfield 28, 3) := by decide +kernel
theorem dX9_exchange_47 : decode cX9_exchange 47 = .ok (.iload_n 1, 1) := by decide +kernel
theorem dX9_exchange_48 : decode cX9_exchange 48 = .ok (.iload_n 2, 1) := by decide +kernel
theorem dX9_exchange_49 : decode cX9_exchange 49 = .ok (.invokestatic 189, 3) := by decide +kernel
theorem dX9_exchange_52 : decode cX9_exchange 52 = .ok (.aload_n 0, 1) := by decide +kernel
theorem dX9_exchange_53 : decode cX9_exchange 53 = .ok (.invokevirtual 193, 3) := by decide +kernel
theorem dX9_exchange_56 : decode cX9_exchange 56 = .ok (.ireturn, 1) := by decide +kernel
theorem dX9_move_0 : decode cX9_move 0 = .ok (.aload_n 0, 1) := by decide +kernel
theorem dX9_move_1 : decode cX9_move 1 = .ok (.iload_n 1, 1) := by decide +kernel
theorem dX9_move_2 : decode cX9_move 2 = .ok (.invokevirtual 163, 3) := by decide +kernel
theorem dX9_move_5 : decode cX9_move 5 = .ok (.ifCond .ne 6, 3) := by decide +kernel
theorem dX9_move_8 : decode cX9_move 8 = .ok (.bipush (-101), 2) := by decide +kernel
theorem dX9_move_10 : decode cX9_move 10 = .ok (.ireturn, 1) := by decide +kernel
theorem dX9_move_11 : decode cX9_move 11 = .ok (.aload_n 0, 1) := by decide +kernel
theorem dX9_move_12 : decode cX9_move 12 = .ok (.getfield 13, 3) := by decide +kernel
theorem dX9_move_15 : decode cX9_move 15 = .ok (.iconst 2, 1) := by decide +kernel
theorem dX9_move_16 : decode cX9_move 16 = .ok (.iload_n 1, 1) := by decide +kernel
theorem dX9_move_17 : decode cX9_move 17 = .ok (.imul, 1) := by decide +kernel
theorem dX9_move_18 : decode cX9_move 18 = .ok (.iaload, 1) := by decide +kernel
theorem dX9_move_19 : decode cX9_move 19 = .ok (.aload_n 0, 1) := by decide +kernel
theorem dX9_move_20 : decode cX9_move 20 = .ok (.getfield 13, 3) := by decide +kernel
theorem dX9_move_23 : decode cX9_move 23 = .ok (.iconst 2, 1) := by decide +kernel
theorem dX9_move_24 : decode cX9_move 24 = .ok (.iload_n 1, 1) := by decide +kernel
theorem dX9_move_25 : decode cX9_move 25 = .ok (.imul, 1) := by decide +kernel
theorem dX9_move_26 : decode cX9_move 26 = .ok (.iconst 1, 1) := by decide +kernel
theorem dX9_move_27 : decode cX9_move 27 = .ok (.iadd, 1) := by decide +kernel
theorem dX9_move_28 : decode cX9_move 28 = .ok (.iaload, 1) := by decide +kernel
theorem dX9_move_29 : decode cX9_move 29 = .ok (.iadd, 1) := by decide +kernel
theorem dX9_move_30 : decode cX9_move 30 = .ok (.istore_n 3, 1) := by decide +kernel
theorem dX9_move_31 : decode cX9_move 31 = .ok (.iload_n 2, 1) := by decide +kernel
theorem dX9_move_32 : decode cX9_move 32 = .ok (.i2l, 1) := by decide +kernel
theorem dX9_move_33 : decode cX9_move 33 = .ok (.lconst 1, 1) := by decide +kernel
theorem dX9_move_34 : decode cX9_move 34 = .ok (.iload_n 3, 1) := by decide +kernel
theorem dX9_move_35 : decode cX9_move 35 = .ok (.iconst 1, 1) := by decide +kernel
theorem dX9_move_36 : decode cX9_move 36 = .ok (.isub, 1) := by decide +kernel
theorem dX9_move_37 : decode cX9_move 37 = .ok (.i2l, 1) := by decide +kernel
theorem dX9_move_38 : decode cX9_move 38 = .ok (.invokestatic 64, 3) := by decide +kernel
theorem dX9_move_41 : decode cX9_move 41 = .ok (.ifCond .ne 6, 3) := by decide +kernel
theorem dX9_move_44 : decode cX9_move 44 = .ok (.bipush (-102), 2) := by decide +kernel
theorem dX9_move_46 : decode cX9_move 46 = .ok (.ireturn, 1) := by decide +kernel
theorem dX9_move_47 : decode cX9_move 47 = .ok (.aload_n 0, 1) := by decide +kernel
theorem dX9_move_48 : decode cX9_move 48 = .ok (.getfield 13, 3) := by decide +kernel
theorem dX9_move_51 : decode cX9_move 51 = .ok (.iconst 2, 1) := by decide +kernel
theorem dX9_move_52 : decode cX9_move 52 = .ok (.iload_n 1, 1) := by decide +kernel
theorem dX9_move_53 : decode cX9_move 53 = .ok (.imul, 1) := by decide +kernel
theorem dX9_move_54 : decode cX9_move 54 = .ok (.iaload, 1) := by decide +kernel
theorem dX9_move_55 : decode cX9_move 55 = .ok (.istore 4, 2) := by decide +kernel
theorem dX9_move_57 : decode cX9_move 57 = .ok (.aload_n 0, 1) := by decide +kernel
theorem dX9_move_58 : decode cX9_move 58 = .ok (.getfield 13, 3) := by decide +kernel
theorem dX9_move_61 : decode cX9_move 61 = .ok (.iconst 2, 1) := by decide +kernel
theorem dX9_move_62 : decode cX9_move 62 = .ok (.iload_n 1, 1) := by decide +kernel
theorem dX9_move_63 : decode cX9_move 63 = .ok (.imul, 1) := by decide +kernel
theorem dX9_move_64 : decode cX9_move 64 = .ok (.iload_n 2, 1) := by decide +kernel
theorem dX9_move_65 : decode cX9_move 65 = .ok (.iastore, 1) := by decide +kernel
theorem dX9_move_66 : decode cX9_move 66 = .ok (.aload_n 0, 1) := by decide +kernel
theorem dX9_move_67 : decode cX9_move 67 = .ok (.getfield 13, 3) := by decide +kernel
theorem dX9_move_70 : decode cX9_move 70 = .ok (.iconst 2, 1) := by decide +kernel
theorem dX9_move_71 : decode cX9_move 71 = .ok (.iload_n 1, 1) := by decide +kernel
theorem dX9_move_72 : decode cX9_move 72 = .ok (.imul, 1) := by decide +kernel
theorem dX9_move_73 : decode cX9_move 73 = .ok (.iconst 1, 1) := by decide +kernel
theorem dX9_move_74 : decode cX9_move 74 = .ok (.iadd, 1) := by decide +kernel
theorem dX9_move_75 : decode cX9_move 75 = .ok (.iload_n 3, 1) := by decide +kernel
theorem dX9_move_76 : decode cX9_move 76 = .ok (.iload_n 2, 1) := by decide +kernel
theorem dX9_move_77 : decode cX9_move 77 = .ok (.isub, 1) := by decide +kernel
theorem dX9_move_78 : decode cX9_move 78 = .ok (.iastore, 1) := by decide +kernel
theorem dX9_move_79 : decode cX9_move 79 = .ok (.iload 4, 2) := by decide +kernel
theorem dX9_move_81 : decode cX9_move 81 = .ok (.ireturn, 1) := by decide +kernel
theorem dX9_cut_0 : decode cX9_cut 0 = .ok (.aload_n 0, 1) := by decide +kernel
theorem dX9_cut_1 : decode cX9_cut 1 = .ok (.iload_n 1, 1) := by decide +kernel
theorem dX9_cut_2 : decode cX9_cut 2 = .ok (.invokevirtual 176, 3) := by decide +kernel
theorem dX9_cut_5 : decode cX9_cut 5 = .ok (.ifCond .ne 6, 3) := by decide +kernel
theorem dX9_cut_8 : decode cX9_cut 8 = .ok (.bipush (-101), 2) := by decide +kernel
theorem dX9_cut_10 : decode cX9_cut 10 = .ok (.ireturn, 1) := by decide +kernel
theorem dX9_cut_11 : decode cX9_cut 11 = .ok (.aload_n 0, 1) := by decide +kernel
theorem dX9_cut_12 : decode cX9_cut 12 = .ok (.iload_n 1, 1) := by decide +kernel
theorem dX9_cut_13 : decode cX9_cut 13 = .ok (.invokevirtual 186, 3) := by decide +kernel
theorem dX9_cut_16 : decode cX9_cut 16 = .ok (.ifCond .eq 6, 3) := by decide +kernel
theorem dX9_cut_19 : decode cX9_cut 19 = .ok (.bipush (-103), 2) := by decide +kernel
theorem dX9_cut_21 : decode cX9_cut 21 = .ok (.ireturn, 1) := by decide +kernel
theorem dX9_cut_22 : decode cX9_cut 22 = .ok (.aload_n 0, 1) := by decide +kernel
theorem dX9_cut_23 : decode cX9_cut 23 = .ok (.dup, 1) := by decide +kernel
theorem dX9_cut_24 : decode cX9_cut 24 = .ok (.getfield 116, 3) := by decide +kernel
theorem dX9_cut_27 : decode cX9_cut 27 = .ok (.iconst 1, 1) := by decide +kernel
theorem dX9_cut_28 : decode cX9_cut 28 = .ok (.iload_n 1, 1) := by decide +kernel
theorem dX9_cut_29 : decode cX9_cut 29 = .ok (.ishl, 1) := by decide +kernel
theorem dX9_cut_30 : decode cX9_cut 30 = .ok (.ior, 1) := by decide +kernel
theorem dX9_cut_31 : decode cX9_cut 31 = .ok (.putfield 116, 3) := by decide +kernel
theorem dX9_cut_34 : decode cX9_cut 34 = .ok (.aload_n 0, 1) := by decide +kernel
theorem dX9_cut_35 : decode cX9_cut 35 = .ok (.invokevirtual 193, 3) := by decide +kernel
theorem dX9_cut_38 : decode cX9_cut 38 = .ok (.ireturn, 1) := by decide +kernel
theorem dX9_drop_0 : decode cX9_drop 0 = .ok (.aload_n 0, 1) := by decide +kernel
theorem dX9_drop_1 : decode cX9_drop 1 = .ok (.iload_n 1, 1) := by decide +kernel
theorem dX9_drop_2 : decode cX9_drop 2 = .ok (.invokevirtual 163, 3) := by decide +kernel
theorem dX9_drop_5 : decode cX9_drop 5 = .ok (.ifCond .eq 7, 3) := by decide +kernel
theorem dX9_drop_8 : decode cX9_drop 8 = .ok (.iload_n 1, 1) := by decide +kernel
theorem dX9_drop_9 : decode cX9_drop 9 = .ok (.ifCond .ne 6, 3) := by decide +kernel
theorem dX9_drop_12 : decode cX9_drop 12 = .ok (.bipush (-101), 2) := by decide +kernel
theorem dX9_drop_14 : decode cX9_drop 14 = .ok (.ireturn, 1) := by decide +kernel
theorem dX9_drop_15 : decode cX9_drop 15 = .ok (.aload_n 0, 1) := by decide +kernel
theorem dX9_drop_16 : decode cX9_drop 16 = .ok (.getfield 113, 3) := by decide +kernel
theorem dX9_drop_19 : decode cX9_drop 19 = .ok (.iload_n 1, 1) := by decide +kernel
theorem dX9_drop_20 : decode cX9_drop 20 = .ok (.ishr, 1) := by decide +kernel
theorem dX9_drop_21 : decode cX9_drop 21 = .ok (.iconst 1, 1) := by decide +kernel
theorem dX9_drop_22 : decode cX9_drop 22 = .ok (.iand, 1) := by decide +kernel
theorem dX9_drop_23 : decode cX9_drop 23 = .ok (.iconst 1, 1) := by decide +kernel
theorem dX9_drop_24 : decode cX9_drop 24 = .ok (.if_icmp .ne 6, 3) := by decide +kernel
theorem dX9_drop_27 : decode cX9_drop 27 = .ok (.bipush (-103), 2) := by decide +kernel
theorem dX9_drop_29 : decode cX9_drop 29 = .ok (.ireturn, 1) := by decide +kernel
theorem dX9_drop_30 : decode cX9_drop 30 = .ok (.aload_n 0, 1) := by decide +kernel
theorem dX9_drop_31 : decode cX9_drop 31 = .ok (.dup, 1) := by decide +kernel
theorem dX9_drop_32 : decode cX9_drop 32 = .ok (.getfield 113, 3) := by decide +kernel
theorem dX9_drop_35 : decode cX9_drop 35 = .ok (.iconst 1, 1) := by decide +kernel
theorem dX9_drop_36 : decode cX9_drop 36 = .ok (.iload_n 1, 1) := by decide +kernel
theorem dX9_drop_37 : decode cX9_drop 37 = .ok (.ishl, 1) := by decide +kernel
theorem dX9_drop_38 : decode cX9_drop 38 = .ok (.ior, 1) := by decide +kernel
theorem dX9_drop_39 : decode cX9_drop 39 = .ok (.putfield 113, 3) := by decide +kernel
theorem dX9_drop_42 : decode cX9_drop 42 = .ok (.aload_n 0, 1) := by decide +kernel
theorem dX9_drop_43 : decode cX9_drop 43 = .ok (.invokevirtual 145, 3) := by decide +kernel
theorem dX9_drop_46 : decode cX9_drop 46 = .ok (.invokestatic 196, 3) := by decide +kernel
theorem dX9_drop_49 : decode cX9_drop 49 = .ok (.ireturn, 1) := by decide +kernel
theorem dX9_mend_0 : decode cX9_mend 0 = .ok (.aload_n 0, 1) := by decide +kernel
theorem dX9_mend_1 : decode cX9_mend 1 = .ok (.getfield 116, 3) := by decide +kernel
theorem dX9_mend_4 : decode cX9_mend 4 = .ok (.invokestatic 196, 3) := by decide +kernel
theorem dX9_mend_7 : decode cX9_mend 7 = .ok (.aload_n 0, 1) := by decide +kernel
theorem dX9_mend_8 : decode cX9_mend 8 = .ok (.getfield 113, 3) := by decide +kernel
theorem dX9_mend_11 : decode cX9_mend 11 = .ok (.invokestatic 196, 3) := by decide +kernel
theorem dX9_mend_14 : decode cX9_mend 14 = .ok (.iadd, 1) := by decide +kernel
theorem dX9_mend_15 : decode cX9_mend 15 = .ok (.istore_n 1, 1) := by decide +kernel
theorem dX9_mend_16 : decode cX9_mend 16 = .ok (.aload_n 0, 1) := by decide +kernel
theorem dX9_mend_17 : decode cX9_mend 17 = .ok (.iconst 0, 1) := by decide +kernel
theorem dX9_mend_18 : decode cX9_mend 18 = .ok (.putfield 116, 3) := by decide +kernel
theorem dX9_mend_21 : decode cX9_mend 21 = .ok (.aload_n 0, 1) := by decide +kernel
theorem dX9_mend_22 : decode cX9_mend 22 = .ok (.iconst 0, 1) := by decide +kernel
theorem dX9_mend_23 : decode cX9_mend 23 = .ok (.putfield 113, 3) := by decide +kernel
theorem dX9_mend_26 : decode cX9_mend 26 = .ok (.iload_n 1, 1) := by decide +kernel
theorem dX9_mend_27 : decode cX9_mend 27 = .ok (.ireturn, 1) := by decide +kernel
theorem dX9_change_0 : decode cX9_change 0 = .ok (.aload_n 0, 1) := by decide +kernel
theorem dX9_change_1 : decode cX9_change 1 = .ok (.iload_n 1, 1) := by decide +kernel
theorem dX9_change_2 : decode cX9_change 2 = .ok (.invokevirtual 176, 3) := by decide +kernel
theorem dX9_change_5 : decode cX9_change 5 = .ok (.ifCond .ne 6, 3) := by decide +kernel
theorem dX9_change_8 : decode cX9_change 8 = .ok (.bipush (-101), 2) := by decide +kernel
theorem dX9_change_10 : decode cX9_change 10 = .ok (.ireturn, 1) := by decide +kernel
theorem dX9_change_11 : decode cX9_change 11 = .ok (.iload_n 2, 1) := by decide +kernel
theorem dX9_change_12 : decode cX9_change 12 = .ok (.i2l, 1) := by decide +kernel
theorem dX9_change_13 : decode cX9_change 13 = .ok (.lconst 0, 1) := by decide +kernel
theorem dX9_change_14 : decode cX9_change 14 = .ok (.ldc2_w 71, 3) := by decide +kernel
theorem dX9_change_17 : decode cX9_change 17 = .ok (.invokestatic 64, 3) := by decide +kernel
theorem dX9_change_20 : decode cX9_change 20 = .ok (.ifCond .eq 15, 3) := by decide +kernel
theorem dX9_change_23 : decode cX9_change 23 = .ok (.iload_n 3, 1) := by decide +kernel
theorem dX9_change_24 : decode cX9_change 24 = .ok (.i2l, 1) := by decide +kernel
theorem dX9_change_25 : decode cX9_change 25 = .ok (.lconst 0, 1) := by decide +kernel
theorem dX9_change_26 : decode cX9_change 26 = .ok (.ldc2_w 199, 3) := by decide +kernel
theorem dX9_change_29 : decode cX9_change 29 = .ok (.invokestatic 64, 3) := by decide +kernel
theorem dX9_change_32 : decode cX9_change 32 = .ok (.ifCond .ne 6, 3) := by decide +kernel
theorem dX9_change_35 : decode cX9_change 35 = .ok (.bipush (-102), 2) := by decide +kernel
theorem dX9_change_37 : decode cX9_change 37 = .ok (.ireturn, 1) := by decide +kernel
theorem dX9_change_38 : decode cX9_change 38 = .ok (.aload_n 0, 1) := by decide +kernel
theorem dX9_change_39 : decode cX9_change 39 = .ok (.getfield 22, 3) := by decide +kernel
theorem dX9_change_42 : decode cX9_change 42 = .ok (.iload_n 1, 1) := by decide +kernel
theorem dX9_change_43 : decode cX9_change 43 = .ok (.iaload, 1) := by decide +kernel
theorem dX9_change_44 : decode cX9_change 44 = .ok (.istore 4, 2) := by decide +kernel
theorem dX9_change_46 : decode cX9_change 46 = .ok (.aload_n 0, 1) := by decide +kernel
theorem dX9_change_47 : decode cX9_change 47 = .ok (.getfield 22, 3) := by decide +kernel
theorem dX9_change_50 : decode cX9_change 50 = .ok (.iload_n 1, 1) := by decide +kernel
theorem dX9_change_51 : decode cX9_change 51 = .ok (.iload_n 2, 1) := by decide +kernel
theorem dX9_change_52 : decode cX9_change 52 = .ok (.iastore, 1) := by decide +kernel
theorem dX9_change_53 : decode cX9_change 53 = .ok (.aload_n 0, 1) := by decide +kernel
theorem dX9_change_54 : decode cX9_change 54 = .ok (.getfield 25, 3) := by decide +kernel
theorem dX9_change_57 : decode cX9_change 57 = .ok (.iload_n 1, 1) := by decide +kernel
theorem dX9_change_58 : decode cX9_change 58 = .ok (.iload_n 3, 1) := by decide +kernel
theorem dX9_change_59 : decode cX9_change 59 = .ok (.iastore, 1) := by decide +kernel
theorem dX9_change_60 : decode cX9_change 60 = .ok (.iload 4, 2) := by decide +kernel
theorem dX9_change_62 : decode cX9_change 62 = .ok (.ireturn, 1) := by decide +kernel
theorem dX9_bestOf_0 : decode cX9_bestOf 0 = .ok (.aload_n 0, 1) := by decide +kernel
theorem dX9_bestOf_1 : decode cX9_bestOf 1 = .ok (.invokevirtual 193, 3) := by decide +kernel
theorem dX9_bestOf_4 : decode cX9_bestOf 4 = .ok (.istore_n 1, 1) := by decide +kernel
theorem dX9_bestOf_5 : decode cX9_bestOf 5 = .ok (.iconst (-1), 1) := by decide +kernel
theorem dX9_bestOf_6 : decode cX9_bestOf 6 = .ok (.istore_n 2, 1) := by decide +kernel
theorem dX9_bestOf_7 : decode cX9_bestOf 7 = .ok (.iconst 0, 1) := by decide +kernel
theorem dX9_bestOf_8 : decode cX9_bestOf 8 = .ok (.istore_n 3, 1) := by decide +kernel
theorem dX9_bestOf_9 : decode cX9_bestOf 9 = .ok (.iload_n 3, 1) := by decide +kernel
theorem dX9_bestOf_10 : decode cX9_bestOf 10 = .ok (.aload_n 0, 1) := by decide +kernel
theorem dX9_bestOf_11 : decode cX9_bestOf 11 = .ok (.getfield 107, 3) := by decide +kernel
theorem dX9_bestOf_14 : decode cX9_bestOf 14 = .ok (.aload_n 0, 1) := by decide +kernel
theorem dX9_bestOf_15 : decode cX9_bestOf 15 = .ok (.getfield 107, 3) := by decide +kernel
theorem dX9_bestOf_18 : decode cX9_bestOf 18 = .ok (.imul, 1) := by decide +kernel
theorem dX9_bestOf_19 : decode cX9_bestOf 19 = .ok (.if_icmp .ge 103, 3) := by decide +kernel
theorem dX9_bestOf_22 : decode cX9_bestOf 22 = .ok (.iload_n 3, 1) := by decide +kernel
theorem dX9_bestOf_23 : decode cX9_bestOf 23 = .ok (.aload_n 0, 1) := by decide +kernel
theorem dX9_bestOf_24 : decode cX9_bestOf 24 = .ok (.getfield 107, 3) := by decide +kernel
theorem dX9_bestOf_27 : decode cX9_bestOf 27 = .ok (.idiv, 1) := by decide +kernel
theorem dX9_bestOf_28 : decode cX9_bestOf 28 = .ok (.istore 4, 2) := by decide +kernel
theorem dX9_bestOf_30 : decode cX9_bestOf 30 = .ok (.iload_n 3, 1) := by decide +kernel
theorem dX9_bestOf_31 : decode cX9_bestOf 31 = .ok (.aload_n 0, 1) := by decide +kernel
theorem dX9_bestOf_32 : decode cX9_bestOf 32 = .ok (.getfield 107, 3) := by decide +kernel
theorem dX9_bestOf_35 : decode cX9_bestOf 35 = .ok (.irem, 1) := by decide +kernel
theorem dX9_bestOf_36 : decode cX9_bestOf 36 = .ok (.istore 5, 2) := by decide +kernel
theorem dX9_bestOf_38 : decode cX9_bestOf 38 = .ok (.iload 4, 2) := by decide +kernel
theorem dX9_bestOf_40 : decode cX9_bestOf 40 = .ok (.iload 5, 2) := by decide +kernel
theorem dX9_bestOf_42 : decode cX9_bestOf 42 = .ok (.if_icmp .ge 74, 3) := by decide +kernel
theorem dX9_bestOf_45 : decode cX9_bestOf 45 = .ok (.aload_n 0, 1) := by decide +kernel
theorem dX9_bestOf_46 : decode cX9_bestOf 46 = .ok (.iload 4, 2) := by decide +kernel
theorem dX9_bestOf_48 : decode cX9_bestOf 48 = .ok (.invokevirtual 186, 3) := by decide +kernel
theorem dX9_bestOf_51 : decode cX9_bestOf 51 = .ok (.ifCond .ne 65, 3) := by decide +kernel
theorem dX9_bestOf_54 : decode cX9_bestOf 54 = .ok (.aload_n 0, 1) := by decide +kernel
theorem dX9_bestOf_55 : decode cX9_bestOf 55 = .ok (.iload 5, 2) := by decide +kernel
theorem dX9_bestOf_57 : decode cX9_bestOf 57 = .ok (.invokevirtual 186, 3) := by decide +kernel
theorem dX9_bestOf_60 : decode cX9_bestOf 60 = .ok (.ifCond .ne 56, 3) := by decide +kernel
theorem dX9_bestOf_63 : decode cX9_bestOf 63 = .ok (.aload_n 0, 1) := by decide +kernel
theorem dX9_bestOf_64 : decode cX9_bestOf 64 = .ok (.invokevirtual 148, 3) := by decide +kernel
theorem dX9_bestOf_67 : decode cX9_bestOf 67 = .ok (.aload_n 0, 1) := by decide +kernel
theorem dX9_bestOf_68 : decode cX9_bestOf 68 = .ok (.getfield 31, 3) := by decide +kernel
theorem dX9_bestOf_71 : decode cX9_bestOf 71 = .ok (.iload 4, 2) := by decide +kernel
theorem dX9_bestOf_73 : decode cX9_bestOf 73 = .ok (.iload 5, 2) := by decide +kernel
theorem dX9_bestOf_75 : decode cX9_bestOf 75 = .ok (.invokestatic 189, 3) := by decide +kernel
theorem dX9_bestOf_78 : decode cX9_bestOf 78 = .ok (.aload_n 0, 1) := by decide +kernel
theorem dX9_bestOf_79 : decode cX9_bestOf 79 = .ok (.invokevirtual 151, 3) := by decide +kernel
theorem dX9_bestOf_82 : decode cX9_bestOf 82 = .ok (.istore 6, 2) := by decide +kernel
theorem dX9_bestOf_84 : decode cX9_bestOf 84 = .ok (.iload 6, 2) := by decide +kernel
theorem dX9_bestOf_86 : decode cX9_bestOf 86 = .ok (.iload_n 1, 1) := by decide +kernel
theorem dX9_bestOf_87 : decode cX9_bestOf 87 = .ok (.if_icmp .le 14, 3) := by decide +kernel
theorem dX9_bestOf_90 : decode cX9_bestOf 90 = .ok (.bipush 10, 2) := by decide +kernel
theorem dX9_bestOf_92 : decode cX9_bestOf 92 = .ok (.iload 4, 2) := by decide +kernel
theorem dX9_bestOf_94 : decode cX9_bestOf 94 = .ok (.imul, 1) := by decide +kernel
theorem dX9_bestOf_95 : decode cX9_bestOf 95 = .ok (.iload 5, 2) := by decide +kernel
theorem dX9_bestOf_97 : decode cX9_bestOf 97 = .ok (.iadd, 1) := by decide +kernel
theorem dX9_bestOf_98 : decode cX9_bestOf 98 = .ok (.goto 4, 3) := by decide +kernel
theorem dX9_bestOf_101 : decode cX9_bestOf 101 = .ok (.iload_n 2, 1) := by decide +kernel
theorem dX9_bestOf_102 : decode cX9_bestOf 102 = .ok (.istore_n 2, 1) := by decide +kernel
theorem dX9_bestOf_103 : decode cX9_bestOf 103 = .ok (.iload 6, 2) := by decide +kernel
theorem dX9_bestOf_105 : decode cX9_bestOf 105 = .ok (.iload_n 1, 1) := by decide +kernel
theorem dX9_bestOf_106 : decode cX9_bestOf 106 = .ok (.if_icmp .le 8, 3) := by decide +kernel
theorem dX9_bestOf_109 : decode cX9_bestOf 109 = .ok (.iload 6, 2) := by decide +kernel
theorem dX9_bestOf_111 : decode cX9_bestOf 111 = .ok (.goto 4, 3) := by decide +kernel
theorem dX9_bestOf_114 : decode cX9_bestOf 114 = .ok (.iload_n 1, 1) := by decide +kernel
theorem dX9_bestOf_115 : decode cX9_bestOf 115 = .ok (.istore_n 1, 1) := by decide +kernel
theorem dX9_bestOf_116 : decode cX9_bestOf 116 = .ok (.iinc 3 1, 3) := by decide +kernel
theorem dX9_bestOf_119 : decode cX9_bestOf 119 = .ok (.goto (-110), 3) := by decide +kernel
theorem dX9_bestOf_122 : decode cX9_bestOf 122 = .ok (.iload_n 2, 1) := by decide +kernel
theorem dX9_bestOf_123 : decode cX9_bestOf 123 = .ok (.ireturn, 1) := by decide +kernel
theorem dX9_best_0 : decode cX9_best 0 = .ok (.aload_n 0, 1) := by decide +kernel
theorem dX9_best_1 : decode cX9_best 1 = .ok (.invokevirtual 182, 3) := by decide +kernel
theorem dX9_best_4 : decode cX9_best 4 = .ok (.ifCond .eq 8, 3) := by decide +kernel
theorem dX9_best_7 : decode cX9_best 7 = .ok (.bipush (-103), 2) := by decide +kernel
theorem dX9_best_9 : decode cX9_best 9 = .ok (.goto 7, 3) := by decide +kernel
theorem dX9_best_12 : decode cX9_best 12 = .ok (.aload_n 0, 1) := by decide +kernel
theorem dX9_best_13 : decode cX9_best 13 = .ok (.invokevirtual 201, 3) := by decide +kernel
theorem dX9_best_16 : decode cX9_best 16 = .ok (.ireturn, 1) := by decide +kernel
theorem dX9_looseMany_0 : decode cX9_looseMany 0 = .ok (.aload_n 0, 1) := by decide +kernel
theorem dX9_looseMany_1 : decode cX9_looseMany 1 = .ok (.getfield 107, 3) := by decide +kernel
theorem dX9_looseMany_4 : decode cX9_looseMany 4 = .ok (.aload_n 0, 1) := by decide +kernel
theorem dX9_looseMany_5 : decode cX9_looseMany 5 = .ok (.getfield 116, 3) := by decide +kernel
theorem dX9_looseMany_8 : decode cX9_looseMany 8 = .ok (.invokestatic 196, 3) := by decide +kernel
theorem dX9_looseMany_11 : decode cX9_looseMany 11 = .ok (.isub, 1) := by decide +kernel
theorem dX9_looseMany_12 : decode cX9_looseMany 12 = .ok (.ireturn, 1) := by decide +kernel
theorem dX9_factorial_0 : decode cX9_factorial 0 = .ok (.iconst 1, 1) := by decide +kernel
theorem dX9_factorial_1 : decode cX9_factorial 1 = .ok (.istore_n 1, 1) := by decide +kernel
theorem dX9_factorial_2 : decode cX9_factorial 2 = .ok (.iconst 2, 1) := by decide +kernel
theorem dX9_factorial_3 : decode cX9_factorial 3 = .ok (.istore_n 2, 1) := by decide +kernel
theorem dX9_factorial_4 : decode cX9_factorial 4 = .ok (.iload_n 2, 1) := by decide +kernel
theorem dX9_factorial_5 : decode cX9_factorial 5 = .ok (.iload_n 0, 1) := by decide +kernel
theorem dX9_factorial_6 : decode cX9_factorial 6 = .ok (.if_icmp .gt 13, 3) := by decide +kernel
theorem dX9_factorial_9 : decode cX9_factorial 9 = .ok (.iload_n 1, 1) := by decide +kernel
theorem dX9_factorial_10 : decode cX9_factorial 10 = .ok (.iload_n 2, 1) := by decide +kernel
theorem dX9_factorial_11 : decode cX9_factorial 11 = .ok (.imul, 1) := by decide +kernel
theorem dX9_factorial_12 : decode cX9_factorial 12 = .ok (.istore_n 1, 1) := by decide +kernel
theorem dX9_factorial_13 : decode cX9_factorial 13 = .ok (.iinc 2 1, 3) := by decide +kernel
theorem dX9_factorial_16 : decode cX9_factorial 16 = .ok (.goto (-12), 3) := by decide +kernel
theorem dX9_factorial_19 : decode cX9_factorial 19 = .ok (.iload_n 1, 1) := by decide +kernel
theorem dX9_factorial_20 : decode cX9_factorial 20 = .ok (.ireturn, 1) := by decide +kernel
theorem dX9_layOrder_0 : decode cX9_layOrder 0 = .ok (.aload_n 0, 1) := by decide +kernel
theorem dX9_layOrder_1 : decode cX9_layOrder 1 = .ok (.invokevirtual 148, 3) := by decide +kernel
theorem dX9_layOrder_4 : decode cX9_layOrder 4 = .ok (.iload_n 1, 1) := by decide +kernel
theorem dX9_layOrder_5 : decode cX9_layOrder 5 = .ok (.istore_n 2, 1) := by decide +kernel
theorem dX9_layOrder_6 : decode cX9_layOrder 6 = .ok (.aload_n 0, 1) := by decide +kernel
theorem dX9_layOrder_7 : decode cX9_layOrder 7 = .ok (.getfield 116, 3) := by decide +kernel
theorem dX9_layOrder_10 : decode cX9_layOrder 10 = .ok (.istore_n 3, 1) := by decide +kernel
theorem dX9_layOrder_11 : decode cX9_layOrder 11 = .ok (.aload_n 0, 1) := by decide +kernel
theorem dX9_layOrder_12 : decode cX9_layOrder 12 = .ok (.invokevirtual 204, 3) := by decide +kernel
theorem dX9_layOrder_15 : decode cX9_layOrder 15 = .ok (.istore 4, 2) := by decide +kernel
theorem dX9_layOrder_17 : decode cX9_layOrder 17 = .ok (.iconst 0, 1) := by decide +kernel
theorem dX9_layOrder_18 : decode cX9_layOrder 18 = .ok (.istore 5, 2) := by decide +kernel
theorem dX9_layOrder_20 : decode cX9_layOrder 20 = .ok (.iload 5, 2) := by decide +kernel
theorem dX9_layOrder_22 : decode cX9_layOrder 22 = .ok (.aload_n 0, 1) := by decide +kernel
theorem dX9_layOrder_23 : decode cX9_layOrder 23 = .ok (.getfield 107, 3) := by decide +kernel
theorem dX9_layOrder_26 : decode cX9_layOrder 26 = .ok (.if_icmp .ge 103, 3) := by decide +kernel
theorem dX9_layOrder_29 : decode cX9_layOrder 29 = .ok (.aload_n 0, 1) := by decide +kernel
theorem dX9_layOrder_30 : decode cX9_layOrder 30 = .ok (.aload_n 0, 1) := by decide +kernel
theorem dX9_layOrder_31 : decode cX9_layOrder 31 = .ok (.getfield 28, 3) := by decide +kernel
theorem dX9_layOrder_34 : decode cX9_layOrder 34 = .ok (.iload 5, 2) := by decide +kernel
theorem dX9_layOrder_36 : decode cX9_layOrder 36 = .ok (.iaload, 1) := by decide +kernel
theorem dX9_layOrder_37 : decode cX9_layOrder 37 = .ok (.invokevirtual 186, 3) := by decide +kernel
theorem dX9_layOrder_40 : decode cX9_layOrder 40 = .ok (.ifCond .ne 83, 3) := by decide +kernel
theorem dX9_layOrder_43 : decode cX9_layOrder 43 = .ok (.iinc 4 (-1), 3) := by decide +kernel
theorem dX9_layOrder_46 : decode cX9_layOrder 46 = .ok (.iload_n 2, 1) := by decide +kernel
theorem dX9_layOrder_47 : decode cX9_layOrder 47 = .ok (.iload 4, 2) := by decide +kernel
theorem dX9_layOrder_49 : decode cX9_layOrder 49 = .ok (.invokestatic 207, 3) := by decide +kernel
theorem dX9_layOrder_52 : decode cX9_layOrder 52 = .ok (.idiv, 1) := by decide +kernel
theorem dX9_layOrder_53 : decode cX9_layOrder 53 = .ok (.istore 6, 2) := by decide +kernel
theorem dX9_layOrder_55 : decode cX9_layOrder 55 = .ok (.iload_n 2, 1) := by decide +kernel
theorem dX9_layOrder_56 : decode cX9_layOrder 56 = .ok (.iload 4, 2) := by decide +kernel
theorem dX9_layOrder_58 : decode cX9_layOrder 58 = .ok (.invokestatic 207, 3) := by decide +kernel
theorem dX9_layOrder_61 : decode cX9_layOrder 61 = .ok (.irem, 1) := by decide +kernel
theorem dX9_layOrder_62 : decode cX9_layOrder 62 = .ok (.istore_n 2, 1) := by decide +kernel
theorem dX9_layOrder_63 : decode cX9_layOrder 63 = .ok (.iconst 0, 1) := by decide +kernel
theorem dX9_layOrder_64 : decode cX9_layOrder 64 = .ok (.istore 7, 2) := by decide +kernel
theorem dX9_layOrder_66 : decode cX9_layOrder 66 = .ok (.iload_n 3, 1) := by decide +kernel
theorem dX9_layOrder_67 : decode cX9_layOrder 67 = .ok (.iload 7, 2) := by decide +kernel
theorem dX9_layOrder_69 : decode cX9_layOrder 69 = .ok (.ishr, 1) := by decide +kernel
theorem dX9_layOrder_70 : decode cX9_layOrder 70 = .ok (.iconst 1, 1) := by decide +kernel
theorem dX9_layOrder_71 : decode cX9_layOrder 71 = .ok (.iand, 1) := by decide +kernel
theorem dX9_layOrder_72 : decode cX9_layOrder 72 = .ok (.iconst 1, 1) := by decide +kernel
theorem dX9_layOrder_73 : decode cX9_layOrder 73 = .ok (.if_icmp .eq 8, 3) := by decide +kernel
theorem dX9_layOrder_76 : decode cX9_layOrder 76 = .ok (.iload 6, 2) := by decide +kernel
theorem dX9_layOrder_78 : decode cX9_layOrder 78 = .ok (.ifCond .le 29, 3) := by decide +kernel
theorem dX9_layOrder_81 : decode cX9_layOrder 81 = .ok (.iload 6, 2) := by decide +kernel
theorem dX9_layOrder_83 : decode cX9_layOrder 83 = .ok (.iload_n 3, 1) := by decide +kernel
theorem dX9_layOrder_84 : decode cX9_layOrder 84 = .ok (.iload 7, 2) := by decide +kernel
theorem dX9_layOrder_86 : decode cX9_layOrder 86 = .ok (.ishr, 1) := by decide +kernel
theorem dX9_layOrder_87 : decode cX9_layOrder 87 = .ok (.iconst 1, 1) := by decide +kernel
theorem dX9_layOrder_88 : decode cX9_layOrder 88 = .ok (.iand, 1) := by decide +kernel
theorem dX9_layOrder_89 : decode cX9_layOrder 89 = .ok (.iconst 1, 1) := by decide +kernel
theorem dX9_layOrder_90 : decode cX9_layOrder 90 = .ok (.if_icmp .ne 7, 3) := by decide +kernel
theorem dX9_layOrder_93 : decode cX9_layOrder 93 = .ok (.iconst 0, 1) := by decide +kernel
theorem dX9_layOrder_94 : decode cX9_layOrder 94 = .ok (.goto 4, 3) := by decide +kernel
theorem dX9_layOrder_97 : decode cX9_layOrder 97 = .ok (.iconst 1, 1) := by decide +kernel
theorem dX9_layOrder_98 : decode cX9_layOrder 98 = .ok (.isub, 1) := by decide +kernel
theorem dX9_layOrder_99 : decode cX9_layOrder 99 = .ok (.istore 6, 2) := by decide +kernel
theorem dX9_layOrder_101 : decode cX9_layOrder 101 = .ok (.iinc 7 1, 3) := by decide +kernel
theorem dX9_layOrder_104 : decode cX9_layOrder 104 = .ok (.goto (-38), 3) := by decide +kernel
theorem dX9_layOrder_107 : decode cX9_layOrder 107 = .ok (.iload_n 3, 1) := by decide +kernel
theorem dX9_layOrder_108 : decode cX9_layOrder 108 = .ok (.iconst 1, 1) := by decide +kernel
theorem dX9_layOrder_109 : decode cX9_layOrder 109 = .ok (.iload 7, 2) := by decide +kernel
theorem dX9_layOrder_111 : decode cX9_layOrder 111 = .ok (.ishl, 1) := by decide +kernel
theorem dX9_layOrder_112 : decode cX9_layOrder 112 = .ok (.ior, 1) := by decide +kernel
theorem dX9_layOrder_113 : decode cX9_layOrder 113 = .ok (.istore_n 3, 1) := by decide +kernel
theorem dX9_layOrder_114 : decode cX9_layOrder 114 = .ok (.aload_n 0, 1) := by decide +kernel
theorem dX9_layOrder_115 : decode cX9_layOrder 115 = .ok (.getfield 31, 3) := by decide +kernel
theorem dX9_layOrder_118 : decode cX9_layOrder 118 = .ok (.iload 5, 2) := by decide +kernel
theorem dX9_layOrder_120 : decode cX9_layOrder 120 = .ok (.iload 7, 2) := by decide +kernel
theorem dX9_layOrder_122 : decode cX9_layOrder 122 = .ok (.iastore, 1) := by decide +kernel
theorem dX9_layOrder_123 : decode cX9_layOrder 123 = .ok (.iinc 5 1, 3) := by decide +kernel
theorem dX9_layOrder_126 : decode cX9_layOrder 126 = .ok (.goto (-106), 3) := by decide +kernel
theorem dX9_layOrder_129 : decode cX9_layOrder 129 = .ok (.return_, 1) := by decide +kernel
theorem dX9_tiltsAll_0 : decode cX9_tiltsAll 0 = .ok (.aload_n 0, 1) := by decide +kernel
theorem dX9_tiltsAll_1 : decode cX9_tiltsAll 1 = .ok (.invokevirtual 145, 3) := by decide +kernel
theorem dX9_tiltsAll_4 : decode cX9_tiltsAll 4 = .ok (.istore_n 1, 1) := by decide +kernel
theorem dX9_tiltsAll_5 : decode cX9_tiltsAll 5 = .ok (.iconst 0, 1) := by decide +kernel
theorem dX9_tiltsAll_6 : decode cX9_tiltsAll 6 = .ok (.istore_n 2, 1) := by decide +kernel
theorem dX9_tiltsAll_7 : decode cX9_tiltsAll 7 = .ok (.iconst 0, 1) := by decide +kernel
theorem dX9_tiltsAll_8 : decode cX9_tiltsAll 8 = .ok (.istore_n 3, 1) := by decide +kernel
theorem dX9_tiltsAll_9 : decode cX9_tiltsAll 9 = .ok (.iload_n 3, 1) := by decide +kernel
theorem dX9_tiltsAll_10 : decode cX9_tiltsAll 10 = .ok (.aload_n 0, 1) := by decide +kernel
theorem dX9_tiltsAll_11 : decode cX9_tiltsAll 11 = .ok (.getfield 104, 3) := by decide +kernel
theorem dX9_tiltsAll_14 : decode cX9_tiltsAll 14 = .ok (.if_icmp .ge 55, 3) := by decide +kernel
theorem dX9_tiltsAll_17 : decode cX9_tiltsAll 17 = .ok (.aload_n 0, 1) := by decide +kernel
theorem dX9_tiltsAll_18 : decode cX9_tiltsAll 18 = .ok (.getfield 37, 3) := by decide +kernel
theorem dX9_tiltsAll_21 : decode cX9_tiltsAll 21 = .ok (.iload_n 3, 1) := by decide +kernel
theorem dX9_tiltsAll_22 : decode cX9_tiltsAll 22 = .ok (.iaload, 1) := by decide +kernel
theorem dX9_tiltsAll_23 : decode cX9_tiltsAll 23 = .ok (.ifCond .ge 14, 3) := by decide +kernel
theorem dX9_tiltsAll_26 : decode cX9_tiltsAll 26 = .ok (.iconst 0, 1) := by decide +kernel
theorem dX9_tiltsAll_27 : decode cX9_tiltsAll 27 = .ok (.aload_n 0, 1) := by decide +kernel
theorem dX9_tiltsAll_28 : decode cX9_tiltsAll 28 = .ok (.getfield 37, 3) := by decide +kernel
theorem dX9_tiltsAll_31 : decode cX9_tiltsAll 31 = .ok (.iload_n 3, 1) := by decide +kernel
theorem dX9_tiltsAll_32 : decode cX9_tiltsAll 32 = .ok (.iaload, 1) := by decide +kernel
theorem dX9_tiltsAll_33 : decode cX9_tiltsAll 33 = .ok (.isub, 1) := by decide +kernel
theorem dX9_tiltsAll_34 : decode cX9_tiltsAll 34 = .ok (.goto 9, 3) := by decide +kernel
theorem dX9_tiltsAll_37 : decode cX9_tiltsAll 37 = .ok (.aload_n 0, 1) := by decide +kernel
theorem dX9_tiltsAll_38 : decode cX9_tiltsAll 38 = .ok (.getfield 37, 3) := by decide +kernel
theorem dX9_tiltsAll_41 : decode cX9_tiltsAll 41 = .ok (.iload_n 3, 1) := by decide +kernel
theorem dX9_tiltsAll_42 : decode cX9_tiltsAll 42 = .ok (.iaload, 1) := by decide +kernel
theorem dX9_tiltsAll_43 : decode cX9_tiltsAll 43 = .ok (.istore 4, 2) := by decide +kernel
theorem dX9_tiltsAll_45 : decode cX9_tiltsAll 45 = .ok (.iload_n 2, 1) := by decide +kernel
theorem dX9_tiltsAll_46 : decode cX9_tiltsAll 46 = .ok (.iload_n 1, 1) := by decide +kernel
theorem dX9_tiltsAll_47 : decode cX9_tiltsAll 47 = .ok (.iload_n 3, 1) := by decide +kernel
theorem dX9_tiltsAll_48 : decode cX9_tiltsAll 48 = .ok (.ishr, 1) := by decide +kernel
theorem dX9_tiltsAll_49 : decode cX9_tiltsAll 49 = .ok (.iconst 1, 1) := by decide +kernel
theorem dX9_tiltsAll_50 : decode cX9_tiltsAll 50 = .ok (.iand, 1) := by decide +kernel
theorem dX9_tiltsAll_51 : decode cX9_tiltsAll 51 = .ok (.iconst 1, 1) := by decide +kernel
theorem dX9_tiltsAll_52 : decode cX9_tiltsAll 52 = .ok (.if_icmp .ne 8, 3) := by decide +kernel
theorem dX9_tiltsAll_55 : decode cX9_tiltsAll 55 = .ok (.iload 4, 2) := by decide +kernel
theorem dX9_tiltsAll_57 : decode cX9_tiltsAll 57 = .ok (.goto 4, 3) := by decide +kernel
theorem dX9_tiltsAll_60 : decode cX9_tiltsAll 60 = .ok (.iconst 0, 1) := by decide +kernel
theorem dX9_tiltsAll_61 : decode cX9_tiltsAll 61 = .ok (.iadd, 1) := by decide +kernel
theorem dX9_tiltsAll_62 : decode cX9_tiltsAll 62 = .ok (.istore_n 2, 1) := by decide +kernel
theorem dX9_tiltsAll_63 : decode cX9_tiltsAll 63 = .ok (.iinc 3 1, 3) := by decide +kernel
theorem dX9_tiltsAll_66 : decode cX9_tiltsAll 66 = .ok (.goto (-57), 3) := by decide +kernel
theorem dX9_tiltsAll_69 : decode cX9_tiltsAll 69 = .ok (.iload_n 2, 1) := by decide +kernel
theorem dX9_tiltsAll_70 : decode cX9_tiltsAll 70 = .ok (.ireturn, 1) := by decide +kernel
theorem dX9_layOf_0 : decode cX9_layOf 0 = .ok (.iconst 0, 1) := by decide +kernel
theorem dX9_layOf_1 : decode cX9_layOf 1 = .ok (.istore_n 2, 1) := by decide +kernel
theorem dX9_layOf_2 : decode cX9_layOf 2 = .ok (.iconst (-1), 1) := by decide +kernel
theorem dX9_layOf_3 : decode cX9_layOf 3 = .ok (.istore_n 3, 1) := by decide +kernel
theorem dX9_layOf_4 : decode cX9_layOf 4 = .ok (.iconst 0, 1) := by decide +kernel
theorem dX9_layOf_5 : decode cX9_layOf 5 = .ok (.istore 4, 2) := by decide +kernel
theorem dX9_layOf_7 : decode cX9_layOf 7 = .ok (.iconst 0, 1) := by decide +kernel
theorem dX9_layOf_8 : decode cX9_layOf 8 = .ok (.istore 5, 2) := by decide +kernel
theorem dX9_layOf_10 : decode cX9_layOf 10 = .ok (.iload 5, 2) := by decide +kernel
theorem dX9_layOf_12 : decode cX9_layOf 12 = .ok (.aload_n 0, 1) := by decide +kernel
theorem dX9_layOf_13 : decode cX9_layOf 13 = .ok (.invokevirtual 204, 3) := by decide +kernel
theorem dX9_layOf_16 : decode cX9_layOf 16 = .ok (.invokestatic 207, 3) := by decide +kernel
theorem dX9_layOf_19 : decode cX9_layOf 19 = .ok (.if_icmp .ge 56, 3) := by decide +kernel
theorem dX9_layOf_22 : decode cX9_layOf 22 = .ok (.aload_n 0, 1) := by decide +kernel
theorem dX9_layOf_23 : decode cX9_layOf 23 = .ok (.iload 5, 2) := by decide +kernel
theorem dX9_layOf_25 : decode cX9_layOf 25 = .ok (.invokevirtual 210, 3) := by decide +kernel
theorem dX9_layOf_28 : decode cX9_layOf 28 = .ok (.aload_n 0, 1) := by decide +kernel
theorem dX9_layOf_29 : decode cX9_layOf 29 = .ok (.invokevirtual 151, 3) := by decide +kernel
theorem dX9_layOf_32 : decode cX9_layOf 32 = .ok (.istore 6, 2) := by decide +kernel
theorem dX9_layOf_34 : decode cX9_layOf 34 = .ok (.aload_n 0, 1) := by decide +kernel
theorem dX9_layOf_35 : decode cX9_layOf 35 = .ok (.invokevirtual 214, 3) := by decide +kernel
theorem dX9_layOf_38 : decode cX9_layOf 38 = .ok (.istore 7, 2) := by decide +kernel
theorem dX9_layOf_40 : decode cX9_layOf 40 = .ok (.iload 6, 2) := by decide +kernel
theorem dX9_layOf_42 : decode cX9_layOf 42 = .ok (.iload_n 3, 1) := by decide +kernel
theorem dX9_layOf_43 : decode cX9_layOf 43 = .ok (.if_icmp .gt 16, 3) := by decide +kernel
theorem dX9_layOf_46 : decode cX9_layOf 46 = .ok (.iload 6, 2) := by decide +kernel
theorem dX9_layOf_48 : decode cX9_layOf 48 = .ok (.iload_n 3, 1) := by decide +kernel
theorem dX9_layOf_49 : decode cX9_layOf 49 = .ok (.if_icmp .ne 20, 3) := by decide +kernel
theorem dX9_layOf_52 : decode cX9_layOf 52 = .ok (.iload 7, 2) := by decide +kernel
theorem dX9_layOf_54 : decode cX9_layOf 54 = .ok (.iload 4, 2) := by decide +kernel
theorem dX9_layOf_56 : decode cX9_layOf 56 = .ok (.if_icmp .ge 13, 3) := by decide +kernel
theorem dX9_layOf_59 : decode cX9_layOf 59 = .ok (.iload 5, 2) := by decide +kernel
theorem dX9_layOf_61 : decode cX9_layOf 61 = .ok (.istore_n 2, 1) := by decide +kernel
theorem dX9_layOf_62 : decode cX9_layOf 62 = .ok (.iload 6, 2) := by decide +kernel
theorem dX9_layOf_64 : decode cX9_layOf 64 = .ok (.istore_n 3, 1) := by decide +kernel
theorem dX9_layOf_65 : decode cX9_layOf 65 = .ok (.iload 7, 2) := by decide +kernel
theorem dX9_layOf_67 : decode cX9_layOf 67 = .ok (.istore 4, 2) := by decide +kernel
theorem dX9_layOf_69 : decode cX9_layOf 69 = .ok (.iinc 5 1, 3) := by decide +kernel
theorem dX9_layOf_72 : decode cX9_layOf 72 = .ok (.goto (-62), 3) := by decide +kernel
theorem dX9_layOf_75 : decode cX9_layOf 75 = .ok (.iload_n 1, 1) := by decide +kernel
theorem dX9_layOf_76 : decode cX9_layOf 76 = .ok (.iconst 2, 1) := by decide +kernel
theorem dX9_layOf_77 : decode cX9_layOf 77 = .ok (.if_icmp .ge 14, 3) := by decide +kernel
theorem dX9_layOf_80 : decode cX9_layOf 80 = .ok (.iload_n 1, 1) := by decide +kernel
theorem dX9_layOf_81 : decode cX9_layOf 81 = .ok (.ifCond .ne 7, 3) := by decide +kernel
theorem dX9_layOf_84 : decode cX9_layOf 84 = .ok (.iload_n 3, 1) := by decide +kernel
theorem dX9_layOf_85 : decode cX9_layOf 85 = .ok (.goto 5, 3) := by decide +kernel
theorem dX9_layOf_88 : decode cX9_layOf 88 = .ok (.iload 4, 2) := by decide +kernel
theorem dX9_layOf_90 : decode cX9_layOf 90 = .ok (.ireturn, 1) := by decide +kernel
theorem dX9_layOf_91 : decode cX9_layOf 91 = .ok (.aload_n 0, 1) := by decide +kernel
theorem dX9_layOf_92 : decode cX9_layOf 92 = .ok (.iload_n 2, 1) := by decide +kernel
theorem dX9_layOf_93 : decode cX9_layOf 93 = .ok (.invokevirtual 210, 3) := by decide +kernel
theorem dX9_layOf_96 : decode cX9_layOf 96 = .ok (.iload_n 1, 1) := by decide +kernel
theorem dX9_layOf_97 : decode cX9_layOf 97 = .ok (.bipush 10, 2) := by decide +kernel
theorem dX9_layOf_99 : decode cX9_layOf 99 = .ok (.isub, 1) := by decide +kernel
theorem dX9_layOf_100 : decode cX9_layOf 100 = .ok (.istore 5, 2) := by decide +kernel
theorem dX9_layOf_102 : decode cX9_layOf 102 = .ok (.iload 5, 2) := by decide +kernel
theorem dX9_layOf_104 : decode cX9_layOf 104 = .ok (.aload_n 0, 1) := by decide +kernel
theorem dX9_layOf_105 : decode cX9_layOf 105 = .ok (.getfield 107, 3) := by decide +kernel
theorem dX9_layOf_108 : decode cX9_layOf 108 = .ok (.if_icmp .ge 27, 3) := by decide +kernel
theorem dX9_layOf_111 : decode cX9_layOf 111 = .ok (.aload_n 0, 1) := by decide +kernel
theorem dX9_layOf_112 : decode cX9_layOf 112 = .ok (.aload_n 0, 1) := by decide +kernel
theorem dX9_layOf_113 : decode cX9_layOf 113 = .ok (.getfield 28, 3) := by decide +kernel
theorem dX9_layOf_116 : decode cX9_layOf 116 = .ok (.iload 5, 2) := by decide +kernel
theorem dX9_layOf_118 : decode cX9_layOf 118 = .ok (.iaload, 1) := by decide +kernel
theorem dX9_layOf_119 : decode cX9_layOf 119 = .ok (.invokevirtual 186, 3) := by decide +kernel
theorem dX9_layOf_122 : decode cX9_layOf 122 = .ok (.ifCond .ne 13, 3) := by decide +kernel
theorem dX9_layOf_125 : decode cX9_layOf 125 = .ok (.aload_n 0, 1) := by decide +kernel
theorem dX9_layOf_126 : decode cX9_layOf 126 = .ok (.getfield 31, 3) := by decide +kernel
theorem dX9_layOf_129 : decode cX9_layOf 129 = .ok (.iload 5, 2) := by decide +kernel
theorem dX9_layOf_131 : decode cX9_layOf 131 = .ok (.iaload, 1) := by decide +kernel
theorem dX9_layOf_132 : decode cX9_layOf 132 = .ok (.goto 4, 3) := by decide +kernel
theorem dX9_layOf_135 : decode cX9_layOf 135 = .ok (.iconst (-1), 1) := by decide +kernel
theorem dX9_layOf_136 : decode cX9_layOf 136 = .ok (.ireturn, 1) := by decide +kernel
theorem dX9_lay_0 : decode cX9_lay 0 = .ok (.iload_n 1, 1) := by decide +kernel
theorem dX9_lay_1 : decode cX9_lay 1 = .ok (.i2l, 1) := by decide +kernel
theorem dX9_lay_2 : decode cX9_lay 2 = .ok (.lconst 0, 1) := by decide +kernel
theorem dX9_lay_3 : decode cX9_lay 3 = .ok (.lconst 1, 1) := by decide +kernel
theorem dX9_lay_4 : decode cX9_lay 4 = .ok (.invokestatic 64, 3) := by decide +kernel
theorem dX9_lay_7 : decode cX9_lay 7 = .ok (.ifCond .ne 20, 3) := by decide +kernel
theorem dX9_lay_10 : decode cX9_lay 10 = .ok (.iload_n 1, 1) := by decide +kernel
theorem dX9_lay_11 : decode cX9_lay 11 = .ok (.i2l, 1) := by decide +kernel
theorem dX9_lay_12 : decode cX9_lay 12 = .ok (.ldc2_w 217, 3) := by decide +kernel
theorem dX9_lay_15 : decode cX9_lay 15 = .ok (.ldc2_w 219, 3) := by decide +kernel
theorem dX9_lay_18 : decode cX9_lay 18 = .ok (.invokestatic 64, 3) := by decide +kernel
theorem dX9_lay_21 : decode cX9_lay 21 = .ok (.ifCond .ne 6, 3) := by decide +kernel
theorem dX9_lay_24 : decode cX9_lay 24 = .ok (.bipush (-102), 2) := by decide +kernel
theorem dX9_lay_26 : decode cX9_lay 26 = .ok (.ireturn, 1) := by decide +kernel
theorem dX9_lay_27 : decode cX9_lay 27 = .ok (.aload_n 0, 1) := by decide +kernel
theorem dX9_lay_28 : decode cX9_lay 28 = .ok (.invokevirtual 182, 3) := by decide +kernel
theorem dX9_lay_31 : decode cX9_lay 31 = .ok (.ifCond .ne 12, 3) := by decide +kernel
theorem dX9_lay_34 : decode cX9_lay 34 = .ok (.aload_n 0, 1) := by decide +kernel
theorem dX9_lay_35 : decode cX9_lay 35 = .ok (.getfield 221, 3) := by decide +kernel
theorem dX9_lay_38 : decode cX9_lay 38 = .ok (.bipush 20, 2) := by decide +kernel
theorem dX9_lay_40 : decode cX9_lay 40 = .ok (.if_icmp .ne 6, 3) := by decide +kernel
theorem dX9_lay_43 : decode cX9_lay 43 = .ok (.bipush (-103), 2) := by decide +kernel
theorem dX9_lay_45 : decode cX9_lay 45 = .ok (.ireturn, 1) := by decide +kernel
theorem dX9_lay_46 : decode cX9_lay 46 = .ok (.aload_n 0, 1) := by decide +kernel
theorem dX9_lay_47 : decode cX9_lay 47 = .ok (.dup, 1) := by decide +kernel
theorem dX9_lay_48 : decode cX9_lay 48 = .ok (.getfield 221, 3) := by decide +kernel
theorem dX9_lay_51 : decode cX9_lay 51 = .ok (.iconst 1, 1) := by decide +kernel
theorem dX9_lay_52 : decode cX9_lay 52 = .ok (.iadd, 1) := by decide +kernel
theorem dX9_lay_53 : decode cX9_lay 53 = .ok (.putfield 221, 3) := by decide +kernel
theorem dX9_lay_56 : decode cX9_lay 56 = .ok (.aload_n 0, 1) := by decide +kernel
theorem dX9_lay_57 : decode cX9_lay 57 = .ok (.iload_n 1, 1) := by decide +kernel
theorem dX9_lay_58 : decode cX9_lay 58 = .ok (.invokevirtual 224, 3) := by decide +kernel
theorem dX9_lay_61 : decode cX9_lay 61 = .ok (.ireturn, 1) := by decide +kernel
theorem dX9_evenOf_0 : decode cX9_evenOf 0 = .ok (.aload_n 0, 1) := by decide +kernel
theorem dX9_evenOf_1 : decode cX9_evenOf 1 = .ok (.invokevirtual 145, 3) := by decide +kernel
theorem dX9_evenOf_4 : decode cX9_evenOf 4 = .ok (.invokestatic 196, 3) := by decide +kernel
theorem dX9_evenOf_7 : decode cX9_evenOf 7 = .ok (.istore_n 1, 1) := by decide +kernel
theorem dX9_evenOf_8 : decode cX9_evenOf 8 = .ok (.iconst 0, 1) := by decide +kernel
theorem dX9_evenOf_9 : decode cX9_evenOf 9 = .ok (.istore_n 2, 1) := by decide +kernel
theorem dX9_evenOf_10 : decode cX9_evenOf 10 = .ok (.iload_n 2, 1) := by decide +kernel
theorem dX9_evenOf_11 : decode cX9_evenOf 11 = .ok (.bipush 21, 2) := by decide +kernel
theorem dX9_evenOf_13 : decode cX9_evenOf 13 = .ok (.if_icmp .ge 33, 3) := by decide +kernel
theorem dX9_evenOf_16 : decode cX9_evenOf 16 = .ok (.aload_n 0, 1) := by decide +kernel
theorem dX9_evenOf_17 : decode cX9_evenOf 17 = .ok (.invokevirtual 148, 3) := by decide +kernel
theorem dX9_evenOf_20 : decode cX9_evenOf 20 = .ok (.aload_n 0, 1) := by decide +kernel
theorem dX9_evenOf_21 : decode cX9_evenOf 21 = .ok (.aload_n 0, 1) := by decide +kernel
theorem dX9_evenOf_22 : decode cX9_evenOf 22 = .ok (.getfield 110, 3) := by decide +kernel
theorem dX9_evenOf_25 : decode cX9_evenOf 25 = .ok (.iload_n 2, 1) := by decide +kernel
theorem dX9_evenOf_26 : decode cX9_evenOf 26 = .ok (.iadd, 1) := by decide +kernel
theorem dX9_evenOf_27 : decode cX9_evenOf 27 = .ok (.putfield 129, 3) := by decide +kernel
theorem dX9_evenOf_30 : decode cX9_evenOf 30 = .ok (.aload_n 0, 1) := by decide +kernel
theorem dX9_evenOf_31 : decode cX9_evenOf 31 = .ok (.invokevirtual 151, 3) := by decide +kernel
theorem dX9_evenOf_34 : decode cX9_evenOf 34 = .ok (.iload_n 1, 1) := by decide +kernel
theorem dX9_evenOf_35 : decode cX9_evenOf 35 = .ok (.if_icmp .ne 5, 3) := by decide +kernel
theorem dX9_evenOf_38 : decode cX9_evenOf 38 = .ok (.iload_n 2, 1) := by decide +kernel
theorem dX9_evenOf_39 : decode cX9_evenOf 39 = .ok (.ireturn, 1) := by decide +kernel
theorem dX9_evenOf_40 : decode cX9_evenOf 40 = .ok (.iinc 2 1, 3) := by decide +kernel
theorem dX9_evenOf_43 : decode cX9_evenOf 43 = .ok (.goto (-33), 3) := by decide +kernel
theorem dX9_evenOf_46 : decode cX9_evenOf 46 = .ok (.iconst (-1), 1) := by decide +kernel
theorem dX9_evenOf_47 : decode cX9_evenOf 47 = .ok (.ireturn, 1) := by decide +kernel
theorem dX9_even_0 : decode cX9_even 0 = .ok (.aload_n 0, 1) := by decide +kernel
theorem dX9_even_1 : decode cX9_even 1 = .ok (.invokevirtual 182, 3) := by decide +kernel
theorem dX9_even_4 : decode cX9_even 4 = .ok (.ifCond .eq 8, 3) := by decide +kernel
theorem dX9_even_7 : decode cX9_even 7 = .ok (.bipush (-103), 2) := by decide +kernel
theorem dX9_even_9 : decode cX9_even 9 = .ok (.goto 7, 3) := by decide +kernel
theorem dX9_even_12 : decode cX9_even 12 = .ok (.aload_n 0, 1) := by decide +kernel
theorem dX9_even_13 : decode cX9_even 13 = .ok (.invokevirtual 227, 3) := by decide +kernel
theorem dX9_even_16 : decode cX9_even 16 = .ok (.ireturn, 1) := by decide +kernel
theorem dX9_oddsOf_0 : decode cX9_oddsOf 0 = .ok (.aload_n 0, 1) := by decide +kernel
theorem dX9_oddsOf_1 : decode cX9_oddsOf 1 = .ok (.invokevirtual 145, 3) := by decide +kernel
theorem dX9_oddsOf_4 : decode cX9_oddsOf 4 = .ok (.invokestatic 196, 3) := by decide +kernel
theorem dX9_oddsOf_7 : decode cX9_oddsOf 7 = .ok (.istore_n 2, 1) := by decide +kernel
theorem dX9_oddsOf_8 : decode cX9_oddsOf 8 = .ok (.aload_n 0, 1) := by decide +kernel
theorem dX9_oddsOf_9 : decode cX9_oddsOf 9 = .ok (.invokevirtual 204, 3) := by decide +kernel
theorem dX9_oddsOf_12 : decode cX9_oddsOf 12 = .ok (.invokestatic 207, 3) := by decide +kernel
theorem dX9_oddsOf_15 : decode cX9_oddsOf 15 = .ok (.istore_n 3, 1) := by decide +kernel
theorem dX9_oddsOf_16 : decode cX9_oddsOf 16 = .ok (.iconst 0, 1) := by decide +kernel
theorem dX9_oddsOf_17 : decode cX9_oddsOf 17 = .ok (.istore 4, 2) := by decide +kernel
theorem dX9_oddsOf_19 : decode cX9_oddsOf 19 = .ok (.iconst 0, 1) := by decide +kernel
theorem dX9_oddsOf_20 : decode cX9_oddsOf 20 = .ok (.istore 5, 2) := by decide +kernel
theorem dX9_oddsOf_22 : decode cX9_oddsOf 22 = .ok (.iload 5, 2) := by decide +kernel
theorem dX9_oddsOf_24 : decode cX9_oddsOf 24 = .ok (.iload_n 3, 1) := by decide +kernel
theorem dX9_oddsOf_25 : decode cX9_oddsOf 25 = .ok (.if_icmp .ge 33, 3) := by decide +kernel
theorem dX9_oddsOf_28 : decode cX9_oddsOf 28 = .ok (.aload_n 0, 1) := by decide +kernel
theorem dX9_oddsOf_29 : decode cX9_oddsOf 29 = .ok (.iload 5, 2) := by decide +kernel
theorem dX9_oddsOf_31 : decode cX9_oddsOf 31 = .ok (.invokevirtual 210, 3) := by decide +kernel
theorem dX9_oddsOf_34 : decode cX9_oddsOf 34 = .ok (.iload 4, 2) := by decide +kernel
theorem dX9_oddsOf_36 : decode cX9_oddsOf 36 = .ok (.aload_n 0, 1) := by decide +kernel
theorem dX9_oddsOf_37 : decode cX9_oddsOf 37 = .ok (.invokevirtual 151, 3) := by decide +kernel
theorem dX9_oddsOf_40 : decode cX9_oddsOf 40 = .ok (.iload_n 2, 1) := by decide +kernel
theorem dX9_oddsOf_41 : decode cX9_oddsOf 41 = .ok (.if_icmp .ne 7, 3) := by decide +kernel
theorem dX9_oddsOf_44 : decode cX9_oddsOf 44 = .ok (.iconst 1, 1) := by decide +kernel
theorem dX9_oddsOf_45 : decode cX9_oddsOf 45 = .ok (.goto 4, 3) := by decide +kernel
theorem dX9_oddsOf_48 : decode cX9_oddsOf 48 = .ok (.iconst 0, 1) := by decide +kernel
theorem dX9_oddsOf_49 : decode cX9_oddsOf 49 = .ok (.iadd, 1) := by decide +kernel
theorem dX9_oddsOf_50 : decode cX9_oddsOf 50 = .ok (.istore 4, 2) := by decide +kernel
theorem dX9_oddsOf_52 : decode cX9_oddsOf 52 = .ok (.iinc 5 1, 3) := by decide +kernel
theorem dX9_oddsOf_55 : decode cX9_oddsOf 55 = .ok (.goto (-33), 3) := by decide +kernel
theorem dX9_oddsOf_58 : decode cX9_oddsOf 58 = .ok (.iload_n 3, 1) := by decide +kernel
theorem dX9_oddsOf_59 : decode cX9_oddsOf 59 = .ok (.istore 5, 2) := by decide +kernel
theorem dX9_oddsOf_61 : decode cX9_oddsOf 61 = .ok (.iload 4, 2) := by decide +kernel
theorem dX9_oddsOf_63 : decode cX9_oddsOf 63 = .ok (.istore 6, 2) := by decide +kernel
theorem dX9_oddsOf_65 : decode cX9_oddsOf 65 = .ok (.iload 6, 2) := by decide +kernel
theorem dX9_oddsOf_67 : decode cX9_oddsOf 67 = .ok (.ifCond .le 21, 3) := by decide +kernel
theorem dX9_oddsOf_70 : decode cX9_oddsOf 70 = .ok (.iload 5, 2) := by decide +kernel
theorem dX9_oddsOf_72 : decode cX9_oddsOf 72 = .ok (.iload 6, 2) := by decide +kernel
theorem dX9_oddsOf_74 : decode cX9_oddsOf 74 = .ok (.irem, 1) := by decide +kernel
theorem dX9_oddsOf_75 : decode cX9_oddsOf 75 = .ok (.istore 7, 2) := by decide +kernel
theorem dX9_oddsOf_77 : decode cX9_oddsOf 77 = .ok (.iload 6, 2) := by decide +kernel
theorem dX9_oddsOf_79 : decode cX9_oddsOf 79 = .ok (.istore 5, 2) := by decide +kernel
theorem dX9_oddsOf_81 : decode cX9_oddsOf 81 = .ok (.iload 7, 2) := by decide +kernel
theorem dX9_oddsOf_83 : decode cX9_oddsOf 83 = .ok (.istore 6, 2) := by decide +kernel
theorem dX9_oddsOf_85 : decode cX9_oddsOf 85 = .ok (.goto (-20), 3) := by decide +kernel
theorem dX9_oddsOf_88 : decode cX9_oddsOf 88 = .ok (.iload_n 1, 1) := by decide +kernel
theorem dX9_oddsOf_89 : decode cX9_oddsOf 89 = .ok (.ifCond .ne 11, 3) := by decide +kernel
theorem dX9_oddsOf_92 : decode cX9_oddsOf 92 = .ok (.iload 4, 2) := by decide +kernel
theorem dX9_oddsOf_94 : decode cX9_oddsOf 94 = .ok (.iload 5, 2) := by decide +kernel
theorem dX9_oddsOf_96 : decode cX9_oddsOf 96 = .ok (.idiv, 1) := by decide +kernel
theorem dX9_oddsOf_97 : decode cX9_oddsOf 97 = .ok (.goto 7, 3) := by decide +kernel
theorem dX9_oddsOf_100 : decode cX9_oddsOf 100 = .ok (.iload_n 3, 1) := by decide +kernel
theorem dX9_oddsOf_101 : decode cX9_oddsOf 101 = .ok (.iload 5, 2) := by decide +kernel
theorem dX9_oddsOf_103 : decode cX9_oddsOf 103 = .ok (.idiv, 1) := by decide +kernel
theorem dX9_oddsOf_104 : decode cX9_oddsOf 104 = .ok (.ireturn, 1) := by decide +kernel
theorem dX9_odds_0 : decode cX9_odds 0 = .ok (.iload_n 1, 1) := by decide +kernel
theorem dX9_odds_1 : decode cX9_odds 1 = .ok (.i2l, 1) := by decide +kernel
theorem dX9_odds_2 : decode cX9_odds 2 = .ok (.lconst 0, 1) := by decide +kernel
theorem dX9_odds_3 : decode cX9_odds 3 = .ok (.lconst 1, 1) := by decide +kernel
theorem dX9_odds_4 : decode cX9_odds 4 = .ok (.invokestatic 64, 3) := by decide +kernel
theorem dX9_odds_7 : decode cX9_odds 7 = .ok (.ifCond .ne 6, 3) := by decide +kernel
theorem dX9_odds_10 : decode cX9_odds 10 = .ok (.bipush (-102), 2) := by decide +kernel
theorem dX9_odds_12 : decode cX9_odds 12 = .ok (.ireturn, 1) := by decide +kernel
theorem dX9_odds_13 : decode cX9_odds 13 = .ok (.aload_n 0, 1) := by decide +kernel
theorem dX9_odds_14 : decode cX9_odds 14 = .ok (.invokevirtual 182, 3) := by decide +kernel
theorem dX9_odds_17 : decode cX9_odds 17 = .ok (.ifCond .eq 8, 3) := by decide +kernel
theorem dX9_odds_20 : decode cX9_odds 20 = .ok (.bipush (-103), 2) := by decide +kernel
theorem dX9_odds_22 : decode cX9_odds 22 = .ok (.goto 8, 3) := by decide +kernel
theorem dX9_odds_25 : decode cX9_odds 25 = .ok (.aload_n 0, 1) := by decide +kernel
theorem dX9_odds_26 : decode cX9_odds 26 = .ok (.iload_n 1, 1) := by decide +kernel
theorem dX9_odds_27 : decode cX9_odds 27 = .ok (.invokevirtual 230, 3) := by decide +kernel
theorem dX9_odds_30 : decode cX9_odds 30 = .ok (.ireturn, 1) := by decide +kernel
theorem dX9_see_0 : decode cX9_see 0 = .ok (.aload_n 0, 1) := by decide +kernel
theorem dX9_see_1 : decode cX9_see 1 = .ok (.iload_n 1, 1) := by decide +kernel
theorem dX9_see_2 : decode cX9_see 2 = .ok (.invokevirtual 176, 3) := by decide +kernel
theorem dX9_see_5 : decode cX9_see 5 = .ok (.ifCond .eq 11, 3) := by decide +kernel
theorem dX9_see_8 : decode cX9_see 8 = .ok (.aload_n 0, 1) := by decide +kernel
theorem dX9_see_9 : decode cX9_see 9 = .ok (.iload_n 2, 1) := by decide +kernel
theorem dX9_see_10 : decode cX9_see 10 = .ok (.invokevirtual 163, 3) := by decide +kernel
theorem dX9_see_13 : decode cX9_see 13 = .ok (.ifCond .ne 6, 3) := by decide +kernel
theorem dX9_see_16 : decode cX9_see 16 = .ok (.bipush (-101), 2) := by decide +kernel
theorem dX9_see_18 : decode cX9_see 18 = .ok (.ireturn, 1) := by decide +kernel
theorem dX9_see_19 : decode cX9_see 19 = .ok (.iload_n 3, 1) := by decide +kernel
theorem dX9_see_20 : decode cX9_see 20 = .ok (.i2l, 1) := by decide +kernel
theorem dX9_see_21 : decode cX9_see 21 = .ok (.lconst 0, 1) := by decide +kernel
theorem dX9_see_22 : decode cX9_see 22 = .ok (.ldc2_w 199, 3) := by decide +kernel
theorem dX9_see_25 : decode cX9_see 25 = .ok (.invokestatic 64, 3) := by decide +kernel
theorem dX9_see_28 : decode cX9_see 28 = .ok (.ifCond .eq 16, 3) := by decide +kernel
theorem dX9_see_31 : decode cX9_see 31 = .ok (.iload 4, 2) := by decide +kernel
theorem dX9_see_33 : decode cX9_see 33 = .ok (.i2l, 1) := by decide +kernel
theorem dX9_see_34 : decode cX9_see 34 = .ok (.lconst 0, 1) := by decide +kernel
theorem dX9_see_35 : decode cX9_see 35 = .ok (.ldc2_w 233, 3) := by decide +kernel
theorem dX9_see_38 : decode cX9_see 38 = .ok (.invokestatic 64, 3) := by decide +kernel
theorem dX9_see_41 : decode cX9_see 41 = .ok (.ifCond .ne 6, 3) := by decide +kernel
theorem dX9_see_44 : decode cX9_see 44 = .ok (.bipush (-102), 2) := by decide +kernel
theorem dX9_see_46 : decode cX9_see 46 = .ok (.ireturn, 1) := by decide +kernel
theorem dX9_see_47 : decode cX9_see 47 = .ok (.aload_n 0, 1) := by decide +kernel
theorem dX9_see_48 : decode cX9_see 48 = .ok (.getfield 119, 3) := by decide +kernel
theorem dX9_see_51 : decode cX9_see 51 = .ok (.bipush 6, 2) := by decide +kernel
theorem dX9_see_53 : decode cX9_see 53 = .ok (.if_icmp .ne 6, 3) := by decide +kernel
theorem dX9_see_56 : decode cX9_see 56 = .ok (.bipush (-104), 2) := by decide +kernel
theorem dX9_see_58 : decode cX9_see 58 = .ok (.ireturn, 1) := by decide +kernel
theorem dX9_see_59 : decode cX9_see 59 = .ok (.aload_n 0, 1) := by decide +kernel
theorem dX9_see_60 : decode cX9_see 60 = .ok (.getfield 40, 3) := by decide +kernel
theorem dX9_see_63 : decode cX9_see 63 = .ok (.iconst 4, 1) := by decide +kernel
theorem dX9_see_64 : decode cX9_see 64 = .ok (.aload_n 0, 1) := by decide +kernel
theorem dX9_see_65 : decode cX9_see 65 = .ok (.getfield 119, 3) := by decide +kernel
theorem dX9_see_68 : decode cX9_see 68 = .ok (.imul, 1) := by decide +kernel
theorem dX9_see_69 : decode cX9_see 69 = .ok (.iload_n 1, 1) := by decide +kernel
theorem dX9_see_70 : decode cX9_see 70 = .ok (.iastore, 1) := by decide +kernel
theorem dX9_see_71 : decode cX9_see 71 = .ok (.aload_n 0, 1) := by decide +kernel
theorem dX9_see_72 : decode cX9_see 72 = .ok (.getfield 40, 3) := by decide +kernel
theorem dX9_see_75 : decode cX9_see 75 = .ok (.iconst 4, 1) := by decide +kernel
theorem dX9_see_76 : decode cX9_see 76 = .ok (.aload_n 0, 1) := by decide +kernel
theorem dX9_see_77 : decode cX9_see 77 = .ok (.getfield 119, 3) := by decide +kernel
theorem dX9_see_80 : decode cX9_see 80 = .ok (.imul, 1) := by decide +kernel
theorem dX9_see_81 : decode cX9_see 81 = .ok (.iconst 1, 1) := by decide +kernel
theorem dX9_see_82 : decode cX9_see 82 = .ok (.iadd, 1) := by decide +kernel
theorem dX9_see_83 : decode cX9_see 83 = .ok (.iload_n 2, 1) := by decide +kernel
theorem dX9_see_84 : decode cX9_see 84 = .ok (.iastore, 1) := by decide +kernel
theorem dX9_see_85 : decode cX9_see 85 = .ok (.aload_n 0, 1) := by decide +kernel
theorem dX9_see_86 : decode cX9_see 86 = .ok (.getfield 40, 3) := by decide +kernel
theorem dX9_see_89 : decode cX9_see 89 = .ok (.iconst 4, 1) := by decide +kernel
theorem dX9_see_90 : decode cX9_see 90 = .ok (.aload_n 0, 1) := by decide +kernel
theorem dX9_see_91 : decode cX9_see 91 = .ok (.getfield 119, 3) := by decide +kernel
theorem dX9_see_94 : decode cX9_see 94 = .ok (.imul, 1) := by decide +kernel
theorem dX9_see_95 : decode cX9_see 95 = .ok (.iconst 2, 1) := by decide +kernel
theorem dX9_see_96 : decode cX9_see 96 = .ok (.iadd, 1) := by decide +kernel
theorem dX9_see_97 : decode cX9_see 97 = .ok (.iload_n 3, 1) := by decide +kernel
theorem dX9_see_98 : decode cX9_see 98 = .ok (.iastore, 1) := by decide +kernel
theorem dX9_see_99 : decode cX9_see 99 = .ok (.aload_n 0, 1) := by decide +kernel
theorem dX9_see_100 : decode cX9_see 100 = .ok (.getfield 40, 3) := by decide +kernel
theorem dX9_see_103 : decode cX9_see 103 = .ok (.iconst 4, 1) := by decide +kernel
theorem dX9_see_104 : decode cX9_see 104 = .ok (.aload_n 0, 1) := by decide +kernel
theorem dX9_see_105 : decode cX9_see 105 = .ok (.getfield 119, 3) := by decide +kernel
theorem dX9_see_108 : decode cX9_see 108 = .ok (.imul, 1) := by decide +kernel
theorem dX9_see_109 : decode cX9_see 109 = .ok (.iconst 3, 1) := by decide +kernel
theorem dX9_see_110 : decode cX9_see 110 = .ok (.iadd, 1) := by decide +kernel
theorem dX9_see_111 : decode cX9_see 111 = .ok (.iload 4, 2) := by decide +kernel
theorem dX9_see_113 : decode cX9_see 113 = .ok (.iastore, 1) := by decide +kernel
theorem dX9_see_114 : decode cX9_see 114 = .ok (.aload_n 0, 1) := by decide +kernel
theorem dX9_see_115 : decode cX9_see 115 = .ok (.dup, 1) := by decide +kernel
theorem dX9_see_116 : decode cX9_see 116 = .ok (.getfield 119, 3) := by decide +kernel
theorem dX9_see_119 : decode cX9_see 119 = .ok (.iconst 1, 1) := by decide +kernel
theorem dX9_see_120 : decode cX9_see 120 = .ok (.iadd, 1) := by decide +kernel
theorem dX9_see_121 : decode cX9_see 121 = .ok (.putfield 119, 3) := by decide +kernel
theorem dX9_see_124 : decode cX9_see 124 = .ok (.aload_n 0, 1) := by decide +kernel
theorem dX9_see_125 : decode cX9_see 125 = .ok (.getfield 119, 3) := by decide +kernel
theorem dX9_see_128 : decode cX9_see 128 = .ok (.ireturn, 1) := by decide +kernel
theorem dX9_forget_0 : decode cX9_forget 0 = .ok (.aload_n 0, 1) := by decide +kernel
theorem dX9_forget_1 : decode cX9_forget 1 = .ok (.getfield 119, 3) := by decide +kernel
theorem dX9_forget_4 : decode cX9_forget 4 = .ok (.istore_n 1, 1) := by decide +kernel
theorem dX9_forget_5 : decode cX9_forget 5 = .ok (.aload_n 0, 1) := by decide +kernel
theorem dX9_forget_6 : decode cX9_forget 6 = .ok (.iconst 0, 1) := by decide +kernel
theorem dX9_forget_7 : decode cX9_forget 7 = .ok (.putfield 119, 3) := by decide +kernel
theorem dX9_forget_10 : decode cX9_forget 10 = .ok (.iload_n 1, 1) := by decide +kernel
theorem dX9_forget_11 : decode cX9_forget 11 = .ok (.ireturn, 1) := by decide +kernel
theorem dX9_howIf_0 : decode cX9_howIf 0 = .ok (.iload 4, 2) := by decide +kernel
theorem dX9_howIf_2 : decode cX9_howIf 2 = .ok (.aload_n 0, 1) := by decide +kernel
theorem dX9_howIf_3 : decode cX9_howIf 3 = .ok (.getfield 13, 3) := by decide +kernel
theorem dX9_howIf_6 : decode cX9_howIf 6 = .ok (.iconst 2, 1) := by decide +kernel
theorem dX9_howIf_7 : decode cX9_howIf 7 = .ok (.iload_n 3, 1) := by decide +kernel
theorem dX9_howIf_8 : decode cX9_howIf 8 = .ok (.imul, 1) := by decide +kernel
theorem dX9_howIf_9 : decode cX9_howIf 9 = .ok (.iconst 1, 1) := by decide +kernel
theorem dX9_howIf_10 : decode cX9_howIf 10 = .ok (.iadd, 1) := by decide +kernel
theorem dX9_howIf_11 : decode cX9_howIf 11 = .ok (.iaload, 1) := by decide +kernel
theorem dX9_howIf_12 : decode cX9_howIf 12 = .ok (.imul, 1) := by decide +kernel
theorem dX9_howIf_13 : decode cX9_howIf 13 = .ok (.aload_n 0, 1) := by decide +kernel
theorem dX9_howIf_14 : decode cX9_howIf 14 = .ok (.getfield 22, 3) := by decide +kernel
theorem dX9_howIf_17 : decode cX9_howIf 17 = .ok (.iload_n 1, 1) := by decide +kernel
theorem dX9_howIf_18 : decode cX9_howIf 18 = .ok (.iaload, 1) := by decide +kernel
theorem dX9_howIf_19 : decode cX9_howIf 19 = .ok (.iload_n 2, 1) := by decide +kernel
theorem dX9_howIf_20 : decode cX9_howIf 20 = .ok (.aload_n 0, 1) := by decide +kernel
theorem dX9_howIf_21 : decode cX9_howIf 21 = .ok (.getfield 110, 3) := by decide +kernel
theorem dX9_howIf_24 : decode cX9_howIf 24 = .ok (.invokestatic 132, 3) := by decide +kernel
theorem dX9_howIf_27 : decode cX9_howIf 27 = .ok (.aload_n 0, 1) := by decide +kernel
theorem dX9_howIf_28 : decode cX9_howIf 28 = .ok (.getfield 13, 3) := by decide +kernel
theorem dX9_howIf_31 : decode cX9_howIf 31 = .ok (.iconst 2, 1) := by decide +kernel
theorem dX9_howIf_32 : decode cX9_howIf 32 = .ok (.iload_n 3, 1) := by decide +kernel
theorem dX9_howIf_33 : decode cX9_howIf 33 = .ok (.imul, 1) := by decide +kernel
theorem dX9_howIf_34 : decode cX9_howIf 34 = .ok (.iaload, 1) := by decide +kernel
theorem dX9_howIf_35 : decode cX9_howIf 35 = .ok (.imul, 1) := by decide +kernel
theorem dX9_howIf_36 : decode cX9_howIf 36 = .ok (.isub, 1) := by decide +kernel
theorem dX9_howIf_37 : decode cX9_howIf 37 = .ok (.istore 5, 2) := by decide +kernel
theorem dX9_howIf_39 : decode cX9_howIf 39 = .ok (.iload 5, 2) := by decide +kernel
theorem dX9_howIf_41 : decode cX9_howIf 41 = .ok (.ifCond .ge 7, 3) := by decide +kernel
theorem dX9_howIf_44 : decode cX9_howIf 44 = .ok (.iconst 0, 1) := by decide +kernel
theorem dX9_howIf_45 : decode cX9_howIf 45 = .ok (.goto 13, 3) := by decide +kernel
theorem dX9_howIf_48 : decode cX9_howIf 48 = .ok (.iload 5, 2) := by decide +kernel
theorem dX9_howIf_50 : decode cX9_howIf 50 = .ok (.ifCond .ne 7, 3) := by decide +kernel
theorem dX9_howIf_53 : decode cX9_howIf 53 = .ok (.iconst 1, 1) := by decide +kernel
theorem dX9_howIf_54 : decode cX9_howIf 54 = .ok (.goto 4, 3) := by decide +kernel
theorem dX9_howIf_57 : decode cX9_howIf 57 = .ok (.iconst 2, 1) := by decide +kernel
theorem dX9_howIf_58 : decode cX9_howIf 58 = .ok (.ireturn, 1) := by decide +kernel
theorem dX9_sizesOf_0 : decode cX9_sizesOf 0 = .ok (.iconst 0, 1) := by decide +kernel
theorem dX9_sizesOf_1 : decode cX9_sizesOf 1 = .ok (.istore_n 2, 1) := by decide +kernel
theorem dX9_sizesOf_2 : decode cX9_sizesOf 2 = .ok (.iconst 0, 1) := by decide +kernel
theorem dX9_sizesOf_3 : decode cX9_sizesOf 3 = .ok (.istore_n 3, 1) := by decide +kernel
theorem dX9_sizesOf_4 : decode cX9_sizesOf 4 = .ok (.iload_n 3, 1) := by decide +kernel
theorem dX9_sizesOf_5 : decode cX9_sizesOf 5 = .ok (.bipush 10, 2) := by decide +kernel
theorem dX9_sizesOf_7 : decode cX9_sizesOf 7 = .ok (.if_icmp .ge 106, 3) := by decide +kernel
theorem dX9_sizesOf_10 : decode cX9_sizesOf 10 = .ok (.iconst 1, 1) := by decide +kernel
theorem dX9_sizesOf_11 : decode cX9_sizesOf 11 = .ok (.istore 4, 2) := by decide +kernel
theorem dX9_sizesOf_13 : decode cX9_sizesOf 13 = .ok (.iconst 0, 1) := by decide +kernel
theorem dX9_sizesOf_14 : decode cX9_sizesOf 14 = .ok (.istore 5, 2) := by decide +kernel
theorem dX9_sizesOf_16 : decode cX9_sizesOf 16 = .ok (.iload 5, 2) := by decide +kernel
theorem dX9_sizesOf_18 : decode cX9_sizesOf 18 = .ok (.iconst 4, 1) := by decide +kernel
theorem dX9_sizesOf_19 : decode cX9_sizesOf 19 = .ok (.aload_n 0, 1) := by decide +kernel
theorem dX9_sizesOf_20 : decode cX9_sizesOf 20 = .ok (.getfield 119, 3) := by decide +kernel
theorem dX9_sizesOf_23 : decode cX9_sizesOf 23 = .ok (.imul, 1) := by decide +kernel
theorem dX9_sizesOf_24 : decode cX9_sizesOf 24 = .ok (.if_icmp .ge 68, 3) := by decide +kernel
theorem dX9_sizesOf_27 : decode cX9_sizesOf 27 = .ok (.iload 4, 2) := by decide +kernel
theorem dX9_sizesOf_29 : decode cX9_sizesOf 29 = .ok (.ifCond .eq 54, 3) := by decide +kernel
theorem dX9_sizesOf_32 : decode cX9_sizesOf 32 = .ok (.aload_n 0, 1) := by decide +kernel
theorem dX9_sizesOf_33 : decode cX9_sizesOf 33 = .ok (.getfield 40, 3) := by decide +kernel
theorem dX9_sizesOf_36 : decode cX9_sizesOf 36 = .ok (.iload 5, 2) := by decide +kernel
theorem dX9_sizesOf_38 : decode cX9_sizesOf 38 = .ok (.iaload, 1) := by decide +kernel
theorem dX9_sizesOf_39 : decode cX9_sizesOf 39 = .ok (.iload_n 1, 1) := by decide +kernel
theorem dX9_sizesOf_40 : decode cX9_sizesOf 40 = .ok (.if_icmp .ne 39, 3) := by decide +kernel
theorem dX9_sizesOf_43 : decode cX9_sizesOf 43 = .ok (.aload_n 0, 1) := by decide +kernel
theorem dX9_sizesOf_44 : decode cX9_sizesOf 44 = .ok (.iload_n 1, 1) := by decide +kernel
theorem dX9_sizesOf_45 : decode cX9_sizesOf 45 = .ok (.iload_n 3, 1) := by decide +kernel
theorem dX9_sizesOf_46 : decode cX9_sizesOf 46 = .ok (.aload_n 0, 1) := by decide +kernel
theorem dX9_sizesOf_47 : decode cX9_sizesOf 47 = .ok (.getfield 40, 3) := by decide +kernel
theorem dX9_sizesOf_50 : decode cX9_sizesOf 50 = .ok (.iload 5, 2) := by decide +kernel
theorem dX9_sizesOf_52 : decode cX9_sizesOf 52 = .ok (.iconst 1, 1) := by decide +kernel
theorem dX9_sizesOf_53 : decode cX9_sizesOf 53 = .ok (.iadd, 1) := by decide +kernel
theorem dX9_sizesOf_54 : decode cX9_sizesOf 54 = .ok (.iaload, 1) := by decide +kernel
theorem dX9_sizesOf_55 : decode cX9_sizesOf 55 = .ok (.aload_n 0, 1) := by decide +kernel
theorem dX9_sizesOf_56 : decode cX9_sizesOf 56 = .ok (.getfield 40, 3) := by decide +kernel
theorem dX9_sizesOf_59 : decode cX9_sizesOf 59 = .ok (.iload 5, 2) := by decide +kernel
theorem dX9_sizesOf_61 : decode cX9_sizesOf 61 = .ok (.iconst 2, 1) := by decide +kernel
theorem dX9_sizesOf_62 : decode cX9_sizesOf 62 = .ok (.iadd, 1) := by decide +kernel
theorem dX9_sizesOf_63 : decode cX9_sizesOf 63 = .ok (.iaload, 1) := by decide +kernel
theorem dX9_sizesOf_64 : decode cX9_sizesOf 64 = .ok (.invokevirtual 235, 3) := by decide +kernel
theorem dX9_sizesOf_67 : decode cX9_sizesOf 67 = .ok (.aload_n 0, 1) := by decide +kernel
theorem dX9_sizesOf_68 : decode cX9_sizesOf 68 = .ok (.getfield 40, 3) := by decide +kernel
theorem dX9_sizesOf_71 : decode cX9_sizesOf 71 = .ok (.iload 5, 2) := by decide +kernel
theorem dX9_sizesOf_73 : decode cX9_sizesOf 73 = .ok (.iconst 3, 1) := by decide +kernel
theorem dX9_sizesOf_74 : decode cX9_sizesOf 74 = .ok (.iadd, 1) := by decide +kernel
theorem dX9_sizesOf_75 : decode cX9_sizesOf 75 = .ok (.iaload, 1) := by decide +kernel
theorem dX9_sizesOf_76 : decode cX9_sizesOf 76 = .ok (.if_icmp .ne 7, 3) := by decide +kernel
theorem dX9_sizesOf_79 : decode cX9_sizesOf 79 = .ok (.iconst 1, 1) := by decide +kernel
theorem dX9_sizesOf_80 : decode cX9_sizesOf 80 = .ok (.goto 4, 3) := by decide +kernel
theorem dX9_sizesOf_83 : decode cX9_sizesOf 83 = .ok (.iconst 0, 1) := by decide +kernel
theorem dX9_sizesOf_84 : decode cX9_sizesOf 84 = .ok (.istore 4, 2) := by decide +kernel
theorem dX9_sizesOf_86 : decode cX9_sizesOf 86 = .ok (.iinc 5 4, 3) := by decide +kernel
theorem dX9_sizesOf_89 : decode cX9_sizesOf 89 = .ok (.goto (-73), 3) := by decide +kernel
theorem dX9_sizesOf_92 : decode cX9_sizesOf 92 = .ok (.iload_n 2, 1) := by decide +kernel
theorem dX9_sizesOf_93 : decode cX9_sizesOf 93 = .ok (.iload 4, 2) := by decide +kernel
theorem dX9_sizesOf_95 : decode cX9_sizesOf 95 = .ok (.ifCond .eq 9, 3) := by decide +kernel
theorem dX9_sizesOf_98 : decode cX9_sizesOf 98 = .ok (.iconst 1, 1) := by decide +kernel
theorem dX9_sizesOf_99 : decode cX9_sizesOf 99 = .ok (.iload_n 3, 1) := by decide +kernel
theorem dX9_sizesOf_100 : decode cX9_sizesOf 100 = .ok (.ishl, 1) := by decide +kernel
theorem dX9_sizesOf_101 : decode cX9_sizesOf 101 = .ok (.goto 4, 3) := by decide +kernel
theorem dX9_sizesOf_104 : decode cX9_sizesOf 104 = .ok (.iconst 0, 1) := by decide +kernel
theorem dX9_sizesOf_105 : decode cX9_sizesOf 105 = .ok (.ior, 1) := by decide +kernel
theorem dX9_sizesOf_106 : decode cX9_sizesOf 106 = .ok (.istore_n 2, 1) := by decide +kernel
theorem dX9_sizesOf_107 : decode cX9_sizesOf 107 = .ok (.iinc 3 1, 3) := by decide +kernel
theorem dX9_sizesOf_110 : decode cX9_sizesOf 110 = .ok (.goto (-106), 3) := by decide +kernel
theorem dX9_sizesOf_113 : decode cX9_sizesOf 113 = .ok (.iload_n 2, 1) := by decide +kernel
theorem dX9_sizesOf_114 : decode cX9_sizesOf 114 = .ok (.ireturn, 1) := by decide +kernel
theorem dX9_trialOf_0 : decode cX9_trialOf 0 = .ok (.aload_n 0, 1) := by decide +kernel
theorem dX9_trialOf_1 : decode cX9_trialOf 1 = .ok (.iload_n 1, 1) := by decide +kernel
theorem dX9_trialOf_2 : decode cX9_trialOf 2 = .ok (.invokevirtual 173, 3) := by decide +kernel
theorem dX9_trialOf_5 : decode cX9_trialOf 5 = .ok (.istore_n 3, 1) := by decide +kernel
theorem dX9_trialOf_6 : decode cX9_trialOf 6 = .ok (.iconst (-1), 1) := by decide +kernel
theorem dX9_trialOf_7 : decode cX9_trialOf 7 = .ok (.istore 4, 2) := by decide +kernel
theorem dX9_trialOf_9 : decode cX9_trialOf 9 = .ok (.bipush 11, 2) := by decide +kernel
theorem dX9_trialOf_11 : decode cX9_trialOf 11 = .ok (.istore 5, 2) := by decide +kernel
theorem dX9_trialOf_13 : decode cX9_trialOf 13 = .ok (.iconst 0, 1) := by decide +kernel
theorem dX9_trialOf_14 : decode cX9_trialOf 14 = .ok (.istore 6, 2) := by decide +kernel
theorem dX9_trialOf_16 : decode cX9_trialOf 16 = .ok (.iload 6, 2) := by decide +kernel
theorem dX9_trialOf_18 : decode cX9_trialOf 18 = .ok (.bipush 10, 2) := by decide +kernel
theorem dX9_trialOf_20 : decode cX9_trialOf 20 = .ok (.if_icmp .ge 128, 3) := by decide +kernel
theorem dX9_trialOf_23 : decode cX9_trialOf 23 = .ok (.iload_n 3, 1) := by decide +kernel
theorem dX9_trialOf_24 : decode cX9_trialOf 24 = .ok (.ifCond .eq 124, 3) := by decide +kernel
theorem dX9_trialOf_27 : decode cX9_trialOf 27 = .ok (.iconst 0, 1) := by decide +kernel
theorem dX9_trialOf_28 : decode cX9_trialOf 28 = .ok (.istore 7, 2) := by decide +kernel
theorem dX9_trialOf_30 : decode cX9_trialOf 30 = .ok (.iconst 0, 1) := by decide +kernel
theorem dX9_trialOf_31 : decode cX9_trialOf 31 = .ok (.istore 8, 2) := by decide +kernel
theorem dX9_trialOf_33 : decode cX9_trialOf 33 = .ok (.iload 8, 2) := by decide +kernel
theorem dX9_trialOf_35 : decode cX9_trialOf 35 = .ok (.iconst 3, 1) := by decide +kernel
theorem dX9_trialOf_36 : decode cX9_trialOf 36 = .ok (.if_icmp .ge 74, 3) := by decide +kernel
theorem dX9_trialOf_39 : decode cX9_trialOf 39 = .ok (.iconst 0, 1) := by decide +kernel
theorem dX9_trialOf_40 : decode cX9_trialOf 40 = .ok (.istore 9, 2) := by decide +kernel
theorem dX9_trialOf_42 : decode cX9_trialOf 42 = .ok (.iconst 0, 1) := by decide +kernel
theorem dX9_trialOf_43 : decode cX9_trialOf 43 = .ok (.istore 10, 2) := by decide +kernel
theorem dX9_trialOf_45 : decode cX9_trialOf 45 = .ok (.iload 10, 2) := by decide +kernel
theorem dX9_trialOf_47 : decode cX9_trialOf 47 = .ok (.bipush 10, 2) := by decide +kernel
theorem dX9_trialOf_49 : decode cX9_trialOf 49 = .ok (.if_icmp .ge 39, 3) := by decide +kernel
theorem dX9_trialOf_52 : decode cX9_trialOf 52 = .ok (.iload 9, 2) := by decide +kernel
theorem dX9_trialOf_54 : decode cX9_trialOf 54 = .ok (.aload_n 0, 1) := by decide +kernel
theorem dX9_trialOf_55 : decode cX9_trialOf 55 = .ok (.iload_n 1, 1) := by decide +kernel
theorem dX9_trialOf_56 : decode cX9_trialOf 56 = .ok (.iload 10, 2) := by decide +kernel
theorem dX9_trialOf_58 : decode cX9_trialOf 58 = .ok (.iload_n 2, 1) := by decide +kernel
theorem dX9_trialOf_59 : decode cX9_trialOf 59 = .ok (.iload 6, 2) := by decide +kernel
theorem dX9_trialOf_61 : decode cX9_trialOf 61 = .ok (.invokevirtual 235, 3) := by decide +kernel
theorem dX9_trialOf_64 : decode cX9_trialOf 64 = .ok (.iload 8, 2) := by decide +kernel
theorem dX9_trialOf_66 : decode cX9_trialOf 66 = .ok (.if_icmp .ne 12, 3) := by decide +kernel
theorem dX9_trialOf_69 : decode cX9_trialOf 69 = .ok (.iload_n 3, 1) := by decide +kernel
theorem dX9_trialOf_70 : decode cX9_trialOf 70 = .ok (.iload 10, 2) := by decide +kernel
theorem dX9_trialOf_72 : decode cX9_trialOf 72 = .ok (.ishr, 1) := by decide +kernel
theorem dX9_trialOf_73 : decode cX9_trialOf 73 = .ok (.iconst 1, 1) := by decide +kernel
theorem dX9_trialOf_74 : decode cX9_trialOf 74 = .ok (.iand, 1) := by decide +kernel
theorem dX9_trialOf_75 : decode cX9_trialOf 75 = .ok (.goto 4, 3) := by decide +kernel
theorem dX9_trialOf_78 : decode cX9_trialOf 78 = .ok (.iconst 0, 1) := by decide +kernel
theorem dX9_trialOf_79 : decode cX9_trialOf 79 = .ok (.iadd, 1) := by decide +kernel
theorem dX9_trialOf_80 : decode cX9_trialOf 80 = .ok (.istore 9, 2) := by decide +kernel
theorem dX9_trialOf_82 : decode cX9_trialOf 82 = .ok (.iinc 10 1, 3) := by decide +kernel
theorem dX9_trialOf_85 : decode cX9_trialOf 85 = .ok (.goto (-40), 3) := by decide +kernel
theorem dX9_trialOf_88 : decode cX9_trialOf 88 = .ok (.iload 9, 2) := by decide +kernel
theorem dX9_trialOf_90 : decode cX9_trialOf 90 = .ok (.iload 7, 2) := by decide +kernel
theorem dX9_trialOf_92 : decode cX9_trialOf 92 = .ok (.if_icmp .le 8, 3) := by decide +kernel
theorem dX9_trialOf_95 : decode cX9_trialOf 95 = .ok (.iload 9, 2) := by decide +kernel
theorem dX9_trialOf_97 : decode cX9_trialOf 97 = .ok (.goto 5, 3) := by decide +kernel
theorem dX9_trialOf_100 : decode cX9_trialOf 100 = .ok (.iload 7, 2) := by decide +kernel
theorem dX9_trialOf_102 : decode cX9_trialOf 102 = .ok (.istore 7, 2) := by decide +kernel
theorem dX9_trialOf_104 : decode cX9_trialOf 104 = .ok (.iinc 8 1, 3) := by decide +kernel
theorem dX9_trialOf_107 : decode cX9_trialOf 107 = .ok (.goto (-74), 3) := by decide +kernel
theorem dX9_trialOf_110 : decode cX9_trialOf 110 = .ok (.iload 7, 2) := by decide +kernel
theorem dX9_trialOf_112 : decode cX9_trialOf 112 = .ok (.iload 5, 2) := by decide +kernel
theorem dX9_trialOf_114 : decode cX9_trialOf 114 = .ok (.if_icmp .ge 8, 3) := by decide +kernel
theorem dX9_trialOf_117 : decode cX9_trialOf 117 = .ok (.iload 6, 2) := by decide +kernel
theorem dX9_trialOf_119 : decode cX9_trialOf 119 = .ok (.goto 5, 3) := by decide +kernel
theorem dX9_trialOf_122 : decode cX9_trialOf 122 = .ok (.iload 4, 2) := by decide +kernel
theorem dX9_trialOf_124 : decode cX9_trialOf 124 = .ok (.istore 4, 2) := by decide +kernel
theorem dX9_trialOf_126 : decode cX9_trialOf 126 = .ok (.iload 7, 2) := by decide +kernel
theorem dX9_trialOf_128 : decode cX9_trialOf 128 = .ok (.iload 5, 2) := by decide +kernel
theorem dX9_trialOf_130 : decode cX9_trialOf 130 = .ok (.if_icmp .ge 8, 3) := by decide +kernel
theorem dX9_trialOf_133 : decode cX9_trialOf 133 = .ok (.iload 7, 2) := by decide +kernel
theorem dX9_trialOf_135 : decode cX9_trialOf 135 = .ok (.goto 5, 3) := by decide +kernel
theorem dX9_trialOf_138 : decode cX9_trialOf 138 = .ok (.iload 5, 2) := by decide +kernel
theorem dX9_trialOf_140 : decode cX9_trialOf 140 = .ok (.istore 5, 2) := by decide +kernel
theorem dX9_trialOf_142 : decode cX9_trialOf 142 = .ok (.iinc 6 1, 3) := by decide +kernel
theorem dX9_trialOf_145 : decode cX9_trialOf 145 = .ok (.goto (-129), 3) := by decide +kernel
theorem dX9_trialOf_148 : decode cX9_trialOf 148 = .ok (.iload 4, 2) := by decide +kernel
theorem dX9_trialOf_150 : decode cX9_trialOf 150 = .ok (.ireturn, 1) := by decide +kernel
theorem dX9_trial_0 : decode cX9_trial 0 = .ok (.aload_n 0, 1) := by decide +kernel
theorem dX9_trial_1 : decode cX9_trial 1 = .ok (.iload_n 1, 1) := by decide +kernel
theorem dX9_trial_2 : decode cX9_trial 2 = .ok (.invokevirtual 176, 3) := by decide +kernel
theorem dX9_trial_5 : decode cX9_trial 5 = .ok (.ifCond .eq 20, 3) := by decide +kernel
theorem dX9_trial_8 : decode cX9_trial 8 = .ok (.aload_n 0, 1) := by decide +kernel
theorem dX9_trial_9 : decode cX9_trial 9 = .ok (.iload_n 2, 1) := by decide +kernel
theorem dX9_trial_10 : decode cX9_trial 10 = .ok (.invokevirtual 163, 3) := by decide +kernel
theorem dX9_trial_13 : decode cX9_trial 13 = .ok (.ifCond .eq 12, 3) := by decide +kernel
theorem dX9_trial_16 : decode cX9_trial 16 = .ok (.aload_n 0, 1) := by decide +kernel
theorem dX9_trial_17 : decode cX9_trial 17 = .ok (.iload_n 1, 1) := by decide +kernel
theorem dX9_trial_18 : decode cX9_trial 18 = .ok (.iload_n 2, 1) := by decide +kernel
theorem dX9_trial_19 : decode cX9_trial 19 = .ok (.invokevirtual 239, 3) := by decide +kernel
theorem dX9_trial_22 : decode cX9_trial 22 = .ok (.goto 5, 3) := by decide +kernel
theorem dX9_trial_25 : decode cX9_trial 25 = .ok (.bipush (-101), 2) := by decide +kernel
theorem dX9_trial_27 : decode cX9_trial 27 = .ok (.ireturn, 1) := by decide +kernel
theorem dX9_draw_0 : decode cX9_draw 0 = .ok (.aload_n 0, 1) := by decide +kernel
theorem dX9_draw_1 : decode cX9_draw 1 = .ok (.ldc2_w 242, 3) := by decide +kernel
theorem dX9_draw_4 : decode cX9_draw 4 = .ok (.aload_n 0, 1) := by decide +kernel
theorem dX9_draw_5 : decode cX9_draw 5 = .ok (.getfield 244, 3) := by decide +kernel
theorem dX9_draw_8 : decode cX9_draw 8 = .ok (.i2l, 1) := by decide +kernel
theorem dX9_draw_9 : decode cX9_draw 9 = .ok (.lmul, 1) := by decide +kernel
theorem dX9_draw_10 : decode cX9_draw 10 = .ok (.ldc2_w 247, 3) := by decide +kernel
theorem dX9_draw_13 : decode cX9_draw 13 = .ok (.ladd, 1) := by decide +kernel
theorem dX9_draw_14 : decode cX9_draw 14 = .ok (.ldc2_w 249, 3) := by decide +kernel
theorem dX9_draw_17 : decode cX9_draw 17 = .ok (.land, 1) := by decide +kernel
theorem dX9_draw_18 : decode cX9_draw 18 = .ok (.l2i, 1) := by decide +kernel
theorem dX9_draw_19 : decode cX9_draw 19 = .ok (.putfield 244, 3) := by decide +kernel
theorem dX9_draw_22 : decode cX9_draw 22 = .ok (.aload_n 0, 1) := by decide +kernel
theorem dX9_draw_23 : decode cX9_draw 23 = .ok (.getfield 244, 3) := by decide +kernel
theorem dX9_draw_26 : decode cX9_draw 26 = .ok (.ldc 251, 2) := by decide +kernel
theorem dX9_draw_28 : decode cX9_draw 28 = .ok (.idiv, 1) := by decide +kernel
theorem dX9_draw_29 : decode cX9_draw 29 = .ok (.iload_n 1, 1) := by decide +kernel
theorem dX9_draw_30 : decode cX9_draw 30 = .ok (.irem, 1) := by decide +kernel
theorem dX9_draw_31 : decode cX9_draw 31 = .ok (.ireturn, 1) := by decide +kernel
theorem dX9_evenings_0 : decode cX9_evenings 0 = .ok (.iload_n 1, 1) := by decide +kernel
theorem dX9_evenings_1 : decode cX9_evenings 1 = .ok (.i2l, 1) := by decide +kernel
theorem dX9_evenings_2 : decode cX9_evenings 2 = .ok (.lconst 1, 1) := by decide +kernel
theorem dX9_evenings_3 : decode cX9_evenings 3 = .ok (.ldc2_w 252, 3) := by decide +kernel
theorem dX9_evenings_6 : decode cX9_evenings 6 = .ok (.invokestatic 64, 3) := by decide +kernel
theorem dX9_evenings_9 : decode cX9_evenings 9 = .ok (.ifCond .eq 19, 3) := by decide +kernel
theorem dX9_evenings_12 : decode cX9_evenings 12 = .ok (.iload_n 2, 1) := by decide +kernel
theorem dX9_evenings_13 : decode cX9_evenings 13 = .ok (.ifCond .lt 15, 3) := by decide +kernel
theorem dX9_evenings_16 : decode cX9_evenings 16 = .ok (.iload_n 3, 1) := by decide +kernel
theorem dX9_evenings_17 : decode cX9_evenings 17 = .ok (.i2l, 1) := by decide +kernel
theorem dX9_evenings_18 : decode cX9_evenings 18 = .ok (.lconst 0, 1) := by decide +kernel
theorem dX9_evenings_19 : decode cX9_evenings 19 = .ok (.ldc2_w 233, 3) := by decide +kernel
theorem dX9_evenings_22 : decode cX9_evenings 22 = .ok (.invokestatic 64, 3) := by decide +kernel
theorem dX9_evenings_25 : decode cX9_evenings 25 = .ok (.ifCond .ne 6, 3) := by decide +kernel
theorem dX9_evenings_28 : decode cX9_evenings 28 = .ok (.bipush (-102), 2) := by decide +kernel
theorem dX9_evenings_30 : decode cX9_evenings 30 = .ok (.ireturn, 1) := by decide +kernel
theorem dX9_evenings_31 : decode cX9_evenings 31 = .ok (.aload_n 0, 1) := by decide +kernel
theorem dX9_evenings_32 : decode cX9_evenings 32 = .ok (.invokevirtual 182, 3) := by decide +kernel
theorem dX9_evenings_35 : decode cX9_evenings 35 = .ok (.ifCond .eq 6, 3) := by decide +kernel
theorem dX9_evenings_38 : decode cX9_evenings 38 = .ok (.bipush (-103), 2) := by decide +kernel
theorem dX9_evenings_40 : decode cX9_evenings 40 = .ok (.ireturn, 1) := by decide +kernel
theorem dX9_evenings_41 : decode cX9_evenings 41 = .ok (.aload_n 0, 1) := by decide +kernel
theorem dX9_evenings_42 : decode cX9_evenings 42 = .ok (.iload_n 2, 1) := by decide +kernel
theorem dX9_evenings_43 : decode cX9_evenings 43 = .ok (.putfield 244, 3) := by decide +kernel
theorem dX9_evenings_46 : decode cX9_evenings 46 = .ok (.aload_n 0, 1) := by decide +kernel
theorem dX9_evenings_47 : decode cX9_evenings 47 = .ok (.invokevirtual 148, 3) := by decide +kernel
theorem dX9_evenings_50 : decode cX9_evenings 50 = .ok (.iconst 0, 1) := by decide +kernel
theorem dX9_evenings_51 : decode cX9_evenings 51 = .ok (.istore 4, 2) := by decide +kernel
theorem dX9_evenings_53 : decode cX9_evenings 53 = .ok (.iconst 0, 1) := by decide +kernel
theorem dX9_evenings_54 : decode cX9_evenings 54 = .ok (.istore 5, 2) := by decide +kernel
theorem dX9_evenings_56 : decode cX9_evenings 56 = .ok (.iload 5, 2) := by decide +kernel
theorem dX9_evenings_58 : decode cX9_evenings 58 = .ok (.iload_n 1, 1) := by decide +kernel
theorem dX9_evenings_59 : decode cX9_evenings 59 = .ok (.if_icmp .ge 84, 3) := by decide +kernel
theorem dX9_evenings_62 : decode cX9_evenings 62 = .ok (.aload_n 0, 1) := by decide +kernel
theorem dX9_evenings_63 : decode cX9_evenings 63 = .ok (.aload_n 0, 1) := by decide +kernel
theorem dX9_evenings_64 : decode cX9_evenings 64 = .ok (.getfield 107, 3) := by decide +kernel
theorem dX9_evenings_67 : decode cX9_evenings 67 = .ok (.invokevirtual 254, 3) := by decide +kernel
theorem dX9_evenings_70 : decode cX9_evenings 70 = .ok (.istore 6, 2) := by decide +kernel
theorem dX9_evenings_72 : decode cX9_evenings 72 = .ok (.aload_n 0, 1) := by decide +kernel
theorem dX9_evenings_73 : decode cX9_evenings 73 = .ok (.aload_n 0, 1) := by decide +kernel
theorem dX9_evenings_74 : decode cX9_evenings 74 = .ok (.getfield 107, 3) := by decide +kernel
theorem dX9_evenings_77 : decode cX9_evenings 77 = .ok (.invokevirtual 254, 3) := by decide +kernel
theorem dX9_evenings_80 : decode cX9_evenings 80 = .ok (.istore 7, 2) := by decide +kernel
theorem dX9_evenings_82 : decode cX9_evenings 82 = .ok (.iload 6, 2) := by decide +kernel
theorem dX9_evenings_84 : decode cX9_evenings 84 = .ok (.iload 7, 2) := by decide +kernel
theorem dX9_evenings_86 : decode cX9_evenings 86 = .ok (.if_icmp .eq 32, 3) := by decide +kernel
theorem dX9_evenings_89 : decode cX9_evenings 89 = .ok (.aload_n 0, 1) := by decide +kernel
theorem dX9_evenings_90 : decode cX9_evenings 90 = .ok (.iload 6, 2) := by decide +kernel
theorem dX9_evenings_92 : decode cX9_evenings 92 = .ok (.invokevirtual 186, 3) := by decide +kernel
theorem dX9_evenings_95 : decode cX9_evenings 95 = .ok (.ifCond .ne 23, 3) := by decide +kernel
theorem dX9_evenings_98 : decode cX9_evenings 98 = .ok (.aload_n 0, 1) := by decide +kernel
theorem dX9_evenings_99 : decode cX9_evenings 99 = .ok (.iload 7, 2) := by decide +kernel
theorem dX9_evenings_101 : decode cX9_evenings 101 = .ok (.invokevirtual 186, 3) := by decide +kernel
theorem dX9_evenings_104 : decode cX9_evenings 104 = .ok (.ifCond .ne 14, 3) := by decide +kernel
theorem dX9_evenings_107 : decode cX9_evenings 107 = .ok (.aload_n 0, 1) := by decide +kernel
theorem dX9_evenings_108 : decode cX9_evenings 108 = .ok (.getfield 31, 3) := by decide +kernel
theorem dX9_evenings_111 : decode cX9_evenings 111 = .ok (.iload 6, 2) := by decide +kernel
theorem dX9_evenings_113 : decode cX9_evenings 113 = .ok (.iload 7, 2) := by decide +kernel
theorem dX9_evenings_115 : decode cX9_evenings 115 = .ok (.invokestatic 189, 3) := by decide +kernel
theorem dX9_evenings_118 : decode cX9_evenings 118 = .ok (.aload_n 0, 1) := by decide +kernel
theorem dX9_evenings_119 : decode cX9_evenings 119 = .ok (.dup, 1) := by decide +kernel
theorem dX9_evenings_120 : decode cX9_evenings 120 = .ok (.getfield 129, 3) := by decide +kernel
theorem dX9_evenings_123 : decode cX9_evenings 123 = .ok (.iconst 1, 1) := by decide +kernel
theorem dX9_evenings_124 : decode cX9_evenings 124 = .ok (.iadd, 1) := by decide +kernel
theorem dX9_evenings_125 : decode cX9_evenings 125 = .ok (.putfield 129, 3) := by decide +kernel
theorem dX9_evenings_128 : decode cX9_evenings 128 = .ok (.iload 4, 2) := by decide +kernel
theorem dX9_evenings_130 : decode cX9_evenings 130 = .ok (.aload_n 0, 1) := by decide +kernel
theorem dX9_evenings_131 : decode cX9_evenings 131 = .ok (.invokevirtual 151, 3) := by decide +kernel
theorem dX9_evenings_134 : decode cX9_evenings 134 = .ok (.iadd, 1) := by decide +kernel
theorem dX9_evenings_135 : decode cX9_evenings 135 = .ok (.istore 4, 2) := by decide +kernel
theorem dX9_evenings_137 : decode cX9_evenings 137 = .ok (.iinc 5 1, 3) := by decide +kernel
theorem dX9_evenings_140 : decode cX9_evenings 140 = .ok (.goto (-84), 3) := by decide +kernel
theorem dX9_evenings_143 : decode cX9_evenings 143 = .ok (.iload_n 3, 1) := by decide +kernel
theorem dX9_evenings_144 : decode cX9_evenings 144 = .ok (.ifCond .ne 8, 3) := by decide +kernel
theorem dX9_evenings_147 : decode cX9_evenings 147 = .ok (.iload 4, 2) := by decide +kernel
theorem dX9_evenings_149 : decode cX9_evenings 149 = .ok (.goto 25, 3) := by decide +kernel
theorem dX9_evenings_152 : decode cX9_evenings 152 = .ok (.iload_n 3, 1) := by decide +kernel
theorem dX9_evenings_153 : decode cX9_evenings 153 = .ok (.iconst 1, 1) := by decide +kernel
theorem dX9_evenings_154 : decode cX9_evenings 154 = .ok (.if_icmp .ne 16, 3) := by decide +kernel
theorem dX9_evenings_157 : decode cX9_evenings 157 = .ok (.sipush 10000, 3) := by decide +kernel
theorem dX9_evenings_160 : decode cX9_evenings 160 = .ok (.aload_n 0, 1) := by decide +kernel
theorem dX9_evenings_161 : decode cX9_evenings 161 = .ok (.getfield 37, 3) := by decide +kernel
theorem dX9_evenings_164 : decode cX9_evenings 164 = .ok (.iconst 0, 1) := by decide +kernel
theorem dX9_evenings_165 : decode cX9_evenings 165 = .ok (.iaload, 1) := by decide +kernel
theorem dX9_evenings_166 : decode cX9_evenings 166 = .ok (.iadd, 1) := by decide +kernel
theorem dX9_evenings_167 : decode cX9_evenings 167 = .ok (.goto 7, 3) := by decide +kernel
theorem dX9_evenings_170 : decode cX9_evenings 170 = .ok (.aload_n 0, 1) := by decide +kernel
theorem dX9_evenings_171 : decode cX9_evenings 171 = .ok (.getfield 244, 3) := by decide +kernel
theorem dX9_evenings_174 : decode cX9_evenings 174 = .ok (.ireturn, 1) := by decide +kernel
theorem dX9_image_0 : decode cX9_image 0 = .ok (.aload_n 0, 1) := by decide +kernel
theorem dX9_image_1 : decode cX9_image 1 = .ok (.invokevirtual 182, 3) := by decide +kernel
theorem dX9_image_4 : decode cX9_image 4 = .ok (.ifCond .eq 6, 3) := by decide +kernel
theorem dX9_image_7 : decode cX9_image 7 = .ok (.bipush (-103), 2) := by decide +kernel
theorem dX9_image_9 : decode cX9_image 9 = .ok (.ireturn, 1) := by decide +kernel
theorem dX9_image_10 : decode cX9_image 10 = .ok (.aload_n 0, 1) := by decide +kernel
theorem dX9_image_11 : decode cX9_image 11 = .ok (.getfield 13, 3) := by decide +kernel
theorem dX9_image_14 : decode cX9_image 14 = .ok (.aload_n 0, 1) := by decide +kernel
theorem dX9_image_15 : decode cX9_image 15 = .ok (.getfield 43, 3) := by decide +kernel
theorem dX9_image_18 : decode cX9_image 18 = .ok (.invokestatic 125, 3) := by decide +kernel
theorem dX9_image_21 : decode cX9_image 21 = .ok (.aload_n 0, 1) := by decide +kernel
theorem dX9_image_22 : decode cX9_image 22 = .ok (.getfield 22, 3) := by decide +kernel
theorem dX9_image_25 : decode cX9_image 25 = .ok (.aload_n 0, 1) := by decide +kernel
theorem dX9_image_26 : decode cX9_image 26 = .ok (.getfield 46, 3) := by decide +kernel
theorem dX9_image_29 : decode cX9_image 29 = .ok (.invokestatic 125, 3) := by decide +kernel
theorem dX9_image_32 : decode cX9_image 32 = .ok (.aload_n 0, 1) := by decide +kernel
theorem dX9_image_33 : decode cX9_image 33 = .ok (.getfield 25, 3) := by decide +kernel
theorem dX9_image_36 : decode cX9_image 36 = .ok (.aload_n 0, 1) := by decide +kernel
theorem dX9_image_37 : decode cX9_image 37 = .ok (.getfield 49, 3) := by decide +kernel
theorem dX9_image_40 : decode cX9_image 40 = .ok (.invokestatic 125, 3) := by decide +kernel
theorem dX9_image_43 : decode cX9_image 43 = .ok (.aload_n 0, 1) := by decide +kernel
theorem dX9_image_44 : decode cX9_image 44 = .ok (.getfield 28, 3) := by decide +kernel
theorem dX9_image_47 : decode cX9_image 47 = .ok (.aload_n 0, 1) := by decide +kernel
theorem dX9_image_48 : decode cX9_image 48 = .ok (.getfield 52, 3) := by decide +kernel
theorem dX9_image_51 : decode cX9_image 51 = .ok (.invokestatic 125, 3) := by decide +kernel
theorem dX9_image_54 : decode cX9_image 54 = .ok (.aload_n 0, 1) := by decide +kernel
theorem dX9_image_55 : decode cX9_image 55 = .ok (.getfield 40, 3) := by decide +kernel
theorem dX9_image_58 : decode cX9_image 58 = .ok (.aload_n 0, 1) := by decide +kernel
theorem dX9_image_59 : decode cX9_image 59 = .ok (.getfield 55, 3) := by decide +kernel
theorem dX9_image_62 : decode cX9_image 62 = .ok (.invokestatic 125, 3) := by decide +kernel
theorem dX9_image_65 : decode cX9_image 65 = .ok (.aload_n 0, 1) := by decide +kernel
theorem dX9_image_66 : decode cX9_image 66 = .ok (.aload_n 0, 1) := by decide +kernel
theorem dX9_image_67 : decode cX9_image 67 = .ok (.getfield 110, 3) := by decide +kernel
theorem dX9_image_70 : decode cX9_image 70 = .ok (.putfield 257, 3) := by decide +kernel
theorem dX9_image_73 : decode cX9_image 73 = .ok (.aload_n 0, 1) := by decide +kernel
theorem dX9_image_74 : decode cX9_image 74 = .ok (.aload_n 0, 1) := by decide +kernel
theorem dX9_image_75 : decode cX9_image 75 = .ok (.getfield 113, 3) := by decide +kernel
theorem dX9_image_78 : decode cX9_image 78 = .ok (.putfield 260, 3) := by decide +kernel
theorem dX9_image_81 : decode cX9_image 81 = .ok (.aload_n 0, 1) := by decide +kernel
theorem dX9_image_82 : decode cX9_image 82 = .ok (.aload_n 0, 1) := by decide +kernel
theorem dX9_image_83 : decode cX9_image 83 = .ok (.getfield 116, 3) := by decide +kernel
theorem dX9_image_86 : decode cX9_image 86 = .ok (.putfield 263, 3) := by decide +kernel
theorem dX9_image_89 : decode cX9_image 89 = .ok (.aload_n 0, 1) := by decide +kernel
theorem dX9_image_90 : decode cX9_image 90 = .ok (.aload_n 0, 1) := by decide +kernel
theorem dX9_image_91 : decode cX9_image 91 = .ok (.getfield 119, 3) := by decide +kernel
theorem dX9_image_94 : decode cX9_image 94 = .ok (.putfield 266, 3) := by decide +kernel
theorem dX9_image_97 : decode cX9_image 97 = .ok (.aload_n 0, 1) := by decide +kernel
theorem dX9_image_98 : decode cX9_image 98 = .ok (.aload_n 0, 1) := by decide +kernel
theorem dX9_image_99 : decode cX9_image 99 = .ok (.getfield 122, 3) := by decide +kernel
theorem dX9_image_102 : decode cX9_image 102 = .ok (.putfield 58, 3) := by decide +kernel
theorem dX9_image_105 : decode cX9_image 105 = .ok (.aload_n 0, 1) := by decide +kernel
theorem dX9_image_106 : decode cX9_image 106 = .ok (.getfield 110, 3) := by decide +kernel
theorem dX9_image_109 : decode cX9_image 109 = .ok (.ireturn, 1) := by decide +kernel
theorem dX9_restore_0 : decode cX9_restore 0 = .ok (.aload_n 0, 1) := by decide +kernel
theorem dX9_restore_1 : decode cX9_restore 1 = .ok (.getfield 58, 3) := by decide +kernel
theorem dX9_restore_4 : decode cX9_restore 4 = .ok (.aload_n 0, 1) := by decide +kernel
theorem dX9_restore_5 : decode cX9_restore 5 = .ok (.getfield 122, 3) := by decide +kernel
theorem dX9_restore_8 : decode cX9_restore 8 = .ok (.if_icmp .eq 6, 3) := by decide +kernel
theorem dX9_restore_11 : decode cX9_restore 11 = .ok (.bipush (-103), 2) := by decide +kernel
theorem dX9_restore_13 : decode cX9_restore 13 = .ok (.ireturn, 1) := by decide +kernel
theorem dX9_restore_14 : decode cX9_restore 14 = .ok (.aload_n 0, 1) := by decide +kernel
theorem dX9_restore_15 : decode cX9_restore 15 = .ok (.getfield 43, 3) := by decide +kernel
theorem dX9_restore_18 : decode cX9_restore 18 = .ok (.aload_n 0, 1) := by decide +kernel
theorem dX9_restore_19 : decode cX9_restore 19 = .ok (.getfield 13, 3) := by decide +kernel
theorem dX9_restore_22 : decode cX9_restore 22 = .ok (.invokestatic 125, 3) := by decide +kernel
theorem dX9_restore_25 : decode cX9_restore 25 = .ok (.aload_n 0, 1) := by decide +kernel
theorem dX9_restore_26 : decode cX9_restore 26 = .ok (.getfield 46, 3) := by decide +kernel
theorem dX9_restore_29 : decode cX9_restore 29 = .ok (.aload_n 0, 1) := by decide +kernel
theorem dX9_restore_30 : decode cX9_restore 30 = .ok (.getfield 22, 3) := by decide +kernel
theorem dX9_restore_33 : decode cX9_restore 33 = .ok (.invokestatic 125, 3) := by decide +kernel
theorem dX9_restore_36 : decode cX9_restore 36 = .ok (.aload_n 0, 1) := by decide +kernel
theorem dX9_restore_37 : decode cX9_restore 37 = .ok (.getfield 49, 3) := by decide +kernel
theorem dX9_restore_40 : decode cX9_restore 40 = .ok (.aload_n 0, 1) := by decide +kernel
theorem dX9_restore_41 : decode cX9_restore 41 = .ok (.getfield 25, 3) := by decide +kernel
theorem dX9_restore_44 : decode cX9_restore 44 = .ok (.invokestatic 125, 3) := by decide +kernel
theorem dX9_restore_47 : decode cX9_restore 47 = .ok (.aload_n 0, 1) := by decide +kernel
theorem dX9_restore_48 : decode cX9_restore 48 = .ok (.getfield 52, 3) := by decide +kernel
theorem dX9_restore_51 : decode cX9_restore 51 = .ok (.aload_n 0, 1) := by decide +kernel
theorem dX9_restore_52 : decode cX9_restore 52 = .ok (.getfield 28, 3) := by decide +kernel
theorem dX9_restore_55 : decode cX9_restore 55 = .ok (.invokestatic 125, 3) := by decide +kernel
theorem dX9_restore_58 : decode cX9_restore 58 = .ok (.aload_n 0, 1) := by decide +kernel
theorem dX9_restore_59 : decode cX9_restore 59 = .ok (.getfield 55, 3) := by decide +kernel
theorem dX9_restore_62 : decode cX9_restore 62 = .ok (.aload_n 0, 1) := by decide +kernel
theorem dX9_restore_63 : decode cX9_restore 63 = .ok (.getfield 40, 3) := by decide +kernel
theorem dX9_restore_66 : decode cX9_restore 66 = .ok (.invokestatic 125, 3) := by decide +kernel
theorem dX9_restore_69 : decode cX9_restore 69 = .ok (.aload_n 0, 1) := by decide +kernel
theorem dX9_restore_70 : decode cX9_restore 70 = .ok (.aload_n 0, 1) := by decide +kernel
theorem dX9_restore_71 : decode cX9_restore 71 = .ok (.getfield 257, 3) := by decide +kernel
theorem dX9_restore_74 : decode cX9_restore 74 = .ok (.putfield 110, 3) := by decide +kernel
theorem dX9_restore_77 : decode cX9_restore 77 = .ok (.aload_n 0, 1) := by decide +kernel
theorem dX9_restore_78 : decode cX9_restore 78 = .ok (.aload_n 0, 1) := by decide +kernel
theorem dX9_restore_79 : decode cX9_restore 79 = .ok (.getfield 260, 3) := by decide +kernel
theorem dX9_restore_82 : decode cX9_restore 82 = .ok (.putfield 113, 3) := by decide +kernel
theorem dX9_restore_85 : decode cX9_restore 85 = .ok (.aload_n 0, 1) := by decide +kernel
theorem dX9_restore_86 : decode cX9_restore 86 = .ok (.aload_n 0, 1) := by decide +kernel
theorem dX9_restore_87 : decode cX9_restore 87 = .ok (.getfield 263, 3) := by decide +kernel
theorem dX9_restore_90 : decode cX9_restore 90 = .ok (.putfield 116, 3) := by decide +kernel
theorem dX9_restore_93 : decode cX9_restore 93 = .ok (.aload_n 0, 1) := by decide +kernel
theorem dX9_restore_94 : decode cX9_restore 94 = .ok (.aload_n 0, 1) := by decide +kernel
theorem dX9_restore_95 : decode cX9_restore 95 = .ok (.getfield 266, 3) := by decide +kernel
theorem dX9_restore_98 : decode cX9_restore 98 = .ok (.putfield 119, 3) := by decide +kernel
theorem dX9_restore_101 : decode cX9_restore 101 = .ok (.aload_n 0, 1) := by decide +kernel
theorem dX9_restore_102 : decode cX9_restore 102 = .ok (.getfield 110, 3) := by decide +kernel
theorem dX9_restore_105 : decode cX9_restore 105 = .ok (.ireturn, 1) := by decide +kernel
theorem dX9_thingsThere_0 : decode cX9_thingsThere 0 = .ok (.aload_n 0, 1) := by decide +kernel
theorem dX9_thingsThere_1 : decode cX9_thingsThere 1 = .ok (.invokevirtual 145, 3) := by decide +kernel
theorem dX9_thingsThere_4 : decode cX9_thingsThere 4 = .ok (.istore_n 1, 1) := by decide +kernel
theorem dX9_thingsThere_5 : decode cX9_thingsThere 5 = .ok (.iconst 0, 1) := by decide +kernel
theorem dX9_thingsThere_6 : decode cX9_thingsThere 6 = .ok (.istore_n 2, 1) := by decide +kernel
theorem dX9_thingsThere_7 : decode cX9_thingsThere 7 = .ok (.iconst 0, 1) := by decide +kernel
theorem dX9_thingsThere_8 : decode cX9_thingsThere 8 = .ok (.istore_n 3, 1) := by decide +kernel
theorem dX9_thingsThere_9 : decode cX9_thingsThere 9 = .ok (.iload_n 3, 1) := by decide +kernel
theorem dX9_thingsThere_10 : decode cX9_thingsThere 10 = .ok (.aload_n 0, 1) := by decide +kernel
theorem dX9_thingsThere_11 : decode cX9_thingsThere 11 = .ok (.getfield 107, 3) := by decide +kernel
theorem dX9_thingsThere_14 : decode cX9_thingsThere 14 = .ok (.if_icmp .ge 40, 3) := by decide +kernel
theorem dX9_thingsThere_17 : decode cX9_thingsThere 17 = .ok (.iload_n 2, 1) := by decide +kernel
theorem dX9_thingsThere_18 : decode cX9_thingsThere 18 = .ok (.aload_n 0, 1) := by decide +kernel
theorem dX9_thingsThere_19 : decode cX9_thingsThere 19 = .ok (.iload_n 3, 1) := by decide +kernel
theorem dX9_thingsThere_20 : decode cX9_thingsThere 20 = .ok (.invokevirtual 186, 3) := by decide +kernel
theorem dX9_thingsThere_23 : decode cX9_thingsThere 23 = .ok (.ifCond .ne 22, 3) := by decide +kernel
theorem dX9_thingsThere_26 : decode cX9_thingsThere 26 = .ok (.iload_n 1, 1) := by decide +kernel
theorem dX9_thingsThere_27 : decode cX9_thingsThere 27 = .ok (.aload_n 0, 1) := by decide +kernel
theorem dX9_thingsThere_28 : decode cX9_thingsThere 28 = .ok (.iload_n 3, 1) := by decide +kernel
theorem dX9_thingsThere_29 : decode cX9_thingsThere 29 = .ok (.invokevirtual 170, 3) := by decide +kernel
theorem dX9_thingsThere_32 : decode cX9_thingsThere 32 = .ok (.iconst 2, 1) := by decide +kernel
theorem dX9_thingsThere_33 : decode cX9_thingsThere 33 = .ok (.idiv, 1) := by decide +kernel
theorem dX9_thingsThere_34 : decode cX9_thingsThere 34 = .ok (.ishr, 1) := by decide +kernel
theorem dX9_thingsThere_35 : decode cX9_thingsThere 35 = .ok (.iconst 1, 1) := by decide +kernel
theorem dX9_thingsThere_36 : decode cX9_thingsThere 36 = .ok (.iand, 1) := by decide +kernel
theorem dX9_thingsThere_37 : decode cX9_thingsThere 37 = .ok (.iconst 1, 1) := by decide +kernel
theorem dX9_thingsThere_38 : decode cX9_thingsThere 38 = .ok (.if_icmp .ne 7, 3) := by decide +kernel
theorem dX9_thingsThere_41 : decode cX9_thingsThere 41 = .ok (.iconst 1, 1) := by decide +kernel
theorem dX9_thingsThere_42 : decode cX9_thingsThere 42 = .ok (.goto 4, 3) := by decide +kernel
theorem dX9_thingsThere_45 : decode cX9_thingsThere 45 = .ok (.iconst 0, 1) := by decide +kernel
theorem dX9_thingsThere_46 : decode cX9_thingsThere 46 = .ok (.iadd, 1) := by decide +kernel
theorem dX9_thingsThere_47 : decode cX9_thingsThere 47 = .ok (.istore_n 2, 1) := by decide +kernel
theorem dX9_thingsThere_48 : decode cX9_thingsThere 48 = .ok (.iinc 3 1, 3) := by decide +kernel
theorem dX9_thingsThere_51 : decode cX9_thingsThere 51 = .ok (.goto (-42), 3) := by decide +kernel
theorem dX9_thingsThere_54 : decode cX9_thingsThere 54 = .ok (.iload_n 2, 1) := by decide +kernel
theorem dX9_thingsThere_55 : decode cX9_thingsThere 55 = .ok (.ireturn, 1) := by decide +kernel
theorem dX9_weighsAll_0 : decode cX9_weighsAll 0 = .ok (.aload_n 0, 1) := by decide +kernel
theorem dX9_weighsAll_1 : decode cX9_weighsAll 1 = .ok (.invokevirtual 148, 3) := by decide +kernel
theorem dX9_weighsAll_4 : decode cX9_weighsAll 4 = .ok (.aload_n 0, 1) := by decide +kernel
theorem dX9_weighsAll_5 : decode cX9_weighsAll 5 = .ok (.invokevirtual 142, 3) := by decide +kernel
theorem dX9_weighsAll_8 : decode cX9_weighsAll 8 = .ok (.aload_n 0, 1) := by decide +kernel
theorem dX9_weighsAll_9 : decode cX9_weighsAll 9 = .ok (.invokevirtual 182, 3) := by decide +kernel
theorem dX9_weighsAll_12 : decode cX9_weighsAll 12 = .ok (.ifCond .eq 9, 3) := by decide +kernel
theorem dX9_weighsAll_15 : decode cX9_weighsAll 15 = .ok (.sipush 10000, 3) := by decide +kernel
theorem dX9_weighsAll_18 : decode cX9_weighsAll 18 = .ok (.goto 13, 3) := by decide +kernel
theorem dX9_weighsAll_21 : decode cX9_weighsAll 21 = .ok (.sipush 10000, 3) := by decide +kernel
theorem dX9_weighsAll_24 : decode cX9_weighsAll 24 = .ok (.aload_n 0, 1) := by decide +kernel
theorem dX9_weighsAll_25 : decode cX9_weighsAll 25 = .ok (.getfield 34, 3) := by decide +kernel
theorem dX9_weighsAll_28 : decode cX9_weighsAll 28 = .ok (.iconst 0, 1) := by decide +kernel
theorem dX9_weighsAll_29 : decode cX9_weighsAll 29 = .ok (.iaload, 1) := by decide +kernel
theorem dX9_weighsAll_30 : decode cX9_weighsAll 30 = .ok (.iadd, 1) := by decide +kernel
theorem dX9_weighsAll_31 : decode cX9_weighsAll 31 = .ok (.ireturn, 1) := by decide +kernel
theorem dX9_countOf_0 : decode cX9_countOf 0 = .ok (.iload_n 1, 1) := by decide +kernel
theorem dX9_countOf_1 : decode cX9_countOf 1 = .ok (.tableswitch 117 0 10 #[59, 64, 69, 77, 82, 87, 92, 97, 102, 107, 112], 59) := by decide +kernel
theorem dX9_countOf_60 : decode cX9_countOf 60 = .ok (.aload_n 0, 1) := by decide +kernel
theorem dX9_countOf_61 : decode cX9_countOf 61 = .ok (.getfield 104, 3) := by decide +kernel
theorem dX9_countOf_64 : decode cX9_countOf 64 = .ok (.ireturn, 1) := by decide +kernel
theorem dX9_countOf_65 : decode cX9_countOf 65 = .ok (.aload_n 0, 1) := by decide +kernel
theorem dX9_countOf_66 : decode cX9_countOf 66 = .ok (.getfield 107, 3) := by decide +kernel
theorem dX9_countOf_69 : decode cX9_countOf 69 = .ok (.ireturn, 1) := by decide +kernel
theorem dX9_countOf_70 : decode cX9_countOf 70 = .ok (.aload_n 0, 1) := by decide +kernel
theorem dX9_countOf_71 : decode cX9_countOf 71 = .ok (.invokevirtual 145, 3) := by decide +kernel
theorem dX9_countOf_74 : decode cX9_countOf 74 = .ok (.invokestatic 196, 3) := by decide +kernel
theorem dX9_countOf_77 : decode cX9_countOf 77 = .ok (.ireturn, 1) := by decide +kernel
theorem dX9_countOf_78 : decode cX9_countOf 78 = .ok (.aload_n 0, 1) := by decide +kernel
theorem dX9_countOf_79 : decode cX9_countOf 79 = .ok (.invokevirtual 193, 3) := by decide +kernel
theorem dX9_countOf_82 : decode cX9_countOf 82 = .ok (.ireturn, 1) := by decide +kernel
theorem dX9_countOf_83 : decode cX9_countOf 83 = .ok (.aload_n 0, 1) := by decide +kernel
theorem dX9_countOf_84 : decode cX9_countOf 84 = .ok (.invokevirtual 269, 3) := by decide +kernel
theorem dX9_countOf_87 : decode cX9_countOf 87 = .ok (.ireturn, 1) := by decide +kernel
theorem dX9_countOf_88 : decode cX9_countOf 88 = .ok (.aload_n 0, 1) := by decide +kernel
theorem dX9_countOf_89 : decode cX9_countOf 89 = .ok (.getfield 110, 3) := by decide +kernel
theorem dX9_countOf_92 : decode cX9_countOf 92 = .ok (.ireturn, 1) := by decide +kernel
theorem dX9_countOf_93 : decode cX9_countOf 93 = .ok (.aload_n 0, 1) := by decide +kernel
theorem dX9_countOf_94 : decode cX9_countOf 94 = .ok (.invokevirtual 272, 3) := by decide +kernel
theorem dX9_countOf_97 : decode cX9_countOf 97 = .ok (.ireturn, 1) := by decide +kernel
theorem dX9_countOf_98 : decode cX9_countOf 98 = .ok (.aload_n 0, 1) := by decide +kernel
theorem dX9_countOf_99 : decode cX9_countOf 99 = .ok (.getfield 119, 3) := by decide +kernel
theorem dX9_countOf_102 : decode cX9_countOf 102 = .ok (.ireturn, 1) := by decide +kernel
theorem dX9_countOf_103 : decode cX9_countOf 103 = .ok (.aload_n 0, 1) := by decide +kernel
theorem dX9_countOf_104 : decode cX9_countOf 104 = .ok (.getfield 68, 3) := by decide +kernel
theorem dX9_countOf_107 : decode cX9_countOf 107 = .ok (.ireturn, 1) := by decide +kernel
theorem dX9_countOf_108 : decode cX9_countOf 108 = .ok (.aload_n 0, 1) := by decide +kernel
theorem dX9_countOf_109 : decode cX9_countOf 109 = .ok (.getfield 122, 3) := by decide +kernel
theorem dX9_countOf_112 : decode cX9_countOf 112 = .ok (.ireturn, 1) := by decide +kernel
theorem dX9_countOf_113 : decode cX9_countOf 113 = .ok (.aload_n 0, 1) := by decide +kernel
theorem dX9_countOf_114 : decode cX9_countOf 114 = .ok (.getfield 221, 3) := by decide +kernel
theorem dX9_countOf_117 : decode cX9_countOf 117 = .ok (.ireturn, 1) := by decide +kernel
theorem dX9_countOf_118 : decode cX9_countOf 118 = .ok (.bipush (-102), 2) := by decide +kernel
theorem dX9_countOf_120 : decode cX9_countOf 120 = .ok (.ireturn, 1) := by decide +kernel
theorem dX9_count_0 : decode cX9_count 0 = .ok (.aload_n 0, 1) := by decide +kernel
theorem dX9_count_1 : decode cX9_count 1 = .ok (.iload_n 1, 1) := by decide +kernel
theorem dX9_count_2 : decode cX9_count 2 = .ok (.invokevirtual 275, 3) := by decide +kernel
theorem dX9_count_5 : decode cX9_count 5 = .ok (.ireturn, 1) := by decide +kernel
theorem dX9_say_0 : decode cX9_say 0 = .ok (.aload_n 0, 1) := by decide +kernel
theorem dX9_say_1 : decode cX9_say 1 = .ok (.ldc2_w 278, 3) := by decide +kernel
theorem dX9_say_4 : decode cX9_say 4 = .ok (.aload_n 0, 1) := by decide +kernel
theorem dX9_say_5 : decode cX9_say 5 = .ok (.getfield 280, 3) := by decide +kernel
theorem dX9_say_8 : decode cX9_say 8 = .ok (.lmul, 1) := by decide +kernel
theorem dX9_say_9 : decode cX9_say 9 = .ok (.lload_n 1, 1) := by decide +kernel
theorem dX9_say_10 : decode cX9_say 10 = .ok (.ladd, 1) := by decide +kernel
theorem dX9_say_11 : decode cX9_say 11 = .ok (.putfield 280, 3) := by decide +kernel
theorem dX9_say_14 : decode cX9_say 14 = .ok (.return_, 1) := by decide +kernel
theorem dX9_digest_0 : decode cX9_digest 0 = .ok (.aload_n 0, 1) := by decide +kernel
theorem dX9_digest_1 : decode cX9_digest 1 = .ok (.ldc2_w 284, 3) := by decide +kernel
theorem dX9_digest_4 : decode cX9_digest 4 = .ok (.putfield 280, 3) := by decide +kernel
theorem dX9_digest_7 : decode cX9_digest 7 = .ok (.iconst 0, 1) := by decide +kernel
theorem dX9_digest_8 : decode cX9_digest 8 = .ok (.istore_n 1, 1) := by decide +kernel
theorem dX9_digest_9 : decode cX9_digest 9 = .ok (.iload_n 1, 1) := by decide +kernel
theorem dX9_digest_10 : decode cX9_digest 10 = .ok (.aload_n 0, 1) := by decide +kernel
theorem dX9_digest_11 : decode cX9_digest 11 = .ok (.getfield 104, 3) := by decide +kernel
theorem dX9_digest_14 : decode cX9_digest 14 = .ok (.if_icmp .ge 34, 3) := by decide +kernel
theorem dX9_digest_17 : decode cX9_digest 17 = .ok (.iconst 0, 1) := by decide +kernel
theorem dX9_digest_18 : decode cX9_digest 18 = .ok (.istore_n 2, 1) := by decide +kernel
theorem dX9_digest_19 : decode cX9_digest 19 = .ok (.iload_n 2, 1) := by decide +kernel
theorem dX9_digest_20 : decode cX9_digest 20 = .ok (.bipush 11, 2) := by decide +kernel
theorem dX9_digest_22 : decode cX9_digest 22 = .ok (.if_icmp .ge 20, 3) := by decide +kernel
theorem dX9_digest_25 : decode cX9_digest 25 = .ok (.aload_n 0, 1) := by decide +kernel
theorem dX9_digest_26 : decode cX9_digest 26 = .ok (.aload_n 0, 1) := by decide +kernel
theorem dX9_digest_27 : decode cX9_digest 27 = .ok (.iload_n 1, 1) := by decide +kernel
theorem dX9_digest_28 : decode cX9_digest 28 = .ok (.iload_n 2, 1) := by decide +kernel
theorem dX9_digest_29 : decode cX9_digest 29 = .ok (.invokevirtual 166, 3) := by decide +kernel
theorem dX9_digest_32 : decode cX9_digest 32 = .ok (.i2l, 1) := by decide +kernel
theorem dX9_digest_33 : decode cX9_digest 33 = .ok (.invokevirtual 286, 3) := by decide +kernel
theorem dX9_digest_36 : decode cX9_digest 36 = .ok (.iinc 2 1, 3) := by decide +kernel
theorem dX9_digest_39 : decode cX9_digest 39 = .ok (.goto (-20), 3) := by decide +kernel
theorem dX9_digest_42 : decode cX9_digest 42 = .ok (.iinc 1 1, 3) := by decide +kernel
theorem dX9_digest_45 : decode cX9_digest 45 = .ok (.goto (-36), 3) := by decide +kernel
theorem dX9_digest_48 : decode cX9_digest 48 = .ok (.iconst 0, 1) := by decide +kernel
theorem dX9_digest_49 : decode cX9_digest 49 = .ok (.istore_n 1, 1) := by decide +kernel
theorem dX9_digest_50 : decode cX9_digest 50 = .ok (.iload_n 1, 1) := by decide +kernel
theorem dX9_digest_51 : decode cX9_digest 51 = .ok (.aload_n 0, 1) := by decide +kernel
theorem dX9_digest_52 : decode cX9_digest 52 = .ok (.getfield 107, 3) := by decide +kernel
theorem dX9_digest_55 : decode cX9_digest 55 = .ok (.if_icmp .ge 45, 3) := by decide +kernel
theorem dX9_digest_58 : decode cX9_digest 58 = .ok (.iconst 0, 1) := by decide +kernel
theorem dX9_digest_59 : decode cX9_digest 59 = .ok (.istore_n 2, 1) := by decide +kernel
theorem dX9_digest_60 : decode cX9_digest 60 = .ok (.iload_n 2, 1) := by decide +kernel
theorem dX9_digest_61 : decode cX9_digest 61 = .ok (.bipush 7, 2) := by decide +kernel
theorem dX9_digest_63 : decode cX9_digest 63 = .ok (.if_icmp .ge 20, 3) := by decide +kernel
theorem dX9_digest_66 : decode cX9_digest 66 = .ok (.aload_n 0, 1) := by decide +kernel
theorem dX9_digest_67 : decode cX9_digest 67 = .ok (.aload_n 0, 1) := by decide +kernel
theorem dX9_digest_68 : decode cX9_digest 68 = .ok (.iload_n 1, 1) := by decide +kernel
theorem dX9_digest_69 : decode cX9_digest 69 = .ok (.iload_n 2, 1) := by decide +kernel
theorem dX9_digest_70 : decode cX9_digest 70 = .ok (.invokevirtual 179, 3) := by decide +kernel
theorem dX9_digest_73 : decode cX9_digest 73 = .ok (.i2l, 1) := by decide +kernel
theorem dX9_digest_74 : decode cX9_digest 74 = .ok (.invokevirtual 286, 3) := by decide +kernel
theorem dX9_digest_77 : decode cX9_digest 77 = .ok (.iinc 2 1, 3) := by decide +kernel
theorem dX9_digest_80 : decode cX9_digest 80 = .ok (.goto (-20), 3) := by decide +kernel
theorem dX9_digest_83 : decode cX9_digest 83 = .ok (.aload_n 0, 1) := by decide +kernel
theorem dX9_digest_84 : decode cX9_digest 84 = .ok (.aload_n 0, 1) := by decide +kernel
theorem dX9_digest_85 : decode cX9_digest 85 = .ok (.iload_n 1, 1) := by decide +kernel
theorem dX9_digest_86 : decode cX9_digest 86 = .ok (.iconst 0, 1) := by decide +kernel
theorem dX9_digest_87 : decode cX9_digest 87 = .ok (.invokevirtual 239, 3) := by decide +kernel
theorem dX9_digest_90 : decode cX9_digest 90 = .ok (.i2l, 1) := by decide +kernel
theorem dX9_digest_91 : decode cX9_digest 91 = .ok (.invokevirtual 286, 3) := by decide +kernel
theorem dX9_digest_94 : decode cX9_digest 94 = .ok (.iinc 1 1, 3) := by decide +kernel
theorem dX9_digest_97 : decode cX9_digest 97 = .ok (.goto (-47), 3) := by decide +kernel
theorem dX9_digest_100 : decode cX9_digest 100 = .ok (.aload_n 0, 1) := by decide +kernel
theorem dX9_digest_101 : decode cX9_digest 101 = .ok (.invokevirtual 182, 3) := by decide +kernel
theorem dX9_digest_104 : decode cX9_digest 104 = .ok (.ifCond .ne 41, 3) := by decide +kernel
theorem dX9_digest_107 : decode cX9_digest 107 = .ok (.aload_n 0, 1) := by decide +kernel
theorem dX9_digest_108 : decode cX9_digest 108 = .ok (.aload_n 0, 1) := by decide +kernel
theorem dX9_digest_109 : decode cX9_digest 109 = .ok (.invokevirtual 201, 3) := by decide +kernel
theorem dX9_digest_112 : decode cX9_digest 112 = .ok (.i2l, 1) := by decide +kernel
theorem dX9_digest_113 : decode cX9_digest 113 = .ok (.invokevirtual 286, 3) := by decide +kernel
theorem dX9_digest_116 : decode cX9_digest 116 = .ok (.aload_n 0, 1) := by decide +kernel
theorem dX9_digest_117 : decode cX9_digest 117 = .ok (.aload_n 0, 1) := by decide +kernel
theorem dX9_digest_118 : decode cX9_digest 118 = .ok (.invokevirtual 227, 3) := by decide +kernel
theorem dX9_digest_121 : decode cX9_digest 121 = .ok (.i2l, 1) := by decide +kernel
theorem dX9_digest_122 : decode cX9_digest 122 = .ok (.invokevirtual 286, 3) := by decide +kernel
theorem dX9_digest_125 : decode cX9_digest 125 = .ok (.aload_n 0, 1) := by decide +kernel
theorem dX9_digest_126 : decode cX9_digest 126 = .ok (.aload_n 0, 1) := by decide +kernel
theorem dX9_digest_127 : decode cX9_digest 127 = .ok (.iconst 0, 1) := by decide +kernel
theorem dX9_digest_128 : decode cX9_digest 128 = .ok (.invokevirtual 230, 3) := by decide +kernel
theorem dX9_digest_131 : decode cX9_digest 131 = .ok (.i2l, 1) := by decide +kernel
theorem dX9_digest_132 : decode cX9_digest 132 = .ok (.invokevirtual 286, 3) := by decide +kernel
theorem dX9_digest_135 : decode cX9_digest 135 = .ok (.aload_n 0, 1) := by decide +kernel
theorem dX9_digest_136 : decode cX9_digest 136 = .ok (.aload_n 0, 1) := by decide +kernel
theorem dX9_digest_137 : decode cX9_digest 137 = .ok (.iconst 1, 1) := by decide +kernel
theorem dX9_digest_138 : decode cX9_digest 138 = .ok (.invokevirtual 230, 3) := by decide +kernel
theorem dX9_digest_141 : decode cX9_digest 141 = .ok (.i2l, 1) := by decide +kernel
theorem dX9_digest_142 : decode cX9_digest 142 = .ok (.invokevirtual 286, 3) := by decide +kernel
theorem dX9_digest_145 : decode cX9_digest 145 = .ok (.iconst 0, 1) := by decide +kernel
theorem dX9_digest_146 : decode cX9_digest 146 = .ok (.istore_n 1, 1) := by decide +kernel
theorem dX9_digest_147 : decode cX9_digest 147 = .ok (.iload_n 1, 1) := by decide +kernel
theorem dX9_digest_148 : decode cX9_digest 148 = .ok (.aload_n 0, 1) := by decide +kernel
theorem dX9_digest_149 : decode cX9_digest 149 = .ok (.getfield 68, 3) := by decide +kernel
theorem dX9_digest_152 : decode cX9_digest 152 = .ok (.if_icmp .ge 20, 3) := by decide +kernel
theorem dX9_digest_155 : decode cX9_digest 155 = .ok (.aload_n 0, 1) := by decide +kernel
theorem dX9_digest_156 : decode cX9_digest 156 = .ok (.aload_n 0, 1) := by decide +kernel
theorem dX9_digest_157 : decode cX9_digest 157 = .ok (.getfield 7, 3) := by decide +kernel
theorem dX9_digest_160 : decode cX9_digest 160 = .ok (.iload_n 1, 1) := by decide +kernel
theorem dX9_digest_161 : decode cX9_digest 161 = .ok (.iaload, 1) := by decide +kernel
theorem dX9_digest_162 : decode cX9_digest 162 = .ok (.i2l, 1) := by decide +kernel
theorem dX9_digest_163 : decode cX9_digest 163 = .ok (.invokevirtual 286, 3) := by decide +kernel
theorem dX9_digest_166 : decode cX9_digest 166 = .ok (.iinc 1 1, 3) := by decide +kernel
theorem dX9_digest_169 : decode cX9_digest 169 = .ok (.goto (-22), 3) := by decide +kernel
theorem dX9_digest_172 : decode cX9_digest 172 = .ok (.iconst 0, 1) := by decide +kernel
theorem dX9_digest_173 : decode cX9_digest 173 = .ok (.istore_n 1, 1) := by decide +kernel
theorem dX9_digest_174 : decode cX9_digest 174 = .ok (.iload_n 1, 1) := by decide +kernel
theorem dX9_digest_175 : decode cX9_digest 175 = .ok (.bipush 11, 2) := by decide +kernel
theorem dX9_digest_177 : decode cX9_digest 177 = .ok (.if_icmp .ge 19, 3) := by decide +kernel
theorem dX9_digest_180 : decode cX9_digest 180 = .ok (.aload_n 0, 1) := by decide +kernel
theorem dX9_digest_181 : decode cX9_digest 181 = .ok (.aload_n 0, 1) := by decide +kernel
theorem dX9_digest_182 : decode cX9_digest 182 = .ok (.iload_n 1, 1) := by decide +kernel
theorem dX9_digest_183 : decode cX9_digest 183 = .ok (.invokevirtual 275, 3) := by decide +kernel
theorem dX9_digest_186 : decode cX9_digest 186 = .ok (.i2l, 1) := by decide +kernel
theorem dX9_digest_187 : decode cX9_digest 187 = .ok (.invokevirtual 286, 3) := by decide +kernel
theorem dX9_digest_190 : decode cX9_digest 190 = .ok (.iinc 1 1, 3) := by decide +kernel
theorem dX9_digest_193 : decode cX9_digest 193 = .ok (.goto (-19), 3) := by decide +kernel
theorem dX9_digest_196 : decode cX9_digest 196 = .ok (.aload_n 0, 1) := by decide +kernel
theorem dX9_digest_197 : decode cX9_digest 197 = .ok (.getfield 280, 3) := by decide +kernel
theorem dX9_digest_200 : decode cX9_digest 200 = .ok (.lreturn, 1) := by decide +kernel
