theorem dX6_init_0 : decode cX6_init 0 = .ok (.aload_n 0, 1) := by decide +kernel
theorem dX6_init_1 : decode cX6_init 1 = .ok (.invokespecial 3, 3) := by decide +kernel
theorem dX6_init_4 : decode cX6_init 4 = .ok (.aload_n 0, 1) := by decide +kernel
theorem dX6_init_5 : decode cX6_init 5 = .ok (.bipush 10, 2) := by decide +kernel
theorem dX6_init_7 : decode cX6_init 7 = .ok (.newarray .int, 2) := by decide +kernel
theorem dX6_init_9 : decode cX6_init 9 = .ok (.putfield 9, 3) := by decide +kernel
theorem dX6_init_12 : decode cX6_init 12 = .ok (.aload_n 0, 1) := by decide +kernel
theorem dX6_init_13 : decode cX6_init 13 = .ok (.iconst 5, 1) := by decide +kernel
theorem dX6_init_14 : decode cX6_init 14 = .ok (.newarray .int, 2) := by decide +kernel
theorem dX6_init_16 : decode cX6_init 16 = .ok (.putfield 15, 3) := by decide +kernel
theorem dX6_init_19 : decode cX6_init 19 = .ok (.aload_n 0, 1) := by decide +kernel
theorem dX6_init_20 : decode cX6_init 20 = .ok (.iconst 5, 1) := by decide +kernel
theorem dX6_init_21 : decode cX6_init 21 = .ok (.newarray .boolean, 2) := by decide +kernel
theorem dX6_init_23 : decode cX6_init 23 = .ok (.putfield 18, 3) := by decide +kernel
theorem dX6_init_26 : decode cX6_init 26 = .ok (.aload_n 0, 1) := by decide +kernel
theorem dX6_init_27 : decode cX6_init 27 = .ok (.bipush 6, 2) := by decide +kernel
theorem dX6_init_29 : decode cX6_init 29 = .ok (.newarray .int, 2) := by decide +kernel
theorem dX6_init_31 : decode cX6_init 31 = .ok (.putfield 22, 3) := by decide +kernel
theorem dX6_init_34 : decode cX6_init 34 = .ok (.return_, 1) := by decide +kernel
theorem dX6_weigh_0 : decode cX6_weigh 0 = .ok (.aload_n 0, 1) := by decide +kernel
theorem dX6_weigh_1 : decode cX6_weigh 1 = .ok (.aload_n 1, 1) := by decide +kernel
theorem dX6_weigh_2 : decode cX6_weigh 2 = .ok (.aload_n 1, 1) := by decide +kernel
theorem dX6_weigh_3 : decode cX6_weigh 3 = .ok (.getfield 25, 3) := by decide +kernel
theorem dX6_weigh_6 : decode cX6_weigh 6 = .ok (.invokevirtual 31, 3) := by decide +kernel
theorem dX6_weigh_9 : decode cX6_weigh 9 = .ok (.aload_n 0, 1) := by decide +kernel
theorem dX6_weigh_10 : decode cX6_weigh 10 = .ok (.aload_n 1, 1) := by decide +kernel
theorem dX6_weigh_11 : decode cX6_weigh 11 = .ok (.aload_n 1, 1) := by decide +kernel
theorem dX6_weigh_12 : decode cX6_weigh 12 = .ok (.getfield 35, 3) := by decide +kernel
theorem dX6_weigh_15 : decode cX6_weigh 15 = .ok (.invokevirtual 38, 3) := by decide +kernel
theorem dX6_weigh_18 : decode cX6_weigh 18 = .ok (.return_, 1) := by decide +kernel
theorem dX6_prepare_0 : decode cX6_prepare 0 = .ok (.iconst 0, 1) := by decide +kernel
theorem dX6_prepare_1 : decode cX6_prepare 1 = .ok (.istore_n 3, 1) := by decide +kernel
theorem dX6_prepare_2 : decode cX6_prepare 2 = .ok (.iload_n 3, 1) := by decide +kernel
theorem dX6_prepare_3 : decode cX6_prepare 3 = .ok (.aload_n 1, 1) := by decide +kernel
theorem dX6_prepare_4 : decode cX6_prepare 4 = .ok (.getfield 42, 3) := by decide +kernel
theorem dX6_prepare_7 : decode cX6_prepare 7 = .ok (.if_icmp .ge 48, 3) := by decide +kernel
theorem dX6_prepare_10 : decode cX6_prepare 10 = .ok (.aload_n 1, 1) := by decide +kernel
theorem dX6_prepare_11 : decode cX6_prepare 11 = .ok (.getfield 45, 3) := by decide +kernel
theorem dX6_prepare_14 : decode cX6_prepare 14 = .ok (.iload_n 3, 1) := by decide +kernel
theorem dX6_prepare_15 : decode cX6_prepare 15 = .ok (.iaload, 1) := by decide +kernel
theorem dX6_prepare_16 : decode cX6_prepare 16 = .ok (.aload_n 1, 1) := by decide +kernel
theorem dX6_prepare_17 : decode cX6_prepare 17 = .ok (.getfield 48, 3) := by decide +kernel
theorem dX6_prepare_20 : decode cX6_prepare 20 = .ok (.iload_n 3, 1) := by decide +kernel
theorem dX6_prepare_21 : decode cX6_prepare 21 = .ok (.iaload, 1) := by decide +kernel
theorem dX6_prepare_22 : decode cX6_prepare 22 = .ok (.iload_n 2, 1) := by decide +kernel
theorem dX6_prepare_23 : decode cX6_prepare 23 = .ok (.invokestatic 51, 3) := by decide +kernel
theorem dX6_prepare_26 : decode cX6_prepare 26 = .ok (.istore 4, 2) := by decide +kernel
theorem dX6_prepare_28 : decode cX6_prepare 28 = .ok (.aload_n 0, 1) := by decide +kernel
theorem dX6_prepare_29 : decode cX6_prepare 29 = .ok (.getfield 22, 3) := by decide +kernel
theorem dX6_prepare_32 : decode cX6_prepare 32 = .ok (.iload_n 3, 1) := by decide +kernel
theorem dX6_prepare_33 : decode cX6_prepare 33 = .ok (.aload_n 1, 1) := by decide +kernel
theorem dX6_prepare_34 : decode cX6_prepare 34 = .ok (.getfield 57, 3) := by decide +kernel
theorem dX6_prepare_37 : decode cX6_prepare 37 = .ok (.iload_n 3, 1) := by decide +kernel
theorem dX6_prepare_38 : decode cX6_prepare 38 = .ok (.baload, 1) := by decide +kernel
theorem dX6_prepare_39 : decode cX6_prepare 39 = .ok (.ifCond .eq 7, 3) := by decide +kernel
theorem dX6_prepare_42 : decode cX6_prepare 42 = .ok (.iconst 0, 1) := by decide +kernel
theorem dX6_prepare_43 : decode cX6_prepare 43 = .ok (.goto 5, 3) := by decide +kernel
theorem dX6_prepare_46 : decode cX6_prepare 46 = .ok (.iload 4, 2) := by decide +kernel
theorem dX6_prepare_48 : decode cX6_prepare 48 = .ok (.iastore, 1) := by decide +kernel
theorem dX6_prepare_49 : decode cX6_prepare 49 = .ok (.iinc 3 1, 3) := by decide +kernel
theorem dX6_prepare_52 : decode cX6_prepare 52 = .ok (.goto (-50), 3) := by decide +kernel
theorem dX6_prepare_55 : decode cX6_prepare 55 = .ok (.aload_n 0, 1) := by decide +kernel
theorem dX6_prepare_56 : decode cX6_prepare 56 = .ok (.getfield 18, 3) := by decide +kernel
theorem dX6_prepare_59 : decode cX6_prepare 59 = .ok (.iconst 0, 1) := by decide +kernel
theorem dX6_prepare_60 : decode cX6_prepare 60 = .ok (.iconst 1, 1) := by decide +kernel
theorem dX6_prepare_61 : decode cX6_prepare 61 = .ok (.bastore, 1) := by decide +kernel
theorem dX6_prepare_62 : decode cX6_prepare 62 = .ok (.iconst 0, 1) := by decide +kernel
theorem dX6_prepare_63 : decode cX6_prepare 63 = .ok (.istore_n 3, 1) := by decide +kernel
theorem dX6_prepare_64 : decode cX6_prepare 64 = .ok (.iload_n 3, 1) := by decide +kernel
theorem dX6_prepare_65 : decode cX6_prepare 65 = .ok (.iconst 2, 1) := by decide +kernel
theorem dX6_prepare_66 : decode cX6_prepare 66 = .ok (.aload_n 1, 1) := by decide +kernel
theorem dX6_prepare_67 : decode cX6_prepare 67 = .ok (.getfield 60, 3) := by decide +kernel
theorem dX6_prepare_70 : decode cX6_prepare 70 = .ok (.imul, 1) := by decide +kernel
theorem dX6_prepare_71 : decode cX6_prepare 71 = .ok (.if_icmp .ge 57, 3) := by decide +kernel
theorem dX6_prepare_74 : decode cX6_prepare 74 = .ok (.aload_n 1, 1) := by decide +kernel
theorem dX6_prepare_75 : decode cX6_prepare 75 = .ok (.getfield 63, 3) := by decide +kernel
theorem dX6_prepare_78 : decode cX6_prepare 78 = .ok (.iload_n 3, 1) := by decide +kernel
theorem dX6_prepare_79 : decode cX6_prepare 79 = .ok (.iaload, 1) := by decide +kernel
theorem dX6_prepare_80 : decode cX6_prepare 80 = .ok (.istore 4, 2) := by decide +kernel
theorem dX6_prepare_82 : decode cX6_prepare 82 = .ok (.iload 4, 2) := by decide +kernel
theorem dX6_prepare_84 : decode cX6_prepare 84 = .ok (.bipush 10, 2) := by decide +kernel
theorem dX6_prepare_86 : decode cX6_prepare 86 = .ok (.if_icmp .ge 36, 3) := by decide +kernel
theorem dX6_prepare_89 : decode cX6_prepare 89 = .ok (.aload_n 0, 1) := by decide +kernel
theorem dX6_prepare_90 : decode cX6_prepare 90 = .ok (.getfield 18, 3) := by decide +kernel
theorem dX6_prepare_93 : decode cX6_prepare 93 = .ok (.iload 4, 2) := by decide +kernel
theorem dX6_prepare_95 : decode cX6_prepare 95 = .ok (.aload_n 0, 1) := by decide +kernel
theorem dX6_prepare_96 : decode cX6_prepare 96 = .ok (.getfield 18, 3) := by decide +kernel
theorem dX6_prepare_99 : decode cX6_prepare 99 = .ok (.iload_n 3, 1) := by decide +kernel
theorem dX6_prepare_100 : decode cX6_prepare 100 = .ok (.iconst 2, 1) := by decide +kernel
theorem dX6_prepare_101 : decode cX6_prepare 101 = .ok (.idiv, 1) := by decide +kernel
theorem dX6_prepare_102 : decode cX6_prepare 102 = .ok (.baload, 1) := by decide +kernel
theorem dX6_prepare_103 : decode cX6_prepare 103 = .ok (.ifCond .eq 17, 3) := by decide +kernel
theorem dX6_prepare_106 : decode cX6_prepare 106 = .ok (.aload_n 1, 1) := by decide +kernel
theorem dX6_prepare_107 : decode cX6_prepare 107 = .ok (.getfield 66, 3) := by decide +kernel
theorem dX6_prepare_110 : decode cX6_prepare 110 = .ok (.iload 4, 2) := by decide +kernel
theorem dX6_prepare_112 : decode cX6_prepare 112 = .ok (.baload, 1) := by decide +kernel
theorem dX6_prepare_113 : decode cX6_prepare 113 = .ok (.ifCond .ne 7, 3) := by decide +kernel
theorem dX6_prepare_116 : decode cX6_prepare 116 = .ok (.iconst 1, 1) := by decide +kernel
theorem dX6_prepare_117 : decode cX6_prepare 117 = .ok (.goto 4, 3) := by decide +kernel
theorem dX6_prepare_120 : decode cX6_prepare 120 = .ok (.iconst 0, 1) := by decide +kernel
theorem dX6_prepare_121 : decode cX6_prepare 121 = .ok (.bastore, 1) := by decide +kernel
theorem dX6_prepare_122 : decode cX6_prepare 122 = .ok (.iinc 3 1, 3) := by decide +kernel
theorem dX6_prepare_125 : decode cX6_prepare 125 = .ok (.goto (-61), 3) := by decide +kernel
theorem dX6_prepare_128 : decode cX6_prepare 128 = .ok (.return_, 1) := by decide +kernel
theorem dX6_hang_0 : decode cX6_hang 0 = .ok (.aload_n 1, 1) := by decide +kernel
theorem dX6_hang_1 : decode cX6_hang 1 = .ok (.getfield 60, 3) := by decide +kernel
theorem dX6_hang_4 : decode cX6_hang 4 = .ok (.iconst 1, 1) := by decide +kernel
theorem dX6_hang_5 : decode cX6_hang 5 = .ok (.isub, 1) := by decide +kernel
theorem dX6_hang_6 : decode cX6_hang 6 = .ok (.istore_n 3, 1) := by decide +kernel
theorem dX6_hang_7 : decode cX6_hang 7 = .ok (.iload_n 3, 1) := by decide +kernel
theorem dX6_hang_8 : decode cX6_hang 8 = .ok (.ifCond .lt 16, 3) := by decide +kernel
theorem dX6_hang_11 : decode cX6_hang 11 = .ok (.aload_n 0, 1) := by decide +kernel
theorem dX6_hang_12 : decode cX6_hang 12 = .ok (.aload_n 1, 1) := by decide +kernel
theorem dX6_hang_13 : decode cX6_hang 13 = .ok (.aload_n 2, 1) := by decide +kernel
theorem dX6_hang_14 : decode cX6_hang 14 = .ok (.iload_n 3, 1) := by decide +kernel
theorem dX6_hang_15 : decode cX6_hang 15 = .ok (.invokevirtual 69, 3) := by decide +kernel
theorem dX6_hang_18 : decode cX6_hang 18 = .ok (.iinc 3 (-1), 3) := by decide +kernel
theorem dX6_hang_21 : decode cX6_hang 21 = .ok (.goto (-14), 3) := by decide +kernel
theorem dX6_hang_24 : decode cX6_hang 24 = .ok (.return_, 1) := by decide +kernel
theorem dX6_hangsLevel_0 : decode cX6_hangsLevel 0 = .ok (.aload_n 1, 1) := by decide +kernel
theorem dX6_hangsLevel_1 : decode cX6_hangsLevel 1 = .ok (.getfield 60, 3) := by decide +kernel
theorem dX6_hangsLevel_4 : decode cX6_hangsLevel 4 = .ok (.iconst 1, 1) := by decide +kernel
theorem dX6_hangsLevel_5 : decode cX6_hangsLevel 5 = .ok (.isub, 1) := by decide +kernel
theorem dX6_hangsLevel_6 : decode cX6_hangsLevel 6 = .ok (.istore_n 3, 1) := by decide +kernel
theorem dX6_hangsLevel_7 : decode cX6_hangsLevel 7 = .ok (.iload_n 3, 1) := by decide +kernel
theorem dX6_hangsLevel_8 : decode cX6_hangsLevel 8 = .ok (.ifCond .lt 36, 3) := by decide +kernel
theorem dX6_hangsLevel_11 : decode cX6_hangsLevel 11 = .ok (.aload_n 0, 1) := by decide +kernel
theorem dX6_hangsLevel_12 : decode cX6_hangsLevel 12 = .ok (.aload_n 1, 1) := by decide +kernel
theorem dX6_hangsLevel_13 : decode cX6_hangsLevel 13 = .ok (.aload_n 2, 1) := by decide +kernel
theorem dX6_hangsLevel_14 : decode cX6_hangsLevel 14 = .ok (.iload_n 3, 1) := by decide +kernel
theorem dX6_hangsLevel_15 : decode cX6_hangsLevel 15 = .ok (.invokevirtual 69, 3) := by decide +kernel
theorem dX6_hangsLevel_18 : decode cX6_hangsLevel 18 = .ok (.aload_n 0, 1) := by decide +kernel
theorem dX6_hangsLevel_19 : decode cX6_hangsLevel 19 = .ok (.getfield 18, 3) := by decide +kernel
theorem dX6_hangsLevel_22 : decode cX6_hangsLevel 22 = .ok (.iload_n 3, 1) := by decide +kernel
theorem dX6_hangsLevel_23 : decode cX6_hangsLevel 23 = .ok (.baload, 1) := by decide +kernel
theorem dX6_hangsLevel_24 : decode cX6_hangsLevel 24 = .ok (.ifCond .eq 14, 3) := by decide +kernel
theorem dX6_hangsLevel_27 : decode cX6_hangsLevel 27 = .ok (.aload_n 0, 1) := by decide +kernel
theorem dX6_hangsLevel_28 : decode cX6_hangsLevel 28 = .ok (.getfield 15, 3) := by decide +kernel
theorem dX6_hangsLevel_31 : decode cX6_hangsLevel 31 = .ok (.iload_n 3, 1) := by decide +kernel
theorem dX6_hangsLevel_32 : decode cX6_hangsLevel 32 = .ok (.iaload, 1) := by decide +kernel
theorem dX6_hangsLevel_33 : decode cX6_hangsLevel 33 = .ok (.ifCond .eq 5, 3) := by decide +kernel
theorem dX6_hangsLevel_36 : decode cX6_hangsLevel 36 = .ok (.iconst 0, 1) := by decide +kernel
theorem dX6_hangsLevel_37 : decode cX6_hangsLevel 37 = .ok (.ireturn, 1) := by decide +kernel
theorem dX6_hangsLevel_38 : decode cX6_hangsLevel 38 = .ok (.iinc 3 (-1), 3) := by decide +kernel
theorem dX6_hangsLevel_41 : decode cX6_hangsLevel 41 = .ok (.goto (-34), 3) := by decide +kernel
theorem dX6_hangsLevel_44 : decode cX6_hangsLevel 44 = .ok (.iconst 1, 1) := by decide +kernel
theorem dX6_hangsLevel_45 : decode cX6_hangsLevel 45 = .ok (.ireturn, 1) := by decide +kernel
theorem dX6_hangRod_0 : decode cX6_hangRod 0 = .ok (.iconst 2, 1) := by decide +kernel
theorem dX6_hangRod_1 : decode cX6_hangRod 1 = .ok (.iload_n 3, 1) := by decide +kernel
theorem dX6_hangRod_2 : decode cX6_hangRod 2 = .ok (.imul, 1) := by decide +kernel
theorem dX6_hangRod_3 : decode cX6_hangRod 3 = .ok (.istore 4, 2) := by decide +kernel
theorem dX6_hangRod_5 : decode cX6_hangRod 5 = .ok (.iload 4, 2) := by decide +kernel
theorem dX6_hangRod_7 : decode cX6_hangRod 7 = .ok (.iconst 1, 1) := by decide +kernel
theorem dX6_hangRod_8 : decode cX6_hangRod 8 = .ok (.iadd, 1) := by decide +kernel
theorem dX6_hangRod_9 : decode cX6_hangRod 9 = .ok (.istore 5, 2) := by decide +kernel
theorem dX6_hangRod_11 : decode cX6_hangRod 11 = .ok (.aload_n 0, 1) := by decide +kernel
theorem dX6_hangRod_12 : decode cX6_hangRod 12 = .ok (.getfield 9, 3) := by decide +kernel
theorem dX6_hangRod_15 : decode cX6_hangRod 15 = .ok (.iload 4, 2) := by decide +kernel
theorem dX6_hangRod_17 : decode cX6_hangRod 17 = .ok (.aload_n 0, 1) := by decide +kernel
theorem dX6_hangRod_18 : decode cX6_hangRod 18 = .ok (.aload_n 1, 1) := by decide +kernel
theorem dX6_hangRod_19 : decode cX6_hangRod 19 = .ok (.aload_n 2, 1) := by decide +kernel
theorem dX6_hangRod_20 : decode cX6_hangRod 20 = .ok (.iload 4, 2) := by decide +kernel
theorem dX6_hangRod_22 : decode cX6_hangRod 22 = .ok (.invokevirtual 73, 3) := by decide +kernel
theorem dX6_hangRod_25 : decode cX6_hangRod 25 = .ok (.iastore, 1) := by decide +kernel
theorem dX6_hangRod_26 : decode cX6_hangRod 26 = .ok (.aload_n 0, 1) := by decide +kernel
theorem dX6_hangRod_27 : decode cX6_hangRod 27 = .ok (.getfield 9, 3) := by decide +kernel
theorem dX6_hangRod_30 : decode cX6_hangRod 30 = .ok (.iload 5, 2) := by decide +kernel
theorem dX6_hangRod_32 : decode cX6_hangRod 32 = .ok (.aload_n 0, 1) := by decide +kernel
theorem dX6_hangRod_33 : decode cX6_hangRod 33 = .ok (.aload_n 1, 1) := by decide +kernel
theorem dX6_hangRod_34 : decode cX6_hangRod 34 = .ok (.aload_n 2, 1) := by decide +kernel
theorem dX6_hangRod_35 : decode cX6_hangRod 35 = .ok (.iload 5, 2) := by decide +kernel
theorem dX6_hangRod_37 : decode cX6_hangRod 37 = .ok (.invokevirtual 73, 3) := by decide +kernel
theorem dX6_hangRod_40 : decode cX6_hangRod 40 = .ok (.iastore, 1) := by decide +kernel
theorem dX6_hangRod_41 : decode cX6_hangRod 41 = .ok (.aload_n 0, 1) := by decide +kernel
theorem dX6_hangRod_42 : decode cX6_hangRod 42 = .ok (.getfield 15, 3) := by decide +kernel
theorem dX6_hangRod_45 : decode cX6_hangRod 45 = .ok (.iload_n 3, 1) := by decide +kernel
theorem dX6_hangRod_46 : decode cX6_hangRod 46 = .ok (.aload_n 0, 1) := by decide +kernel
theorem dX6_hangRod_47 : decode cX6_hangRod 47 = .ok (.getfield 9, 3) := by decide +kernel
theorem dX6_hangRod_50 : decode cX6_hangRod 50 = .ok (.iload 5, 2) := by decide +kernel
theorem dX6_hangRod_52 : decode cX6_hangRod 52 = .ok (.iaload, 1) := by decide +kernel
theorem dX6_hangRod_53 : decode cX6_hangRod 53 = .ok (.aload_n 1, 1) := by decide +kernel
theorem dX6_hangRod_54 : decode cX6_hangRod 54 = .ok (.getfield 77, 3) := by decide +kernel
theorem dX6_hangRod_57 : decode cX6_hangRod 57 = .ok (.iload 5, 2) := by decide +kernel
theorem dX6_hangRod_59 : decode cX6_hangRod 59 = .ok (.iaload, 1) := by decide +kernel
theorem dX6_hangRod_60 : decode cX6_hangRod 60 = .ok (.imul, 1) := by decide +kernel
theorem dX6_hangRod_61 : decode cX6_hangRod 61 = .ok (.aload_n 0, 1) := by decide +kernel
theorem dX6_hangRod_62 : decode cX6_hangRod 62 = .ok (.getfield 9, 3) := by decide +kernel
theorem dX6_hangRod_65 : decode cX6_hangRod 65 = .ok (.iload 4, 2) := by decide +kernel
theorem dX6_hangRod_67 : decode cX6_hangRod 67 = .ok (.iaload, 1) := by decide +kernel
theorem dX6_hangRod_68 : decode cX6_hangRod 68 = .ok (.aload_n 1, 1) := by decide +kernel
theorem dX6_hangRod_69 : decode cX6_hangRod 69 = .ok (.getfield 77, 3) := by decide +kernel
theorem dX6_hangRod_72 : decode cX6_hangRod 72 = .ok (.iload 4, 2) := by decide +kernel
theorem dX6_hangRod_74 : decode cX6_hangRod 74 = .ok (.iaload, 1) := by decide +kernel
theorem dX6_hangRod_75 : decode cX6_hangRod 75 = .ok (.imul, 1) := by decide +kernel
theorem dX6_hangRod_76 : decode cX6_hangRod 76 = .ok (.isub, 1) := by decide +kernel
theorem dX6_hangRod_77 : decode cX6_hangRod 77 = .ok (.iastore, 1) := by decide +kernel
theorem dX6_hangRod_78 : decode cX6_hangRod 78 = .ok (.return_, 1) := by decide +kernel
theorem dX6_loadOf_0 : decode cX6_loadOf 0 = .ok (.aload_n 1, 1) := by decide +kernel
theorem dX6_loadOf_1 : decode cX6_loadOf 1 = .ok (.getfield 63, 3) := by decide +kernel
theorem dX6_loadOf_4 : decode cX6_loadOf 4 = .ok (.iload_n 3, 1) := by decide +kernel
theorem dX6_loadOf_5 : decode cX6_loadOf 5 = .ok (.iaload, 1) := by decide +kernel
theorem dX6_loadOf_6 : decode cX6_loadOf 6 = .ok (.istore 4, 2) := by decide +kernel
theorem dX6_loadOf_8 : decode cX6_loadOf 8 = .ok (.iload 4, 2) := by decide +kernel
theorem dX6_loadOf_10 : decode cX6_loadOf 10 = .ok (.bipush 10, 2) := by decide +kernel
theorem dX6_loadOf_12 : decode cX6_loadOf 12 = .ok (.if_icmp .lt 16, 3) := by decide +kernel
theorem dX6_loadOf_15 : decode cX6_loadOf 15 = .ok (.aload_n 0, 1) := by decide +kernel
theorem dX6_loadOf_16 : decode cX6_loadOf 16 = .ok (.getfield 22, 3) := by decide +kernel
theorem dX6_loadOf_19 : decode cX6_loadOf 19 = .ok (.aload_n 2, 1) := by decide +kernel
theorem dX6_loadOf_20 : decode cX6_loadOf 20 = .ok (.iload 4, 2) := by decide +kernel
theorem dX6_loadOf_22 : decode cX6_loadOf 22 = .ok (.bipush 10, 2) := by decide +kernel
theorem dX6_loadOf_24 : decode cX6_loadOf 24 = .ok (.isub, 1) := by decide +kernel
theorem dX6_loadOf_25 : decode cX6_loadOf 25 = .ok (.iaload, 1) := by decide +kernel
theorem dX6_loadOf_26 : decode cX6_loadOf 26 = .ok (.iaload, 1) := by decide +kernel
theorem dX6_loadOf_27 : decode cX6_loadOf 27 = .ok (.ireturn, 1) := by decide +kernel
theorem dX6_loadOf_28 : decode cX6_loadOf 28 = .ok (.aload_n 1, 1) := by decide +kernel
theorem dX6_loadOf_29 : decode cX6_loadOf 29 = .ok (.getfield 66, 3) := by decide +kernel
theorem dX6_loadOf_32 : decode cX6_loadOf 32 = .ok (.iload 4, 2) := by decide +kernel
theorem dX6_loadOf_34 : decode cX6_loadOf 34 = .ok (.baload, 1) := by decide +kernel
theorem dX6_loadOf_35 : decode cX6_loadOf 35 = .ok (.ifCond .eq 7, 3) := by decide +kernel
theorem dX6_loadOf_38 : decode cX6_loadOf 38 = .ok (.iconst 0, 1) := by decide +kernel
theorem dX6_loadOf_39 : decode cX6_loadOf 39 = .ok (.goto 24, 3) := by decide +kernel
theorem dX6_loadOf_42 : decode cX6_loadOf 42 = .ok (.aload_n 0, 1) := by decide +kernel
theorem dX6_loadOf_43 : decode cX6_loadOf 43 = .ok (.getfield 9, 3) := by decide +kernel
theorem dX6_loadOf_46 : decode cX6_loadOf 46 = .ok (.iconst 2, 1) := by decide +kernel
theorem dX6_loadOf_47 : decode cX6_loadOf 47 = .ok (.iload 4, 2) := by decide +kernel
theorem dX6_loadOf_49 : decode cX6_loadOf 49 = .ok (.imul, 1) := by decide +kernel
theorem dX6_loadOf_50 : decode cX6_loadOf 50 = .ok (.iaload, 1) := by decide +kernel
theorem dX6_loadOf_51 : decode cX6_loadOf 51 = .ok (.aload_n 0, 1) := by decide +kernel
theorem dX6_loadOf_52 : decode cX6_loadOf 52 = .ok (.getfield 9, 3) := by decide +kernel
theorem dX6_loadOf_55 : decode cX6_loadOf 55 = .ok (.iconst 2, 1) := by decide +kernel
theorem dX6_loadOf_56 : decode cX6_loadOf 56 = .ok (.iload 4, 2) := by decide +kernel
theorem dX6_loadOf_58 : decode cX6_loadOf 58 = .ok (.imul, 1) := by decide +kernel
theorem dX6_loadOf_59 : decode cX6_loadOf 59 = .ok (.iconst 1, 1) := by decide +kernel
theorem dX6_loadOf_60 : decode cX6_loadOf 60 = .ok (.iadd, 1) := by decide +kernel
theorem dX6_loadOf_61 : decode cX6_loadOf 61 = .ok (.iaload, 1) := by decide +kernel
theorem dX6_loadOf_62 : decode cX6_loadOf 62 = .ok (.iadd, 1) := by decide +kernel
theorem dX6_loadOf_63 : decode cX6_loadOf 63 = .ok (.ireturn, 1) := by decide +kernel
theorem dX6_rodsThere_0 : decode cX6_rodsThere 0 = .ok (.iconst 0, 1) := by decide +kernel
theorem dX6_rodsThere_1 : decode cX6_rodsThere 1 = .ok (.istore_n 2, 1) := by decide +kernel
theorem dX6_rodsThere_2 : decode cX6_rodsThere 2 = .ok (.iconst 0, 1) := by decide +kernel
theorem dX6_rodsThere_3 : decode cX6_rodsThere 3 = .ok (.istore_n 3, 1) := by decide +kernel
theorem dX6_rodsThere_4 : decode cX6_rodsThere 4 = .ok (.iload_n 3, 1) := by decide +kernel
theorem dX6_rodsThere_5 : decode cX6_rodsThere 5 = .ok (.aload_n 1, 1) := by decide +kernel
theorem dX6_rodsThere_6 : decode cX6_rodsThere 6 = .ok (.getfield 60, 3) := by decide +kernel
theorem dX6_rodsThere_9 : decode cX6_rodsThere 9 = .ok (.if_icmp .ge 26, 3) := by decide +kernel
theorem dX6_rodsThere_12 : decode cX6_rodsThere 12 = .ok (.iload_n 2, 1) := by decide +kernel
theorem dX6_rodsThere_13 : decode cX6_rodsThere 13 = .ok (.aload_n 0, 1) := by decide +kernel
theorem dX6_rodsThere_14 : decode cX6_rodsThere 14 = .ok (.getfield 18, 3) := by decide +kernel
theorem dX6_rodsThere_17 : decode cX6_rodsThere 17 = .ok (.iload_n 3, 1) := by decide +kernel
theorem dX6_rodsThere_18 : decode cX6_rodsThere 18 = .ok (.baload, 1) := by decide +kernel
theorem dX6_rodsThere_19 : decode cX6_rodsThere 19 = .ok (.ifCond .eq 7, 3) := by decide +kernel
theorem dX6_rodsThere_22 : decode cX6_rodsThere 22 = .ok (.iconst 1, 1) := by decide +kernel
theorem dX6_rodsThere_23 : decode cX6_rodsThere 23 = .ok (.goto 4, 3) := by decide +kernel
theorem dX6_rodsThere_26 : decode cX6_rodsThere 26 = .ok (.iconst 0, 1) := by decide +kernel
theorem dX6_rodsThere_27 : decode cX6_rodsThere 27 = .ok (.iadd, 1) := by decide +kernel
theorem dX6_rodsThere_28 : decode cX6_rodsThere 28 = .ok (.istore_n 2, 1) := by decide +kernel
theorem dX6_rodsThere_29 : decode cX6_rodsThere 29 = .ok (.iinc 3 1, 3) := by decide +kernel
theorem dX6_rodsThere_32 : decode cX6_rodsThere 32 = .ok (.goto (-28), 3) := by decide +kernel
theorem dX6_rodsThere_35 : decode cX6_rodsThere 35 = .ok (.iload_n 2, 1) := by decide +kernel
theorem dX6_rodsThere_36 : decode cX6_rodsThere 36 = .ok (.ireturn, 1) := by decide +kernel
theorem dX6_rodsLevel_0 : decode cX6_rodsLevel 0 = .ok (.iconst 0, 1) := by decide +kernel
theorem dX6_rodsLevel_1 : decode cX6_rodsLevel 1 = .ok (.istore_n 2, 1) := by decide +kernel
theorem dX6_rodsLevel_2 : decode cX6_rodsLevel 2 = .ok (.iconst 0, 1) := by decide +kernel
theorem dX6_rodsLevel_3 : decode cX6_rodsLevel 3 = .ok (.istore_n 3, 1) := by decide +kernel
theorem dX6_rodsLevel_4 : decode cX6_rodsLevel 4 = .ok (.iload_n 3, 1) := by decide +kernel
theorem dX6_rodsLevel_5 : decode cX6_rodsLevel 5 = .ok (.aload_n 1, 1) := by decide +kernel
theorem dX6_rodsLevel_6 : decode cX6_rodsLevel 6 = .ok (.getfield 60, 3) := by decide +kernel
theorem dX6_rodsLevel_9 : decode cX6_rodsLevel 9 = .ok (.if_icmp .ge 35, 3) := by decide +kernel
theorem dX6_rodsLevel_12 : decode cX6_rodsLevel 12 = .ok (.iload_n 2, 1) := by decide +kernel
theorem dX6_rodsLevel_13 : decode cX6_rodsLevel 13 = .ok (.aload_n 0, 1) := by decide +kernel
theorem dX6_rodsLevel_14 : decode cX6_rodsLevel 14 = .ok (.getfield 18, 3) := by decide +kernel
theorem dX6_rodsLevel_17 : decode cX6_rodsLevel 17 = .ok (.iload_n 3, 1) := by decide +kernel
theorem dX6_rodsLevel_18 : decode cX6_rodsLevel 18 = .ok (.baload, 1) := by decide +kernel
theorem dX6_rodsLevel_19 : decode cX6_rodsLevel 19 = .ok (.ifCond .eq 16, 3) := by decide +kernel
theorem dX6_rodsLevel_22 : decode cX6_rodsLevel 22 = .ok (.aload_n 0, 1) := by decide +kernel
theorem dX6_rodsLevel_23 : decode cX6_rodsLevel 23 = .ok (.getfield 15, 3) := by decide +kernel
theorem dX6_rodsLevel_26 : decode cX6_rodsLevel 26 = .ok (.iload_n 3, 1) := by decide +kernel
theorem dX6_rodsLevel_27 : decode cX6_rodsLevel 27 = .ok (.iaload, 1) := by decide +kernel
theorem dX6_rodsLevel_28 : decode cX6_rodsLevel 28 = .ok (.ifCond .ne 7, 3) := by decide +kernel
theorem dX6_rodsLevel_31 : decode cX6_rodsLevel 31 = .ok (.iconst 1, 1) := by decide +kernel
theorem dX6_rodsLevel_32 : decode cX6_rodsLevel 32 = .ok (.goto 4, 3) := by decide +kernel
theorem dX6_rodsLevel_35 : decode cX6_rodsLevel 35 = .ok (.iconst 0, 1) := by decide +kernel
theorem dX6_rodsLevel_36 : decode cX6_rodsLevel 36 = .ok (.iadd, 1) := by decide +kernel
theorem dX6_rodsLevel_37 : decode cX6_rodsLevel 37 = .ok (.istore_n 2, 1) := by decide +kernel
theorem dX6_rodsLevel_38 : decode cX6_rodsLevel 38 = .ok (.iinc 3 1, 3) := by decide +kernel
theorem dX6_rodsLevel_41 : decode cX6_rodsLevel 41 = .ok (.goto (-37), 3) := by decide +kernel
theorem dX6_rodsLevel_44 : decode cX6_rodsLevel 44 = .ok (.iload_n 2, 1) := by decide +kernel
theorem dX6_rodsLevel_45 : decode cX6_rodsLevel 45 = .ok (.ireturn, 1) := by decide +kernel
theorem dX6_thingsThere_0 : decode cX6_thingsThere 0 = .ok (.iconst 0, 1) := by decide +kernel
theorem dX6_thingsThere_1 : decode cX6_thingsThere 1 = .ok (.istore_n 2, 1) := by decide +kernel
theorem dX6_thingsThere_2 : decode cX6_thingsThere 2 = .ok (.iconst 0, 1) := by decide +kernel
theorem dX6_thingsThere_3 : decode cX6_thingsThere 3 = .ok (.istore_n 3, 1) := by decide +kernel
theorem dX6_thingsThere_4 : decode cX6_thingsThere 4 = .ok (.iload_n 3, 1) := by decide +kernel
theorem dX6_thingsThere_5 : decode cX6_thingsThere 5 = .ok (.aload_n 1, 1) := by decide +kernel
theorem dX6_thingsThere_6 : decode cX6_thingsThere 6 = .ok (.getfield 42, 3) := by decide +kernel
theorem dX6_thingsThere_9 : decode cX6_thingsThere 9 = .ok (.if_icmp .ge 53, 3) := by decide +kernel
theorem dX6_thingsThere_12 : decode cX6_thingsThere 12 = .ok (.aload_n 1, 1) := by decide +kernel
theorem dX6_thingsThere_13 : decode cX6_thingsThere 13 = .ok (.getfield 57, 3) := by decide +kernel
theorem dX6_thingsThere_16 : decode cX6_thingsThere 16 = .ok (.iload_n 3, 1) := by decide +kernel
theorem dX6_thingsThere_17 : decode cX6_thingsThere 17 = .ok (.baload, 1) := by decide +kernel
theorem dX6_thingsThere_18 : decode cX6_thingsThere 18 = .ok (.ifCond .ne 22, 3) := by decide +kernel
theorem dX6_thingsThere_21 : decode cX6_thingsThere 21 = .ok (.aload_n 0, 1) := by decide +kernel
theorem dX6_thingsThere_22 : decode cX6_thingsThere 22 = .ok (.getfield 18, 3) := by decide +kernel
theorem dX6_thingsThere_25 : decode cX6_thingsThere 25 = .ok (.aload_n 1, 1) := by decide +kernel
theorem dX6_thingsThere_26 : decode cX6_thingsThere 26 = .ok (.iload_n 3, 1) := by decide +kernel
theorem dX6_thingsThere_27 : decode cX6_thingsThere 27 = .ok (.invokevirtual 80, 3) := by decide +kernel
theorem dX6_thingsThere_30 : decode cX6_thingsThere 30 = .ok (.iconst 2, 1) := by decide +kernel
theorem dX6_thingsThere_31 : decode cX6_thingsThere 31 = .ok (.idiv, 1) := by decide +kernel
theorem dX6_thingsThere_32 : decode cX6_thingsThere 32 = .ok (.baload, 1) := by decide +kernel
theorem dX6_thingsThere_33 : decode cX6_thingsThere 33 = .ok (.ifCond .eq 7, 3) := by decide +kernel
theorem dX6_thingsThere_36 : decode cX6_thingsThere 36 = .ok (.iconst 1, 1) := by decide +kernel
theorem dX6_thingsThere_37 : decode cX6_thingsThere 37 = .ok (.goto 4, 3) := by decide +kernel
theorem dX6_thingsThere_40 : decode cX6_thingsThere 40 = .ok (.iconst 0, 1) := by decide +kernel
theorem dX6_thingsThere_41 : decode cX6_thingsThere 41 = .ok (.istore 4, 2) := by decide +kernel
theorem dX6_thingsThere_43 : decode cX6_thingsThere 43 = .ok (.iload_n 2, 1) := by decide +kernel
theorem dX6_thingsThere_44 : decode cX6_thingsThere 44 = .ok (.iload 4, 2) := by decide +kernel
theorem dX6_thingsThere_46 : decode cX6_thingsThere 46 = .ok (.ifCond .eq 7, 3) := by decide +kernel
theorem dX6_thingsThere_49 : decode cX6_thingsThere 49 = .ok (.iconst 1, 1) := by decide +kernel
theorem dX6_thingsThere_50 : decode cX6_thingsThere 50 = .ok (.goto 4, 3) := by decide +kernel
theorem dX6_thingsThere_53 : decode cX6_thingsThere 53 = .ok (.iconst 0, 1) := by decide +kernel
theorem dX6_thingsThere_54 : decode cX6_thingsThere 54 = .ok (.iadd, 1) := by decide +kernel
theorem dX6_thingsThere_55 : decode cX6_thingsThere 55 = .ok (.istore_n 2, 1) := by decide +kernel
theorem dX6_thingsThere_56 : decode cX6_thingsThere 56 = .ok (.iinc 3 1, 3) := by decide +kernel
theorem dX6_thingsThere_59 : decode cX6_thingsThere 59 = .ok (.goto (-55), 3) := by decide +kernel
theorem dX6_thingsThere_62 : decode cX6_thingsThere 62 = .ok (.iload_n 2, 1) := by decide +kernel
theorem dX6_thingsThere_63 : decode cX6_thingsThere 63 = .ok (.ireturn, 1) := by decide +kernel
theorem dX6_tiltTogether_0 : decode cX6_tiltTogether 0 = .ok (.iconst 0, 1) := by decide +kernel
theorem dX6_tiltTogether_1 : decode cX6_tiltTogether 1 = .ok (.istore_n 2, 1) := by decide +kernel
theorem dX6_tiltTogether_2 : decode cX6_tiltTogether 2 = .ok (.iconst 0, 1) := by decide +kernel
theorem dX6_tiltTogether_3 : decode cX6_tiltTogether 3 = .ok (.istore_n 3, 1) := by decide +kernel
theorem dX6_tiltTogether_4 : decode cX6_tiltTogether 4 = .ok (.iload_n 3, 1) := by decide +kernel
theorem dX6_tiltTogether_5 : decode cX6_tiltTogether 5 = .ok (.aload_n 1, 1) := by decide +kernel
theorem dX6_tiltTogether_6 : decode cX6_tiltTogether 6 = .ok (.getfield 60, 3) := by decide +kernel
theorem dX6_tiltTogether_9 : decode cX6_tiltTogether 9 = .ok (.if_icmp .ge 34, 3) := by decide +kernel
theorem dX6_tiltTogether_12 : decode cX6_tiltTogether 12 = .ok (.iload_n 2, 1) := by decide +kernel
theorem dX6_tiltTogether_13 : decode cX6_tiltTogether 13 = .ok (.aload_n 0, 1) := by decide +kernel
theorem dX6_tiltTogether_14 : decode cX6_tiltTogether 14 = .ok (.getfield 18, 3) := by decide +kernel
theorem dX6_tiltTogether_17 : decode cX6_tiltTogether 17 = .ok (.iload_n 3, 1) := by decide +kernel
theorem dX6_tiltTogether_18 : decode cX6_tiltTogether 18 = .ok (.baload, 1) := by decide +kernel
theorem dX6_tiltTogether_19 : decode cX6_tiltTogether 19 = .ok (.ifCond .eq 15, 3) := by decide +kernel
theorem dX6_tiltTogether_22 : decode cX6_tiltTogether 22 = .ok (.aload_n 0, 1) := by decide +kernel
theorem dX6_tiltTogether_23 : decode cX6_tiltTogether 23 = .ok (.getfield 15, 3) := by decide +kernel
theorem dX6_tiltTogether_26 : decode cX6_tiltTogether 26 = .ok (.iload_n 3, 1) := by decide +kernel
theorem dX6_tiltTogether_27 : decode cX6_tiltTogether 27 = .ok (.iaload, 1) := by decide +kernel
theorem dX6_tiltTogether_28 : decode cX6_tiltTogether 28 = .ok (.invokestatic 84, 3) := by decide +kernel
theorem dX6_tiltTogether_31 : decode cX6_tiltTogether 31 = .ok (.goto 4, 3) := by decide +kernel
theorem dX6_tiltTogether_34 : decode cX6_tiltTogether 34 = .ok (.iconst 0, 1) := by decide +kernel
theorem dX6_tiltTogether_35 : decode cX6_tiltTogether 35 = .ok (.iadd, 1) := by decide +kernel
theorem dX6_tiltTogether_36 : decode cX6_tiltTogether 36 = .ok (.istore_n 2, 1) := by decide +kernel
theorem dX6_tiltTogether_37 : decode cX6_tiltTogether 37 = .ok (.iinc 3 1, 3) := by decide +kernel
theorem dX6_tiltTogether_40 : decode cX6_tiltTogether 40 = .ok (.goto (-36), 3) := by decide +kernel
theorem dX6_tiltTogether_43 : decode cX6_tiltTogether 43 = .ok (.iload_n 2, 1) := by decide +kernel
theorem dX6_tiltTogether_44 : decode cX6_tiltTogether 44 = .ok (.ireturn, 1) := by decide +kernel
theorem dX6_hookFor_0 : decode cX6_hookFor 0 = .ok (.aload_n 1, 1) := by decide +kernel
theorem dX6_hookFor_1 : decode cX6_hookFor 1 = .ok (.getfield 77, 3) := by decide +kernel
theorem dX6_hookFor_4 : decode cX6_hookFor 4 = .ok (.iconst 2, 1) := by decide +kernel
theorem dX6_hookFor_5 : decode cX6_hookFor 5 = .ok (.iload_n 2, 1) := by decide +kernel
theorem dX6_hookFor_6 : decode cX6_hookFor 6 = .ok (.imul, 1) := by decide +kernel
theorem dX6_hookFor_7 : decode cX6_hookFor 7 = .ok (.iaload, 1) := by decide +kernel
theorem dX6_hookFor_8 : decode cX6_hookFor 8 = .ok (.aload_n 1, 1) := by decide +kernel
theorem dX6_hookFor_9 : decode cX6_hookFor 9 = .ok (.getfield 77, 3) := by decide +kernel
theorem dX6_hookFor_12 : decode cX6_hookFor 12 = .ok (.iconst 2, 1) := by decide +kernel
theorem dX6_hookFor_13 : decode cX6_hookFor 13 = .ok (.iload_n 2, 1) := by decide +kernel
theorem dX6_hookFor_14 : decode cX6_hookFor 14 = .ok (.imul, 1) := by decide +kernel
theorem dX6_hookFor_15 : decode cX6_hookFor 15 = .ok (.iconst 1, 1) := by decide +kernel
theorem dX6_hookFor_16 : decode cX6_hookFor 16 = .ok (.iadd, 1) := by decide +kernel
theorem dX6_hookFor_17 : decode cX6_hookFor 17 = .ok (.iaload, 1) := by decide +kernel
theorem dX6_hookFor_18 : decode cX6_hookFor 18 = .ok (.iadd, 1) := by decide +kernel
theorem dX6_hookFor_19 : decode cX6_hookFor 19 = .ok (.istore_n 3, 1) := by decide +kernel
theorem dX6_hookFor_20 : decode cX6_hookFor 20 = .ok (.iconst 1, 1) := by decide +kernel
theorem dX6_hookFor_21 : decode cX6_hookFor 21 = .ok (.istore 4, 2) := by decide +kernel
theorem dX6_hookFor_23 : decode cX6_hookFor 23 = .ok (.iload 4, 2) := by decide +kernel
theorem dX6_hookFor_25 : decode cX6_hookFor 25 = .ok (.iload_n 3, 1) := by decide +kernel
theorem dX6_hookFor_26 : decode cX6_hookFor 26 = .ok (.if_icmp .ge 41, 3) := by decide +kernel
theorem dX6_hookFor_29 : decode cX6_hookFor 29 = .ok (.aload_n 0, 1) := by decide +kernel
theorem dX6_hookFor_30 : decode cX6_hookFor 30 = .ok (.getfield 9, 3) := by decide +kernel
theorem dX6_hookFor_33 : decode cX6_hookFor 33 = .ok (.iconst 2, 1) := by decide +kernel
theorem dX6_hookFor_34 : decode cX6_hookFor 34 = .ok (.iload_n 2, 1) := by decide +kernel
theorem dX6_hookFor_35 : decode cX6_hookFor 35 = .ok (.imul, 1) := by decide +kernel
theorem dX6_hookFor_36 : decode cX6_hookFor 36 = .ok (.iaload, 1) := by decide +kernel
theorem dX6_hookFor_37 : decode cX6_hookFor 37 = .ok (.iload 4, 2) := by decide +kernel
theorem dX6_hookFor_39 : decode cX6_hookFor 39 = .ok (.imul, 1) := by decide +kernel
theorem dX6_hookFor_40 : decode cX6_hookFor 40 = .ok (.aload_n 0, 1) := by decide +kernel
theorem dX6_hookFor_41 : decode cX6_hookFor 41 = .ok (.getfield 9, 3) := by decide +kernel
theorem dX6_hookFor_44 : decode cX6_hookFor 44 = .ok (.iconst 2, 1) := by decide +kernel
theorem dX6_hookFor_45 : decode cX6_hookFor 45 = .ok (.iload_n 2, 1) := by decide +kernel
theorem dX6_hookFor_46 : decode cX6_hookFor 46 = .ok (.imul, 1) := by decide +kernel
theorem dX6_hookFor_47 : decode cX6_hookFor 47 = .ok (.iconst 1, 1) := by decide +kernel
theorem dX6_hookFor_48 : decode cX6_hookFor 48 = .ok (.iadd, 1) := by decide +kernel
theorem dX6_hookFor_49 : decode cX6_hookFor 49 = .ok (.iaload, 1) := by decide +kernel
theorem dX6_hookFor_50 : decode cX6_hookFor 50 = .ok (.iload_n 3, 1) := by decide +kernel
theorem dX6_hookFor_51 : decode cX6_hookFor 51 = .ok (.iload 4, 2) := by decide +kernel
theorem dX6_hookFor_53 : decode cX6_hookFor 53 = .ok (.isub, 1) := by decide +kernel
theorem dX6_hookFor_54 : decode cX6_hookFor 54 = .ok (.imul, 1) := by decide +kernel
theorem dX6_hookFor_55 : decode cX6_hookFor 55 = .ok (.if_icmp .ne 6, 3) := by decide +kernel
theorem dX6_hookFor_58 : decode cX6_hookFor 58 = .ok (.iload 4, 2) := by decide +kernel
theorem dX6_hookFor_60 : decode cX6_hookFor 60 = .ok (.ireturn, 1) := by decide +kernel
theorem dX6_hookFor_61 : decode cX6_hookFor 61 = .ok (.iinc 4 1, 3) := by decide +kernel
theorem dX6_hookFor_64 : decode cX6_hookFor 64 = .ok (.goto (-41), 3) := by decide +kernel
theorem dX6_hookFor_67 : decode cX6_hookFor 67 = .ok (.iconst (-1), 1) := by decide +kernel
theorem dX6_hookFor_68 : decode cX6_hookFor 68 = .ok (.ireturn, 1) := by decide +kernel
theorem dX6_beadToAdd_0 : decode cX6_beadToAdd 0 = .ok (.aload_n 0, 1) := by decide +kernel
theorem dX6_beadToAdd_1 : decode cX6_beadToAdd 1 = .ok (.getfield 15, 3) := by decide +kernel
theorem dX6_beadToAdd_4 : decode cX6_beadToAdd 4 = .ok (.iload_n 2, 1) := by decide +kernel
theorem dX6_beadToAdd_5 : decode cX6_beadToAdd 5 = .ok (.iaload, 1) := by decide +kernel
theorem dX6_beadToAdd_6 : decode cX6_beadToAdd 6 = .ok (.ifCond .ne 5, 3) := by decide +kernel
theorem dX6_beadToAdd_9 : decode cX6_beadToAdd 9 = .ok (.iconst 0, 1) := by decide +kernel
theorem dX6_beadToAdd_10 : decode cX6_beadToAdd 10 = .ok (.ireturn, 1) := by decide +kernel
theorem dX6_beadToAdd_11 : decode cX6_beadToAdd 11 = .ok (.iconst 1, 1) := by decide +kernel
theorem dX6_beadToAdd_12 : decode cX6_beadToAdd 12 = .ok (.istore_n 3, 1) := by decide +kernel
theorem dX6_beadToAdd_13 : decode cX6_beadToAdd 13 = .ok (.iload_n 3, 1) := by decide +kernel
theorem dX6_beadToAdd_14 : decode cX6_beadToAdd 14 = .ok (.bipush 30, 2) := by decide +kernel
theorem dX6_beadToAdd_16 : decode cX6_beadToAdd 16 = .ok (.if_icmp .gt 56, 3) := by decide +kernel
theorem dX6_beadToAdd_19 : decode cX6_beadToAdd 19 = .ok (.aload_n 0, 1) := by decide +kernel
theorem dX6_beadToAdd_20 : decode cX6_beadToAdd 20 = .ok (.getfield 15, 3) := by decide +kernel
theorem dX6_beadToAdd_23 : decode cX6_beadToAdd 23 = .ok (.iload_n 2, 1) := by decide +kernel
theorem dX6_beadToAdd_24 : decode cX6_beadToAdd 24 = .ok (.iaload, 1) := by decide +kernel
theorem dX6_beadToAdd_25 : decode cX6_beadToAdd 25 = .ok (.iload_n 3, 1) := by decide +kernel
theorem dX6_beadToAdd_26 : decode cX6_beadToAdd 26 = .ok (.aload_n 1, 1) := by decide +kernel
theorem dX6_beadToAdd_27 : decode cX6_beadToAdd 27 = .ok (.getfield 77, 3) := by decide +kernel
theorem dX6_beadToAdd_30 : decode cX6_beadToAdd 30 = .ok (.iconst 2, 1) := by decide +kernel
theorem dX6_beadToAdd_31 : decode cX6_beadToAdd 31 = .ok (.iload_n 2, 1) := by decide +kernel
theorem dX6_beadToAdd_32 : decode cX6_beadToAdd 32 = .ok (.imul, 1) := by decide +kernel
theorem dX6_beadToAdd_33 : decode cX6_beadToAdd 33 = .ok (.iconst 1, 1) := by decide +kernel
theorem dX6_beadToAdd_34 : decode cX6_beadToAdd 34 = .ok (.iadd, 1) := by decide +kernel
theorem dX6_beadToAdd_35 : decode cX6_beadToAdd 35 = .ok (.iaload, 1) := by decide +kernel
theorem dX6_beadToAdd_36 : decode cX6_beadToAdd 36 = .ok (.imul, 1) := by decide +kernel
theorem dX6_beadToAdd_37 : decode cX6_beadToAdd 37 = .ok (.iadd, 1) := by decide +kernel
theorem dX6_beadToAdd_38 : decode cX6_beadToAdd 38 = .ok (.ifCond .ne 5, 3) := by decide +kernel
theorem dX6_beadToAdd_41 : decode cX6_beadToAdd 41 = .ok (.iload_n 3, 1) := by decide +kernel
theorem dX6_beadToAdd_42 : decode cX6_beadToAdd 42 = .ok (.ireturn, 1) := by decide +kernel
theorem dX6_beadToAdd_43 : decode cX6_beadToAdd 43 = .ok (.aload_n 0, 1) := by decide +kernel
theorem dX6_beadToAdd_44 : decode cX6_beadToAdd 44 = .ok (.getfield 15, 3) := by decide +kernel
theorem dX6_beadToAdd_47 : decode cX6_beadToAdd 47 = .ok (.iload_n 2, 1) := by decide +kernel
theorem dX6_beadToAdd_48 : decode cX6_beadToAdd 48 = .ok (.iaload, 1) := by decide +kernel
theorem dX6_beadToAdd_49 : decode cX6_beadToAdd 49 = .ok (.iload_n 3, 1) := by decide +kernel
theorem dX6_beadToAdd_50 : decode cX6_beadToAdd 50 = .ok (.aload_n 1, 1) := by decide +kernel
theorem dX6_beadToAdd_51 : decode cX6_beadToAdd 51 = .ok (.getfield 77, 3) := by decide +kernel
theorem dX6_beadToAdd_54 : decode cX6_beadToAdd 54 = .ok (.iconst 2, 1) := by decide +kernel
theorem dX6_beadToAdd_55 : decode cX6_beadToAdd 55 = .ok (.iload_n 2, 1) := by decide +kernel
theorem dX6_beadToAdd_56 : decode cX6_beadToAdd 56 = .ok (.imul, 1) := by decide +kernel
theorem dX6_beadToAdd_57 : decode cX6_beadToAdd 57 = .ok (.iaload, 1) := by decide +kernel
theorem dX6_beadToAdd_58 : decode cX6_beadToAdd 58 = .ok (.imul, 1) := by decide +kernel
theorem dX6_beadToAdd_59 : decode cX6_beadToAdd 59 = .ok (.isub, 1) := by decide +kernel
theorem dX6_beadToAdd_60 : decode cX6_beadToAdd 60 = .ok (.ifCond .ne 6, 3) := by decide +kernel
theorem dX6_beadToAdd_63 : decode cX6_beadToAdd 63 = .ok (.iload_n 3, 1) := by decide +kernel
theorem dX6_beadToAdd_64 : decode cX6_beadToAdd 64 = .ok (.ineg, 1) := by decide +kernel
theorem dX6_beadToAdd_65 : decode cX6_beadToAdd 65 = .ok (.ireturn, 1) := by decide +kernel
theorem dX6_beadToAdd_66 : decode cX6_beadToAdd 66 = .ok (.iinc 3 1, 3) := by decide +kernel
theorem dX6_beadToAdd_69 : decode cX6_beadToAdd 69 = .ok (.goto (-56), 3) := by decide +kernel
theorem dX6_beadToAdd_72 : decode cX6_beadToAdd 72 = .ok (.bipush 99, 2) := by decide +kernel
theorem dX6_beadToAdd_74 : decode cX6_beadToAdd 74 = .ok (.ireturn, 1) := by decide +kernel
theorem dX7_init_0 : decode cX7_init 0 = .ok (.aload_n 0, 1) := by decide +kernel
theorem dX7_init_1 : decode cX7_init 1 = .ok (.invokespecial 3, 3) := by decide +kernel
theorem dX7_init_4 : decode cX7_init 4 = .ok (.aload_n 0, 1) := by decide +kernel
theorem dX7_init_5 : decode cX7_init 5 = .ok (.bipush 6, 2) := by decide +kernel
theorem dX7_init_7 : decode cX7_init 7 = .ok (.newarray .int, 2) := by decide +kernel
theorem dX7_init_9 : decode cX7_init 9 = .ok (.putfield 9, 3) := by decide +kernel
theorem dX7_init_12 : decode cX7_init 12 = .ok (.aload_n 0, 1) := by decide +kernel
theorem dX7_init_13 : decode cX7_init 13 = .ok (.bipush 6, 2) := by decide +kernel
theorem dX7_init_15 : decode cX7_init 15 = .ok (.newarray .int, 2) := by decide +kernel
theorem dX7_init_17 : decode cX7_init 17 = .ok (.putfield 15, 3) := by decide +kernel
theorem dX7_init_20 : decode cX7_init 20 = .ok (.aload_n 0, 1) := by decide +kernel
theorem dX7_init_21 : decode cX7_init 21 = .ok (.bipush 6, 2) := by decide +kernel
theorem dX7_init_23 : decode cX7_init 23 = .ok (.newarray .int, 2) := by decide +kernel
theorem dX7_init_25 : decode cX7_init 25 = .ok (.putfield 18, 3) := by decide +kernel
theorem dX7_init_28 : decode cX7_init 28 = .ok (.aload_n 0, 1) := by decide +kernel
theorem dX7_init_29 : decode cX7_init 29 = .ok (.bipush 6, 2) := by decide +kernel
theorem dX7_init_31 : decode cX7_init 31 = .ok (.newarray .int, 2) := by decide +kernel
theorem dX7_init_33 : decode cX7_init 33 = .ok (.putfield 21, 3) := by decide +kernel
theorem dX7_init_36 : decode cX7_init 36 = .ok (.return_, 1) := by decide +kernel
theorem dX7_add_0 : decode cX7_add 0 = .ok (.aload_n 0, 1) := by decide +kernel
theorem dX7_add_1 : decode cX7_add 1 = .ok (.getfield 24, 3) := by decide +kernel
theorem dX7_add_4 : decode cX7_add 4 = .ok (.bipush 6, 2) := by decide +kernel
theorem dX7_add_6 : decode cX7_add 6 = .ok (.if_icmp .lt 4, 3) := by decide +kernel
theorem dX7_add_9 : decode cX7_add 9 = .ok (.return_, 1) := by decide +kernel
theorem dX7_add_10 : decode cX7_add 10 = .ok (.aload_n 0, 1) := by decide +kernel
theorem dX7_add_11 : decode cX7_add 11 = .ok (.getfield 9, 3) := by decide +kernel
theorem dX7_add_14 : decode cX7_add 14 = .ok (.aload_n 0, 1) := by decide +kernel
theorem dX7_add_15 : decode cX7_add 15 = .ok (.getfield 24, 3) := by decide +kernel
theorem dX7_add_18 : decode cX7_add 18 = .ok (.iload_n 1, 1) := by decide +kernel
theorem dX7_add_19 : decode cX7_add 19 = .ok (.iastore, 1) := by decide +kernel
theorem dX7_add_20 : decode cX7_add 20 = .ok (.aload_n 0, 1) := by decide +kernel
theorem dX7_add_21 : decode cX7_add 21 = .ok (.getfield 15, 3) := by decide +kernel
theorem dX7_add_24 : decode cX7_add 24 = .ok (.aload_n 0, 1) := by decide +kernel
theorem dX7_add_25 : decode cX7_add 25 = .ok (.getfield 24, 3) := by decide +kernel
theorem dX7_add_28 : decode cX7_add 28 = .ok (.iload_n 2, 1) := by decide +kernel
theorem dX7_add_29 : decode cX7_add 29 = .ok (.iastore, 1) := by decide +kernel
theorem dX7_add_30 : decode cX7_add 30 = .ok (.aload_n 0, 1) := by decide +kernel
theorem dX7_add_31 : decode cX7_add 31 = .ok (.getfield 18, 3) := by decide +kernel
theorem dX7_add_34 : decode cX7_add 34 = .ok (.aload_n 0, 1) := by decide +kernel
theorem dX7_add_35 : decode cX7_add 35 = .ok (.getfield 24, 3) := by decide +kernel
theorem dX7_add_38 : decode cX7_add 38 = .ok (.iload_n 3, 1) := by decide +kernel
theorem dX7_add_39 : decode cX7_add 39 = .ok (.iastore, 1) := by decide +kernel
theorem dX7_add_40 : decode cX7_add 40 = .ok (.aload_n 0, 1) := by decide +kernel
theorem dX7_add_41 : decode cX7_add 41 = .ok (.getfield 21, 3) := by decide +kernel
theorem dX7_add_44 : decode cX7_add 44 = .ok (.aload_n 0, 1) := by decide +kernel
theorem dX7_add_45 : decode cX7_add 45 = .ok (.getfield 24, 3) := by decide +kernel
theorem dX7_add_48 : decode cX7_add 48 = .ok (.iload 4, 2) := by decide +kernel
theorem dX7_add_50 : decode cX7_add 50 = .ok (.iastore, 1) := by decide +kernel
theorem dX7_add_51 : decode cX7_add 51 = .ok (.aload_n 0, 1) := by decide +kernel
theorem dX7_add_52 : decode cX7_add 52 = .ok (.dup, 1) := by decide +kernel
theorem dX7_add_53 : decode cX7_add 53 = .ok (.getfield 24, 3) := by decide +kernel
theorem dX7_add_56 : decode cX7_add 56 = .ok (.iconst 1, 1) := by decide +kernel
theorem dX7_add_57 : decode cX7_add 57 = .ok (.iadd, 1) := by decide +kernel
theorem dX7_add_58 : decode cX7_add 58 = .ok (.putfield 24, 3) := by decide +kernel
theorem dX7_add_61 : decode cX7_add 61 = .ok (.return_, 1) := by decide +kernel
theorem dX7_copyFrom_0 : decode cX7_copyFrom 0 = .ok (.aload_n 0, 1) := by decide +kernel
theorem dX7_copyFrom_1 : decode cX7_copyFrom 1 = .ok (.aload_n 1, 1) := by decide +kernel
theorem dX7_copyFrom_2 : decode cX7_copyFrom 2 = .ok (.getfield 24, 3) := by decide +kernel
theorem dX7_copyFrom_5 : decode cX7_copyFrom 5 = .ok (.putfield 24, 3) := by decide +kernel
theorem dX7_copyFrom_8 : decode cX7_copyFrom 8 = .ok (.iconst 0, 1) := by decide +kernel
theorem dX7_copyFrom_9 : decode cX7_copyFrom 9 = .ok (.istore_n 2, 1) := by decide +kernel
theorem dX7_copyFrom_10 : decode cX7_copyFrom 10 = .ok (.iload_n 2, 1) := by decide +kernel
theorem dX7_copyFrom_11 : decode cX7_copyFrom 11 = .ok (.bipush 6, 2) := by decide +kernel
theorem dX7_copyFrom_13 : decode cX7_copyFrom 13 = .ok (.if_icmp .ge 57, 3) := by decide +kernel
theorem dX7_copyFrom_16 : decode cX7_copyFrom 16 = .ok (.aload_n 0, 1) := by decide +kernel
theorem dX7_copyFrom_17 : decode cX7_copyFrom 17 = .ok (.getfield 9, 3) := by decide +kernel
theorem dX7_copyFrom_20 : decode cX7_copyFrom 20 = .ok (.iload_n 2, 1) := by decide +kernel
theorem dX7_copyFrom_21 : decode cX7_copyFrom 21 = .ok (.aload_n 1, 1) := by decide +kernel
theorem dX7_copyFrom_22 : decode cX7_copyFrom 22 = .ok (.getfield 9, 3) := by decide +kernel
theorem dX7_copyFrom_25 : decode cX7_copyFrom 25 = .ok (.iload_n 2, 1) := by decide +kernel
theorem dX7_copyFrom_26 : decode cX7_copyFrom 26 = .ok (.iaload, 1) := by decide +kernel
theorem dX7_copyFrom_27 : decode cX7_copyFrom 27 = .ok (.iastore, 1) := by decide +kernel
theorem dX7_copyFrom_28 : decode cX7_copyFrom 28 = .ok (.aload_n 0, 1) := by decide +kernel
theorem dX7_copyFrom_29 : decode cX7_copyFrom 29 = .ok (.getfield 15, 3) := by decide +kernel
theorem dX7_copyFrom_32 : decode cX7_copyFrom 32 = .ok (.iload_n 2, 1) := by decide +kernel
theorem dX7_copyFrom_33 : decode cX7_copyFrom 33 = .ok (.aload_n 1, 1) := by decide +kernel
theorem dX7_copyFrom_34 : decode cX7_copyFrom 34 = .ok (.getfield 15, 3) := by decide +kernel
theorem dX7_copyFrom_37 : decode cX7_copyFrom 37 = .ok (.iload_n 2, 1) := by decide +kernel
theorem dX7_copyFrom_38 : decode cX7_copyFrom 38 = .ok (.iaload, 1) := by decide +kernel
theorem dX7_copyFrom_39 : decode cX7_copyFrom 39 = .ok (.iastore, 1) := by decide +kernel
theorem dX7_copyFrom_40 : decode cX7_copyFrom 40 = .ok (.aload_n 0, 1) := by decide +kernel
theorem dX7_copyFrom_41 : decode cX7_copyFrom 41 = .ok (.getfield 18, 3) := by decide +kernel
theorem dX7_copyFrom_44 : decode cX7_copyFrom 44 = .ok (.iload_n 2, 1) := by decide +kernel
theorem dX7_copyFrom_45 : decode cX7_copyFrom 45 = .ok (.aload_n 1, 1) := by decide +kernel
theorem dX7_copyFrom_46 : decode cX7_copyFrom 46 = .ok (.getfield 18, 3) := by decide +kernel
theorem dX7_copyFrom_49 : decode cX7_copyFrom 49 = .ok (.iload_n 2, 1) := by decide +kernel
theorem dX7_copyFrom_50 : decode cX7_copyFrom 50 = .ok (.iaload, 1) := by decide +kernel
theorem dX7_copyFrom_51 : decode cX7_copyFrom 51 = .ok (.iastore, 1) := by decide +kernel
theorem dX7_copyFrom_52 : decode cX7_copyFrom 52 = .ok (.aload_n 0, 1) := by decide +kernel
theorem dX7_copyFrom_53 : decode cX7_copyFrom 53 = .ok (.getfield 21, 3) := by decide +kernel
theorem dX7_copyFrom_56 : decode cX7_copyFrom 56 = .ok (.iload_n 2, 1) := by decide +kernel
theorem dX7_copyFrom_57 : decode cX7_copyFrom 57 = .ok (.aload_n 1, 1) := by decide +kernel
theorem dX7_copyFrom_58 : decode cX7_copyFrom 58 = .ok (.getfield 21, 3) := by decide +kernel
theorem dX7_copyFrom_61 : decode cX7_copyFrom 61 = .ok (.iload_n 2, 1) := by decide +kernel
theorem dX7_copyFrom_62 : decode cX7_copyFrom 62 = .ok (.iaload, 1) := by decide +kernel
theorem dX7_copyFrom_63 : decode cX7_copyFrom 63 = .ok (.iastore, 1) := by decide +kernel
theorem dX7_copyFrom_64 : decode cX7_copyFrom 64 = .ok (.iinc 2 1, 3) := by decide +kernel
theorem dX7_copyFrom_67 : decode cX7_copyFrom 67 = .ok (.goto (-57), 3) := by decide +kernel
theorem dX7_copyFrom_70 : decode cX7_copyFrom 70 = .ok (.return_, 1) := by decide +kernel
theorem dX7_sizesOf_0 : decode cX7_sizesOf 0 = .ok (.sipush 1023, 3) := by decide +kernel
theorem dX7_sizesOf_3 : decode cX7_sizesOf 3 = .ok (.istore_n 3, 1) := by decide +kernel
theorem dX7_sizesOf_4 : decode cX7_sizesOf 4 = .ok (.iconst 0, 1) := by decide +kernel
theorem dX7_sizesOf_5 : decode cX7_sizesOf 5 = .ok (.istore 4, 2) := by decide +kernel
theorem dX7_sizesOf_7 : decode cX7_sizesOf 7 = .ok (.iload 4, 2) := by decide +kernel
theorem dX7_sizesOf_9 : decode cX7_sizesOf 9 = .ok (.aload_n 0, 1) := by decide +kernel
theorem dX7_sizesOf_10 : decode cX7_sizesOf 10 = .ok (.getfield 24, 3) := by decide +kernel
theorem dX7_sizesOf_13 : decode cX7_sizesOf 13 = .ok (.if_icmp .ge 49, 3) := by decide +kernel
theorem dX7_sizesOf_16 : decode cX7_sizesOf 16 = .ok (.aload_n 0, 1) := by decide +kernel
theorem dX7_sizesOf_17 : decode cX7_sizesOf 17 = .ok (.getfield 9, 3) := by decide +kernel
theorem dX7_sizesOf_20 : decode cX7_sizesOf 20 = .ok (.iload 4, 2) := by decide +kernel
theorem dX7_sizesOf_22 : decode cX7_sizesOf 22 = .ok (.iaload, 1) := by decide +kernel
theorem dX7_sizesOf_23 : decode cX7_sizesOf 23 = .ok (.iload_n 2, 1) := by decide +kernel
theorem dX7_sizesOf_24 : decode cX7_sizesOf 24 = .ok (.if_icmp .ne 32, 3) := by decide +kernel
theorem dX7_sizesOf_27 : decode cX7_sizesOf 27 = .ok (.iload_n 3, 1) := by decide +kernel
theorem dX7_sizesOf_28 : decode cX7_sizesOf 28 = .ok (.aload_n 1, 1) := by decide +kernel
theorem dX7_sizesOf_29 : decode cX7_sizesOf 29 = .ok (.iload_n 2, 1) := by decide +kernel
theorem dX7_sizesOf_30 : decode cX7_sizesOf 30 = .ok (.aload_n 0, 1) := by decide +kernel
theorem dX7_sizesOf_31 : decode cX7_sizesOf 31 = .ok (.getfield 15, 3) := by decide +kernel
theorem dX7_sizesOf_34 : decode cX7_sizesOf 34 = .ok (.iload 4, 2) := by decide +kernel
theorem dX7_sizesOf_36 : decode cX7_sizesOf 36 = .ok (.iaload, 1) := by decide +kernel
theorem dX7_sizesOf_37 : decode cX7_sizesOf 37 = .ok (.aload_n 0, 1) := by decide +kernel
theorem dX7_sizesOf_38 : decode cX7_sizesOf 38 = .ok (.getfield 18, 3) := by decide +kernel
theorem dX7_sizesOf_41 : decode cX7_sizesOf 41 = .ok (.iload 4, 2) := by decide +kernel
theorem dX7_sizesOf_43 : decode cX7_sizesOf 43 = .ok (.iaload, 1) := by decide +kernel
theorem dX7_sizesOf_44 : decode cX7_sizesOf 44 = .ok (.aload_n 0, 1) := by decide +kernel
theorem dX7_sizesOf_45 : decode cX7_sizesOf 45 = .ok (.getfield 21, 3) := by decide +kernel
theorem dX7_sizesOf_48 : decode cX7_sizesOf 48 = .ok (.iload 4, 2) := by decide +kernel
theorem dX7_sizesOf_50 : decode cX7_sizesOf 50 = .ok (.iaload, 1) := by decide +kernel
theorem dX7_sizesOf_51 : decode cX7_sizesOf 51 = .ok (.invokestatic 28, 3) := by decide +kernel
theorem dX7_sizesOf_54 : decode cX7_sizesOf 54 = .ok (.iand, 1) := by decide +kernel
theorem dX7_sizesOf_55 : decode cX7_sizesOf 55 = .ok (.istore_n 3, 1) := by decide +kernel
theorem dX7_sizesOf_56 : decode cX7_sizesOf 56 = .ok (.iinc 4 1, 3) := by decide +kernel
theorem dX7_sizesOf_59 : decode cX7_sizesOf 59 = .ok (.goto (-52), 3) := by decide +kernel
theorem dX7_sizesOf_62 : decode cX7_sizesOf 62 = .ok (.iload_n 3, 1) := by decide +kernel
theorem dX7_sizesOf_63 : decode cX7_sizesOf 63 = .ok (.ireturn, 1) := by decide +kernel
theorem dX7_beadToTry_0 : decode cX7_beadToTry 0 = .ok (.aload_n 0, 1) := by decide +kernel
theorem dX7_beadToTry_1 : decode cX7_beadToTry 1 = .ok (.aload_n 1, 1) := by decide +kernel
theorem dX7_beadToTry_2 : decode cX7_beadToTry 2 = .ok (.iload_n 2, 1) := by decide +kernel
theorem dX7_beadToTry_3 : decode cX7_beadToTry 3 = .ok (.invokevirtual 32, 3) := by decide +kernel
theorem dX7_beadToTry_6 : decode cX7_beadToTry 6 = .ok (.istore 4, 2) := by decide +kernel
theorem dX7_beadToTry_8 : decode cX7_beadToTry 8 = .ok (.iload 4, 2) := by decide +kernel
theorem dX7_beadToTry_10 : decode cX7_beadToTry 10 = .ok (.ifCond .ne 5, 3) := by decide +kernel
theorem dX7_beadToTry_13 : decode cX7_beadToTry 13 = .ok (.iconst (-1), 1) := by decide +kernel
theorem dX7_beadToTry_14 : decode cX7_beadToTry 14 = .ok (.ireturn, 1) := by decide +kernel
theorem dX7_beadToTry_15 : decode cX7_beadToTry 15 = .ok (.iconst 0, 1) := by decide +kernel
theorem dX7_beadToTry_16 : decode cX7_beadToTry 16 = .ok (.istore 5, 2) := by decide +kernel
theorem dX7_beadToTry_18 : decode cX7_beadToTry 18 = .ok (.bipush 11, 2) := by decide +kernel
theorem dX7_beadToTry_20 : decode cX7_beadToTry 20 = .ok (.istore 6, 2) := by decide +kernel
theorem dX7_beadToTry_22 : decode cX7_beadToTry 22 = .ok (.iconst 0, 1) := by decide +kernel
theorem dX7_beadToTry_23 : decode cX7_beadToTry 23 = .ok (.istore 7, 2) := by decide +kernel
theorem dX7_beadToTry_25 : decode cX7_beadToTry 25 = .ok (.iload 7, 2) := by decide +kernel
theorem dX7_beadToTry_27 : decode cX7_beadToTry 27 = .ok (.bipush 10, 2) := by decide +kernel
theorem dX7_beadToTry_29 : decode cX7_beadToTry 29 = .ok (.if_icmp .ge 69, 3) := by decide +kernel
theorem dX7_beadToTry_32 : decode cX7_beadToTry 32 = .ok (.iconst 0, 1) := by decide +kernel
theorem dX7_beadToTry_33 : decode cX7_beadToTry 33 = .ok (.istore 8, 2) := by decide +kernel
theorem dX7_beadToTry_35 : decode cX7_beadToTry 35 = .ok (.iconst 0, 1) := by decide +kernel
theorem dX7_beadToTry_36 : decode cX7_beadToTry 36 = .ok (.istore 9, 2) := by decide +kernel
theorem dX7_beadToTry_38 : decode cX7_beadToTry 38 = .ok (.iload 9, 2) := by decide +kernel
theorem dX7_beadToTry_40 : decode cX7_beadToTry 40 = .ok (.iconst 2, 1) := by decide +kernel
theorem dX7_beadToTry_41 : decode cX7_beadToTry 41 = .ok (.if_icmp .gt 36, 3) := by decide +kernel
theorem dX7_beadToTry_44 : decode cX7_beadToTry 44 = .ok (.iload 4, 2) := by decide +kernel
theorem dX7_beadToTry_46 : decode cX7_beadToTry 46 = .ok (.aload_n 1, 1) := by decide +kernel
theorem dX7_beadToTry_47 : decode cX7_beadToTry 47 = .ok (.iload_n 2, 1) := by decide +kernel
theorem dX7_beadToTry_48 : decode cX7_beadToTry 48 = .ok (.iload_n 3, 1) := by decide +kernel
theorem dX7_beadToTry_49 : decode cX7_beadToTry 49 = .ok (.iload 7, 2) := by decide +kernel
theorem dX7_beadToTry_51 : decode cX7_beadToTry 51 = .ok (.iload 9, 2) := by decide +kernel
theorem dX7_beadToTry_53 : decode cX7_beadToTry 53 = .ok (.invokestatic 28, 3) := by decide +kernel
theorem dX7_beadToTry_56 : decode cX7_beadToTry 56 = .ok (.iand, 1) := by decide +kernel
theorem dX7_beadToTry_57 : decode cX7_beadToTry 57 = .ok (.istore 10, 2) := by decide +kernel
theorem dX7_beadToTry_59 : decode cX7_beadToTry 59 = .ok (.iload 8, 2) := by decide +kernel
theorem dX7_beadToTry_61 : decode cX7_beadToTry 61 = .ok (.iload 10, 2) := by decide +kernel
theorem dX7_beadToTry_63 : decode cX7_beadToTry 63 = .ok (.invokestatic 36, 3) := by decide +kernel
theorem dX7_beadToTry_66 : decode cX7_beadToTry 66 = .ok (.invokestatic 42, 3) := by decide +kernel
theorem dX7_beadToTry_69 : decode cX7_beadToTry 69 = .ok (.istore 8, 2) := by decide +kernel
theorem dX7_beadToTry_71 : decode cX7_beadToTry 71 = .ok (.iinc 9 1, 3) := by decide +kernel
theorem dX7_beadToTry_74 : decode cX7_beadToTry 74 = .ok (.goto (-36), 3) := by decide +kernel
theorem dX7_beadToTry_77 : decode cX7_beadToTry 77 = .ok (.iload 8, 2) := by decide +kernel
theorem dX7_beadToTry_79 : decode cX7_beadToTry 79 = .ok (.iload 6, 2) := by decide +kernel
theorem dX7_beadToTry_81 : decode cX7_beadToTry 81 = .ok (.if_icmp .ge 11, 3) := by decide +kernel
theorem dX7_beadToTry_84 : decode cX7_beadToTry 84 = .ok (.iload 8, 2) := by decide +kernel
theorem dX7_beadToTry_86 : decode cX7_beadToTry 86 = .ok (.istore 6, 2) := by decide +kernel
theorem dX7_beadToTry_88 : decode cX7_beadToTry 88 = .ok (.iload 7, 2) := by decide +kernel
theorem dX7_beadToTry_90 : decode cX7_beadToTry 90 = .ok (.istore 5, 2) := by decide +kernel
theorem dX7_beadToTry_92 : decode cX7_beadToTry 92 = .ok (.iinc 7 1, 3) := by decide +kernel
theorem dX7_beadToTry_95 : decode cX7_beadToTry 95 = .ok (.goto (-70), 3) := by decide +kernel
theorem dX7_beadToTry_98 : decode cX7_beadToTry 98 = .ok (.iload 5, 2) := by decide +kernel
theorem dX7_beadToTry_100 : decode cX7_beadToTry 100 = .ok (.ireturn, 1) := by decide +kernel
theorem dX7_sizesTilting_0 : decode cX7_sizesTilting 0 = .ok (.iconst 0, 1) := by decide +kernel
theorem dX7_sizesTilting_1 : decode cX7_sizesTilting 1 = .ok (.istore 5, 2) := by decide +kernel
theorem dX7_sizesTilting_3 : decode cX7_sizesTilting 3 = .ok (.iload_n 3, 1) := by decide +kernel
theorem dX7_sizesTilting_4 : decode cX7_sizesTilting 4 = .ok (.aload_n 0, 1) := by decide +kernel
theorem dX7_sizesTilting_5 : decode cX7_sizesTilting 5 = .ok (.getfield 48, 3) := by decide +kernel
theorem dX7_sizesTilting_8 : decode cX7_sizesTilting 8 = .ok (.iconst 2, 1) := by decide +kernel
theorem dX7_sizesTilting_9 : decode cX7_sizesTilting 9 = .ok (.iload_n 2, 1) := by decide +kernel
theorem dX7_sizesTilting_10 : decode cX7_sizesTilting 10 = .ok (.imul, 1) := by decide +kernel
theorem dX7_sizesTilting_11 : decode cX7_sizesTilting 11 = .ok (.iconst 1, 1) := by decide +kernel
theorem dX7_sizesTilting_12 : decode cX7_sizesTilting 12 = .ok (.iadd, 1) := by decide +kernel
theorem dX7_sizesTilting_13 : decode cX7_sizesTilting 13 = .ok (.iaload, 1) := by decide +kernel
theorem dX7_sizesTilting_14 : decode cX7_sizesTilting 14 = .ok (.imul, 1) := by decide +kernel
theorem dX7_sizesTilting_15 : decode cX7_sizesTilting 15 = .ok (.istore 6, 2) := by decide +kernel
theorem dX7_sizesTilting_17 : decode cX7_sizesTilting 17 = .ok (.iconst 0, 1) := by decide +kernel
theorem dX7_sizesTilting_18 : decode cX7_sizesTilting 18 = .ok (.istore 7, 2) := by decide +kernel
theorem dX7_sizesTilting_20 : decode cX7_sizesTilting 20 = .ok (.iload 7, 2) := by decide +kernel
theorem dX7_sizesTilting_22 : decode cX7_sizesTilting 22 = .ok (.bipush 10, 2) := by decide +kernel
theorem dX7_sizesTilting_24 : decode cX7_sizesTilting 24 = .ok (.if_icmp .ge 61, 3) := by decide +kernel
theorem dX7_sizesTilting_27 : decode cX7_sizesTilting 27 = .ok (.aload_n 0, 1) := by decide +kernel
theorem dX7_sizesTilting_28 : decode cX7_sizesTilting 28 = .ok (.getfield 53, 3) := by decide +kernel
theorem dX7_sizesTilting_31 : decode cX7_sizesTilting 31 = .ok (.iload_n 1, 1) := by decide +kernel
theorem dX7_sizesTilting_32 : decode cX7_sizesTilting 32 = .ok (.iaload, 1) := by decide +kernel
theorem dX7_sizesTilting_33 : decode cX7_sizesTilting 33 = .ok (.iload 7, 2) := by decide +kernel
theorem dX7_sizesTilting_35 : decode cX7_sizesTilting 35 = .ok (.aload_n 0, 1) := by decide +kernel
theorem dX7_sizesTilting_36 : decode cX7_sizesTilting 36 = .ok (.getfield 56, 3) := by decide +kernel
theorem dX7_sizesTilting_39 : decode cX7_sizesTilting 39 = .ok (.invokestatic 59, 3) := by decide +kernel
theorem dX7_sizesTilting_42 : decode cX7_sizesTilting 42 = .ok (.istore 8, 2) := by decide +kernel
theorem dX7_sizesTilting_44 : decode cX7_sizesTilting 44 = .ok (.iload 6, 2) := by decide +kernel
theorem dX7_sizesTilting_46 : decode cX7_sizesTilting 46 = .ok (.iload 8, 2) := by decide +kernel
theorem dX7_sizesTilting_48 : decode cX7_sizesTilting 48 = .ok (.aload_n 0, 1) := by decide +kernel
theorem dX7_sizesTilting_49 : decode cX7_sizesTilting 49 = .ok (.getfield 48, 3) := by decide +kernel
theorem dX7_sizesTilting_52 : decode cX7_sizesTilting 52 = .ok (.iconst 2, 1) := by decide +kernel
theorem dX7_sizesTilting_53 : decode cX7_sizesTilting 53 = .ok (.iload_n 2, 1) := by decide +kernel
theorem dX7_sizesTilting_54 : decode cX7_sizesTilting 54 = .ok (.imul, 1) := by decide +kernel
theorem dX7_sizesTilting_55 : decode cX7_sizesTilting 55 = .ok (.iaload, 1) := by decide +kernel
theorem dX7_sizesTilting_56 : decode cX7_sizesTilting 56 = .ok (.imul, 1) := by decide +kernel
theorem dX7_sizesTilting_57 : decode cX7_sizesTilting 57 = .ok (.isub, 1) := by decide +kernel
theorem dX7_sizesTilting_58 : decode cX7_sizesTilting 58 = .ok (.istore 9, 2) := by decide +kernel
theorem dX7_sizesTilting_60 : decode cX7_sizesTilting 60 = .ok (.iload 9, 2) := by decide +kernel
theorem dX7_sizesTilting_62 : decode cX7_sizesTilting 62 = .ok (.invokestatic 65, 3) := by decide +kernel
theorem dX7_sizesTilting_65 : decode cX7_sizesTilting 65 = .ok (.iload 4, 2) := by decide +kernel
theorem dX7_sizesTilting_67 : decode cX7_sizesTilting 67 = .ok (.if_icmp .ne 12, 3) := by decide +kernel
theorem dX7_sizesTilting_70 : decode cX7_sizesTilting 70 = .ok (.iload 5, 2) := by decide +kernel
theorem dX7_sizesTilting_72 : decode cX7_sizesTilting 72 = .ok (.iconst 1, 1) := by decide +kernel
theorem dX7_sizesTilting_73 : decode cX7_sizesTilting 73 = .ok (.iload 7, 2) := by decide +kernel
theorem dX7_sizesTilting_75 : decode cX7_sizesTilting 75 = .ok (.ishl, 1) := by decide +kernel
theorem dX7_sizesTilting_76 : decode cX7_sizesTilting 76 = .ok (.ior, 1) := by decide +kernel
theorem dX7_sizesTilting_77 : decode cX7_sizesTilting 77 = .ok (.istore 5, 2) := by decide +kernel
theorem dX7_sizesTilting_79 : decode cX7_sizesTilting 79 = .ok (.iinc 7 1, 3) := by decide +kernel
theorem dX7_sizesTilting_82 : decode cX7_sizesTilting 82 = .ok (.goto (-62), 3) := by decide +kernel
theorem dX7_sizesTilting_85 : decode cX7_sizesTilting 85 = .ok (.iload 5, 2) := by decide +kernel
theorem dX7_sizesTilting_87 : decode cX7_sizesTilting 87 = .ok (.ireturn, 1) := by decide +kernel
theorem dX7_wayOf_0 : decode cX7_wayOf 0 = .ok (.iload_n 0, 1) := by decide +kernel
theorem dX7_wayOf_1 : decode cX7_wayOf 1 = .ok (.ifCond .ne 5, 3) := by decide +kernel
theorem dX7_wayOf_4 : decode cX7_wayOf 4 = .ok (.iconst 1, 1) := by decide +kernel
theorem dX7_wayOf_5 : decode cX7_wayOf 5 = .ok (.ireturn, 1) := by decide +kernel
theorem dX7_wayOf_6 : decode cX7_wayOf 6 = .ok (.iload_n 0, 1) := by decide +kernel
theorem dX7_wayOf_7 : decode cX7_wayOf 7 = .ok (.ifCond .ge 7, 3) := by decide +kernel
theorem dX7_wayOf_10 : decode cX7_wayOf 10 = .ok (.iconst 0, 1) := by decide +kernel
theorem dX7_wayOf_11 : decode cX7_wayOf 11 = .ok (.goto 4, 3) := by decide +kernel
theorem dX7_wayOf_14 : decode cX7_wayOf 14 = .ok (.iconst 2, 1) := by decide +kernel
theorem dX7_wayOf_15 : decode cX7_wayOf 15 = .ok (.ireturn, 1) := by decide +kernel
theorem dX8_init_0 : decode cX8_init 0 = .ok (.aload_n 0, 1) := by decide +kernel
theorem dX8_init_1 : decode cX8_init 1 = .ok (.invokespecial 3, 3) := by decide +kernel
theorem dX8_init_4 : decode cX8_init 4 = .ok (.aload_n 0, 1) := by decide +kernel
theorem dX8_init_5 : decode cX8_init 5 = .ok (.new 9, 3) := by decide +kernel
theorem dX8_init_8 : decode cX8_init 8 = .ok (.dup, 1) := by decide +kernel
theorem dX8_init_9 : decode cX8_init 9 = .ok (.invokespecial 11, 3) := by decide +kernel
theorem dX8_init_12 : decode cX8_init 12 = .ok (.putfield 12, 3) := by decide +kernel
theorem dX8_init_15 : decode cX8_init 15 = .ok (.aload_n 0, 1) := by decide +kernel
theorem dX8_init_16 : decode cX8_init 16 = .ok (.new 16, 3) := by decide +kernel
theorem dX8_init_19 : decode cX8_init 19 = .ok (.dup, 1) := by decide +kernel
theorem dX8_init_20 : decode cX8_init 20 = .ok (.invokespecial 18, 3) := by decide +kernel
theorem dX8_init_23 : decode cX8_init 23 = .ok (.putfield 19, 3) := by decide +kernel
theorem dX8_init_26 : decode cX8_init 26 = .ok (.aload_n 0, 1) := by decide +kernel
theorem dX8_init_27 : decode cX8_init 27 = .ok (.new 23, 3) := by decide +kernel
theorem dX8_init_30 : decode cX8_init 30 = .ok (.dup, 1) := by decide +kernel
theorem dX8_init_31 : decode cX8_init 31 = .ok (.invokespecial 25, 3) := by decide +kernel
theorem dX8_init_34 : decode cX8_init 34 = .ok (.putfield 26, 3) := by decide +kernel
theorem dX8_init_37 : decode cX8_init 37 = .ok (.aload_n 0, 1) := by decide +kernel
theorem dX8_init_38 : decode cX8_init 38 = .ok (.new 23, 3) := by decide +kernel
theorem dX8_init_41 : decode cX8_init 41 = .ok (.dup, 1) := by decide +kernel
theorem dX8_init_42 : decode cX8_init 42 = .ok (.invokespecial 25, 3) := by decide +kernel
theorem dX8_init_45 : decode cX8_init 45 = .ok (.putfield 30, 3) := by decide +kernel
theorem dX8_init_48 : decode cX8_init 48 = .ok (.aload_n 0, 1) := by decide +kernel
theorem dX8_init_49 : decode cX8_init 49 = .ok (.new 33, 3) := by decide +kernel
theorem dX8_init_52 : decode cX8_init 52 = .ok (.dup, 1) := by decide +kernel
theorem dX8_init_53 : decode cX8_init 53 = .ok (.invokespecial 35, 3) := by decide +kernel
theorem dX8_init_56 : decode cX8_init 56 = .ok (.putfield 36, 3) := by decide +kernel
theorem dX8_init_59 : decode cX8_init 59 = .ok (.aload_n 0, 1) := by decide +kernel
theorem dX8_init_60 : decode cX8_init 60 = .ok (.new 40, 3) := by decide +kernel
theorem dX8_init_63 : decode cX8_init 63 = .ok (.dup, 1) := by decide +kernel
theorem dX8_init_64 : decode cX8_init 64 = .ok (.invokespecial 42, 3) := by decide +kernel
theorem dX8_init_67 : decode cX8_init 67 = .ok (.putfield 43, 3) := by decide +kernel
theorem dX8_init_70 : decode cX8_init 70 = .ok (.aload_n 0, 1) := by decide +kernel
theorem dX8_init_71 : decode cX8_init 71 = .ok (.new 47, 3) := by decide +kernel
theorem dX8_init_74 : decode cX8_init 74 = .ok (.dup, 1) := by decide +kernel
theorem dX8_init_75 : decode cX8_init 75 = .ok (.invokespecial 49, 3) := by decide +kernel
theorem dX8_init_78 : decode cX8_init 78 = .ok (.putfield 50, 3) := by decide +kernel
theorem dX8_init_81 : decode cX8_init 81 = .ok (.return_, 1) := by decide +kernel
theorem dX8_letter_0 : decode cX8_letter 0 = .ok (.iload_n 1, 1) := by decide +kernel
theorem dX8_letter_1 : decode cX8_letter 1 = .ok (.iconst 1, 1) := by decide +kernel
theorem dX8_letter_2 : decode cX8_letter 2 = .ok (.if_icmp .lt 9, 3) := by decide +kernel
theorem dX8_letter_5 : decode cX8_letter 5 = .ok (.iload_n 1, 1) := by decide +kernel
theorem dX8_letter_6 : decode cX8_letter 6 = .ok (.bipush 126, 2) := by decide +kernel
theorem dX8_letter_8 : decode cX8_letter 8 = .ok (.if_icmp .le 6, 3) := by decide +kernel
theorem dX8_letter_11 : decode cX8_letter 11 = .ok (.bipush (-102), 2) := by decide +kernel
theorem dX8_letter_13 : decode cX8_letter 13 = .ok (.ireturn, 1) := by decide +kernel
theorem dX8_letter_14 : decode cX8_letter 14 = .ok (.aload_n 0, 1) := by decide +kernel
theorem dX8_letter_15 : decode cX8_letter 15 = .ok (.getfield 12, 3) := by decide +kernel
theorem dX8_letter_18 : decode cX8_letter 18 = .ok (.getfield 54, 3) := by decide +kernel
theorem dX8_letter_21 : decode cX8_letter 21 = .ok (.bipush 46, 2) := by decide +kernel
theorem dX8_letter_23 : decode cX8_letter 23 = .ok (.if_icmp .lt 6, 3) := by decide +kernel
theorem dX8_letter_26 : decode cX8_letter 26 = .ok (.bipush (-104), 2) := by decide +kernel
theorem dX8_letter_28 : decode cX8_letter 28 = .ok (.ireturn, 1) := by decide +kernel
theorem dX8_letter_29 : decode cX8_letter 29 = .ok (.aload_n 0, 1) := by decide +kernel
theorem dX8_letter_30 : decode cX8_letter 30 = .ok (.getfield 12, 3) := by decide +kernel
theorem dX8_letter_33 : decode cX8_letter 33 = .ok (.getfield 58, 3) := by decide +kernel
theorem dX8_letter_36 : decode cX8_letter 36 = .ok (.aload_n 0, 1) := by decide +kernel
theorem dX8_letter_37 : decode cX8_letter 37 = .ok (.getfield 12, 3) := by decide +kernel
theorem dX8_letter_40 : decode cX8_letter 40 = .ok (.getfield 54, 3) := by decide +kernel
theorem dX8_letter_43 : decode cX8_letter 43 = .ok (.iload_n 1, 1) := by decide +kernel
theorem dX8_letter_44 : decode cX8_letter 44 = .ok (.iastore, 1) := by decide +kernel
theorem dX8_letter_45 : decode cX8_letter 45 = .ok (.aload_n 0, 1) := by decide +kernel
theorem dX8_letter_46 : decode cX8_letter 46 = .ok (.getfield 12, 3) := by decide +kernel
theorem dX8_letter_49 : decode cX8_letter 49 = .ok (.dup, 1) := by decide +kernel
theorem dX8_letter_50 : decode cX8_letter 50 = .ok (.getfield 54, 3) := by decide +kernel
theorem dX8_letter_53 : decode cX8_letter 53 = .ok (.iconst 1, 1) := by decide +kernel
theorem dX8_letter_54 : decode cX8_letter 54 = .ok (.iadd, 1) := by decide +kernel
theorem dX8_letter_55 : decode cX8_letter 55 = .ok (.putfield 54, 3) := by decide +kernel
theorem dX8_letter_58 : decode cX8_letter 58 = .ok (.aload_n 0, 1) := by decide +kernel
theorem dX8_letter_59 : decode cX8_letter 59 = .ok (.getfield 12, 3) := by decide +kernel
theorem dX8_letter_62 : decode cX8_letter 62 = .ok (.getfield 54, 3) := by decide +kernel
theorem dX8_letter_65 : decode cX8_letter 65 = .ok (.ireturn, 1) := by decide +kernel
theorem dX8_blank_0 : decode cX8_blank 0 = .ok (.aload_n 0, 1) := by decide +kernel
theorem dX8_blank_1 : decode cX8_blank 1 = .ok (.getfield 12, 3) := by decide +kernel
theorem dX8_blank_4 : decode cX8_blank 4 = .ok (.getfield 54, 3) := by decide +kernel
theorem dX8_blank_7 : decode cX8_blank 7 = .ok (.istore_n 1, 1) := by decide +kernel
theorem dX8_blank_8 : decode cX8_blank 8 = .ok (.aload_n 0, 1) := by decide +kernel
theorem dX8_blank_9 : decode cX8_blank 9 = .ok (.getfield 12, 3) := by decide +kernel
theorem dX8_blank_12 : decode cX8_blank 12 = .ok (.iconst 0, 1) := by decide +kernel
theorem dX8_blank_13 : decode cX8_blank 13 = .ok (.putfield 54, 3) := by decide +kernel
theorem dX8_blank_16 : decode cX8_blank 16 = .ok (.iload_n 1, 1) := by decide +kernel
theorem dX8_blank_17 : decode cX8_blank 17 = .ok (.ireturn, 1) := by decide +kernel
theorem dX8_fault_0 : decode cX8_fault 0 = .ok (.aload_n 0, 1) := by decide +kernel
theorem dX8_fault_1 : decode cX8_fault 1 = .ok (.getfield 19, 3) := by decide +kernel
theorem dX8_fault_4 : decode cX8_fault 4 = .ok (.aload_n 0, 1) := by decide +kernel
theorem dX8_fault_5 : decode cX8_fault 5 = .ok (.getfield 12, 3) := by decide +kernel
theorem dX8_fault_8 : decode cX8_fault 8 = .ok (.invokevirtual 62, 3) := by decide +kernel
theorem dX8_fault_11 : decode cX8_fault 11 = .ok (.ireturn, 1) := by decide +kernel
theorem dX8_mobile_0 : decode cX8_mobile 0 = .ok (.aload_n 0, 1) := by decide +kernel
theorem dX8_mobile_1 : decode cX8_mobile 1 = .ok (.getfield 19, 3) := by decide +kernel
theorem dX8_mobile_4 : decode cX8_mobile 4 = .ok (.aload_n 0, 1) := by decide +kernel
theorem dX8_mobile_5 : decode cX8_mobile 5 = .ok (.getfield 12, 3) := by decide +kernel
theorem dX8_mobile_8 : decode cX8_mobile 8 = .ok (.invokevirtual 62, 3) := by decide +kernel
theorem dX8_mobile_11 : decode cX8_mobile 11 = .ok (.aload_n 0, 1) := by decide +kernel
theorem dX8_mobile_12 : decode cX8_mobile 12 = .ok (.getfield 12, 3) := by decide +kernel
theorem dX8_mobile_15 : decode cX8_mobile 15 = .ok (.getfield 54, 3) := by decide +kernel
theorem dX8_mobile_18 : decode cX8_mobile 18 = .ok (.if_icmp .lt 13, 3) := by decide +kernel
theorem dX8_mobile_21 : decode cX8_mobile 21 = .ok (.aload_n 0, 1) := by decide +kernel
theorem dX8_mobile_22 : decode cX8_mobile 22 = .ok (.getfield 19, 3) := by decide +kernel
theorem dX8_mobile_25 : decode cX8_mobile 25 = .ok (.invokevirtual 66, 3) := by decide +kernel
theorem dX8_mobile_28 : decode cX8_mobile 28 = .ok (.ifCond .ne 6, 3) := by decide +kernel
theorem dX8_mobile_31 : decode cX8_mobile 31 = .ok (.bipush (-103), 2) := by decide +kernel
theorem dX8_mobile_33 : decode cX8_mobile 33 = .ok (.ireturn, 1) := by decide +kernel
theorem dX8_mobile_34 : decode cX8_mobile 34 = .ok (.aload_n 0, 1) := by decide +kernel
theorem dX8_mobile_35 : decode cX8_mobile 35 = .ok (.getfield 26, 3) := by decide +kernel
theorem dX8_mobile_38 : decode cX8_mobile 38 = .ok (.aload_n 0, 1) := by decide +kernel
theorem dX8_mobile_39 : decode cX8_mobile 39 = .ok (.getfield 19, 3) := by decide +kernel
theorem dX8_mobile_42 : decode cX8_mobile 42 = .ok (.invokevirtual 70, 3) := by decide +kernel
theorem dX8_mobile_45 : decode cX8_mobile 45 = .ok (.aload_n 0, 1) := by decide +kernel
theorem dX8_mobile_46 : decode cX8_mobile 46 = .ok (.getfield 12, 3) := by decide +kernel
theorem dX8_mobile_49 : decode cX8_mobile 49 = .ok (.iconst 0, 1) := by decide +kernel
theorem dX8_mobile_50 : decode cX8_mobile 50 = .ok (.putfield 54, 3) := by decide +kernel
theorem dX8_mobile_53 : decode cX8_mobile 53 = .ok (.aload_n 0, 1) := by decide +kernel
theorem dX8_mobile_54 : decode cX8_mobile 54 = .ok (.iconst 0, 1) := by decide +kernel
theorem dX8_mobile_55 : decode cX8_mobile 55 = .ok (.putfield 74, 3) := by decide +kernel
theorem dX8_mobile_58 : decode cX8_mobile 58 = .ok (.aload_n 0, 1) := by decide +kernel
theorem dX8_mobile_59 : decode cX8_mobile 59 = .ok (.dup, 1) := by decide +kernel
theorem dX8_mobile_60 : decode cX8_mobile 60 = .ok (.getfield 78, 3) := by decide +kernel
theorem dX8_mobile_63 : decode cX8_mobile 63 = .ok (.iconst 1, 1) := by decide +kernel
theorem dX8_mobile_64 : decode cX8_mobile 64 = .ok (.iadd, 1) := by decide +kernel
theorem dX8_mobile_65 : decode cX8_mobile 65 = .ok (.putfield 78, 3) := by decide +kernel
theorem dX8_mobile_68 : decode cX8_mobile 68 = .ok (.aload_n 0, 1) := by decide +kernel
theorem dX8_mobile_69 : decode cX8_mobile 69 = .ok (.getfield 26, 3) := by decide +kernel
theorem dX8_mobile_72 : decode cX8_mobile 72 = .ok (.getfield 81, 3) := by decide +kernel
theorem dX8_mobile_75 : decode cX8_mobile 75 = .ok (.ireturn, 1) := by decide +kernel
theorem dX8_rod_0 : decode cX8_rod 0 = .ok (.aload_n 0, 1) := by decide +kernel
theorem dX8_rod_1 : decode cX8_rod 1 = .ok (.iload_n 1, 1) := by decide +kernel
theorem dX8_rod_2 : decode cX8_rod 2 = .ok (.invokevirtual 84, 3) := by decide +kernel
theorem dX8_rod_5 : decode cX8_rod 5 = .ok (.ifCond .ne 6, 3) := by decide +kernel
theorem dX8_rod_8 : decode cX8_rod 8 = .ok (.bipush (-101), 2) := by decide +kernel
theorem dX8_rod_10 : decode cX8_rod 10 = .ok (.ireturn, 1) := by decide +kernel
theorem dX8_rod_11 : decode cX8_rod 11 = .ok (.iload_n 2, 1) := by decide +kernel
theorem dX8_rod_12 : decode cX8_rod 12 = .ok (.ifCond .lt 9, 3) := by decide +kernel
theorem dX8_rod_15 : decode cX8_rod 15 = .ok (.iload_n 2, 1) := by decide +kernel
theorem dX8_rod_16 : decode cX8_rod 16 = .ok (.bipush 11, 2) := by decide +kernel
theorem dX8_rod_18 : decode cX8_rod 18 = .ok (.if_icmp .lt 6, 3) := by decide +kernel
theorem dX8_rod_21 : decode cX8_rod 21 = .ok (.bipush (-102), 2) := by decide +kernel
theorem dX8_rod_23 : decode cX8_rod 23 = .ok (.ireturn, 1) := by decide +kernel
theorem dX8_rod_24 : decode cX8_rod 24 = .ok (.aload_n 0, 1) := by decide +kernel
theorem dX8_rod_25 : decode cX8_rod 25 = .ok (.getfield 36, 3) := by decide +kernel
theorem dX8_rod_28 : decode cX8_rod 28 = .ok (.aload_n 0, 1) := by decide +kernel
theorem dX8_rod_29 : decode cX8_rod 29 = .ok (.getfield 26, 3) := by decide +kernel
theorem dX8_rod_32 : decode cX8_rod 32 = .ok (.invokevirtual 88, 3) := by decide +kernel
theorem dX8_rod_35 : decode cX8_rod 35 = .ok (.aload_n 0, 1) := by decide +kernel
theorem dX8_rod_36 : decode cX8_rod 36 = .ok (.iload_n 1, 1) := by decide +kernel
theorem dX8_rod_37 : decode cX8_rod 37 = .ok (.iload_n 2, 1) := by decide +kernel
theorem dX8_rod_38 : decode cX8_rod 38 = .ok (.invokevirtual 92, 3) := by decide +kernel
theorem dX8_rod_41 : decode cX8_rod 41 = .ok (.ireturn, 1) := by decide +kernel
theorem dX8_thing_0 : decode cX8_thing 0 = .ok (.aload_n 0, 1) := by decide +kernel
theorem dX8_thing_1 : decode cX8_thing 1 = .ok (.iload_n 1, 1) := by decide +kernel
theorem dX8_thing_2 : decode cX8_thing 2 = .ok (.invokevirtual 96, 3) := by decide +kernel
theorem dX8_thing_5 : decode cX8_thing 5 = .ok (.ifCond .ne 6, 3) := by decide +kernel
theorem dX8_thing_8 : decode cX8_thing 8 = .ok (.bipush (-101), 2) := by decide +kernel
theorem dX8_thing_10 : decode cX8_thing 10 = .ok (.ireturn, 1) := by decide +kernel
theorem dX8_thing_11 : decode cX8_thing 11 = .ok (.iload_n 2, 1) := by decide +kernel
theorem dX8_thing_12 : decode cX8_thing 12 = .ok (.ifCond .lt 9, 3) := by decide +kernel
theorem dX8_thing_15 : decode cX8_thing 15 = .ok (.iload_n 2, 1) := by decide +kernel
theorem dX8_thing_16 : decode cX8_thing 16 = .ok (.bipush 7, 2) := by decide +kernel
theorem dX8_thing_18 : decode cX8_thing 18 = .ok (.if_icmp .lt 6, 3) := by decide +kernel
theorem dX8_thing_21 : decode cX8_thing 21 = .ok (.bipush (-102), 2) := by decide +kernel
theorem dX8_thing_23 : decode cX8_thing 23 = .ok (.ireturn, 1) := by decide +kernel
theorem dX8_thing_24 : decode cX8_thing 24 = .ok (.aload_n 0, 1) := by decide +kernel
theorem dX8_thing_25 : decode cX8_thing 25 = .ok (.iload_n 1, 1) := by decide +kernel
theorem dX8_thing_26 : decode cX8_thing 26 = .ok (.iload_n 2, 1) := by decide +kernel
theorem dX8_thing_27 : decode cX8_thing 27 = .ok (.invokevirtual 99, 3) := by decide +kernel
theorem dX8_thing_30 : decode cX8_thing 30 = .ok (.ireturn, 1) := by decide +kernel
theorem dX8_as_0 : decode cX8_as 0 = .ok (.aload_n 0, 1) := by decide +kernel
theorem dX8_as_1 : decode cX8_as 1 = .ok (.iload_n 1, 1) := by decide +kernel
theorem dX8_as_2 : decode cX8_as 2 = .ok (.invokevirtual 96, 3) := by decide +kernel
theorem dX8_as_5 : decode cX8_as 5 = .ok (.ifCond .ne 6, 3) := by decide +kernel
theorem dX8_as_8 : decode cX8_as 8 = .ok (.bipush (-101), 2) := by decide +kernel
theorem dX8_as_10 : decode cX8_as 10 = .ok (.ireturn, 1) := by decide +kernel
theorem dX8_as_11 : decode cX8_as 11 = .ok (.iload_n 2, 1) := by decide +kernel
theorem dX8_as_12 : decode cX8_as 12 = .ok (.invokestatic 102, 3) := by decide +kernel
theorem dX8_as_15 : decode cX8_as 15 = .ok (.ifCond .ne 6, 3) := by decide +kernel
theorem dX8_as_18 : decode cX8_as 18 = .ok (.bipush (-102), 2) := by decide +kernel
theorem dX8_as_20 : decode cX8_as 20 = .ok (.ireturn, 1) := by decide +kernel
theorem dX8_as_21 : decode cX8_as 21 = .ok (.aload_n 0, 1) := by decide +kernel
theorem dX8_as_22 : decode cX8_as 22 = .ok (.getfield 26, 3) := by decide +kernel
theorem dX8_as_25 : decode cX8_as 25 = .ok (.getfield 107, 3) := by decide +kernel
theorem dX8_as_28 : decode cX8_as 28 = .ok (.iload_n 1, 1) := by decide +kernel
theorem dX8_as_29 : decode cX8_as 29 = .ok (.iaload, 1) := by decide +kernel
theorem dX8_as_30 : decode cX8_as 30 = .ok (.iload_n 2, 1) := by decide +kernel
theorem dX8_as_31 : decode cX8_as 31 = .ok (.invokestatic 110, 3) := by decide +kernel
theorem dX8_as_34 : decode cX8_as 34 = .ok (.ifCond .eq 7, 3) := by decide +kernel
theorem dX8_as_37 : decode cX8_as 37 = .ok (.iload_n 1, 1) := by decide +kernel
theorem dX8_as_38 : decode cX8_as 38 = .ok (.goto 4, 3) := by decide +kernel
theorem dX8_as_41 : decode cX8_as 41 = .ok (.iconst (-1), 1) := by decide +kernel
theorem dX8_as_42 : decode cX8_as 42 = .ok (.ireturn, 1) := by decide +kernel
theorem dX8_hour_0 : decode cX8_hour 0 = .ok (.aload_n 0, 1) := by decide +kernel
theorem dX8_hour_1 : decode cX8_hour 1 = .ok (.invokevirtual 114, 3) := by decide +kernel
theorem dX8_hour_4 : decode cX8_hour 4 = .ok (.ifCond .ne 6, 3) := by decide +kernel
theorem dX8_hour_7 : decode cX8_hour 7 = .ok (.bipush (-103), 2) := by decide +kernel
theorem dX8_hour_9 : decode cX8_hour 9 = .ok (.ireturn, 1) := by decide +kernel
theorem dX8_hour_10 : decode cX8_hour 10 = .ok (.aload_n 0, 1) := by decide +kernel
theorem dX8_hour_11 : decode cX8_hour 11 = .ok (.getfield 26, 3) := by decide +kernel
theorem dX8_hour_14 : decode cX8_hour 14 = .ok (.getfield 117, 3) := by decide +kernel
theorem dX8_hour_17 : decode cX8_hour 17 = .ok (.sipush 999, 3) := by decide +kernel
theorem dX8_hour_20 : decode cX8_hour 20 = .ok (.if_icmp .lt 6, 3) := by decide +kernel
theorem dX8_hour_23 : decode cX8_hour 23 = .ok (.bipush (-104), 2) := by decide +kernel
theorem dX8_hour_25 : decode cX8_hour 25 = .ok (.ireturn, 1) := by decide +kernel
theorem dX8_hour_26 : decode cX8_hour 26 = .ok (.aload_n 0, 1) := by decide +kernel
theorem dX8_hour_27 : decode cX8_hour 27 = .ok (.getfield 26, 3) := by decide +kernel
theorem dX8_hour_30 : decode cX8_hour 30 = .ok (.dup, 1) := by decide +kernel
theorem dX8_hour_31 : decode cX8_hour 31 = .ok (.getfield 117, 3) := by decide +kernel
theorem dX8_hour_34 : decode cX8_hour 34 = .ok (.iconst 1, 1) := by decide +kernel
theorem dX8_hour_35 : decode cX8_hour 35 = .ok (.iadd, 1) := by decide +kernel
theorem dX8_hour_36 : decode cX8_hour 36 = .ok (.putfield 117, 3) := by decide +kernel
theorem dX8_hour_39 : decode cX8_hour 39 = .ok (.aload_n 0, 1) := by decide +kernel
theorem dX8_hour_40 : decode cX8_hour 40 = .ok (.getfield 26, 3) := by decide +kernel
theorem dX8_hour_43 : decode cX8_hour 43 = .ok (.getfield 117, 3) := by decide +kernel
theorem dX8_hour_46 : decode cX8_hour 46 = .ok (.ireturn, 1) := by decide +kernel
theorem dX8_exchange_0 : decode cX8_exchange 0 = .ok (.aload_n 0, 1) := by decide +kernel
theorem dX8_exchange_1 : decode cX8_exchange 1 = .ok (.iload_n 1, 1) := by decide +kernel
theorem dX8_exchange_2 : decode cX8_exchange 2 = .ok (.invokevirtual 96, 3) := by decide +kernel
theorem dX8_exchange_5 : decode cX8_exchange 5 = .ok (.ifCond .eq 16, 3) := by decide +kernel
theorem dX8_exchange_8 : decode cX8_exchange 8 = .ok (.aload_n 0, 1) := by decide +kernel
theorem dX8_exchange_9 : decode cX8_exchange 9 = .ok (.iload_n 2, 1) := by decide +kernel
theorem dX8_exchange_10 : decode cX8_exchange 10 = .ok (.invokevirtual 96, 3) := by decide +kernel
theorem dX8_exchange_13 : decode cX8_exchange 13 = .ok (.ifCond .eq 8, 3) := by decide +kernel
theorem dX8_exchange_16 : decode cX8_exchange 16 = .ok (.iload_n 1, 1) := by decide +kernel
theorem dX8_exchange_17 : decode cX8_exchange 17 = .ok (.iload_n 2, 1) := by decide +kernel
theorem dX8_exchange_18 : decode cX8_exchange 18 = .ok (.if_icmp .ne 6, 3) := by decide +kernel
theorem dX8_exchange_21 : decode cX8_exchange 21 = .ok (.bipush (-101), 2) := by decide +kernel
theorem dX8_exchange_23 : decode cX8_exchange 23 = .ok (.ireturn, 1) := by decide +kernel
theorem dX8_exchange_24 : decode cX8_exchange 24 = .ok (.aload_n 0, 1) := by decide +kernel
theorem dX8_exchange_25 : decode cX8_exchange 25 = .ok (.getfield 26, 3) := by decide +kernel
theorem dX8_exchange_28 : decode cX8_exchange 28 = .ok (.getfield 120, 3) := by decide +kernel
theorem dX8_exchange_31 : decode cX8_exchange 31 = .ok (.iload_n 1, 1) := by decide +kernel
theorem dX8_exchange_32 : decode cX8_exchange 32 = .ok (.baload, 1) := by decide +kernel
theorem dX8_exchange_33 : decode cX8_exchange 33 = .ok (.ifCond .ne 15, 3) := by decide +kernel
theorem dX8_exchange_36 : decode cX8_exchange 36 = .ok (.aload_n 0, 1) := by decide +kernel
theorem dX8_exchange_37 : decode cX8_exchange 37 = .ok (.getfield 26, 3) := by decide +kernel
theorem dX8_exchange_40 : decode cX8_exchange 40 = .ok (.getfield 120, 3) := by decide +kernel
theorem dX8_exchange_43 : decode cX8_exchange 43 = .ok (.iload_n 2, 1) := by decide +kernel
theorem dX8_exchange_44 : decode cX8_exchange 44 = .ok (.baload, 1) := by decide +kernel
theorem dX8_exchange_45 : decode cX8_exchange 45 = .ok (.ifCond .eq 6, 3) := by decide +kernel
theorem dX8_exchange_48 : decode cX8_exchange 48 = .ok (.bipush (-103), 2) := by decide +kernel
theorem dX8_exchange_50 : decode cX8_exchange 50 = .ok (.ireturn, 1) := by decide +kernel
theorem dX8_exchange_51 : decode cX8_exchange 51 = .ok (.aload_n 0, 1) := by decide +kernel
theorem dX8_exchange_52 : decode cX8_exchange 52 = .ok (.getfield 26, 3) := by decide +kernel
theorem dX8_exchange_55 : decode cX8_exchange 55 = .ok (.getfield 124, 3) := by decide +kernel
theorem dX8_exchange_58 : decode cX8_exchange 58 = .ok (.iload_n 1, 1) := by decide +kernel
theorem dX8_exchange_59 : decode cX8_exchange 59 = .ok (.iload_n 2, 1) := by decide +kernel
theorem dX8_exchange_60 : decode cX8_exchange 60 = .ok (.invokestatic 127, 3) := by decide +kernel
theorem dX8_exchange_63 : decode cX8_exchange 63 = .ok (.aload_n 0, 1) := by decide +kernel
theorem dX8_exchange_64 : decode cX8_exchange 64 = .ok (.invokevirtual 131, 3) := by decide +kernel
theorem dX8_exchange_67 : decode cX8_exchange 67 = .ok (.ireturn, 1) := by decide +kernel
theorem dX8_move_0 : decode cX8_move 0 = .ok (.aload_n 0, 1) := by decide +kernel
theorem dX8_move_1 : decode cX8_move 1 = .ok (.iload_n 1, 1) := by decide +kernel
theorem dX8_move_2 : decode cX8_move 2 = .ok (.invokevirtual 84, 3) := by decide +kernel
theorem dX8_move_5 : decode cX8_move 5 = .ok (.ifCond .ne 6, 3) := by decide +kernel
theorem dX8_move_8 : decode cX8_move 8 = .ok (.bipush (-101), 2) := by decide +kernel
theorem dX8_move_10 : decode cX8_move 10 = .ok (.ireturn, 1) := by decide +kernel
theorem dX8_move_11 : decode cX8_move 11 = .ok (.aload_n 0, 1) := by decide +kernel
theorem dX8_move_12 : decode cX8_move 12 = .ok (.getfield 26, 3) := by decide +kernel
theorem dX8_move_15 : decode cX8_move 15 = .ok (.getfield 135, 3) := by decide +kernel
theorem dX8_move_18 : decode cX8_move 18 = .ok (.iconst 2, 1) := by decide +kernel
theorem dX8_move_19 : decode cX8_move 19 = .ok (.iload_n 1, 1) := by decide +kernel
theorem dX8_move_20 : decode cX8_move 20 = .ok (.imul, 1) := by decide +kernel
theorem dX8_move_21 : decode cX8_move 21 = .ok (.iaload, 1) := by decide +kernel
theorem dX8_move_22 : decode cX8_move 22 = .ok (.istore_n 3, 1) := by decide +kernel
theorem dX8_move_23 : decode cX8_move 23 = .ok (.iload_n 3, 1) := by decide +kernel
theorem dX8_move_24 : decode cX8_move 24 = .ok (.aload_n 0, 1) := by decide +kernel
theorem dX8_move_25 : decode cX8_move 25 = .ok (.getfield 26, 3) := by decide +kernel
theorem dX8_move_28 : decode cX8_move 28 = .ok (.getfield 135, 3) := by decide +kernel
theorem dX8_move_31 : decode cX8_move 31 = .ok (.iconst 2, 1) := by decide +kernel
theorem dX8_move_32 : decode cX8_move 32 = .ok (.iload_n 1, 1) := by decide +kernel
theorem dX8_move_33 : decode cX8_move 33 = .ok (.imul, 1) := by decide +kernel
theorem dX8_move_34 : decode cX8_move 34 = .ok (.iconst 1, 1) := by decide +kernel
theorem dX8_move_35 : decode cX8_move 35 = .ok (.iadd, 1) := by decide +kernel
theorem dX8_move_36 : decode cX8_move 36 = .ok (.iaload, 1) := by decide +kernel
theorem dX8_move_37 : decode cX8_move 37 = .ok (.iadd, 1) := by decide +kernel
theorem dX8_move_38 : decode cX8_move 38 = .ok (.istore 4, 2) := by decide +kernel
theorem dX8_move_40 : decode cX8_move 40 = .ok (.iload_n 2, 1) := by decide +kernel
theorem dX8_move_41 : decode cX8_move 41 = .ok (.iconst 1, 1) := by decide +kernel
theorem dX8_move_42 : decode cX8_move 42 = .ok (.if_icmp .lt 9, 3) := by decide +kernel
theorem dX8_move_45 : decode cX8_move 45 = .ok (.iload_n 2, 1) := by decide +kernel
theorem dX8_move_46 : decode cX8_move 46 = .ok (.iload 4, 2) := by decide +kernel
theorem dX8_move_48 : decode cX8_move 48 = .ok (.if_icmp .lt 6, 3) := by decide +kernel
theorem dX8_move_51 : decode cX8_move 51 = .ok (.bipush (-102), 2) := by decide +kernel
theorem dX8_move_53 : decode cX8_move 53 = .ok (.ireturn, 1) := by decide +kernel
theorem dX8_move_54 : decode cX8_move 54 = .ok (.aload_n 0, 1) := by decide +kernel
theorem dX8_move_55 : decode cX8_move 55 = .ok (.getfield 26, 3) := by decide +kernel
theorem dX8_move_58 : decode cX8_move 58 = .ok (.getfield 135, 3) := by decide +kernel
theorem dX8_move_61 : decode cX8_move 61 = .ok (.iconst 2, 1) := by decide +kernel
theorem dX8_move_62 : decode cX8_move 62 = .ok (.iload_n 1, 1) := by decide +kernel
theorem dX8_move_63 : decode cX8_move 63 = .ok (.imul, 1) := by decide +kernel
theorem dX8_move_64 : decode cX8_move 64 = .ok (.iload_n 2, 1) := by decide +kernel
theorem dX8_move_65 : decode cX8_move 65 = .ok (.iastore, 1) := by decide +kernel
theorem dX8_move_66 : decode cX8_move 66 = .ok (.aload_n 0, 1) := by decide +kernel
theorem dX8_move_67 : decode cX8_move 67 = .ok (.getfield 26, 3) := by decide +kernel
theorem dX8_move_70 : decode cX8_move 70 = .ok (.getfield 135, 3) := by decide +kernel
theorem dX8_move_73 : decode cX8_move 73 = .ok (.iconst 2, 1) := by decide +kernel
theorem dX8_move_74 : decode cX8_move 74 = .ok (.iload_n 1, 1) := by decide +kernel
theorem dX8_move_75 : decode cX8_move 75 = .ok (.imul, 1) := by decide +kernel
theorem dX8_move_76 : decode cX8_move 76 = .ok (.iconst 1, 1) := by decide +kernel
theorem dX8_move_77 : decode cX8_move 77 = .ok (.iadd, 1) := by decide +kernel
theorem dX8_move_78 : decode cX8_move 78 = .ok (.iload 4, 2) := by decide +kernel
theorem dX8_move_80 : decode cX8_move 80 = .ok (.iload_n 2, 1) := by decide +kernel
theorem dX8_move_81 : decode cX8_move 81 = .ok (.isub, 1) := by decide +kernel
theorem dX8_move_82 : decode cX8_move 82 = .ok (.iastore, 1) := by decide +kernel
theorem dX8_move_83 : decode cX8_move 83 = .ok (.iload_n 3, 1) := by decide +kernel
theorem dX8_move_84 : decode cX8_move 84 = .ok (.ireturn, 1) := by decide +kernel
theorem dX8_cut_0 : decode cX8_cut 0 = .ok (.aload_n 0, 1) := by decide +kernel
theorem dX8_cut_1 : decode cX8_cut 1 = .ok (.iload_n 1, 1) := by decide +kernel
theorem dX8_cut_2 : decode cX8_cut 2 = .ok (.invokevirtual 96, 3) := by decide +kernel
theorem dX8_cut_5 : decode cX8_cut 5 = .ok (.ifCond .ne 6, 3) := by decide +kernel
theorem dX8_cut_8 : decode cX8_cut 8 = .ok (.bipush (-101), 2) := by decide +kernel
theorem dX8_cut_10 : decode cX8_cut 10 = .ok (.ireturn, 1) := by decide +kernel
theorem dX8_cut_11 : decode cX8_cut 11 = .ok (.aload_n 0, 1) := by decide +kernel
theorem dX8_cut_12 : decode cX8_cut 12 = .ok (.getfield 26, 3) := by decide +kernel
theorem dX8_cut_15 : decode cX8_cut 15 = .ok (.getfield 120, 3) := by decide +kernel
theorem dX8_cut_18 : decode cX8_cut 18 = .ok (.iload_n 1, 1) := by decide +kernel
theorem dX8_cut_19 : decode cX8_cut 19 = .ok (.baload, 1) := by decide +kernel
theorem dX8_cut_20 : decode cX8_cut 20 = .ok (.ifCond .eq 6, 3) := by decide +kernel
theorem dX8_cut_23 : decode cX8_cut 23 = .ok (.bipush (-103), 2) := by decide +kernel
theorem dX8_cut_25 : decode cX8_cut 25 = .ok (.ireturn, 1) := by decide +kernel
theorem dX8_cut_26 : decode cX8_cut 26 = .ok (.aload_n 0, 1) := by decide +kernel
theorem dX8_cut_27 : decode cX8_cut 27 = .ok (.getfield 26, 3) := by decide +kernel
theorem dX8_cut_30 : decode cX8_cut 30 = .ok (.getfield 120, 3) := by decide +kernel
theorem dX8_cut_33 : decode cX8_cut 33 = .ok (.iload_n 1, 1) := by decide +kernel
theorem dX8_cut_34 : decode cX8_cut 34 = .ok (.iconst 1, 1) := by decide +kernel
theorem dX8_cut_35 : decode cX8_cut 35 = .ok (.bastore, 1) := by decide +kernel
theorem dX8_cut_36 : decode cX8_cut 36 = .ok (.aload_n 0, 1) := by decide +kernel
theorem dX8_cut_37 : decode cX8_cut 37 = .ok (.invokevirtual 131, 3) := by decide +kernel
theorem dX8_cut_40 : decode cX8_cut 40 = .ok (.ireturn, 1) := by decide +kernel
theorem dX8_drop_0 : decode cX8_drop 0 = .ok (.aload_n 0, 1) := by decide +kernel
theorem dX8_drop_1 : decode cX8_drop 1 = .ok (.iload_n 1, 1) := by decide +kernel
theorem dX8_drop_2 : decode cX8_drop 2 = .ok (.invokevirtual 84, 3) := by decide +kernel
theorem dX8_drop_5 : decode cX8_drop 5 = .ok (.ifCond .eq 7, 3) := by decide +kernel
theorem dX8_drop_8 : decode cX8_drop 8 = .ok (.iload_n 1, 1) := by decide +kernel
theorem dX8_drop_9 : decode cX8_drop 9 = .ok (.ifCond .ne 6, 3) := by decide +kernel
theorem dX8_drop_12 : decode cX8_drop 12 = .ok (.bipush (-101), 2) := by decide +kernel
theorem dX8_drop_14 : decode cX8_drop 14 = .ok (.ireturn, 1) := by decide +kernel
theorem dX8_drop_15 : decode cX8_drop 15 = .ok (.aload_n 0, 1) := by decide +kernel
theorem dX8_drop_16 : decode cX8_drop 16 = .ok (.getfield 26, 3) := by decide +kernel
theorem dX8_drop_19 : decode cX8_drop 19 = .ok (.getfield 138, 3) := by decide +kernel
theorem dX8_drop_22 : decode cX8_drop 22 = .ok (.iload_n 1, 1) := by decide +kernel
theorem dX8_drop_23 : decode cX8_drop 23 = .ok (.baload, 1) := by decide +kernel
theorem dX8_drop_24 : decode cX8_drop 24 = .ok (.ifCond .eq 6, 3) := by decide +kernel
theorem dX8_drop_27 : decode cX8_drop 27 = .ok (.bipush (-103), 2) := by decide +kernel
theorem dX8_drop_29 : decode cX8_drop 29 = .ok (.ireturn, 1) := by decide +kernel
theorem dX8_drop_30 : decode cX8_drop 30 = .ok (.aload_n 0, 1) := by decide +kernel
theorem dX8_drop_31 : decode cX8_drop 31 = .ok (.getfield 26, 3) := by decide +kernel
theorem dX8_drop_34 : decode cX8_drop 34 = .ok (.getfield 138, 3) := by decide +kernel
theorem dX8_drop_37 : decode cX8_drop 37 = .ok (.iload_n 1, 1) := by decide +kernel
theorem dX8_drop_38 : decode cX8_drop 38 = .ok (.iconst 1, 1) := by decide +kernel
theorem dX8_drop_39 : decode cX8_drop 39 = .ok (.bastore, 1) := by decide +kernel
theorem dX8_drop_40 : decode cX8_drop 40 = .ok (.aload_n 0, 1) := by decide +kernel
theorem dX8_drop_41 : decode cX8_drop 41 = .ok (.getfield 36, 3) := by decide +kernel
theorem dX8_drop_44 : decode cX8_drop 44 = .ok (.aload_n 0, 1) := by decide +kernel
theorem dX8_drop_45 : decode cX8_drop 45 = .ok (.getfield 26, 3) := by decide +kernel
theorem dX8_drop_48 : decode cX8_drop 48 = .ok (.invokevirtual 88, 3) := by decide +kernel
theorem dX8_drop_51 : decode cX8_drop 51 = .ok (.aload_n 0, 1) := by decide +kernel
theorem dX8_drop_52 : decode cX8_drop 52 = .ok (.getfield 36, 3) := by decide +kernel
theorem dX8_drop_55 : decode cX8_drop 55 = .ok (.aload_n 0, 1) := by decide +kernel
theorem dX8_drop_56 : decode cX8_drop 56 = .ok (.getfield 26, 3) := by decide +kernel
theorem dX8_drop_59 : decode cX8_drop 59 = .ok (.invokevirtual 141, 3) := by decide +kernel
theorem dX8_drop_62 : decode cX8_drop 62 = .ok (.ireturn, 1) := by decide +kernel
theorem dX8_mend_0 : decode cX8_mend 0 = .ok (.aload_n 0, 1) := by decide +kernel
theorem dX8_mend_1 : decode cX8_mend 1 = .ok (.getfield 26, 3) := by decide +kernel
theorem dX8_mend_4 : decode cX8_mend 4 = .ok (.invokevirtual 145, 3) := by decide +kernel
theorem dX8_mend_7 : decode cX8_mend 7 = .ok (.ireturn, 1) := by decide +kernel
theorem dX8_change_0 : decode cX8_change 0 = .ok (.aload_n 0, 1) := by decide +kernel
theorem dX8_change_1 : decode cX8_change 1 = .ok (.iload_n 1, 1) := by decide +kernel
theorem dX8_change_2 : decode cX8_change 2 = .ok (.invokevirtual 96, 3) := by decide +kernel
theorem dX8_change_5 : decode cX8_change 5 = .ok (.ifCond .ne 6, 3) := by decide +kernel
theorem dX8_change_8 : decode cX8_change 8 = .ok (.bipush (-101), 2) := by decide +kernel
theorem dX8_change_10 : decode cX8_change 10 = .ok (.ireturn, 1) := by decide +kernel
theorem dX8_change_11 : decode cX8_change 11 = .ok (.iload_n 2, 1) := by decide +kernel
theorem dX8_change_12 : decode cX8_change 12 = .ok (.invokestatic 102, 3) := by decide +kernel
theorem dX8_change_15 : decode cX8_change 15 = .ok (.ifCond .eq 10, 3) := by decide +kernel
theorem dX8_change_18 : decode cX8_change 18 = .ok (.iload_n 3, 1) := by decide +kernel
theorem dX8_change_19 : decode cX8_change 19 = .ok (.invokestatic 148, 3) := by decide +kernel
theorem dX8_change_22 : decode cX8_change 22 = .ok (.ifCond .ne 6, 3) := by decide +kernel
theorem dX8_change_25 : decode cX8_change 25 = .ok (.bipush (-102), 2) := by decide +kernel
theorem dX8_change_27 : decode cX8_change 27 = .ok (.ireturn, 1) := by decide +kernel
theorem dX8_change_28 : decode cX8_change 28 = .ok (.aload_n 0, 1) := by decide +kernel
theorem dX8_change_29 : decode cX8_change 29 = .ok (.getfield 26, 3) := by decide +kernel
theorem dX8_change_32 : decode cX8_change 32 = .ok (.getfield 107, 3) := by decide +kernel
theorem dX8_change_35 : decode cX8_change 35 = .ok (.iload_n 1, 1) := by decide +kernel
theorem dX8_change_36 : decode cX8_change 36 = .ok (.iaload, 1) := by decide +kernel
theorem dX8_change_37 : decode cX8_change 37 = .ok (.istore 4, 2) := by decide +kernel
theorem dX8_change_39 : decode cX8_change 39 = .ok (.aload_n 0, 1) := by decide +kernel
theorem dX8_change_40 : decode cX8_change 40 = .ok (.getfield 26, 3) := by decide +kernel
theorem dX8_change_43 : decode cX8_change 43 = .ok (.getfield 107, 3) := by decide +kernel
theorem dX8_change_46 : decode cX8_change 46 = .ok (.iload_n 1, 1) := by decide +kernel
theorem dX8_change_47 : decode cX8_change 47 = .ok (.iload_n 2, 1) := by decide +kernel
theorem dX8_change_48 : decode cX8_change 48 = .ok (.iastore, 1) := by decide +kernel
theorem dX8_change_49 : decode cX8_change 49 = .ok (.aload_n 0, 1) := by decide +kernel
theorem dX8_change_50 : decode cX8_change 50 = .ok (.getfield 26, 3) := by decide +kernel
theorem dX8_change_53 : decode cX8_change 53 = .ok (.getfield 151, 3) := by decide +kernel
theorem dX8_change_56 : decode cX8_change 56 = .ok (.iload_n 1, 1) := by decide +kernel
theorem dX8_change_57 : decode cX8_change 57 = .ok (.iload_n 3, 1) := by decide +kernel
theorem dX8_change_58 : decode cX8_change 58 = .ok (.iastore, 1) := by decide +kernel
theorem dX8_change_59 : decode cX8_change 59 = .ok (.iload 4, 2) := by decide +kernel
theorem dX8_change_61 : decode cX8_change 61 = .ok (.ireturn, 1) := by decide +kernel
theorem dX8_best_0 : decode cX8_best 0 = .ok (.aload_n 0, 1) := by decide +kernel
theorem dX8_best_1 : decode cX8_best 1 = .ok (.invokevirtual 114, 3) := by decide +kernel
theorem dX8_best_4 : decode cX8_best 4 = .ok (.ifCond .eq 17, 3) := by decide +kernel
theorem dX8_best_7 : decode cX8_best 7 = .ok (.aload_n 0, 1) := by decide +kernel
theorem dX8_best_8 : decode cX8_best 8 = .ok (.getfield 43, 3) := by decide +kernel
theorem dX8_best_11 : decode cX8_best 11 = .ok (.aload_n 0, 1) := by decide +kernel
theorem dX8_best_12 : decode cX8_best 12 = .ok (.getfield 26, 3) := by decide +kernel
theorem dX8_best_15 : decode cX8_best 15 = .ok (.invokevirtual 154, 3) := by decide +kernel
theorem dX8_best_18 : decode cX8_best 18 = .ok (.goto 5, 3) := by decide +kernel
theorem dX8_best_21 : decode cX8_best 21 = .ok (.bipush (-103), 2) := by decide +kernel
theorem dX8_best_23 : decode cX8_best 23 = .ok (.ireturn, 1) := by decide +kernel
theorem dX8_lay_0 : decode cX8_lay 0 = .ok (.iload_n 1, 1) := by decide +kernel
theorem dX8_lay_1 : decode cX8_lay 1 = .ok (.bipush 10, 2) := by decide +kernel
theorem dX8_lay_3 : decode cX8_lay 3 = .ok (.if_icmp .lt 13, 3) := by decide +kernel
theorem dX8_lay_6 : decode cX8_lay 6 = .ok (.iload_n 1, 1) := by decide +kernel
theorem dX8_lay_7 : decode cX8_lay 7 = .ok (.bipush 16, 2) := by decide +kernel
theorem dX8_lay_9 : decode cX8_lay 9 = .ok (.if_icmp .ge 7, 3) := by decide +kernel
theorem dX8_lay_12 : decode cX8_lay 12 = .ok (.iconst 1, 1) := by decide +kernel
theorem dX8_lay_13 : decode cX8_lay 13 = .ok (.goto 4, 3) := by decide +kernel
theorem dX8_lay_16 : decode cX8_lay 16 = .ok (.iconst 0, 1) := by decide +kernel
theorem dX8_lay_17 : decode cX8_lay 17 = .ok (.istore_n 2, 1) := by decide +kernel
theorem dX8_lay_18 : decode cX8_lay 18 = .ok (.iload_n 1, 1) := by decide +kernel
theorem dX8_lay_19 : decode cX8_lay 19 = .ok (.ifCond .eq 15, 3) := by decide +kernel
theorem dX8_lay_22 : decode cX8_lay 22 = .ok (.iload_n 1, 1) := by decide +kernel
theorem dX8_lay_23 : decode cX8_lay 23 = .ok (.iconst 1, 1) := by decide +kernel
theorem dX8_lay_24 : decode cX8_lay 24 = .ok (.if_icmp .eq 10, 3) := by decide +kernel
theorem dX8_lay_27 : decode cX8_lay 27 = .ok (.iload_n 2, 1) := by decide +kernel
theorem dX8_lay_28 : decode cX8_lay 28 = .ok (.ifCond .ne 6, 3) := by decide +kernel
theorem dX8_lay_31 : decode cX8_lay 31 = .ok (.bipush (-102), 2) := by decide +kernel
theorem dX8_lay_33 : decode cX8_lay 33 = .ok (.ireturn, 1) := by decide +kernel
theorem dX8_lay_34 : decode cX8_lay 34 = .ok (.aload_n 0, 1) := by decide +kernel
theorem dX8_lay_35 : decode cX8_lay 35 = .ok (.invokevirtual 114, 3) := by decide +kernel
theorem dX8_lay_38 : decode cX8_lay 38 = .ok (.ifCond .eq 12, 3) := by decide +kernel
theorem dX8_lay_41 : decode cX8_lay 41 = .ok (.aload_n 0, 1) := by decide +kernel
theorem dX8_lay_42 : decode cX8_lay 42 = .ok (.getfield 157, 3) := by decide +kernel
theorem dX8_lay_45 : decode cX8_lay 45 = .ok (.bipush 20, 2) := by decide +kernel
theorem dX8_lay_47 : decode cX8_lay 47 = .ok (.if_icmp .lt 6, 3) := by decide +kernel
theorem dX8_lay_50 : decode cX8_lay 50 = .ok (.bipush (-103), 2) := by decide +kernel
theorem dX8_lay_52 : decode cX8_lay 52 = .ok (.ireturn, 1) := by decide +kernel
theorem dX8_lay_53 : decode cX8_lay 53 = .ok (.aload_n 0, 1) := by decide +kernel
theorem dX8_lay_54 : decode cX8_lay 54 = .ok (.dup, 1) := by decide +kernel
theorem dX8_lay_55 : decode cX8_lay 55 = .ok (.getfield 157, 3) := by decide +kernel
theorem dX8_lay_58 : decode cX8_lay 58 = .ok (.iconst 1, 1) := by decide +kernel
theorem dX8_lay_59 : decode cX8_lay 59 = .ok (.iadd, 1) := by decide +kernel
theorem dX8_lay_60 : decode cX8_lay 60 = .ok (.putfield 157, 3) := by decide +kernel
theorem dX8_lay_63 : decode cX8_lay 63 = .ok (.aload_n 0, 1) := by decide +kernel
theorem dX8_lay_64 : decode cX8_lay 64 = .ok (.getfield 43, 3) := by decide +kernel
theorem dX8_lay_67 : decode cX8_lay 67 = .ok (.aload_n 0, 1) := by decide +kernel
theorem dX8_lay_68 : decode cX8_lay 68 = .ok (.getfield 26, 3) := by decide +kernel
theorem dX8_lay_71 : decode cX8_lay 71 = .ok (.invokevirtual 160, 3) := by decide +kernel
theorem dX8_lay_74 : decode cX8_lay 74 = .ok (.iload_n 2, 1) := by decide +kernel
theorem dX8_lay_75 : decode cX8_lay 75 = .ok (.ifCond .eq 16, 3) := by decide +kernel
theorem dX8_lay_78 : decode cX8_lay 78 = .ok (.aload_n 0, 1) := by decide +kernel
theorem dX8_lay_79 : decode cX8_lay 79 = .ok (.getfield 43, 3) := by decide +kernel
theorem dX8_lay_82 : decode cX8_lay 82 = .ok (.getfield 163, 3) := by decide +kernel
theorem dX8_lay_85 : decode cX8_lay 85 = .ok (.iload_n 1, 1) := by decide +kernel
theorem dX8_lay_86 : decode cX8_lay 86 = .ok (.bipush 10, 2) := by decide +kernel
theorem dX8_lay_88 : decode cX8_lay 88 = .ok (.isub, 1) := by decide +kernel
theorem dX8_lay_89 : decode cX8_lay 89 = .ok (.iaload, 1) := by decide +kernel
theorem dX8_lay_90 : decode cX8_lay 90 = .ok (.ireturn, 1) := by decide +kernel
theorem dX8_lay_91 : decode cX8_lay 91 = .ok (.iload_n 1, 1) := by decide +kernel
theorem dX8_lay_92 : decode cX8_lay 92 = .ok (.ifCond .ne 13, 3) := by decide +kernel
theorem dX8_lay_95 : decode cX8_lay 95 = .ok (.aload_n 0, 1) := by decide +kernel
theorem dX8_lay_96 : decode cX8_lay 96 = .ok (.getfield 43, 3) := by decide +kernel
theorem dX8_lay_99 : decode cX8_lay 99 = .ok (.getfield 166, 3) := by decide +kernel
theorem dX8_lay_102 : decode cX8_lay 102 = .ok (.goto 10, 3) := by decide +kernel
theorem dX8_lay_105 : decode cX8_lay 105 = .ok (.aload_n 0, 1) := by decide +kernel
theorem dX8_lay_106 : decode cX8_lay 106 = .ok (.getfield 43, 3) := by decide +kernel
theorem dX8_lay_109 : decode cX8_lay 109 = .ok (.getfield 169, 3) := by decide +kernel
theorem dX8_lay_112 : decode cX8_lay 112 = .ok (.ireturn, 1) := by decide +kernel
theorem dX8_even_0 : decode cX8_even 0 = .ok (.aload_n 0, 1) := by decide +kernel
theorem dX8_even_1 : decode cX8_even 1 = .ok (.invokevirtual 114, 3) := by decide +kernel
theorem dX8_even_4 : decode cX8_even 4 = .ok (.ifCond .eq 17, 3) := by decide +kernel
theorem dX8_even_7 : decode cX8_even 7 = .ok (.aload_n 0, 1) := by decide +kernel
theorem dX8_even_8 : decode cX8_even 8 = .ok (.getfield 50, 3) := by decide +kernel
theorem dX8_even_11 : decode cX8_even 11 = .ok (.aload_n 0, 1) := by decide +kernel
theorem dX8_even_12 : decode cX8_even 12 = .ok (.getfield 26, 3) := by decide +kernel
theorem dX8_even_15 : decode cX8_even 15 = .ok (.invokevirtual 172, 3) := by decide +kernel
theorem dX8_even_18 : decode cX8_even 18 = .ok (.goto 5, 3) := by decide +kernel
theorem dX8_even_21 : decode cX8_even 21 = .ok (.bipush (-103), 2) := by decide +kernel
theorem dX8_even_23 : decode cX8_even 23 = .ok (.ireturn, 1) := by decide +kernel
theorem dX8_odds_0 : decode cX8_odds 0 = .ok (.iload_n 1, 1) := by decide +kernel
theorem dX8_odds_1 : decode cX8_odds 1 = .ok (.ifCond .eq 11, 3) := by decide +kernel
theorem dX8_odds_4 : decode cX8_odds 4 = .ok (.iload_n 1, 1) := by decide +kernel
theorem dX8_odds_5 : decode cX8_odds 5 = .ok (.iconst 1, 1) := by decide +kernel
theorem dX8_odds_6 : decode cX8_odds 6 = .ok (.if_icmp .eq 6, 3) := by decide +kernel
theorem dX8_odds_9 : decode cX8_odds 9 = .ok (.bipush (-102), 2) := by decide +kernel
theorem dX8_odds_11 : decode cX8_odds 11 = .ok (.ireturn, 1) := by decide +kernel
theorem dX8_odds_12 : decode cX8_odds 12 = .ok (.aload_n 0, 1) := by decide +kernel
theorem dX8_odds_13 : decode cX8_odds 13 = .ok (.invokevirtual 114, 3) := by decide +kernel
theorem dX8_odds_16 : decode cX8_odds 16 = .ok (.ifCond .ne 6, 3) := by decide +kernel
theorem dX8_odds_19 : decode cX8_odds 19 = .ok (.bipush (-103), 2) := by decide +kernel
theorem dX8_odds_21 : decode cX8_odds 21 = .ok (.ireturn, 1) := by decide +kernel
theorem dX8_odds_22 : decode cX8_odds 22 = .ok (.aload_n 0, 1) := by decide +kernel
theorem dX8_odds_23 : decode cX8_odds 23 = .ok (.getfield 43, 3) := by decide +kernel
theorem dX8_odds_26 : decode cX8_odds 26 = .ok (.aload_n 0, 1) := by decide +kernel
theorem dX8_odds_27 : decode cX8_odds 27 = .ok (.getfield 26, 3) := by decide +kernel
theorem dX8_odds_30 : decode cX8_odds 30 = .ok (.invokevirtual 175, 3) := by decide +kernel
theorem dX8_odds_33 : decode cX8_odds 33 = .ok (.iload_n 1, 1) := by decide +kernel
theorem dX8_odds_34 : decode cX8_odds 34 = .ok (.ifCond .ne 13, 3) := by decide +kernel
theorem dX8_odds_37 : decode cX8_odds 37 = .ok (.aload_n 0, 1) := by decide +kernel
theorem dX8_odds_38 : decode cX8_odds 38 = .ok (.getfield 43, 3) := by decide +kernel
theorem dX8_odds_41 : decode cX8_odds 41 = .ok (.getfield 178, 3) := by decide +kernel
theorem dX8_odds_44 : decode cX8_odds 44 = .ok (.goto 10, 3) := by decide +kernel
theorem dX8_odds_47 : decode cX8_odds 47 = .ok (.aload_n 0, 1) := by decide +kernel
theorem dX8_odds_48 : decode cX8_odds 48 = .ok (.getfield 43, 3) := by decide +kernel
theorem dX8_odds_51 : decode cX8_odds 51 = .ok (.getfield 181, 3) := by decide +kernel
theorem dX8_odds_54 : decode cX8_odds 54 = .ok (.ireturn, 1) := by decide +kernel
theorem dX8_see_0 : decode cX8_see 0 = .ok (.aload_n 0, 1) := by decide +kernel
theorem dX8_see_1 : decode cX8_see 1 = .ok (.iload_n 1, 1) := by decide +kernel
theorem dX8_see_2 : decode cX8_see 2 = .ok (.invokevirtual 96, 3) := by decide +kernel
theorem dX8_see_5 : decode cX8_see 5 = .ok (.ifCond .eq 11, 3) := by decide +kernel
theorem dX8_see_8 : decode cX8_see 8 = .ok (.aload_n 0, 1) := by decide +kernel
theorem dX8_see_9 : decode cX8_see 9 = .ok (.iload_n 2, 1) := by decide +kernel
theorem dX8_see_10 : decode cX8_see 10 = .ok (.invokevirtual 84, 3) := by decide +kernel
theorem dX8_see_13 : decode cX8_see 13 = .ok (.ifCond .ne 6, 3) := by decide +kernel
theorem dX8_see_16 : decode cX8_see 16 = .ok (.bipush (-101), 2) := by decide +kernel
theorem dX8_see_18 : decode cX8_see 18 = .ok (.ireturn, 1) := by decide +kernel
theorem dX8_see_19 : decode cX8_see 19 = .ok (.iload_n 3, 1) := by decide +kernel
theorem dX8_see_20 : decode cX8_see 20 = .ok (.invokestatic 148, 3) := by decide +kernel
theorem dX8_see_23 : decode cX8_see 23 = .ok (.ifCond .eq 14, 3) := by decide +kernel
theorem dX8_see_26 : decode cX8_see 26 = .ok (.iload 4, 2) := by decide +kernel
theorem dX8_see_28 : decode cX8_see 28 = .ok (.ifCond .lt 9, 3) := by decide +kernel
theorem dX8_see_31 : decode cX8_see 31 = .ok (.iload 4, 2) := by decide +kernel
theorem dX8_see_33 : decode cX8_see 33 = .ok (.iconst 2, 1) := by decide +kernel
theorem dX8_see_34 : decode cX8_see 34 = .ok (.if_icmp .le 6, 3) := by decide +kernel
theorem dX8_see_37 : decode cX8_see 37 = .ok (.bipush (-102), 2) := by decide +kernel
theorem dX8_see_39 : decode cX8_see 39 = .ok (.ireturn, 1) := by decide +kernel
theorem dX8_see_40 : decode cX8_see 40 = .ok (.aload_n 0, 1) := by decide +kernel
theorem dX8_see_41 : decode cX8_see 41 = .ok (.getfield 26, 3) := by decide +kernel
theorem dX8_see_44 : decode cX8_see 44 = .ok (.getfield 186, 3) := by decide +kernel
theorem dX8_see_47 : decode cX8_see 47 = .ok (.getfield 190, 3) := by decide +kernel
theorem dX8_see_50 : decode cX8_see 50 = .ok (.bipush 6, 2) := by decide +kernel
theorem dX8_see_52 : decode cX8_see 52 = .ok (.if_icmp .lt 6, 3) := by decide +kernel
theorem dX8_see_55 : decode cX8_see 55 = .ok (.bipush (-104), 2) := by decide +kernel
theorem dX8_see_57 : decode cX8_see 57 = .ok (.ireturn, 1) := by decide +kernel
theorem dX8_see_58 : decode cX8_see 58 = .ok (.aload_n 0, 1) := by decide +kernel
theorem dX8_see_59 : decode cX8_see 59 = .ok (.getfield 26, 3) := by decide +kernel
theorem dX8_see_62 : decode cX8_see 62 = .ok (.getfield 186, 3) := by decide +kernel
theorem dX8_see_65 : decode cX8_see 65 = .ok (.iload_n 1, 1) := by decide +kernel
theorem dX8_see_66 : decode cX8_see 66 = .ok (.iload_n 2, 1) := by decide +kernel
theorem dX8_see_67 : decode cX8_see 67 = .ok (.iload_n 3, 1) := by decide +kernel
theorem dX8_see_68 : decode cX8_see 68 = .ok (.iload 4, 2) := by decide +kernel
theorem dX8_see_70 : decode cX8_see 70 = .ok (.invokevirtual 193, 3) := by decide +kernel
theorem dX8_see_73 : decode cX8_see 73 = .ok (.aload_n 0, 1) := by decide +kernel
theorem dX8_see_74 : decode cX8_see 74 = .ok (.getfield 26, 3) := by decide +kernel
theorem dX8_see_77 : decode cX8_see 77 = .ok (.getfield 186, 3) := by decide +kernel
theorem dX8_see_80 : decode cX8_see 80 = .ok (.getfield 190, 3) := by decide +kernel
theorem dX8_see_83 : decode cX8_see 83 = .ok (.ireturn, 1) := by decide +kernel
theorem dX8_forget_0 : decode cX8_forget 0 = .ok (.aload_n 0, 1) := by decide +kernel
theorem dX8_forget_1 : decode cX8_forget 1 = .ok (.getfield 26, 3) := by decide +kernel
theorem dX8_forget_4 : decode cX8_forget 4 = .ok (.getfield 186, 3) := by decide +kernel
theorem dX8_forget_7 : decode cX8_forget 7 = .ok (.getfield 190, 3) := by decide +kernel
theorem dX8_forget_10 : decode cX8_forget 10 = .ok (.istore_n 1, 1) := by decide +kernel
theorem dX8_forget_11 : decode cX8_forget 11 = .ok (.aload_n 0, 1) := by decide +kernel
theorem dX8_forget_12 : decode cX8_forget 12 = .ok (.getfield 26, 3) := by decide +kernel
theorem dX8_forget_15 : decode cX8_forget 15 = .ok (.getfield 186, 3) := by decide +kernel
theorem dX8_forget_18 : decode cX8_forget 18 = .ok (.iconst 0, 1) := by decide +kernel
theorem dX8_forget_19 : decode cX8_forget 19 = .ok (.putfield 190, 3) := by decide +kernel
theorem dX8_forget_22 : decode cX8_forget 22 = .ok (.iload_n 1, 1) := by decide +kernel
theorem dX8_forget_23 : decode cX8_forget 23 = .ok (.ireturn, 1) := by decide +kernel
theorem dX8_trial_0 : decode cX8_trial 0 = .ok (.aload_n 0, 1) := by decide +kernel
theorem dX8_trial_1 : decode cX8_trial 1 = .ok (.iload_n 1, 1) := by decide +kernel
theorem dX8_trial_2 : decode cX8_trial 2 = .ok (.invokevirtual 96, 3) := by decide +kernel
theorem dX8_trial_5 : decode cX8_trial 5 = .ok (.ifCond .eq 11, 3) := by decide +kernel
theorem dX8_trial_8 : decode cX8_trial 8 = .ok (.aload_n 0, 1) := by decide +kernel
theorem dX8_trial_9 : decode cX8_trial 9 = .ok (.iload_n 2, 1) := by decide +kernel
theorem dX8_trial_10 : decode cX8_trial 10 = .ok (.invokevirtual 84, 3) := by decide +kernel
theorem dX8_trial_13 : decode cX8_trial 13 = .ok (.ifCond .ne 6, 3) := by decide +kernel
theorem dX8_trial_16 : decode cX8_trial 16 = .ok (.bipush (-101), 2) := by decide +kernel
theorem dX8_trial_18 : decode cX8_trial 18 = .ok (.ireturn, 1) := by decide +kernel
theorem dX8_trial_19 : decode cX8_trial 19 = .ok (.aload_n 0, 1) := by decide +kernel
theorem dX8_trial_20 : decode cX8_trial 20 = .ok (.getfield 26, 3) := by decide +kernel
theorem dX8_trial_23 : decode cX8_trial 23 = .ok (.getfield 186, 3) := by decide +kernel
theorem dX8_trial_26 : decode cX8_trial 26 = .ok (.aload_n 0, 1) := by decide +kernel
theorem dX8_trial_27 : decode cX8_trial 27 = .ok (.getfield 26, 3) := by decide +kernel
theorem dX8_trial_30 : decode cX8_trial 30 = .ok (.iload_n 1, 1) := by decide +kernel
theorem dX8_trial_31 : decode cX8_trial 31 = .ok (.iload_n 2, 1) := by decide +kernel
theorem dX8_trial_32 : decode cX8_trial 32 = .ok (.invokevirtual 197, 3) := by decide +kernel
theorem dX8_trial_35 : decode cX8_trial 35 = .ok (.ireturn, 1) := by decide +kernel
theorem dX8_evenings_0 : decode cX8_evenings 0 = .ok (.iload_n 1, 1) := by decide +kernel
theorem dX8_evenings_1 : decode cX8_evenings 1 = .ok (.iconst 1, 1) := by decide +kernel
theorem dX8_evenings_2 : decode cX8_evenings 2 = .ok (.if_icmp .lt 22, 3) := by decide +kernel
theorem dX8_evenings_5 : decode cX8_evenings 5 = .ok (.iload_n 1, 1) := by decide +kernel
theorem dX8_evenings_6 : decode cX8_evenings 6 = .ok (.bipush 60, 2) := by decide +kernel
theorem dX8_evenings_8 : decode cX8_evenings 8 = .ok (.if_icmp .gt 16, 3) := by decide +kernel
theorem dX8_evenings_11 : decode cX8_evenings 11 = .ok (.iload_n 2, 1) := by decide +kernel
theorem dX8_evenings_12 : decode cX8_evenings 12 = .ok (.ifCond .lt 12, 3) := by decide +kernel
theorem dX8_evenings_15 : decode cX8_evenings 15 = .ok (.iload_n 3, 1) := by decide +kernel
theorem dX8_evenings_16 : decode cX8_evenings 16 = .ok (.ifCond .lt 8, 3) := by decide +kernel
theorem dX8_evenings_19 : decode cX8_evenings 19 = .ok (.iload_n 3, 1) := by decide +kernel
theorem dX8_evenings_20 : decode cX8_evenings 20 = .ok (.iconst 2, 1) := by decide +kernel
theorem dX8_evenings_21 : decode cX8_evenings 21 = .ok (.if_icmp .le 6, 3) := by decide +kernel
theorem dX8_evenings_24 : decode cX8_evenings 24 = .ok (.bipush (-102), 2) := by decide +kernel
theorem dX8_evenings_26 : decode cX8_evenings 26 = .ok (.ireturn, 1) := by decide +kernel
theorem dX8_evenings_27 : decode cX8_evenings 27 = .ok (.aload_n 0, 1) := by decide +kernel
theorem dX8_evenings_28 : decode cX8_evenings 28 = .ok (.invokevirtual 114, 3) := by decide +kernel
theorem dX8_evenings_31 : decode cX8_evenings 31 = .ok (.ifCond .ne 6, 3) := by decide +kernel
theorem dX8_evenings_34 : decode cX8_evenings 34 = .ok (.bipush (-103), 2) := by decide +kernel
theorem dX8_evenings_36 : decode cX8_evenings 36 = .ok (.ireturn, 1) := by decide +kernel
theorem dX8_evenings_37 : decode cX8_evenings 37 = .ok (.aload_n 0, 1) := by decide +kernel
theorem dX8_evenings_38 : decode cX8_evenings 38 = .ok (.getfield 50, 3) := by decide +kernel
theorem dX8_evenings_41 : decode cX8_evenings 41 = .ok (.aload_n 0, 1) := by decide +kernel
theorem dX8_evenings_42 : decode cX8_evenings 42 = .ok (.getfield 26, 3) := by decide +kernel
theorem dX8_evenings_45 : decode cX8_evenings 45 = .ok (.iload_n 1, 1) := by decide +kernel
theorem dX8_evenings_46 : decode cX8_evenings 46 = .ok (.iload_n 2, 1) := by decide +kernel
theorem dX8_evenings_47 : decode cX8_evenings 47 = .ok (.invokevirtual 201, 3) := by decide +kernel
theorem dX8_evenings_50 : decode cX8_evenings 50 = .ok (.iload_n 3, 1) := by decide +kernel
theorem dX8_evenings_51 : decode cX8_evenings 51 = .ok (.ifCond .ne 11, 3) := by decide +kernel
theorem dX8_evenings_54 : decode cX8_evenings 54 = .ok (.aload_n 0, 1) := by decide +kernel
theorem dX8_evenings_55 : decode cX8_evenings 55 = .ok (.getfield 50, 3) := by decide +kernel
theorem dX8_evenings_58 : decode cX8_evenings 58 = .ok (.getfield 205, 3) := by decide +kernel
theorem dX8_evenings_61 : decode cX8_evenings 61 = .ok (.ireturn, 1) := by decide +kernel
theorem dX8_evenings_62 : decode cX8_evenings 62 = .ok (.iload_n 3, 1) := by decide +kernel
theorem dX8_evenings_63 : decode cX8_evenings 63 = .ok (.iconst 1, 1) := by decide +kernel
theorem dX8_evenings_64 : decode cX8_evenings 64 = .ok (.if_icmp .ne 17, 3) := by decide +kernel
theorem dX8_evenings_67 : decode cX8_evenings 67 = .ok (.aload_n 0, 1) := by decide +kernel
theorem dX8_evenings_68 : decode cX8_evenings 68 = .ok (.getfield 50, 3) := by decide +kernel
theorem dX8_evenings_71 : decode cX8_evenings 71 = .ok (.getfield 208, 3) := by decide +kernel
theorem dX8_evenings_74 : decode cX8_evenings 74 = .ok (.sipush 10000, 3) := by decide +kernel
theorem dX8_evenings_77 : decode cX8_evenings 77 = .ok (.iadd, 1) := by decide +kernel
theorem dX8_evenings_78 : decode cX8_evenings 78 = .ok (.goto 10, 3) := by decide +kernel
theorem dX8_evenings_81 : decode cX8_evenings 81 = .ok (.aload_n 0, 1) := by decide +kernel
theorem dX8_evenings_82 : decode cX8_evenings 82 = .ok (.getfield 50, 3) := by decide +kernel
theorem dX8_evenings_85 : decode cX8_evenings 85 = .ok (.getfield 211, 3) := by decide +kernel
theorem dX8_evenings_88 : decode cX8_evenings 88 = .ok (.ireturn, 1) := by decide +kernel
theorem dX8_image_0 : decode cX8_image 0 = .ok (.aload_n 0, 1) := by decide +kernel
theorem dX8_image_1 : decode cX8_image 1 = .ok (.invokevirtual 114, 3) := by decide +kernel
theorem dX8_image_4 : decode cX8_image 4 = .ok (.ifCond .ne 6, 3) := by decide +kernel
theorem dX8_image_7 : decode cX8_image 7 = .ok (.bipush (-103), 2) := by decide +kernel
theorem dX8_image_9 : decode cX8_image 9 = .ok (.ireturn, 1) := by decide +kernel
theorem dX8_image_10 : decode cX8_image 10 = .ok (.aload_n 0, 1) := by decide +kernel
theorem dX8_image_11 : decode cX8_image 11 = .ok (.getfield 30, 3) := by decide +kernel
theorem dX8_image_14 : decode cX8_image 14 = .ok (.aload_n 0, 1) := by decide +kernel
theorem dX8_image_15 : decode cX8_image 15 = .ok (.getfield 26, 3) := by decide +kernel
theorem dX8_image_18 : decode cX8_image 18 = .ok (.invokevirtual 214, 3) := by decide +kernel
theorem dX8_image_21 : decode cX8_image 21 = .ok (.aload_n 0, 1) := by decide +kernel
theorem dX8_image_22 : decode cX8_image 22 = .ok (.iconst 1, 1) := by decide +kernel
theorem dX8_image_23 : decode cX8_image 23 = .ok (.putfield 74, 3) := by decide +kernel
theorem dX8_image_26 : decode cX8_image 26 = .ok (.aload_n 0, 1) := by decide +kernel
theorem dX8_image_27 : decode cX8_image 27 = .ok (.getfield 26, 3) := by decide +kernel
theorem dX8_image_30 : decode cX8_image 30 = .ok (.getfield 117, 3) := by decide +kernel
theorem dX8_image_33 : decode cX8_image 33 = .ok (.ireturn, 1) := by decide +kernel
theorem dX8_restore_0 : decode cX8_restore 0 = .ok (.aload_n 0, 1) := by decide +kernel
theorem dX8_restore_1 : decode cX8_restore 1 = .ok (.getfield 74, 3) := by decide +kernel
theorem dX8_restore_4 : decode cX8_restore 4 = .ok (.ifCond .ne 6, 3) := by decide +kernel
theorem dX8_restore_7 : decode cX8_restore 7 = .ok (.bipush (-103), 2) := by decide +kernel
theorem dX8_restore_9 : decode cX8_restore 9 = .ok (.ireturn, 1) := by decide +kernel
theorem dX8_restore_10 : decode cX8_restore 10 = .ok (.aload_n 0, 1) := by decide +kernel
theorem dX8_restore_11 : decode cX8_restore 11 = .ok (.getfield 26, 3) := by decide +kernel
theorem dX8_restore_14 : decode cX8_restore 14 = .ok (.aload_n 0, 1) := by decide +kernel
theorem dX8_restore_15 : decode cX8_restore 15 = .ok (.getfield 30, 3) := by decide +kernel
theorem dX8_restore_18 : decode cX8_restore 18 = .ok (.invokevirtual 214, 3) := by decide +kernel
theorem dX8_restore_21 : decode cX8_restore 21 = .ok (.aload_n 0, 1) := by decide +kernel
theorem dX8_restore_22 : decode cX8_restore 22 = .ok (.getfield 26, 3) := by decide +kernel
theorem dX8_restore_25 : decode cX8_restore 25 = .ok (.getfield 117, 3) := by decide +kernel
theorem dX8_restore_28 : decode cX8_restore 28 = .ok (.ireturn, 1) := by decide +kernel
theorem dX8_count_0 : decode cX8_count 0 = .ok (.iload_n 1, 1) := by decide +kernel
theorem dX8_count_1 : decode cX8_count 1 = .ok (.ifCond .lt 9, 3) := by decide +kernel
theorem dX8_count_4 : decode cX8_count 4 = .ok (.iload_n 1, 1) := by decide +kernel
theorem dX8_count_5 : decode cX8_count 5 = .ok (.bipush 11, 2) := by decide +kernel
theorem dX8_count_7 : decode cX8_count 7 = .ok (.if_icmp .lt 6, 3) := by decide +kernel
theorem dX8_count_10 : decode cX8_count 10 = .ok (.bipush (-102), 2) := by decide +kernel
theorem dX8_count_12 : decode cX8_count 12 = .ok (.ireturn, 1) := by decide +kernel
theorem dX8_count_13 : decode cX8_count 13 = .ok (.aload_n 0, 1) := by decide +kernel
theorem dX8_count_14 : decode cX8_count 14 = .ok (.getfield 36, 3) := by decide +kernel
theorem dX8_count_17 : decode cX8_count 17 = .ok (.aload_n 0, 1) := by decide +kernel
theorem dX8_count_18 : decode cX8_count 18 = .ok (.getfield 26, 3) := by decide +kernel
theorem dX8_count_21 : decode cX8_count 21 = .ok (.invokevirtual 88, 3) := by decide +kernel
theorem dX8_count_24 : decode cX8_count 24 = .ok (.aload_n 0, 1) := by decide +kernel
theorem dX8_count_25 : decode cX8_count 25 = .ok (.iload_n 1, 1) := by decide +kernel
theorem dX8_count_26 : decode cX8_count 26 = .ok (.invokevirtual 217, 3) := by decide +kernel
theorem dX8_count_29 : decode cX8_count 29 = .ok (.ireturn, 1) := by decide +kernel
theorem dX8_digest_0 : decode cX8_digest 0 = .ok (.ldc2_w 221, 3) := by decide +kernel
theorem dX8_digest_3 : decode cX8_digest 3 = .ok (.lstore_n 1, 1) := by decide +kernel
theorem dX8_digest_4 : decode cX8_digest 4 = .ok (.aload_n 0, 1) := by decide +kernel
theorem dX8_digest_5 : decode cX8_digest 5 = .ok (.getfield 36, 3) := by decide +kernel
theorem dX8_digest_8 : decode cX8_digest 8 = .ok (.aload_n 0, 1) := by decide +kernel
theorem dX8_digest_9 : decode cX8_digest 9 = .ok (.getfield 26, 3) := by decide +kernel
theorem dX8_digest_12 : decode cX8_digest 12 = .ok (.invokevirtual 88, 3) := by decide +kernel
theorem dX8_digest_15 : decode cX8_digest 15 = .ok (.iconst 0, 1) := by decide +kernel
theorem dX8_digest_16 : decode cX8_digest 16 = .ok (.istore_n 3, 1) := by decide +kernel
theorem dX8_digest_17 : decode cX8_digest 17 = .ok (.iload_n 3, 1) := by decide +kernel
theorem dX8_digest_18 : decode cX8_digest 18 = .ok (.aload_n 0, 1) := by decide +kernel
theorem dX8_digest_19 : decode cX8_digest 19 = .ok (.getfield 26, 3) := by decide +kernel
theorem dX8_digest_22 : decode cX8_digest 22 = .ok (.getfield 223, 3) := by decide +kernel
theorem dX8_digest_25 : decode cX8_digest 25 = .ok (.if_icmp .ge 40, 3) := by decide +kernel
theorem dX8_digest_28 : decode cX8_digest 28 = .ok (.iconst 0, 1) := by decide +kernel
theorem dX8_digest_29 : decode cX8_digest 29 = .ok (.istore 4, 2) := by decide +kernel
theorem dX8_digest_31 : decode cX8_digest 31 = .ok (.iload 4, 2) := by decide +kernel
theorem dX8_digest_33 : decode cX8_digest 33 = .ok (.bipush 11, 2) := by decide +kernel
theorem dX8_digest_35 : decode cX8_digest 35 = .ok (.if_icmp .ge 24, 3) := by decide +kernel
theorem dX8_digest_38 : decode cX8_digest 38 = .ok (.ldc2_w 226, 3) := by decide +kernel
theorem dX8_digest_41 : decode cX8_digest 41 = .ok (.lload_n 1, 1) := by decide +kernel
theorem dX8_digest_42 : decode cX8_digest 42 = .ok (.lmul, 1) := by decide +kernel
theorem dX8_digest_43 : decode cX8_digest 43 = .ok (.aload_n 0, 1) := by decide +kernel
theorem dX8_digest_44 : decode cX8_digest 44 = .ok (.iload_n 3, 1) := by decide +kernel
theorem dX8_digest_45 : decode cX8_digest 45 = .ok (.iload 4, 2) := by decide +kernel
theorem dX8_digest_47 : decode cX8_digest 47 = .ok (.invokevirtual 92, 3) := by decide +kernel
theorem dX8_digest_50 : decode cX8_digest 50 = .ok (.i2l, 1) := by decide +kernel
theorem dX8_digest_51 : decode cX8_digest 51 = .ok (.ladd, 1) := by decide +kernel
theorem dX8_digest_52 : decode cX8_digest 52 = .ok (.lstore_n 1, 1) := by decide +kernel
theorem dX8_digest_53 : decode cX8_digest 53 = .ok (.iinc 4 1, 3) := by decide +kernel
theorem dX8_digest_56 : decode cX8_digest 56 = .ok (.goto (-25), 3) := by decide +kernel
theorem dX8_digest_59 : decode cX8_digest 59 = .ok (.iinc 3 1, 3) := by decide +kernel
theorem dX8_digest_62 : decode cX8_digest 62 = .ok (.goto (-45), 3) := by decide +kernel
theorem dX8_digest_65 : decode cX8_digest 65 = .ok (.iconst 0, 1) := by decide +kernel
theorem dX8_digest_66 : decode cX8_digest 66 = .ok (.istore_n 3, 1) := by decide +kernel
theorem dX8_digest_67 : decode cX8_digest 67 = .ok (.iload_n 3, 1) := by decide +kernel
theorem dX8_digest_68 : decode cX8_digest 68 = .ok (.aload_n 0, 1) := by decide +kernel
theorem dX8_digest_69 : decode cX8_digest 69 = .ok (.getfield 26, 3) := by decide +kernel
theorem dX8_digest_72 : decode cX8_digest 72 = .ok (.getfield 81, 3) := by decide +kernel
theorem dX8_digest_75 : decode cX8_digest 75 = .ok (.if_icmp .ge 64, 3) := by decide +kernel
theorem dX8_digest_78 : decode cX8_digest 78 = .ok (.iconst 0, 1) := by decide +kernel
theorem dX8_digest_79 : decode cX8_digest 79 = .ok (.istore 4, 2) := by decide +kernel
theorem dX8_digest_81 : decode cX8_digest 81 = .ok (.iload 4, 2) := by decide +kernel
theorem dX8_digest_83 : decode cX8_digest 83 = .ok (.bipush 7, 2) := by decide +kernel
theorem dX8_digest_85 : decode cX8_digest 85 = .ok (.if_icmp .ge 24, 3) := by decide +kernel
theorem dX8_digest_88 : decode cX8_digest 88 = .ok (.ldc2_w 226, 3) := by decide +kernel
theorem dX8_digest_91 : decode cX8_digest 91 = .ok (.lload_n 1, 1) := by decide +kernel
theorem dX8_digest_92 : decode cX8_digest 92 = .ok (.lmul, 1) := by decide +kernel
theorem dX8_digest_93 : decode cX8_digest 93 = .ok (.aload_n 0, 1) := by decide +kernel
theorem dX8_digest_94 : decode cX8_digest 94 = .ok (.iload_n 3, 1) := by decide +kernel
theorem dX8_digest_95 : decode cX8_digest 95 = .ok (.iload 4, 2) := by decide +kernel
theorem dX8_digest_97 : decode cX8_digest 97 = .ok (.invokevirtual 99, 3) := by decide +kernel
theorem dX8_digest_100 : decode cX8_digest 100 = .ok (.i2l, 1) := by decide +kernel
theorem dX8_digest_101 : decode cX8_digest 101 = .ok (.ladd, 1) := by decide +kernel
theorem dX8_digest_102 : decode cX8_digest 102 = .ok (.lstore_n 1, 1) := by decide +kernel
theorem dX8_digest_103 : decode cX8_digest 103 = .ok (.iinc 4 1, 3) := by decide +kernel
theorem dX8_digest_106 : decode cX8_digest 106 = .ok (.goto (-25), 3) := by decide +kernel
theorem dX8_digest_109 : decode cX8_digest 109 = .ok (.ldc2_w 226, 3) := by decide +kernel
theorem dX8_digest_112 : decode cX8_digest 112 = .ok (.lload_n 1, 1) := by decide +kernel
theorem dX8_digest_113 : decode cX8_digest 113 = .ok (.lmul, 1) := by decide +kernel
theorem dX8_digest_114 : decode cX8_digest 114 = .ok (.aload_n 0, 1) := by decide +kernel
theorem dX8_digest_115 : decode cX8_digest 115 = .ok (.getfield 26, 3) := by decide +kernel
theorem dX8_digest_118 : decode cX8_digest 118 = .ok (.getfield 186, 3) := by decide +kernel
theorem dX8_digest_121 : decode cX8_digest 121 = .ok (.aload_n 0, 1) := by decide +kernel
theorem dX8_digest_122 : decode cX8_digest 122 = .ok (.getfield 26, 3) := by decide +kernel
theorem dX8_digest_125 : decode cX8_digest 125 = .ok (.iload_n 3, 1) := by decide +kernel
theorem dX8_digest_126 : decode cX8_digest 126 = .ok (.iconst 0, 1) := by decide +kernel
theorem dX8_digest_127 : decode cX8_digest 127 = .ok (.invokevirtual 197, 3) := by decide +kernel
theorem dX8_digest_130 : decode cX8_digest 130 = .ok (.i2l, 1) := by decide +kernel
theorem dX8_digest_131 : decode cX8_digest 131 = .ok (.ladd, 1) := by decide +kernel
theorem dX8_digest_132 : decode cX8_digest 132 = .ok (.lstore_n 1, 1) := by decide +kernel
theorem dX8_digest_133 : decode cX8_digest 133 = .ok (.iinc 3 1, 3) := by decide +kernel
theorem dX8_digest_136 : decode cX8_digest 136 = .ok (.goto (-69), 3) := by decide +kernel
theorem dX8_digest_139 : decode cX8_digest 139 = .ok (.aload_n 0, 1) := by decide +kernel
theorem dX8_digest_140 : decode cX8_digest 140 = .ok (.invokevirtual 114, 3) := by decide +kernel
theorem dX8_digest_143 : decode cX8_digest 143 = .ok (.ifCond .eq 68, 3) := by decide +kernel
theorem dX8_digest_146 : decode cX8_digest 146 = .ok (.ldc2_w 226, 3) := by decide +kernel
theorem dX8_digest_149 : decode cX8_digest 149 = .ok (.lload_n 1, 1) := by decide +kernel
theorem dX8_digest_150 : decode cX8_digest 150 = .ok (.lmul, 1) := by decide +kernel
theorem dX8_digest_151 : decode cX8_digest 151 = .ok (.aload_n 0, 1) := by decide +kernel
theorem dX8_digest_152 : decode cX8_digest 152 = .ok (.invokevirtual 228, 3) := by decide +kernel
theorem dX8_digest_155 : decode cX8_digest 155 = .ok (.i2l, 1) := by decide +kernel
theorem dX8_digest_156 : decode cX8_digest 156 = .ok (.ladd, 1) := by decide +kernel
theorem dX8_digest_157 : decode cX8_digest 157 = .ok (.lstore_n 1, 1) := by decide +kernel
theorem dX8_digest_158 : decode cX8_digest 158 = .ok (.ldc2_w 226, 3) := by decide +kernel
theorem dX8_digest_161 : decode cX8_digest 161 = .ok (.lload_n 1, 1) := by decide +kernel
theorem dX8_digest_162 : decode cX8_digest 162 = .ok (.lmul, 1) := by decide +kernel
theorem dX8_digest_163 : decode cX8_digest 163 = .ok (.aload_n 0, 1) := by decide +kernel
theorem dX8_digest_164 : decode cX8_digest 164 = .ok (.invokevirtual 231, 3) := by decide +kernel
theorem dX8_digest_167 : decode cX8_digest 167 = .ok (.i2l, 1) := by decide +kernel
theorem dX8_digest_168 : decode cX8_digest 168 = .ok (.ladd, 1) := by decide +kernel
theorem dX8_digest_169 : decode cX8_digest 169 = .ok (.lstore_n 1, 1) := by decide +kernel
theorem dX8_digest_170 : decode cX8_digest 170 = .ok (.aload_n 0, 1) := by decide +kernel
theorem dX8_digest_171 : decode cX8_digest 171 = .ok (.getfield 43, 3) := by decide +kernel
theorem dX8_digest_174 : decode cX8_digest 174 = .ok (.aload_n 0, 1) := by decide +kernel
theorem dX8_digest_175 : decode cX8_digest 175 = .ok (.getfield 26, 3) := by decide +kernel
theorem dX8_digest_178 : decode cX8_digest 178 = .ok (.invokevirtual 175, 3) := by decide +kernel
theorem dX8_digest_181 : decode cX8_digest 181 = .ok (.ldc2_w 226, 3) := by decide +kernel
theorem dX8_digest_184 : decode cX8_digest 184 = .ok (.lload_n 1, 1) := by decide +kernel
theorem dX8_digest_185 : decode cX8_digest 185 = .ok (.lmul, 1) := by decide +kernel
theorem dX8_digest_186 : decode cX8_digest 186 = .ok (.aload_n 0, 1) := by decide +kernel
theorem dX8_digest_187 : decode cX8_digest 187 = .ok (.getfield 43, 3) := by decide +kernel
theorem dX8_digest_190 : decode cX8_digest 190 = .ok (.getfield 178, 3) := by decide +kernel
theorem dX8_digest_193 : decode cX8_digest 193 = .ok (.i2l, 1) := by decide +kernel
theorem dX8_digest_194 : decode cX8_digest 194 = .ok (.ladd, 1) := by decide +kernel
theorem dX8_digest_195 : decode cX8_digest 195 = .ok (.lstore_n 1, 1) := by decide +kernel
theorem dX8_digest_196 : decode cX8_digest 196 = .ok (.ldc2_w 226, 3) := by decide +kernel
theorem dX8_digest_199 : decode cX8_digest 199 = .ok (.lload_n 1, 1) := by decide +kernel
theorem dX8_digest_200 : decode cX8_digest 200 = .ok (.lmul, 1) := by decide +kernel
theorem dX8_digest_201 : decode cX8_digest 201 = .ok (.aload_n 0, 1) := by decide +kernel
theorem dX8_digest_202 : decode cX8_digest 202 = .ok (.getfield 43, 3) := by decide +kernel
theorem dX8_digest_205 : decode cX8_digest 205 = .ok (.getfield 181, 3) := by decide +kernel
theorem dX8_digest_208 : decode cX8_digest 208 = .ok (.i2l, 1) := by decide +kernel
theorem dX8_digest_209 : decode cX8_digest 209 = .ok (.ladd, 1) := by decide +kernel
theorem dX8_digest_210 : decode cX8_digest 210 = .ok (.lstore_n 1, 1) := by decide +kernel
theorem dX8_digest_211 : decode cX8_digest 211 = .ok (.iconst 0, 1) := by decide +kernel
theorem dX8_digest_212 : decode cX8_digest 212 = .ok (.istore_n 3, 1) := by decide +kernel
theorem dX8_digest_213 : decode cX8_digest 213 = .ok (.iload_n 3, 1) := by decide +kernel
theorem dX8_digest_214 : decode cX8_digest 214 = .ok (.aload_n 0, 1) := by decide +kernel
theorem dX8_digest_215 : decode cX8_digest 215 = .ok (.getfield 12, 3) := by decide +kernel
theorem dX8_digest_218 : decode cX8_digest 218 = .ok (.getfield 54, 3) := by decide +kernel
theorem dX8_digest_221 : decode cX8_digest 221 = .ok (.if_icmp .ge 26, 3) := by decide +kernel
theorem dX8_digest_224 : decode cX8_digest 224 = .ok (.ldc2_w 226, 3) := by decide +kernel
theorem dX8_digest_227 : decode cX8_digest 227 = .ok (.lload_n 1, 1) := by decide +kernel
theorem dX8_digest_228 : decode cX8_digest 228 = .ok (.lmul, 1) := by decide +kernel
theorem dX8_digest_229 : decode cX8_digest 229 = .ok (.aload_n 0, 1) := by decide +kernel
theorem dX8_digest_230 : decode cX8_digest 230 = .ok (.getfield 12, 3) := by decide +kernel
theorem dX8_digest_233 : decode cX8_digest 233 = .ok (.getfield 58, 3) := by decide +kernel
theorem dX8_digest_236 : decode cX8_digest 236 = .ok (.iload_n 3, 1) := by decide +kernel
theorem dX8_digest_237 : decode cX8_digest 237 = .ok (.iaload, 1) := by decide +kernel
theorem dX8_digest_238 : decode cX8_digest 238 = .ok (.i2l, 1) := by decide +kernel
theorem dX8_digest_239 : decode cX8_digest 239 = .ok (.ladd, 1) := by decide +kernel
theorem dX8_digest_240 : decode cX8_digest 240 = .ok (.lstore_n 1, 1) := by decide +kernel
theorem dX8_digest_241 : decode cX8_digest 241 = .ok (.iinc 3 1, 3) := by decide +kernel
theorem dX8_digest_244 : decode cX8_digest 244 = .ok (.goto (-31), 3) := by decide +kernel
theorem dX8_digest_247 : decode cX8_digest 247 = .ok (.iconst 0, 1) := by decide +kernel
theorem dX8_digest_248 : decode cX8_digest 248 = .ok (.istore_n 3, 1) := by decide +kernel
theorem dX8_digest_249 : decode cX8_digest 249 = .ok (.iload_n 3, 1) := by decide +kernel
theorem dX8_digest_250 : decode cX8_digest 250 = .ok (.bipush 11, 2) := by decide +kernel
theorem dX8_digest_252 : decode cX8_digest 252 = .ok (.if_icmp .ge 22, 3) := by decide +kernel
theorem dX8_digest_255 : decode cX8_digest 255 = .ok (.ldc2_w 226, 3) := by decide +kernel
theorem dX8_digest_258 : decode cX8_digest 258 = .ok (.lload_n 1, 1) := by decide +kernel
theorem dX8_digest_259 : decode cX8_digest 259 = .ok (.lmul, 1) := by decide +kernel
theorem dX8_digest_260 : decode cX8_digest 260 = .ok (.aload_n 0, 1) := by decide +kernel
theorem dX8_digest_261 : decode cX8_digest 261 = .ok (.iload_n 3, 1) := by decide +kernel
theorem dX8_digest_262 : decode cX8_digest 262 = .ok (.invokevirtual 217, 3) := by decide +kernel
theorem dX8_digest_265 : decode cX8_digest 265 = .ok (.i2l, 1) := by decide +kernel
theorem dX8_digest_266 : decode cX8_digest 266 = .ok (.ladd, 1) := by decide +kernel
theorem dX8_digest_267 : decode cX8_digest 267 = .ok (.lstore_n 1, 1) := by decide +kernel
theorem dX8_digest_268 : decode cX8_digest 268 = .ok (.iinc 3 1, 3) := by decide +kernel
theorem dX8_digest_271 : decode cX8_digest 271 = .ok (.goto (-22), 3) := by decide +kernel
theorem dX8_digest_274 : decode cX8_digest 274 = .ok (.lload_n 1, 1) := by decide +kernel
theorem dX8_digest_275 : decode cX8_digest 275 = .ok (.lreturn, 1) := by decide +kernel
theorem dX8_hasMobile_0 : decode cX8_hasMobile 0 = .ok (.aload_n 0, 1) := by decide +kernel
theorem dX8_hasMobile_1 : decode cX8_hasMobile 1 = .ok (.getfield 26, 3) := by decide +kernel
theorem dX8_hasMobile_4 : decode cX8_hasMobile 4 = .ok (.getfield 223, 3) := by decide +kernel
theorem dX8_hasMobile_7 : decode cX8_hasMobile 7 = .ok (.ifCond .le 7, 3) := by decide +kernel
theorem dX8_hasMobile_10 : decode cX8_hasMobile 10 = .ok (.iconst 1, 1) := by decide +kernel
theorem dX8_hasMobile_11 : decode cX8_hasMobile 11 = .ok (.goto 4, 3) := by decide +kernel
theorem dX8_hasMobile_14 : decode cX8_hasMobile 14 = .ok (.iconst 0, 1) := by decide +kernel
theorem dX8_hasMobile_15 : decode cX8_hasMobile 15 = .ok (.ireturn, 1) := by decide +kernel
theorem dX8_isRod_0 : decode cX8_isRod 0 = .ok (.iload_n 1, 1) := by decide +kernel
theorem dX8_isRod_1 : decode cX8_isRod 1 = .ok (.ifCond .lt 18, 3) := by decide +kernel
theorem dX8_isRod_4 : decode cX8_isRod 4 = .ok (.iload_n 1, 1) := by decide +kernel
theorem dX8_isRod_5 : decode cX8_isRod 5 = .ok (.aload_n 0, 1) := by decide +kernel
theorem dX8_isRod_6 : decode cX8_isRod 6 = .ok (.getfield 26, 3) := by decide +kernel
theorem dX8_isRod_9 : decode cX8_isRod 9 = .ok (.getfield 223, 3) := by decide +kernel
theorem dX8_isRod_12 : decode cX8_isRod 12 = .ok (.if_icmp .ge 7, 3) := by decide +kernel
theorem dX8_isRod_15 : decode cX8_isRod 15 = .ok (.iconst 1, 1) := by decide +kernel
theorem dX8_isRod_16 : decode cX8_isRod 16 = .ok (.goto 4, 3) := by decide +kernel
theorem dX8_isRod_19 : decode cX8_isRod 19 = .ok (.iconst 0, 1) := by decide +kernel
theorem dX8_isRod_20 : decode cX8_isRod 20 = .ok (.ireturn, 1) := by decide +kernel
theorem dX8_isThing_0 : decode cX8_isThing 0 = .ok (.iload_n 1, 1) := by decide +kernel
theorem dX8_isThing_1 : decode cX8_isThing 1 = .ok (.ifCond .lt 18, 3) := by decide +kernel
theorem dX8_isThing_4 : decode cX8_isThing 4 = .ok (.iload_n 1, 1) := by decide +kernel
theorem dX8_isThing_5 : decode cX8_isThing 5 = .ok (.aload_n 0, 1) := by decide +kernel
theorem dX8_isThing_6 : decode cX8_isThing 6 = .ok (.getfield 26, 3) := by decide +kernel
theorem dX8_isThing_9 : decode cX8_isThing 9 = .ok (.getfield 81, 3) := by decide +kernel
theorem dX8_isThing_12 : decode cX8_isThing 12 = .ok (.if_icmp .ge 7, 3) := by decide +kernel
theorem dX8_isThing_15 : decode cX8_isThing 15 = .ok (.iconst 1, 1) := by decide +kernel
theorem dX8_isThing_16 : decode cX8_isThing 16 = .ok (.goto 4, 3) := by decide +kernel
theorem dX8_isThing_19 : decode cX8_isThing 19 = .ok (.iconst 0, 1) := by decide +kernel
theorem dX8_isThing_20 : decode cX8_isThing 20 = .ok (.ireturn, 1) := by decide +kernel
theorem dX8_isSize_0 : decode cX8_isSize 0 = .ok (.iload_n 0, 1) := by decide +kernel
theorem dX8_isSize_1 : decode cX8_isSize 1 = .ok (.ifCond .lt 13, 3) := by decide +kernel
theorem dX8_isSize_4 : decode cX8_isSize 4 = .ok (.iload_n 0, 1) := by decide +kernel
theorem dX8_isSize_5 : decode cX8_isSize 5 = .ok (.bipush 10, 2) := by decide +kernel
theorem dX8_isSize_7 : decode cX8_isSize 7 = .ok (.if_icmp .ge 7, 3) := by decide +kernel
theorem dX8_isSize_10 : decode cX8_isSize 10 = .ok (.iconst 1, 1) := by decide +kernel
theorem dX8_isSize_11 : decode cX8_isSize 11 = .ok (.goto 4, 3) := by decide +kernel
theorem dX8_isSize_14 : decode cX8_isSize 14 = .ok (.iconst 0, 1) := by decide +kernel
theorem dX8_isSize_15 : decode cX8_isSize 15 = .ok (.ireturn, 1) := by decide +kernel
theorem dX8_levelNow_0 : decode cX8_levelNow 0 = .ok (.aload_n 0, 1) := by decide +kernel
theorem dX8_levelNow_1 : decode cX8_levelNow 1 = .ok (.getfield 36, 3) := by decide +kernel
theorem dX8_levelNow_4 : decode cX8_levelNow 4 = .ok (.aload_n 0, 1) := by decide +kernel
theorem dX8_levelNow_5 : decode cX8_levelNow 5 = .ok (.getfield 26, 3) := by decide +kernel
theorem dX8_levelNow_8 : decode cX8_levelNow 8 = .ok (.invokevirtual 88, 3) := by decide +kernel
theorem dX8_levelNow_11 : decode cX8_levelNow 11 = .ok (.aload_n 0, 1) := by decide +kernel
theorem dX8_levelNow_12 : decode cX8_levelNow 12 = .ok (.getfield 36, 3) := by decide +kernel
theorem dX8_levelNow_15 : decode cX8_levelNow 15 = .ok (.aload_n 0, 1) := by decide +kernel
theorem dX8_levelNow_16 : decode cX8_levelNow 16 = .ok (.getfield 26, 3) := by decide +kernel
theorem dX8_levelNow_19 : decode cX8_levelNow 19 = .ok (.invokevirtual 234, 3) := by decide +kernel
theorem dX8_levelNow_22 : decode cX8_levelNow 22 = .ok (.ireturn, 1) := by decide +kernel
theorem dX8_aboutRod_0 : decode cX8_aboutRod 0 = .ok (.iload_n 2, 1) := by decide +kernel
theorem dX8_aboutRod_1 : decode cX8_aboutRod 1 = .ok (.tableswitch 202 0 9 #[55, 67, 81, 92, 105, 121, 139, 153, 171, 189], 55) := by decide +kernel
theorem dX8_aboutRod_56 : decode cX8_aboutRod 56 = .ok (.aload_n 0, 1) := by decide +kernel
theorem dX8_aboutRod_57 : decode cX8_aboutRod 57 = .ok (.getfield 26, 3) := by decide +kernel
theorem dX8_aboutRod_60 : decode cX8_aboutRod 60 = .ok (.getfield 135, 3) := by decide +kernel
theorem dX8_aboutRod_63 : decode cX8_aboutRod 63 = .ok (.iconst 2, 1) := by decide +kernel
theorem dX8_aboutRod_64 : decode cX8_aboutRod 64 = .ok (.iload_n 1, 1) := by decide +kernel
theorem dX8_aboutRod_65 : decode cX8_aboutRod 65 = .ok (.imul, 1) := by decide +kernel
theorem dX8_aboutRod_66 : decode cX8_aboutRod 66 = .ok (.iaload, 1) := by decide +kernel
theorem dX8_aboutRod_67 : decode cX8_aboutRod 67 = .ok (.ireturn, 1) := by decide +kernel
theorem dX8_aboutRod_68 : decode cX8_aboutRod 68 = .ok (.aload_n 0, 1) := by decide +kernel
theorem dX8_aboutRod_69 : decode cX8_aboutRod 69 = .ok (.getfield 26, 3) := by decide +kernel
theorem dX8_aboutRod_72 : decode cX8_aboutRod 72 = .ok (.getfield 135, 3) := by decide +kernel
theorem dX8_aboutRod_75 : decode cX8_aboutRod 75 = .ok (.iconst 2, 1) := by decide +kernel
theorem dX8_aboutRod_76 : decode cX8_aboutRod 76 = .ok (.iload_n 1, 1) := by decide +kernel
theorem dX8_aboutRod_77 : decode cX8_aboutRod 77 = .ok (.imul, 1) := by decide +kernel
theorem dX8_aboutRod_78 : decode cX8_aboutRod 78 = .ok (.iconst 1, 1) := by decide +kernel
theorem dX8_aboutRod_79 : decode cX8_aboutRod 79 = .ok (.iadd, 1) := by decide +kernel
theorem dX8_aboutRod_80 : decode cX8_aboutRod 80 = .ok (.iaload, 1) := by decide +kernel
theorem dX8_aboutRod_81 : decode cX8_aboutRod 81 = .ok (.ireturn, 1) := by decide +kernel
theorem dX8_aboutRod_82 : decode cX8_aboutRod 82 = .ok (.aload_n 0, 1) := by decide +kernel
theorem dX8_aboutRod_83 : decode cX8_aboutRod 83 = .ok (.getfield 26, 3) := by decide +kernel
theorem dX8_aboutRod_86 : decode cX8_aboutRod 86 = .ok (.iconst 2, 1) := by decide +kernel
theorem dX8_aboutRod_87 : decode cX8_aboutRod 87 = .ok (.iload_n 1, 1) := by decide +kernel
theorem dX8_aboutRod_88 : decode cX8_aboutRod 88 = .ok (.imul, 1) := by decide +kernel
theorem dX8_aboutRod_89 : decode cX8_aboutRod 89 = .ok (.invokevirtual 237, 3) := by decide +kernel
theorem dX8_aboutRod_92 : decode cX8_aboutRod 92 = .ok (.ireturn, 1) := by decide +kernel
theorem dX8_aboutRod_93 : decode cX8_aboutRod 93 = .ok (.aload_n 0, 1) := by decide +kernel
theorem dX8_aboutRod_94 : decode cX8_aboutRod 94 = .ok (.getfield 26, 3) := by decide +kernel
theorem dX8_aboutRod_97 : decode cX8_aboutRod 97 = .ok (.iconst 2, 1) := by decide +kernel
theorem dX8_aboutRod_98 : decode cX8_aboutRod 98 = .ok (.iload_n 1, 1) := by decide +kernel
theorem dX8_aboutRod_99 : decode cX8_aboutRod 99 = .ok (.imul, 1) := by decide +kernel
theorem dX8_aboutRod_100 : decode cX8_aboutRod 100 = .ok (.iconst 1, 1) := by decide +kernel
theorem dX8_aboutRod_101 : decode cX8_aboutRod 101 = .ok (.iadd, 1) := by decide +kernel
theorem dX8_aboutRod_102 : decode cX8_aboutRod 102 = .ok (.invokevirtual 237, 3) := by decide +kernel
theorem dX8_aboutRod_105 : decode cX8_aboutRod 105 = .ok (.ireturn, 1) := by decide +kernel
theorem dX8_aboutRod_106 : decode cX8_aboutRod 106 = .ok (.aload_n 0, 1) := by decide +kernel
theorem dX8_aboutRod_107 : decode cX8_aboutRod 107 = .ok (.getfield 36, 3) := by decide +kernel
theorem dX8_aboutRod_110 : decode cX8_aboutRod 110 = .ok (.getfield 240, 3) := by decide +kernel
theorem dX8_aboutRod_113 : decode cX8_aboutRod 113 = .ok (.iconst 2, 1) := by decide +kernel
theorem dX8_aboutRod_114 : decode cX8_aboutRod 114 = .ok (.iload_n 1, 1) := by decide +kernel
theorem dX8_aboutRod_115 : decode cX8_aboutRod 115 = .ok (.imul, 1) := by decide +kernel
theorem dX8_aboutRod_116 : decode cX8_aboutRod 116 = .ok (.iaload, 1) := by decide +kernel
theorem dX8_aboutRod_117 : decode cX8_aboutRod 117 = .ok (.sipush 10000, 3) := by decide +kernel
theorem dX8_aboutRod_120 : decode cX8_aboutRod 120 = .ok (.iadd, 1) := by decide +kernel
theorem dX8_aboutRod_121 : decode cX8_aboutRod 121 = .ok (.ireturn, 1) := by decide +kernel
theorem dX8_aboutRod_122 : decode cX8_aboutRod 122 = .ok (.aload_n 0, 1) := by decide +kernel
theorem dX8_aboutRod_123 : decode cX8_aboutRod 123 = .ok (.getfield 36, 3) := by decide +kernel
theorem dX8_aboutRod_126 : decode cX8_aboutRod 126 = .ok (.getfield 240, 3) := by decide +kernel
theorem dX8_aboutRod_129 : decode cX8_aboutRod 129 = .ok (.iconst 2, 1) := by decide +kernel
theorem dX8_aboutRod_130 : decode cX8_aboutRod 130 = .ok (.iload_n 1, 1) := by decide +kernel
theorem dX8_aboutRod_131 : decode cX8_aboutRod 131 = .ok (.imul, 1) := by decide +kernel
theorem dX8_aboutRod_132 : decode cX8_aboutRod 132 = .ok (.iconst 1, 1) := by decide +kernel
theorem dX8_aboutRod_133 : decode cX8_aboutRod 133 = .ok (.iadd, 1) := by decide +kernel
theorem dX8_aboutRod_134 : decode cX8_aboutRod 134 = .ok (.iaload, 1) := by decide +kernel
theorem dX8_aboutRod_135 : decode cX8_aboutRod 135 = .ok (.sipush 10000, 3) := by decide +kernel
theorem dX8_aboutRod_138 : decode cX8_aboutRod 138 = .ok (.iadd, 1) := by decide +kernel
theorem dX8_aboutRod_139 : decode cX8_aboutRod 139 = .ok (.ireturn, 1) := by decide +kernel
theorem dX8_aboutRod_140 : decode cX8_aboutRod 140 = .ok (.aload_n 0, 1) := by decide +kernel
theorem dX8_aboutRod_141 : decode cX8_aboutRod 141 = .ok (.getfield 36, 3) := by decide +kernel
theorem dX8_aboutRod_144 : decode cX8_aboutRod 144 = .ok (.getfield 243, 3) := by decide +kernel
theorem dX8_aboutRod_147 : decode cX8_aboutRod 147 = .ok (.iload_n 1, 1) := by decide +kernel
theorem dX8_aboutRod_148 : decode cX8_aboutRod 148 = .ok (.iaload, 1) := by decide +kernel
theorem dX8_aboutRod_149 : decode cX8_aboutRod 149 = .ok (.sipush 10000, 3) := by decide +kernel
theorem dX8_aboutRod_152 : decode cX8_aboutRod 152 = .ok (.iadd, 1) := by decide +kernel
theorem dX8_aboutRod_153 : decode cX8_aboutRod 153 = .ok (.ireturn, 1) := by decide +kernel
theorem dX8_aboutRod_154 : decode cX8_aboutRod 154 = .ok (.aload_n 0, 1) := by decide +kernel
theorem dX8_aboutRod_155 : decode cX8_aboutRod 155 = .ok (.getfield 36, 3) := by decide +kernel
theorem dX8_aboutRod_158 : decode cX8_aboutRod 158 = .ok (.getfield 243, 3) := by decide +kernel
theorem dX8_aboutRod_161 : decode cX8_aboutRod 161 = .ok (.iload_n 1, 1) := by decide +kernel
theorem dX8_aboutRod_162 : decode cX8_aboutRod 162 = .ok (.iaload, 1) := by decide +kernel
theorem dX8_aboutRod_163 : decode cX8_aboutRod 163 = .ok (.ifCond .ne 7, 3) := by decide +kernel
theorem dX8_aboutRod_166 : decode cX8_aboutRod 166 = .ok (.iconst 1, 1) := by decide +kernel
theorem dX8_aboutRod_167 : decode cX8_aboutRod 167 = .ok (.goto 4, 3) := by decide +kernel
theorem dX8_aboutRod_170 : decode cX8_aboutRod 170 = .ok (.iconst 0, 1) := by decide +kernel
theorem dX8_aboutRod_171 : decode cX8_aboutRod 171 = .ok (.ireturn, 1) := by decide +kernel
theorem dX8_aboutRod_172 : decode cX8_aboutRod 172 = .ok (.aload_n 0, 1) := by decide +kernel
theorem dX8_aboutRod_173 : decode cX8_aboutRod 173 = .ok (.getfield 36, 3) := by decide +kernel
theorem dX8_aboutRod_176 : decode cX8_aboutRod 176 = .ok (.getfield 246, 3) := by decide +kernel
theorem dX8_aboutRod_179 : decode cX8_aboutRod 179 = .ok (.iload_n 1, 1) := by decide +kernel
theorem dX8_aboutRod_180 : decode cX8_aboutRod 180 = .ok (.baload, 1) := by decide +kernel
theorem dX8_aboutRod_181 : decode cX8_aboutRod 181 = .ok (.ifCond .eq 7, 3) := by decide +kernel
theorem dX8_aboutRod_184 : decode cX8_aboutRod 184 = .ok (.iconst 1, 1) := by decide +kernel
theorem dX8_aboutRod_185 : decode cX8_aboutRod 185 = .ok (.goto 4, 3) := by decide +kernel
theorem dX8_aboutRod_188 : decode cX8_aboutRod 188 = .ok (.iconst 0, 1) := by decide +kernel
theorem dX8_aboutRod_189 : decode cX8_aboutRod 189 = .ok (.ireturn, 1) := by decide +kernel
theorem dX8_aboutRod_190 : decode cX8_aboutRod 190 = .ok (.aload_n 0, 1) := by decide +kernel
theorem dX8_aboutRod_191 : decode cX8_aboutRod 191 = .ok (.getfield 36, 3) := by decide +kernel
theorem dX8_aboutRod_194 : decode cX8_aboutRod 194 = .ok (.aload_n 0, 1) := by decide +kernel
theorem dX8_aboutRod_195 : decode cX8_aboutRod 195 = .ok (.getfield 26, 3) := by decide +kernel
theorem dX8_aboutRod_198 : decode cX8_aboutRod 198 = .ok (.iload_n 1, 1) := by decide +kernel
theorem dX8_aboutRod_199 : decode cX8_aboutRod 199 = .ok (.invokevirtual 249, 3) := by decide +kernel
theorem dX8_aboutRod_202 : decode cX8_aboutRod 202 = .ok (.ireturn, 1) := by decide +kernel
theorem dX8_aboutRod_203 : decode cX8_aboutRod 203 = .ok (.aload_n 0, 1) := by decide +kernel
theorem dX8_aboutRod_204 : decode cX8_aboutRod 204 = .ok (.getfield 36, 3) := by decide +kernel
theorem dX8_aboutRod_207 : decode cX8_aboutRod 207 = .ok (.aload_n 0, 1) := by decide +kernel
theorem dX8_aboutRod_208 : decode cX8_aboutRod 208 = .ok (.getfield 26, 3) := by decide +kernel
theorem dX8_aboutRod_211 : decode cX8_aboutRod 211 = .ok (.iload_n 1, 1) := by decide +kernel
theorem dX8_aboutRod_212 : decode cX8_aboutRod 212 = .ok (.invokevirtual 253, 3) := by decide +kernel
theorem dX8_aboutRod_215 : decode cX8_aboutRod 215 = .ok (.ireturn, 1) := by decide +kernel
theorem dX8_aboutThing_0 : decode cX8_aboutThing 0 = .ok (.iload_n 2, 1) := by decide +kernel
theorem dX8_aboutThing_1 : decode cX8_aboutThing 1 = .ok (.tableswitch 132 0 5 #[39, 49, 59, 92, 110, 121], 39) := by decide +kernel
theorem dX8_aboutThing_40 : decode cX8_aboutThing 40 = .ok (.aload_n 0, 1) := by decide +kernel
theorem dX8_aboutThing_41 : decode cX8_aboutThing 41 = .ok (.getfield 26, 3) := by decide +kernel
theorem dX8_aboutThing_44 : decode cX8_aboutThing 44 = .ok (.getfield 107, 3) := by decide +kernel
theorem dX8_aboutThing_47 : decode cX8_aboutThing 47 = .ok (.iload_n 1, 1) := by decide +kernel
theorem dX8_aboutThing_48 : decode cX8_aboutThing 48 = .ok (.iaload, 1) := by decide +kernel
theorem dX8_aboutThing_49 : decode cX8_aboutThing 49 = .ok (.ireturn, 1) := by decide +kernel
theorem dX8_aboutThing_50 : decode cX8_aboutThing 50 = .ok (.aload_n 0, 1) := by decide +kernel
theorem dX8_aboutThing_51 : decode cX8_aboutThing 51 = .ok (.getfield 26, 3) := by decide +kernel
theorem dX8_aboutThing_54 : decode cX8_aboutThing 54 = .ok (.getfield 151, 3) := by decide +kernel
theorem dX8_aboutThing_57 : decode cX8_aboutThing 57 = .ok (.iload_n 1, 1) := by decide +kernel
theorem dX8_aboutThing_58 : decode cX8_aboutThing 58 = .ok (.iaload, 1) := by decide +kernel
theorem dX8_aboutThing_59 : decode cX8_aboutThing 59 = .ok (.ireturn, 1) := by decide +kernel
theorem dX8_aboutThing_60 : decode cX8_aboutThing 60 = .ok (.aload_n 0, 1) := by decide +kernel
theorem dX8_aboutThing_61 : decode cX8_aboutThing 61 = .ok (.getfield 26, 3) := by decide +kernel
theorem dX8_aboutThing_64 : decode cX8_aboutThing 64 = .ok (.getfield 107, 3) := by decide +kernel
theorem dX8_aboutThing_67 : decode cX8_aboutThing 67 = .ok (.iload_n 1, 1) := by decide +kernel
theorem dX8_aboutThing_68 : decode cX8_aboutThing 68 = .ok (.iaload, 1) := by decide +kernel
theorem dX8_aboutThing_69 : decode cX8_aboutThing 69 = .ok (.aload_n 0, 1) := by decide +kernel
theorem dX8_aboutThing_70 : decode cX8_aboutThing 70 = .ok (.getfield 26, 3) := by decide +kernel
theorem dX8_aboutThing_73 : decode cX8_aboutThing 73 = .ok (.getfield 151, 3) := by decide +kernel
theorem dX8_aboutThing_76 : decode cX8_aboutThing 76 = .ok (.iload_n 1, 1) := by decide +kernel
theorem dX8_aboutThing_77 : decode cX8_aboutThing 77 = .ok (.iaload, 1) := by decide +kernel
theorem dX8_aboutThing_78 : decode cX8_aboutThing 78 = .ok (.aload_n 0, 1) := by decide +kernel
theorem dX8_aboutThing_79 : decode cX8_aboutThing 79 = .ok (.getfield 26, 3) := by decide +kernel
theorem dX8_aboutThing_82 : decode cX8_aboutThing 82 = .ok (.getfield 117, 3) := by decide +kernel
theorem dX8_aboutThing_85 : decode cX8_aboutThing 85 = .ok (.invokestatic 256, 3) := by decide +kernel
theorem dX8_aboutThing_88 : decode cX8_aboutThing 88 = .ok (.sipush 10000, 3) := by decide +kernel
theorem dX8_aboutThing_91 : decode cX8_aboutThing 91 = .ok (.iadd, 1) := by decide +kernel
theorem dX8_aboutThing_92 : decode cX8_aboutThing 92 = .ok (.ireturn, 1) := by decide +kernel
theorem dX8_aboutThing_93 : decode cX8_aboutThing 93 = .ok (.aload_n 0, 1) := by decide +kernel
theorem dX8_aboutThing_94 : decode cX8_aboutThing 94 = .ok (.getfield 26, 3) := by decide +kernel
theorem dX8_aboutThing_97 : decode cX8_aboutThing 97 = .ok (.getfield 120, 3) := by decide +kernel
theorem dX8_aboutThing_100 : decode cX8_aboutThing 100 = .ok (.iload_n 1, 1) := by decide +kernel
theorem dX8_aboutThing_101 : decode cX8_aboutThing 101 = .ok (.baload, 1) := by decide +kernel
theorem dX8_aboutThing_102 : decode cX8_aboutThing 102 = .ok (.ifCond .eq 7, 3) := by decide +kernel
theorem dX8_aboutThing_105 : decode cX8_aboutThing 105 = .ok (.iconst 1, 1) := by decide +kernel
theorem dX8_aboutThing_106 : decode cX8_aboutThing 106 = .ok (.goto 4, 3) := by decide +kernel
theorem dX8_aboutThing_109 : decode cX8_aboutThing 109 = .ok (.iconst 0, 1) := by decide +kernel
theorem dX8_aboutThing_110 : decode cX8_aboutThing 110 = .ok (.ireturn, 1) := by decide +kernel
theorem dX8_aboutThing_111 : decode cX8_aboutThing 111 = .ok (.aload_n 0, 1) := by decide +kernel
theorem dX8_aboutThing_112 : decode cX8_aboutThing 112 = .ok (.getfield 26, 3) := by decide +kernel
theorem dX8_aboutThing_115 : decode cX8_aboutThing 115 = .ok (.iload_n 1, 1) := by decide +kernel
theorem dX8_aboutThing_116 : decode cX8_aboutThing 116 = .ok (.invokevirtual 260, 3) := by decide +kernel
theorem dX8_aboutThing_119 : decode cX8_aboutThing 119 = .ok (.iconst 2, 1) := by decide +kernel
theorem dX8_aboutThing_120 : decode cX8_aboutThing 120 = .ok (.idiv, 1) := by decide +kernel
theorem dX8_aboutThing_121 : decode cX8_aboutThing 121 = .ok (.ireturn, 1) := by decide +kernel
theorem dX8_aboutThing_122 : decode cX8_aboutThing 122 = .ok (.aload_n 0, 1) := by decide +kernel
theorem dX8_aboutThing_123 : decode cX8_aboutThing 123 = .ok (.getfield 26, 3) := by decide +kernel
theorem dX8_aboutThing_126 : decode cX8_aboutThing 126 = .ok (.iload_n 1, 1) := by decide +kernel
theorem dX8_aboutThing_127 : decode cX8_aboutThing 127 = .ok (.invokevirtual 260, 3) := by decide +kernel
theorem dX8_aboutThing_130 : decode cX8_aboutThing 130 = .ok (.iconst 2, 1) := by decide +kernel
theorem dX8_aboutThing_131 : decode cX8_aboutThing 131 = .ok (.irem, 1) := by decide +kernel
theorem dX8_aboutThing_132 : decode cX8_aboutThing 132 = .ok (.ireturn, 1) := by decide +kernel
theorem dX8_aboutThing_133 : decode cX8_aboutThing 133 = .ok (.aload_n 0, 1) := by decide +kernel
theorem dX8_aboutThing_134 : decode cX8_aboutThing 134 = .ok (.getfield 26, 3) := by decide +kernel
theorem dX8_aboutThing_137 : decode cX8_aboutThing 137 = .ok (.getfield 186, 3) := by decide +kernel
theorem dX8_aboutThing_140 : decode cX8_aboutThing 140 = .ok (.aload_n 0, 1) := by decide +kernel
theorem dX8_aboutThing_141 : decode cX8_aboutThing 141 = .ok (.getfield 26, 3) := by decide +kernel
theorem dX8_aboutThing_144 : decode cX8_aboutThing 144 = .ok (.iload_n 1, 1) := by decide +kernel
theorem dX8_aboutThing_145 : decode cX8_aboutThing 145 = .ok (.invokevirtual 263, 3) := by decide +kernel
theorem dX8_aboutThing_148 : decode cX8_aboutThing 148 = .ok (.ireturn, 1) := by decide +kernel
theorem dX8_countOf_0 : decode cX8_countOf 0 = .ok (.iload_n 1, 1) := by decide +kernel
theorem dX8_countOf_1 : decode cX8_countOf 1 = .ok (.tableswitch 176 0 9 #[55, 63, 71, 83, 95, 107, 115, 152, 163, 171], 55) := by decide +kernel
theorem dX8_countOf_56 : decode cX8_countOf 56 = .ok (.aload_n 0, 1) := by decide +kernel
theorem dX8_countOf_57 : decode cX8_countOf 57 = .ok (.getfield 26, 3) := by decide +kernel
theorem dX8_countOf_60 : decode cX8_countOf 60 = .ok (.getfield 223, 3) := by decide +kernel
theorem dX8_countOf_63 : decode cX8_countOf 63 = .ok (.ireturn, 1) := by decide +kernel
theorem dX8_countOf_64 : decode cX8_countOf 64 = .ok (.aload_n 0, 1) := by decide +kernel
theorem dX8_countOf_65 : decode cX8_countOf 65 = .ok (.getfield 26, 3) := by decide +kernel
theorem dX8_countOf_68 : decode cX8_countOf 68 = .ok (.getfield 81, 3) := by decide +kernel
theorem dX8_countOf_71 : decode cX8_countOf 71 = .ok (.ireturn, 1) := by decide +kernel
theorem dX8_countOf_72 : decode cX8_countOf 72 = .ok (.aload_n 0, 1) := by decide +kernel
theorem dX8_countOf_73 : decode cX8_countOf 73 = .ok (.getfield 36, 3) := by decide +kernel
theorem dX8_countOf_76 : decode cX8_countOf 76 = .ok (.aload_n 0, 1) := by decide +kernel
theorem dX8_countOf_77 : decode cX8_countOf 77 = .ok (.getfield 26, 3) := by decide +kernel
theorem dX8_countOf_80 : decode cX8_countOf 80 = .ok (.invokevirtual 141, 3) := by decide +kernel
theorem dX8_countOf_83 : decode cX8_countOf 83 = .ok (.ireturn, 1) := by decide +kernel
theorem dX8_countOf_84 : decode cX8_countOf 84 = .ok (.aload_n 0, 1) := by decide +kernel
theorem dX8_countOf_85 : decode cX8_countOf 85 = .ok (.getfield 36, 3) := by decide +kernel
theorem dX8_countOf_88 : decode cX8_countOf 88 = .ok (.aload_n 0, 1) := by decide +kernel
theorem dX8_countOf_89 : decode cX8_countOf 89 = .ok (.getfield 26, 3) := by decide +kernel
theorem dX8_countOf_92 : decode cX8_countOf 92 = .ok (.invokevirtual 234, 3) := by decide +kernel
theorem dX8_countOf_95 : decode cX8_countOf 95 = .ok (.ireturn, 1) := by decide +kernel
theorem dX8_countOf_96 : decode cX8_countOf 96 = .ok (.aload_n 0, 1) := by decide +kernel
theorem dX8_countOf_97 : decode cX8_countOf 97 = .ok (.getfield 36, 3) := by decide +kernel
theorem dX8_countOf_100 : decode cX8_countOf 100 = .ok (.aload_n 0, 1) := by decide +kernel
theorem dX8_countOf_101 : decode cX8_countOf 101 = .ok (.getfield 26, 3) := by decide +kernel
theorem dX8_countOf_104 : decode cX8_countOf 104 = .ok (.invokevirtual 266, 3) := by decide +kernel
theorem dX8_countOf_107 : decode cX8_countOf 107 = .ok (.ireturn, 1) := by decide +kernel
theorem dX8_countOf_108 : decode cX8_countOf 108 = .ok (.aload_n 0, 1) := by decide +kernel
theorem dX8_countOf_109 : decode cX8_countOf 109 = .ok (.getfield 26, 3) := by decide +kernel
theorem dX8_countOf_112 : decode cX8_countOf 112 = .ok (.getfield 117, 3) := by decide +kernel
theorem dX8_countOf_115 : decode cX8_countOf 115 = .ok (.ireturn, 1) := by decide +kernel
theorem dX8_countOf_116 : decode cX8_countOf 116 = .ok (.aload_n 0, 1) := by decide +kernel
theorem dX8_countOf_117 : decode cX8_countOf 117 = .ok (.invokevirtual 114, 3) := by decide +kernel
theorem dX8_countOf_120 : decode cX8_countOf 120 = .ok (.ifCond .eq 29, 3) := by decide +kernel
theorem dX8_countOf_123 : decode cX8_countOf 123 = .ok (.aload_n 0, 1) := by decide +kernel
theorem dX8_countOf_124 : decode cX8_countOf 124 = .ok (.getfield 36, 3) := by decide +kernel
theorem dX8_countOf_127 : decode cX8_countOf 127 = .ok (.getfield 240, 3) := by decide +kernel
theorem dX8_countOf_130 : decode cX8_countOf 130 = .ok (.iconst 0, 1) := by decide +kernel
theorem dX8_countOf_131 : decode cX8_countOf 131 = .ok (.iaload, 1) := by decide +kernel
theorem dX8_countOf_132 : decode cX8_countOf 132 = .ok (.aload_n 0, 1) := by decide +kernel
theorem dX8_countOf_133 : decode cX8_countOf 133 = .ok (.getfield 36, 3) := by decide +kernel
theorem dX8_countOf_136 : decode cX8_countOf 136 = .ok (.getfield 240, 3) := by decide +kernel
theorem dX8_countOf_139 : decode cX8_countOf 139 = .ok (.iconst 1, 1) := by decide +kernel
theorem dX8_countOf_140 : decode cX8_countOf 140 = .ok (.iaload, 1) := by decide +kernel
theorem dX8_countOf_141 : decode cX8_countOf 141 = .ok (.iadd, 1) := by decide +kernel
theorem dX8_countOf_142 : decode cX8_countOf 142 = .ok (.sipush 10000, 3) := by decide +kernel
theorem dX8_countOf_145 : decode cX8_countOf 145 = .ok (.iadd, 1) := by decide +kernel
theorem dX8_countOf_146 : decode cX8_countOf 146 = .ok (.goto 6, 3) := by decide +kernel
theorem dX8_countOf_149 : decode cX8_countOf 149 = .ok (.sipush 10000, 3) := by decide +kernel
theorem dX8_countOf_152 : decode cX8_countOf 152 = .ok (.ireturn, 1) := by decide +kernel
theorem dX8_countOf_153 : decode cX8_countOf 153 = .ok (.aload_n 0, 1) := by decide +kernel
theorem dX8_countOf_154 : decode cX8_countOf 154 = .ok (.getfield 26, 3) := by decide +kernel
theorem dX8_countOf_157 : decode cX8_countOf 157 = .ok (.getfield 186, 3) := by decide +kernel
theorem dX8_countOf_160 : decode cX8_countOf 160 = .ok (.getfield 190, 3) := by decide +kernel
theorem dX8_countOf_163 : decode cX8_countOf 163 = .ok (.ireturn, 1) := by decide +kernel
theorem dX8_countOf_164 : decode cX8_countOf 164 = .ok (.aload_n 0, 1) := by decide +kernel
theorem dX8_countOf_165 : decode cX8_countOf 165 = .ok (.getfield 12, 3) := by decide +kernel
theorem dX8_countOf_168 : decode cX8_countOf 168 = .ok (.getfield 54, 3) := by decide +kernel
theorem dX8_countOf_171 : decode cX8_countOf 171 = .ok (.ireturn, 1) := by decide +kernel
theorem dX8_countOf_172 : decode cX8_countOf 172 = .ok (.aload_n 0, 1) := by decide +kernel
theorem dX8_countOf_173 : decode cX8_countOf 173 = .ok (.getfield 78, 3) := by decide +kernel
theorem dX8_countOf_176 : decode cX8_countOf 176 = .ok (.ireturn, 1) := by decide +kernel
theorem dX8_countOf_177 : decode cX8_countOf 177 = .ok (.aload_n 0, 1) := by decide +kernel
theorem dX8_countOf_178 : decode cX8_countOf 178 = .ok (.getfield 157, 3) := by decide +kernel
theorem dX8_countOf_181 : decode cX8_countOf 181 = .ok (.ireturn, 1) := by decide +kernel
theorem dX8_swapThings_0 : decode cX8_swapThings 0 = .ok (.iconst 0, 1) := by decide +kernel
theorem dX8_swapThings_1 : decode cX8_swapThings 1 = .ok (.istore_n 3, 1) := by decide +kernel
theorem dX8_swapThings_2 : decode cX8_swapThings 2 = .ok (.iload_n 3, 1) := by decide +kernel
theorem dX8_swapThings_3 : decode cX8_swapThings 3 = .ok (.aload_n 0, 1) := by decide +kernel
theorem dX8_swapThings_4 : decode cX8_swapThings 4 = .ok (.arraylength, 1) := by decide +kernel
theorem dX8_swapThings_5 : decode cX8_swapThings 5 = .ok (.if_icmp .ge 34, 3) := by decide +kernel
theorem dX8_swapThings_8 : decode cX8_swapThings 8 = .ok (.aload_n 0, 1) := by decide +kernel
theorem dX8_swapThings_9 : decode cX8_swapThings 9 = .ok (.iload_n 3, 1) := by decide +kernel
theorem dX8_swapThings_10 : decode cX8_swapThings 10 = .ok (.iaload, 1) := by decide +kernel
theorem dX8_swapThings_11 : decode cX8_swapThings 11 = .ok (.iload_n 1, 1) := by decide +kernel
theorem dX8_swapThings_12 : decode cX8_swapThings 12 = .ok (.if_icmp .ne 10, 3) := by decide +kernel
theorem dX8_swapThings_15 : decode cX8_swapThings 15 = .ok (.aload_n 0, 1) := by decide +kernel
theorem dX8_swapThings_16 : decode cX8_swapThings 16 = .ok (.iload_n 3, 1) := by decide +kernel
theorem dX8_swapThings_17 : decode cX8_swapThings 17 = .ok (.iload_n 2, 1) := by decide +kernel
theorem dX8_swapThings_18 : decode cX8_swapThings 18 = .ok (.iastore, 1) := by decide +kernel
theorem dX8_swapThings_19 : decode cX8_swapThings 19 = .ok (.goto 14, 3) := by decide +kernel
theorem dX8_swapThings_22 : decode cX8_swapThings 22 = .ok (.aload_n 0, 1) := by decide +kernel
theorem dX8_swapThings_23 : decode cX8_swapThings 23 = .ok (.iload_n 3, 1) := by decide +kernel
theorem dX8_swapThings_24 : decode cX8_swapThings 24 = .ok (.iaload, 1) := by decide +kernel
theorem dX8_swapThings_25 : decode cX8_swapThings 25 = .ok (.iload_n 2, 1) := by decide +kernel
theorem dX8_swapThings_26 : decode cX8_swapThings 26 = .ok (.if_icmp .ne 7, 3) := by decide +kernel
theorem dX8_swapThings_29 : decode cX8_swapThings 29 = .ok (.aload_n 0, 1) := by decide +kernel
theorem dX8_swapThings_30 : decode cX8_swapThings 30 = .ok (.iload_n 3, 1) := by decide +kernel
theorem dX8_swapThings_31 : decode cX8_swapThings 31 = .ok (.iload_n 1, 1) := by decide +kernel
theorem dX8_swapThings_32 : decode cX8_swapThings 32 = .ok (.iastore, 1) := by decide +kernel
theorem dX8_swapThings_33 : decode cX8_swapThings 33 = .ok (.iinc 3 1, 3) := by decide +kernel
theorem dX8_swapThings_36 : decode cX8_swapThings 36 = .ok (.goto (-34), 3) := by decide +kernel
theorem dX8_swapThings_39 : decode cX8_swapThings 39 = .ok (.return_, 1) := by decide +kernel
