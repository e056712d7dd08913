/-! decode rows (the claim's printed text) -/
theorem dX0_init_0 : decode cX0_init 0 = .ok (.aload_n 0, 1) := by decide +kernel
theorem dX0_init_1 : decode cX0_init 1 = .ok (.invokespecial 3, 3) := by decide +kernel
theorem dX0_init_4 : decode cX0_init 4 = .ok (.aload_n 0, 1) := by decide +kernel
theorem dX0_init_5 : decode cX0_init 5 = .ok (.new 9, 3) := by decide +kernel
theorem dX0_init_8 : decode cX0_init 8 = .ok (.dup, 1) := by decide +kernel
theorem dX0_init_9 : decode cX0_init 9 = .ok (.invokespecial 11, 3) := by decide +kernel
theorem dX0_init_12 : decode cX0_init 12 = .ok (.putfield 12, 3) := by decide +kernel
theorem dX0_init_15 : decode cX0_init 15 = .ok (.aload_n 0, 1) := by decide +kernel
theorem dX0_init_16 : decode cX0_init 16 = .ok (.iconst (-1), 1) := by decide +kernel
theorem dX0_init_17 : decode cX0_init 17 = .ok (.putfield 18, 3) := by decide +kernel
theorem dX0_init_20 : decode cX0_init 20 = .ok (.aload_n 0, 1) := by decide +kernel
theorem dX0_init_21 : decode cX0_init 21 = .ok (.sipush 400, 3) := by decide +kernel
theorem dX0_init_24 : decode cX0_init 24 = .ok (.anewarray 22, 3) := by decide +kernel
theorem dX0_init_27 : decode cX0_init 27 = .ok (.putfield 24, 3) := by decide +kernel
theorem dX0_init_30 : decode cX0_init 30 = .ok (.aload_n 0, 1) := by decide +kernel
theorem dX0_init_31 : decode cX0_init 31 = .ok (.sipush 400, 3) := by decide +kernel
theorem dX0_init_34 : decode cX0_init 34 = .ok (.newarray .int, 2) := by decide +kernel
theorem dX0_init_36 : decode cX0_init 36 = .ok (.putfield 28, 3) := by decide +kernel
theorem dX0_init_39 : decode cX0_init 39 = .ok (.return_, 1) := by decide +kernel
theorem dX0_begin_0 : decode cX0_begin 0 = .ok (.aload_n 0, 1) := by decide +kernel
theorem dX0_begin_1 : decode cX0_begin 1 = .ok (.iload_n 1, 1) := by decide +kernel
theorem dX0_begin_2 : decode cX0_begin 2 = .ok (.putfield 18, 3) := by decide +kernel
theorem dX0_begin_5 : decode cX0_begin 5 = .ok (.aload_n 0, 1) := by decide +kernel
theorem dX0_begin_6 : decode cX0_begin 6 = .ok (.aload_n 2, 1) := by decide +kernel
theorem dX0_begin_7 : decode cX0_begin 7 = .ok (.putfield 12, 3) := by decide +kernel
theorem dX0_begin_10 : decode cX0_begin 10 = .ok (.aload_n 0, 1) := by decide +kernel
theorem dX0_begin_11 : decode cX0_begin 11 = .ok (.iconst 0, 1) := by decide +kernel
theorem dX0_begin_12 : decode cX0_begin 12 = .ok (.putfield 32, 3) := by decide +kernel
theorem dX0_begin_15 : decode cX0_begin 15 = .ok (.return_, 1) := by decide +kernel
theorem dX0_take_0 : decode cX0_take 0 = .ok (.iload_n 2, 1) := by decide +kernel
theorem dX0_take_1 : decode cX0_take 1 = .ok (.iconst (-1), 1) := by decide +kernel
theorem dX0_take_2 : decode cX0_take 2 = .ok (.if_icmp .eq 43, 3) := by decide +kernel
theorem dX0_take_5 : decode cX0_take 5 = .ok (.aload_n 0, 1) := by decide +kernel
theorem dX0_take_6 : decode cX0_take 6 = .ok (.getfield 32, 3) := by decide +kernel
theorem dX0_take_9 : decode cX0_take 9 = .ok (.sipush 400, 3) := by decide +kernel
theorem dX0_take_12 : decode cX0_take 12 = .ok (.if_icmp .ge 33, 3) := by decide +kernel
theorem dX0_take_15 : decode cX0_take 15 = .ok (.aload_n 0, 1) := by decide +kernel
theorem dX0_take_16 : decode cX0_take 16 = .ok (.getfield 24, 3) := by decide +kernel
theorem dX0_take_19 : decode cX0_take 19 = .ok (.aload_n 0, 1) := by decide +kernel
theorem dX0_take_20 : decode cX0_take 20 = .ok (.getfield 32, 3) := by decide +kernel
theorem dX0_take_23 : decode cX0_take 23 = .ok (.aload_n 1, 1) := by decide +kernel
theorem dX0_take_24 : decode cX0_take 24 = .ok (.aastore, 1) := by decide +kernel
theorem dX0_take_25 : decode cX0_take 25 = .ok (.aload_n 0, 1) := by decide +kernel
theorem dX0_take_26 : decode cX0_take 26 = .ok (.getfield 28, 3) := by decide +kernel
theorem dX0_take_29 : decode cX0_take 29 = .ok (.aload_n 0, 1) := by decide +kernel
theorem dX0_take_30 : decode cX0_take 30 = .ok (.getfield 32, 3) := by decide +kernel
theorem dX0_take_33 : decode cX0_take 33 = .ok (.iload_n 2, 1) := by decide +kernel
theorem dX0_take_34 : decode cX0_take 34 = .ok (.iastore, 1) := by decide +kernel
theorem dX0_take_35 : decode cX0_take 35 = .ok (.aload_n 0, 1) := by decide +kernel
theorem dX0_take_36 : decode cX0_take 36 = .ok (.dup, 1) := by decide +kernel
theorem dX0_take_37 : decode cX0_take 37 = .ok (.getfield 32, 3) := by decide +kernel
theorem dX0_take_40 : decode cX0_take 40 = .ok (.iconst 1, 1) := by decide +kernel
theorem dX0_take_41 : decode cX0_take 41 = .ok (.iadd, 1) := by decide +kernel
theorem dX0_take_42 : decode cX0_take 42 = .ok (.putfield 32, 3) := by decide +kernel
theorem dX0_take_45 : decode cX0_take 45 = .ok (.return_, 1) := by decide +kernel
theorem dX0_sort_0 : decode cX0_sort 0 = .ok (.aload_n 0, 1) := by decide +kernel
theorem dX0_sort_1 : decode cX0_sort 1 = .ok (.getfield 32, 3) := by decide +kernel
theorem dX0_sort_4 : decode cX0_sort 4 = .ok (.iconst 2, 1) := by decide +kernel
theorem dX0_sort_5 : decode cX0_sort 5 = .ok (.idiv, 1) := by decide +kernel
theorem dX0_sort_6 : decode cX0_sort 6 = .ok (.istore_n 1, 1) := by decide +kernel
theorem dX0_sort_7 : decode cX0_sort 7 = .ok (.iload_n 1, 1) := by decide +kernel
theorem dX0_sort_8 : decode cX0_sort 8 = .ok (.ifCond .le 122, 3) := by decide +kernel
theorem dX0_sort_11 : decode cX0_sort 11 = .ok (.iload_n 1, 1) := by decide +kernel
theorem dX0_sort_12 : decode cX0_sort 12 = .ok (.istore_n 2, 1) := by decide +kernel
theorem dX0_sort_13 : decode cX0_sort 13 = .ok (.iload_n 2, 1) := by decide +kernel
theorem dX0_sort_14 : decode cX0_sort 14 = .ok (.aload_n 0, 1) := by decide +kernel
theorem dX0_sort_15 : decode cX0_sort 15 = .ok (.getfield 32, 3) := by decide +kernel
theorem dX0_sort_18 : decode cX0_sort 18 = .ok (.if_icmp .ge 105, 3) := by decide +kernel
theorem dX0_sort_21 : decode cX0_sort 21 = .ok (.aload_n 0, 1) := by decide +kernel
theorem dX0_sort_22 : decode cX0_sort 22 = .ok (.getfield 24, 3) := by decide +kernel
theorem dX0_sort_25 : decode cX0_sort 25 = .ok (.iload_n 2, 1) := by decide +kernel
theorem dX0_sort_26 : decode cX0_sort 26 = .ok (.aaload, 1) := by decide +kernel
theorem dX0_sort_27 : decode cX0_sort 27 = .ok (.astore_n 3, 1) := by decide +kernel
theorem dX0_sort_28 : decode cX0_sort 28 = .ok (.aload_n 0, 1) := by decide +kernel
theorem dX0_sort_29 : decode cX0_sort 29 = .ok (.getfield 28, 3) := by decide +kernel
theorem dX0_sort_32 : decode cX0_sort 32 = .ok (.iload_n 2, 1) := by decide +kernel
theorem dX0_sort_33 : decode cX0_sort 33 = .ok (.iaload, 1) := by decide +kernel
theorem dX0_sort_34 : decode cX0_sort 34 = .ok (.istore 4, 2) := by decide +kernel
theorem dX0_sort_36 : decode cX0_sort 36 = .ok (.iload_n 2, 1) := by decide +kernel
theorem dX0_sort_37 : decode cX0_sort 37 = .ok (.istore 5, 2) := by decide +kernel
theorem dX0_sort_39 : decode cX0_sort 39 = .ok (.iload 5, 2) := by decide +kernel
theorem dX0_sort_41 : decode cX0_sort 41 = .ok (.iload_n 1, 1) := by decide +kernel
theorem dX0_sort_42 : decode cX0_sort 42 = .ok (.if_icmp .lt 58, 3) := by decide +kernel
theorem dX0_sort_45 : decode cX0_sort 45 = .ok (.aload_n 0, 1) := by decide +kernel
theorem dX0_sort_46 : decode cX0_sort 46 = .ok (.aload_n 3, 1) := by decide +kernel
theorem dX0_sort_47 : decode cX0_sort 47 = .ok (.iload 4, 2) := by decide +kernel
theorem dX0_sort_49 : decode cX0_sort 49 = .ok (.iload 5, 2) := by decide +kernel
theorem dX0_sort_51 : decode cX0_sort 51 = .ok (.iload_n 1, 1) := by decide +kernel
theorem dX0_sort_52 : decode cX0_sort 52 = .ok (.isub, 1) := by decide +kernel
theorem dX0_sort_53 : decode cX0_sort 53 = .ok (.invokevirtual 35, 3) := by decide +kernel
theorem dX0_sort_56 : decode cX0_sort 56 = .ok (.ifCond .eq 44, 3) := by decide +kernel
theorem dX0_sort_59 : decode cX0_sort 59 = .ok (.aload_n 0, 1) := by decide +kernel
theorem dX0_sort_60 : decode cX0_sort 60 = .ok (.getfield 24, 3) := by decide +kernel
theorem dX0_sort_63 : decode cX0_sort 63 = .ok (.iload 5, 2) := by decide +kernel
theorem dX0_sort_65 : decode cX0_sort 65 = .ok (.aload_n 0, 1) := by decide +kernel
theorem dX0_sort_66 : decode cX0_sort 66 = .ok (.getfield 24, 3) := by decide +kernel
theorem dX0_sort_69 : decode cX0_sort 69 = .ok (.iload 5, 2) := by decide +kernel
theorem dX0_sort_71 : decode cX0_sort 71 = .ok (.iload_n 1, 1) := by decide +kernel
theorem dX0_sort_72 : decode cX0_sort 72 = .ok (.isub, 1) := by decide +kernel
theorem dX0_sort_73 : decode cX0_sort 73 = .ok (.aaload, 1) := by decide +kernel
theorem dX0_sort_74 : decode cX0_sort 74 = .ok (.aastore, 1) := by decide +kernel
theorem dX0_sort_75 : decode cX0_sort 75 = .ok (.aload_n 0, 1) := by decide +kernel
theorem dX0_sort_76 : decode cX0_sort 76 = .ok (.getfield 28, 3) := by decide +kernel
theorem dX0_sort_79 : decode cX0_sort 79 = .ok (.iload 5, 2) := by decide +kernel
theorem dX0_sort_81 : decode cX0_sort 81 = .ok (.aload_n 0, 1) := by decide +kernel
theorem dX0_sort_82 : decode cX0_sort 82 = .ok (.getfield 28, 3) := by decide +kernel
theorem dX0_sort_85 : decode cX0_sort 85 = .ok (.iload 5, 2) := by decide +kernel
theorem dX0_sort_87 : decode cX0_sort 87 = .ok (.iload_n 1, 1) := by decide +kernel
theorem dX0_sort_88 : decode cX0_sort 88 = .ok (.isub, 1) := by decide +kernel
theorem dX0_sort_89 : decode cX0_sort 89 = .ok (.iaload, 1) := by decide +kernel
theorem dX0_sort_90 : decode cX0_sort 90 = .ok (.iastore, 1) := by decide +kernel
theorem dX0_sort_91 : decode cX0_sort 91 = .ok (.iload 5, 2) := by decide +kernel
theorem dX0_sort_93 : decode cX0_sort 93 = .ok (.iload_n 1, 1) := by decide +kernel
theorem dX0_sort_94 : decode cX0_sort 94 = .ok (.isub, 1) := by decide +kernel
theorem dX0_sort_95 : decode cX0_sort 95 = .ok (.istore 5, 2) := by decide +kernel
theorem dX0_sort_97 : decode cX0_sort 97 = .ok (.goto (-58), 3) := by decide +kernel
theorem dX0_sort_100 : decode cX0_sort 100 = .ok (.aload_n 0, 1) := by decide +kernel
theorem dX0_sort_101 : decode cX0_sort 101 = .ok (.getfield 24, 3) := by decide +kernel
theorem dX0_sort_104 : decode cX0_sort 104 = .ok (.iload 5, 2) := by decide +kernel
theorem dX0_sort_106 : decode cX0_sort 106 = .ok (.aload_n 3, 1) := by decide +kernel
theorem dX0_sort_107 : decode cX0_sort 107 = .ok (.aastore, 1) := by decide +kernel
theorem dX0_sort_108 : decode cX0_sort 108 = .ok (.aload_n 0, 1) := by decide +kernel
theorem dX0_sort_109 : decode cX0_sort 109 = .ok (.getfield 28, 3) := by decide +kernel
theorem dX0_sort_112 : decode cX0_sort 112 = .ok (.iload 5, 2) := by decide +kernel
theorem dX0_sort_114 : decode cX0_sort 114 = .ok (.iload 4, 2) := by decide +kernel
theorem dX0_sort_116 : decode cX0_sort 116 = .ok (.iastore, 1) := by decide +kernel
theorem dX0_sort_117 : decode cX0_sort 117 = .ok (.iinc 2 1, 3) := by decide +kernel
theorem dX0_sort_120 : decode cX0_sort 120 = .ok (.goto (-107), 3) := by decide +kernel
theorem dX0_sort_123 : decode cX0_sort 123 = .ok (.iload_n 1, 1) := by decide +kernel
theorem dX0_sort_124 : decode cX0_sort 124 = .ok (.iconst 2, 1) := by decide +kernel
theorem dX0_sort_125 : decode cX0_sort 125 = .ok (.idiv, 1) := by decide +kernel
theorem dX0_sort_126 : decode cX0_sort 126 = .ok (.istore_n 1, 1) := by decide +kernel
theorem dX0_sort_127 : decode cX0_sort 127 = .ok (.goto (-120), 3) := by decide +kernel
theorem dX0_sort_130 : decode cX0_sort 130 = .ok (.return_, 1) := by decide +kernel
theorem dX0_isBefore_0 : decode cX0_isBefore 0 = .ok (.iload_n 2, 1) := by decide +kernel
theorem dX0_isBefore_1 : decode cX0_isBefore 1 = .ok (.aload_n 0, 1) := by decide +kernel
theorem dX0_isBefore_2 : decode cX0_isBefore 2 = .ok (.getfield 28, 3) := by decide +kernel
theorem dX0_isBefore_5 : decode cX0_isBefore 5 = .ok (.iload_n 3, 1) := by decide +kernel
theorem dX0_isBefore_6 : decode cX0_isBefore 6 = .ok (.iaload, 1) := by decide +kernel
theorem dX0_isBefore_7 : decode cX0_isBefore 7 = .ok (.if_icmp .eq 19, 3) := by decide +kernel
theorem dX0_isBefore_10 : decode cX0_isBefore 10 = .ok (.iload_n 2, 1) := by decide +kernel
theorem dX0_isBefore_11 : decode cX0_isBefore 11 = .ok (.aload_n 0, 1) := by decide +kernel
theorem dX0_isBefore_12 : decode cX0_isBefore 12 = .ok (.getfield 28, 3) := by decide +kernel
theorem dX0_isBefore_15 : decode cX0_isBefore 15 = .ok (.iload_n 3, 1) := by decide +kernel
theorem dX0_isBefore_16 : decode cX0_isBefore 16 = .ok (.iaload, 1) := by decide +kernel
theorem dX0_isBefore_17 : decode cX0_isBefore 17 = .ok (.if_icmp .le 7, 3) := by decide +kernel
theorem dX0_isBefore_20 : decode cX0_isBefore 20 = .ok (.iconst 1, 1) := by decide +kernel
theorem dX0_isBefore_21 : decode cX0_isBefore 21 = .ok (.goto 4, 3) := by decide +kernel
theorem dX0_isBefore_24 : decode cX0_isBefore 24 = .ok (.iconst 0, 1) := by decide +kernel
theorem dX0_isBefore_25 : decode cX0_isBefore 25 = .ok (.ireturn, 1) := by decide +kernel
theorem dX0_isBefore_26 : decode cX0_isBefore 26 = .ok (.aload_n 0, 1) := by decide +kernel
theorem dX0_isBefore_27 : decode cX0_isBefore 27 = .ok (.getfield 24, 3) := by decide +kernel
theorem dX0_isBefore_30 : decode cX0_isBefore 30 = .ok (.iload_n 3, 1) := by decide +kernel
theorem dX0_isBefore_31 : decode cX0_isBefore 31 = .ok (.aaload, 1) := by decide +kernel
theorem dX0_isBefore_32 : decode cX0_isBefore 32 = .ok (.astore 4, 2) := by decide +kernel
theorem dX0_isBefore_34 : decode cX0_isBefore 34 = .ok (.aload_n 1, 1) := by decide +kernel
theorem dX0_isBefore_35 : decode cX0_isBefore 35 = .ok (.ifnull 8, 3) := by decide +kernel
theorem dX0_isBefore_38 : decode cX0_isBefore 38 = .ok (.aload 4, 2) := by decide +kernel
theorem dX0_isBefore_40 : decode cX0_isBefore 40 = .ok (.ifnonnull 5, 3) := by decide +kernel
theorem dX0_isBefore_43 : decode cX0_isBefore 43 = .ok (.iconst 0, 1) := by decide +kernel
theorem dX0_isBefore_44 : decode cX0_isBefore 44 = .ok (.ireturn, 1) := by decide +kernel
theorem dX0_isBefore_45 : decode cX0_isBefore 45 = .ok (.aload_n 1, 1) := by decide +kernel
theorem dX0_isBefore_46 : decode cX0_isBefore 46 = .ok (.getfield 39, 3) := by decide +kernel
theorem dX0_isBefore_49 : decode cX0_isBefore 49 = .ok (.aload 4, 2) := by decide +kernel
theorem dX0_isBefore_51 : decode cX0_isBefore 51 = .ok (.getfield 39, 3) := by decide +kernel
theorem dX0_isBefore_54 : decode cX0_isBefore 54 = .ok (.lcmp, 1) := by decide +kernel
theorem dX0_isBefore_55 : decode cX0_isBefore 55 = .ok (.ifCond .eq 22, 3) := by decide +kernel
theorem dX0_isBefore_58 : decode cX0_isBefore 58 = .ok (.aload_n 1, 1) := by decide +kernel
theorem dX0_isBefore_59 : decode cX0_isBefore 59 = .ok (.getfield 39, 3) := by decide +kernel
theorem dX0_isBefore_62 : decode cX0_isBefore 62 = .ok (.aload 4, 2) := by decide +kernel
theorem dX0_isBefore_64 : decode cX0_isBefore 64 = .ok (.getfield 39, 3) := by decide +kernel
theorem dX0_isBefore_67 : decode cX0_isBefore 67 = .ok (.lcmp, 1) := by decide +kernel
theorem dX0_isBefore_68 : decode cX0_isBefore 68 = .ok (.ifCond .ge 7, 3) := by decide +kernel
theorem dX0_isBefore_71 : decode cX0_isBefore 71 = .ok (.iconst 1, 1) := by decide +kernel
theorem dX0_isBefore_72 : decode cX0_isBefore 72 = .ok (.goto 4, 3) := by decide +kernel
theorem dX0_isBefore_75 : decode cX0_isBefore 75 = .ok (.iconst 0, 1) := by decide +kernel
theorem dX0_isBefore_76 : decode cX0_isBefore 76 = .ok (.ireturn, 1) := by decide +kernel
theorem dX0_isBefore_77 : decode cX0_isBefore 77 = .ok (.aload_n 1, 1) := by decide +kernel
theorem dX0_isBefore_78 : decode cX0_isBefore 78 = .ok (.getfield 43, 3) := by decide +kernel
theorem dX0_isBefore_81 : decode cX0_isBefore 81 = .ok (.aload 4, 2) := by decide +kernel
theorem dX0_isBefore_83 : decode cX0_isBefore 83 = .ok (.getfield 43, 3) := by decide +kernel
theorem dX0_isBefore_86 : decode cX0_isBefore 86 = .ok (.if_icmp .ge 7, 3) := by decide +kernel
theorem dX0_isBefore_89 : decode cX0_isBefore 89 = .ok (.iconst 1, 1) := by decide +kernel
theorem dX0_isBefore_90 : decode cX0_isBefore 90 = .ok (.goto 4, 3) := by decide +kernel
theorem dX0_isBefore_93 : decode cX0_isBefore 93 = .ok (.iconst 0, 1) := by decide +kernel
theorem dX0_isBefore_94 : decode cX0_isBefore 94 = .ok (.ireturn, 1) := by decide +kernel
theorem dX0_documentAt_0 : decode cX0_documentAt 0 = .ok (.iload_n 1, 1) := by decide +kernel
theorem dX0_documentAt_1 : decode cX0_documentAt 1 = .ok (.ifCond .lt 20, 3) := by decide +kernel
theorem dX0_documentAt_4 : decode cX0_documentAt 4 = .ok (.iload_n 1, 1) := by decide +kernel
theorem dX0_documentAt_5 : decode cX0_documentAt 5 = .ok (.aload_n 0, 1) := by decide +kernel
theorem dX0_documentAt_6 : decode cX0_documentAt 6 = .ok (.getfield 32, 3) := by decide +kernel
theorem dX0_documentAt_9 : decode cX0_documentAt 9 = .ok (.if_icmp .ge 12, 3) := by decide +kernel
theorem dX0_documentAt_12 : decode cX0_documentAt 12 = .ok (.aload_n 0, 1) := by decide +kernel
theorem dX0_documentAt_13 : decode cX0_documentAt 13 = .ok (.getfield 24, 3) := by decide +kernel
theorem dX0_documentAt_16 : decode cX0_documentAt 16 = .ok (.iload_n 1, 1) := by decide +kernel
theorem dX0_documentAt_17 : decode cX0_documentAt 17 = .ok (.aaload, 1) := by decide +kernel
theorem dX0_documentAt_18 : decode cX0_documentAt 18 = .ok (.goto 4, 3) := by decide +kernel
theorem dX0_documentAt_21 : decode cX0_documentAt 21 = .ok (.aconst_null, 1) := by decide +kernel
theorem dX0_documentAt_22 : decode cX0_documentAt 22 = .ok (.areturn, 1) := by decide +kernel
theorem dX0_scoreAt_0 : decode cX0_scoreAt 0 = .ok (.iload_n 1, 1) := by decide +kernel
theorem dX0_scoreAt_1 : decode cX0_scoreAt 1 = .ok (.ifCond .lt 20, 3) := by decide +kernel
theorem dX0_scoreAt_4 : decode cX0_scoreAt 4 = .ok (.iload_n 1, 1) := by decide +kernel
theorem dX0_scoreAt_5 : decode cX0_scoreAt 5 = .ok (.aload_n 0, 1) := by decide +kernel
theorem dX0_scoreAt_6 : decode cX0_scoreAt 6 = .ok (.getfield 32, 3) := by decide +kernel
theorem dX0_scoreAt_9 : decode cX0_scoreAt 9 = .ok (.if_icmp .ge 12, 3) := by decide +kernel
theorem dX0_scoreAt_12 : decode cX0_scoreAt 12 = .ok (.aload_n 0, 1) := by decide +kernel
theorem dX0_scoreAt_13 : decode cX0_scoreAt 13 = .ok (.getfield 28, 3) := by decide +kernel
theorem dX0_scoreAt_16 : decode cX0_scoreAt 16 = .ok (.iload_n 1, 1) := by decide +kernel
theorem dX0_scoreAt_17 : decode cX0_scoreAt 17 = .ok (.iaload, 1) := by decide +kernel
theorem dX0_scoreAt_18 : decode cX0_scoreAt 18 = .ok (.goto 4, 3) := by decide +kernel
theorem dX0_scoreAt_21 : decode cX0_scoreAt 21 = .ok (.iconst (-1), 1) := by decide +kernel
theorem dX0_scoreAt_22 : decode cX0_scoreAt 22 = .ok (.ireturn, 1) := by decide +kernel
theorem dX1_init_0 : decode cX1_init 0 = .ok (.aload_n 0, 1) := by decide +kernel
theorem dX1_init_1 : decode cX1_init 1 = .ok (.invokespecial 3, 3) := by decide +kernel
theorem dX1_init_4 : decode cX1_init 4 = .ok (.aload_n 0, 1) := by decide +kernel
theorem dX1_init_5 : decode cX1_init 5 = .ok (.lload_n 1, 1) := by decide +kernel
theorem dX1_init_6 : decode cX1_init 6 = .ok (.putfield 9, 3) := by decide +kernel
theorem dX1_init_9 : decode cX1_init 9 = .ok (.aload_n 0, 1) := by decide +kernel
theorem dX1_init_10 : decode cX1_init 10 = .ok (.iload_n 3, 1) := by decide +kernel
theorem dX1_init_11 : decode cX1_init 11 = .ok (.putfield 15, 3) := by decide +kernel
theorem dX1_init_14 : decode cX1_init 14 = .ok (.aload_n 0, 1) := by decide +kernel
theorem dX1_init_15 : decode cX1_init 15 = .ok (.iload 4, 2) := by decide +kernel
theorem dX1_init_17 : decode cX1_init 17 = .ok (.putfield 19, 3) := by decide +kernel
theorem dX1_init_20 : decode cX1_init 20 = .ok (.aload_n 0, 1) := by decide +kernel
theorem dX1_init_21 : decode cX1_init 21 = .ok (.iload 5, 2) := by decide +kernel
theorem dX1_init_23 : decode cX1_init 23 = .ok (.putfield 22, 3) := by decide +kernel
theorem dX1_init_26 : decode cX1_init 26 = .ok (.aload_n 0, 1) := by decide +kernel
theorem dX1_init_27 : decode cX1_init 27 = .ok (.aload 6, 2) := by decide +kernel
theorem dX1_init_29 : decode cX1_init 29 = .ok (.putfield 25, 3) := by decide +kernel
theorem dX1_init_32 : decode cX1_init 32 = .ok (.aload_n 0, 1) := by decide +kernel
theorem dX1_init_33 : decode cX1_init 33 = .ok (.aload 7, 2) := by decide +kernel
theorem dX1_init_35 : decode cX1_init 35 = .ok (.putfield 29, 3) := by decide +kernel
theorem dX1_init_38 : decode cX1_init 38 = .ok (.return_, 1) := by decide +kernel
theorem dX1_textOf_0 : decode cX1_textOf 0 = .ok (.iload_n 1, 1) := by decide +kernel
theorem dX1_textOf_1 : decode cX1_textOf 1 = .ok (.ifCond .ne 10, 3) := by decide +kernel
theorem dX1_textOf_4 : decode cX1_textOf 4 = .ok (.aload_n 0, 1) := by decide +kernel
theorem dX1_textOf_5 : decode cX1_textOf 5 = .ok (.getfield 25, 3) := by decide +kernel
theorem dX1_textOf_8 : decode cX1_textOf 8 = .ok (.goto 7, 3) := by decide +kernel
theorem dX1_textOf_11 : decode cX1_textOf 11 = .ok (.aload_n 0, 1) := by decide +kernel
theorem dX1_textOf_12 : decode cX1_textOf 12 = .ok (.getfield 29, 3) := by decide +kernel
theorem dX1_textOf_15 : decode cX1_textOf 15 = .ok (.areturn, 1) := by decide +kernel
theorem dX1_valueOf_0 : decode cX1_valueOf 0 = .ok (.iload_n 1, 1) := by decide +kernel
theorem dX1_valueOf_1 : decode cX1_valueOf 1 = .ok (.ifCond .ne 10, 3) := by decide +kernel
theorem dX1_valueOf_4 : decode cX1_valueOf 4 = .ok (.aload_n 0, 1) := by decide +kernel
theorem dX1_valueOf_5 : decode cX1_valueOf 5 = .ok (.getfield 15, 3) := by decide +kernel
theorem dX1_valueOf_8 : decode cX1_valueOf 8 = .ok (.goto 7, 3) := by decide +kernel
theorem dX1_valueOf_11 : decode cX1_valueOf 11 = .ok (.aload_n 0, 1) := by decide +kernel
theorem dX1_valueOf_12 : decode cX1_valueOf 12 = .ok (.getfield 19, 3) := by decide +kernel
theorem dX1_valueOf_15 : decode cX1_valueOf 15 = .ok (.ireturn, 1) := by decide +kernel
theorem dX1_isBetween_0 : decode cX1_isBetween 0 = .ok (.aload_n 0, 1) := by decide +kernel
theorem dX1_isBetween_1 : decode cX1_isBetween 1 = .ok (.iload_n 1, 1) := by decide +kernel
theorem dX1_isBetween_2 : decode cX1_isBetween 2 = .ok (.invokevirtual 32, 3) := by decide +kernel
theorem dX1_isBetween_5 : decode cX1_isBetween 5 = .ok (.i2l, 1) := by decide +kernel
theorem dX1_isBetween_6 : decode cX1_isBetween 6 = .ok (.lload_n 2, 1) := by decide +kernel
theorem dX1_isBetween_7 : decode cX1_isBetween 7 = .ok (.lcmp, 1) := by decide +kernel
theorem dX1_isBetween_8 : decode cX1_isBetween 8 = .ok (.ifCond .lt 19, 3) := by decide +kernel
theorem dX1_isBetween_11 : decode cX1_isBetween 11 = .ok (.aload_n 0, 1) := by decide +kernel
theorem dX1_isBetween_12 : decode cX1_isBetween 12 = .ok (.iload_n 1, 1) := by decide +kernel
theorem dX1_isBetween_13 : decode cX1_isBetween 13 = .ok (.invokevirtual 32, 3) := by decide +kernel
theorem dX1_isBetween_16 : decode cX1_isBetween 16 = .ok (.i2l, 1) := by decide +kernel
theorem dX1_isBetween_17 : decode cX1_isBetween 17 = .ok (.lload 4, 2) := by decide +kernel
theorem dX1_isBetween_19 : decode cX1_isBetween 19 = .ok (.lcmp, 1) := by decide +kernel
theorem dX1_isBetween_20 : decode cX1_isBetween 20 = .ok (.ifCond .gt 7, 3) := by decide +kernel
theorem dX1_isBetween_23 : decode cX1_isBetween 23 = .ok (.iconst 1, 1) := by decide +kernel
theorem dX1_isBetween_24 : decode cX1_isBetween 24 = .ok (.goto 4, 3) := by decide +kernel
theorem dX1_isBetween_27 : decode cX1_isBetween 27 = .ok (.iconst 0, 1) := by decide +kernel
theorem dX1_isBetween_28 : decode cX1_isBetween 28 = .ok (.ireturn, 1) := by decide +kernel
theorem dX10_init_0 : decode cX10_init 0 = .ok (.aload_n 0, 1) := by decide +kernel
theorem dX10_init_1 : decode cX10_init 1 = .ok (.invokespecial 1, 3) := by decide +kernel
theorem dX10_init_4 : decode cX10_init 4 = .ok (.aload_n 1, 1) := by decide +kernel
theorem dX10_init_5 : decode cX10_init 5 = .ok (.invokestatic 7, 3) := by decide +kernel
theorem dX10_init_8 : decode cX10_init 8 = .ok (.iconst 0, 1) := by decide +kernel
theorem dX10_init_9 : decode cX10_init 9 = .ok (.istore_n 2, 1) := by decide +kernel
theorem dX10_init_10 : decode cX10_init 10 = .ok (.iconst 0, 1) := by decide +kernel
theorem dX10_init_11 : decode cX10_init 11 = .ok (.istore_n 3, 1) := by decide +kernel
theorem dX10_init_12 : decode cX10_init 12 = .ok (.iload_n 3, 1) := by decide +kernel
theorem dX10_init_13 : decode cX10_init 13 = .ok (.aload_n 1, 1) := by decide +kernel
theorem dX10_init_14 : decode cX10_init 14 = .ok (.arraylength, 1) := by decide +kernel
theorem dX10_init_15 : decode cX10_init 15 = .ok (.if_icmp .ge 20, 3) := by decide +kernel
theorem dX10_init_18 : decode cX10_init 18 = .ok (.aload_n 1, 1) := by decide +kernel
theorem dX10_init_19 : decode cX10_init 19 = .ok (.iload_n 3, 1) := by decide +kernel
theorem dX10_init_20 : decode cX10_init 20 = .ok (.invokestatic 13, 3) := by decide +kernel
theorem dX10_init_23 : decode cX10_init 23 = .ok (.ifCond .eq 6, 3) := by decide +kernel
theorem dX10_init_26 : decode cX10_init 26 = .ok (.iinc 2 1, 3) := by decide +kernel
theorem dX10_init_29 : decode cX10_init 29 = .ok (.iinc 3 1, 3) := by decide +kernel
theorem dX10_init_32 : decode cX10_init 32 = .ok (.goto (-20), 3) := by decide +kernel
theorem dX10_init_35 : decode cX10_init 35 = .ok (.aload_n 0, 1) := by decide +kernel
theorem dX10_init_36 : decode cX10_init 36 = .ok (.iload_n 2, 1) := by decide +kernel
theorem dX10_init_37 : decode cX10_init 37 = .ok (.newarray .long, 2) := by decide +kernel
theorem dX10_init_39 : decode cX10_init 39 = .ok (.putfield 17, 3) := by decide +kernel
theorem dX10_init_42 : decode cX10_init 42 = .ok (.aload_n 0, 1) := by decide +kernel
theorem dX10_init_43 : decode cX10_init 43 = .ok (.iload_n 2, 1) := by decide +kernel
theorem dX10_init_44 : decode cX10_init 44 = .ok (.newarray .int, 2) := by decide +kernel
theorem dX10_init_46 : decode cX10_init 46 = .ok (.putfield 21, 3) := by decide +kernel
theorem dX10_init_49 : decode cX10_init 49 = .ok (.iconst (-1), 1) := by decide +kernel
theorem dX10_init_50 : decode cX10_init 50 = .ok (.istore_n 3, 1) := by decide +kernel
theorem dX10_init_51 : decode cX10_init 51 = .ok (.iconst 0, 1) := by decide +kernel
theorem dX10_init_52 : decode cX10_init 52 = .ok (.istore 4, 2) := by decide +kernel
theorem dX10_init_54 : decode cX10_init 54 = .ok (.iload 4, 2) := by decide +kernel
theorem dX10_init_56 : decode cX10_init 56 = .ok (.aload_n 1, 1) := by decide +kernel
theorem dX10_init_57 : decode cX10_init 57 = .ok (.arraylength, 1) := by decide +kernel
theorem dX10_init_58 : decode cX10_init 58 = .ok (.if_icmp .ge 52, 3) := by decide +kernel
theorem dX10_init_61 : decode cX10_init 61 = .ok (.aload_n 1, 1) := by decide +kernel
theorem dX10_init_62 : decode cX10_init 62 = .ok (.iload 4, 2) := by decide +kernel
theorem dX10_init_64 : decode cX10_init 64 = .ok (.invokestatic 13, 3) := by decide +kernel
theorem dX10_init_67 : decode cX10_init 67 = .ok (.ifCond .eq 23, 3) := by decide +kernel
theorem dX10_init_70 : decode cX10_init 70 = .ok (.iload_n 3, 1) := by decide +kernel
theorem dX10_init_71 : decode cX10_init 71 = .ok (.iconst 1, 1) := by decide +kernel
theorem dX10_init_72 : decode cX10_init 72 = .ok (.iadd, 1) := by decide +kernel
theorem dX10_init_73 : decode cX10_init 73 = .ok (.iload_n 2, 1) := by decide +kernel
theorem dX10_init_74 : decode cX10_init 74 = .ok (.if_icmp .ge 16, 3) := by decide +kernel
theorem dX10_init_77 : decode cX10_init 77 = .ok (.iinc 3 1, 3) := by decide +kernel
theorem dX10_init_80 : decode cX10_init 80 = .ok (.aload_n 0, 1) := by decide +kernel
theorem dX10_init_81 : decode cX10_init 81 = .ok (.getfield 17, 3) := by decide +kernel
theorem dX10_init_84 : decode cX10_init 84 = .ok (.iload_n 3, 1) := by decide +kernel
theorem dX10_init_85 : decode cX10_init 85 = .ok (.aload_n 1, 1) := by decide +kernel
theorem dX10_init_86 : decode cX10_init 86 = .ok (.iload 4, 2) := by decide +kernel
theorem dX10_init_88 : decode cX10_init 88 = .ok (.laload, 1) := by decide +kernel
theorem dX10_init_89 : decode cX10_init 89 = .ok (.lastore, 1) := by decide +kernel
theorem dX10_init_90 : decode cX10_init 90 = .ok (.iload_n 3, 1) := by decide +kernel
theorem dX10_init_91 : decode cX10_init 91 = .ok (.ifCond .lt 13, 3) := by decide +kernel
theorem dX10_init_94 : decode cX10_init 94 = .ok (.aload_n 0, 1) := by decide +kernel
theorem dX10_init_95 : decode cX10_init 95 = .ok (.getfield 21, 3) := by decide +kernel
theorem dX10_init_98 : decode cX10_init 98 = .ok (.iload_n 3, 1) := by decide +kernel
theorem dX10_init_99 : decode cX10_init 99 = .ok (.dup2, 1) := by decide +kernel
theorem dX10_init_100 : decode cX10_init 100 = .ok (.iaload, 1) := by decide +kernel
theorem dX10_init_101 : decode cX10_init 101 = .ok (.iconst 1, 1) := by decide +kernel
theorem dX10_init_102 : decode cX10_init 102 = .ok (.iadd, 1) := by decide +kernel
theorem dX10_init_103 : decode cX10_init 103 = .ok (.iastore, 1) := by decide +kernel
theorem dX10_init_104 : decode cX10_init 104 = .ok (.iinc 4 1, 3) := by decide +kernel
theorem dX10_init_107 : decode cX10_init 107 = .ok (.goto (-53), 3) := by decide +kernel
theorem dX10_init_110 : decode cX10_init 110 = .ok (.return_, 1) := by decide +kernel
theorem dX10_isFirst_0 : decode cX10_isFirst 0 = .ok (.iload_n 1, 1) := by decide +kernel
theorem dX10_isFirst_1 : decode cX10_isFirst 1 = .ok (.ifCond .lt 37, 3) := by decide +kernel
theorem dX10_isFirst_4 : decode cX10_isFirst 4 = .ok (.iload_n 1, 1) := by decide +kernel
theorem dX10_isFirst_5 : decode cX10_isFirst 5 = .ok (.aload_n 0, 1) := by decide +kernel
theorem dX10_isFirst_6 : decode cX10_isFirst 6 = .ok (.arraylength, 1) := by decide +kernel
theorem dX10_isFirst_7 : decode cX10_isFirst 7 = .ok (.if_icmp .ge 31, 3) := by decide +kernel
theorem dX10_isFirst_10 : decode cX10_isFirst 10 = .ok (.aload_n 0, 1) := by decide +kernel
theorem dX10_isFirst_11 : decode cX10_isFirst 11 = .ok (.iload_n 1, 1) := by decide +kernel
theorem dX10_isFirst_12 : decode cX10_isFirst 12 = .ok (.laload, 1) := by decide +kernel
theorem dX10_isFirst_13 : decode cX10_isFirst 13 = .ok (.lconst 0, 1) := by decide +kernel
theorem dX10_isFirst_14 : decode cX10_isFirst 14 = .ok (.lcmp, 1) := by decide +kernel
theorem dX10_isFirst_15 : decode cX10_isFirst 15 = .ok (.ifCond .eq 23, 3) := by decide +kernel
theorem dX10_isFirst_18 : decode cX10_isFirst 18 = .ok (.iload_n 1, 1) := by decide +kernel
theorem dX10_isFirst_19 : decode cX10_isFirst 19 = .ok (.ifCond .eq 15, 3) := by decide +kernel
theorem dX10_isFirst_22 : decode cX10_isFirst 22 = .ok (.aload_n 0, 1) := by decide +kernel
theorem dX10_isFirst_23 : decode cX10_isFirst 23 = .ok (.iload_n 1, 1) := by decide +kernel
theorem dX10_isFirst_24 : decode cX10_isFirst 24 = .ok (.iconst 1, 1) := by decide +kernel
theorem dX10_isFirst_25 : decode cX10_isFirst 25 = .ok (.isub, 1) := by decide +kernel
theorem dX10_isFirst_26 : decode cX10_isFirst 26 = .ok (.laload, 1) := by decide +kernel
theorem dX10_isFirst_27 : decode cX10_isFirst 27 = .ok (.aload_n 0, 1) := by decide +kernel
theorem dX10_isFirst_28 : decode cX10_isFirst 28 = .ok (.iload_n 1, 1) := by decide +kernel
theorem dX10_isFirst_29 : decode cX10_isFirst 29 = .ok (.laload, 1) := by decide +kernel
theorem dX10_isFirst_30 : decode cX10_isFirst 30 = .ok (.lcmp, 1) := by decide +kernel
theorem dX10_isFirst_31 : decode cX10_isFirst 31 = .ok (.ifCond .eq 7, 3) := by decide +kernel
theorem dX10_isFirst_34 : decode cX10_isFirst 34 = .ok (.iconst 1, 1) := by decide +kernel
theorem dX10_isFirst_35 : decode cX10_isFirst 35 = .ok (.goto 4, 3) := by decide +kernel
theorem dX10_isFirst_38 : decode cX10_isFirst 38 = .ok (.iconst 0, 1) := by decide +kernel
theorem dX10_isFirst_39 : decode cX10_isFirst 39 = .ok (.ireturn, 1) := by decide +kernel
theorem dX10_sort_0 : decode cX10_sort 0 = .ok (.aload_n 0, 1) := by decide +kernel
theorem dX10_sort_1 : decode cX10_sort 1 = .ok (.arraylength, 1) := by decide +kernel
theorem dX10_sort_2 : decode cX10_sort 2 = .ok (.iconst 2, 1) := by decide +kernel
theorem dX10_sort_3 : decode cX10_sort 3 = .ok (.idiv, 1) := by decide +kernel
theorem dX10_sort_4 : decode cX10_sort 4 = .ok (.istore_n 1, 1) := by decide +kernel
theorem dX10_sort_5 : decode cX10_sort 5 = .ok (.iload_n 1, 1) := by decide +kernel
theorem dX10_sort_6 : decode cX10_sort 6 = .ok (.ifCond .le 72, 3) := by decide +kernel
theorem dX10_sort_9 : decode cX10_sort 9 = .ok (.iload_n 1, 1) := by decide +kernel
theorem dX10_sort_10 : decode cX10_sort 10 = .ok (.istore_n 2, 1) := by decide +kernel
theorem dX10_sort_11 : decode cX10_sort 11 = .ok (.iload_n 2, 1) := by decide +kernel
theorem dX10_sort_12 : decode cX10_sort 12 = .ok (.aload_n 0, 1) := by decide +kernel
theorem dX10_sort_13 : decode cX10_sort 13 = .ok (.arraylength, 1) := by decide +kernel
theorem dX10_sort_14 : decode cX10_sort 14 = .ok (.if_icmp .ge 57, 3) := by decide +kernel
theorem dX10_sort_17 : decode cX10_sort 17 = .ok (.aload_n 0, 1) := by decide +kernel
theorem dX10_sort_18 : decode cX10_sort 18 = .ok (.iload_n 2, 1) := by decide +kernel
theorem dX10_sort_19 : decode cX10_sort 19 = .ok (.laload, 1) := by decide +kernel
theorem dX10_sort_20 : decode cX10_sort 20 = .ok (.lstore_n 3, 1) := by decide +kernel
theorem dX10_sort_21 : decode cX10_sort 21 = .ok (.iload_n 2, 1) := by decide +kernel
theorem dX10_sort_22 : decode cX10_sort 22 = .ok (.istore 5, 2) := by decide +kernel
theorem dX10_sort_24 : decode cX10_sort 24 = .ok (.iload 5, 2) := by decide +kernel
theorem dX10_sort_26 : decode cX10_sort 26 = .ok (.iload_n 1, 1) := by decide +kernel
theorem dX10_sort_27 : decode cX10_sort 27 = .ok (.if_icmp .lt 33, 3) := by decide +kernel
theorem dX10_sort_30 : decode cX10_sort 30 = .ok (.aload_n 0, 1) := by decide +kernel
theorem dX10_sort_31 : decode cX10_sort 31 = .ok (.iload 5, 2) := by decide +kernel
theorem dX10_sort_33 : decode cX10_sort 33 = .ok (.iload_n 1, 1) := by decide +kernel
theorem dX10_sort_34 : decode cX10_sort 34 = .ok (.isub, 1) := by decide +kernel
theorem dX10_sort_35 : decode cX10_sort 35 = .ok (.laload, 1) := by decide +kernel
theorem dX10_sort_36 : decode cX10_sort 36 = .ok (.lload_n 3, 1) := by decide +kernel
theorem dX10_sort_37 : decode cX10_sort 37 = .ok (.lcmp, 1) := by decide +kernel
theorem dX10_sort_38 : decode cX10_sort 38 = .ok (.ifCond .le 22, 3) := by decide +kernel
theorem dX10_sort_41 : decode cX10_sort 41 = .ok (.aload_n 0, 1) := by decide +kernel
theorem dX10_sort_42 : decode cX10_sort 42 = .ok (.iload 5, 2) := by decide +kernel
theorem dX10_sort_44 : decode cX10_sort 44 = .ok (.aload_n 0, 1) := by decide +kernel
theorem dX10_sort_45 : decode cX10_sort 45 = .ok (.iload 5, 2) := by decide +kernel
theorem dX10_sort_47 : decode cX10_sort 47 = .ok (.iload_n 1, 1) := by decide +kernel
theorem dX10_sort_48 : decode cX10_sort 48 = .ok (.isub, 1) := by decide +kernel
theorem dX10_sort_49 : decode cX10_sort 49 = .ok (.laload, 1) := by decide +kernel
theorem dX10_sort_50 : decode cX10_sort 50 = .ok (.lastore, 1) := by decide +kernel
theorem dX10_sort_51 : decode cX10_sort 51 = .ok (.iload 5, 2) := by decide +kernel
theorem dX10_sort_53 : decode cX10_sort 53 = .ok (.iload_n 1, 1) := by decide +kernel
theorem dX10_sort_54 : decode cX10_sort 54 = .ok (.isub, 1) := by decide +kernel
theorem dX10_sort_55 : decode cX10_sort 55 = .ok (.istore 5, 2) := by decide +kernel
theorem dX10_sort_57 : decode cX10_sort 57 = .ok (.goto (-33), 3) := by decide +kernel
theorem dX10_sort_60 : decode cX10_sort 60 = .ok (.aload_n 0, 1) := by decide +kernel
theorem dX10_sort_61 : decode cX10_sort 61 = .ok (.iload 5, 2) := by decide +kernel
theorem dX10_sort_63 : decode cX10_sort 63 = .ok (.lload_n 3, 1) := by decide +kernel
theorem dX10_sort_64 : decode cX10_sort 64 = .ok (.lastore, 1) := by decide +kernel
theorem dX10_sort_65 : decode cX10_sort 65 = .ok (.iinc 2 1, 3) := by decide +kernel
theorem dX10_sort_68 : decode cX10_sort 68 = .ok (.goto (-57), 3) := by decide +kernel
theorem dX10_sort_71 : decode cX10_sort 71 = .ok (.iload_n 1, 1) := by decide +kernel
theorem dX10_sort_72 : decode cX10_sort 72 = .ok (.iconst 2, 1) := by decide +kernel
theorem dX10_sort_73 : decode cX10_sort 73 = .ok (.idiv, 1) := by decide +kernel
theorem dX10_sort_74 : decode cX10_sort 74 = .ok (.istore_n 1, 1) := by decide +kernel
theorem dX10_sort_75 : decode cX10_sort 75 = .ok (.goto (-70), 3) := by decide +kernel
theorem dX10_sort_78 : decode cX10_sort 78 = .ok (.return_, 1) := by decide +kernel
theorem dX10_size_0 : decode cX10_size 0 = .ok (.aload_n 0, 1) := by decide +kernel
theorem dX10_size_1 : decode cX10_size 1 = .ok (.getfield 17, 3) := by decide +kernel
theorem dX10_size_4 : decode cX10_size 4 = .ok (.arraylength, 1) := by decide +kernel
theorem dX10_size_5 : decode cX10_size 5 = .ok (.ireturn, 1) := by decide +kernel
theorem dX10_termAt_0 : decode cX10_termAt 0 = .ok (.iload_n 1, 1) := by decide +kernel
theorem dX10_termAt_1 : decode cX10_termAt 1 = .ok (.ifCond .lt 21, 3) := by decide +kernel
theorem dX10_termAt_4 : decode cX10_termAt 4 = .ok (.iload_n 1, 1) := by decide +kernel
theorem dX10_termAt_5 : decode cX10_termAt 5 = .ok (.aload_n 0, 1) := by decide +kernel
theorem dX10_termAt_6 : decode cX10_termAt 6 = .ok (.getfield 17, 3) := by decide +kernel
theorem dX10_termAt_9 : decode cX10_termAt 9 = .ok (.arraylength, 1) := by decide +kernel
theorem dX10_termAt_10 : decode cX10_termAt 10 = .ok (.if_icmp .ge 12, 3) := by decide +kernel
theorem dX10_termAt_13 : decode cX10_termAt 13 = .ok (.aload_n 0, 1) := by decide +kernel
theorem dX10_termAt_14 : decode cX10_termAt 14 = .ok (.getfield 17, 3) := by decide +kernel
theorem dX10_termAt_17 : decode cX10_termAt 17 = .ok (.iload_n 1, 1) := by decide +kernel
theorem dX10_termAt_18 : decode cX10_termAt 18 = .ok (.laload, 1) := by decide +kernel
theorem dX10_termAt_19 : decode cX10_termAt 19 = .ok (.goto 4, 3) := by decide +kernel
theorem dX10_termAt_22 : decode cX10_termAt 22 = .ok (.lconst 0, 1) := by decide +kernel
theorem dX10_termAt_23 : decode cX10_termAt 23 = .ok (.lreturn, 1) := by decide +kernel
theorem dX10_countOf_0 : decode cX10_countOf 0 = .ok (.aload_n 0, 1) := by decide +kernel
theorem dX10_countOf_1 : decode cX10_countOf 1 = .ok (.lload_n 1, 1) := by decide +kernel
theorem dX10_countOf_2 : decode cX10_countOf 2 = .ok (.invokevirtual 25, 3) := by decide +kernel
theorem dX10_countOf_5 : decode cX10_countOf 5 = .ok (.istore_n 3, 1) := by decide +kernel
theorem dX10_countOf_6 : decode cX10_countOf 6 = .ok (.aload_n 0, 1) := by decide +kernel
theorem dX10_countOf_7 : decode cX10_countOf 7 = .ok (.iload_n 3, 1) := by decide +kernel
theorem dX10_countOf_8 : decode cX10_countOf 8 = .ok (.invokevirtual 29, 3) := by decide +kernel
theorem dX10_countOf_11 : decode cX10_countOf 11 = .ok (.lload_n 1, 1) := by decide +kernel
theorem dX10_countOf_12 : decode cX10_countOf 12 = .ok (.lcmp, 1) := by decide +kernel
theorem dX10_countOf_13 : decode cX10_countOf 13 = .ok (.ifCond .ne 21, 3) := by decide +kernel
theorem dX10_countOf_16 : decode cX10_countOf 16 = .ok (.iload_n 3, 1) := by decide +kernel
theorem dX10_countOf_17 : decode cX10_countOf 17 = .ok (.aload_n 0, 1) := by decide +kernel
theorem dX10_countOf_18 : decode cX10_countOf 18 = .ok (.getfield 21, 3) := by decide +kernel
theorem dX10_countOf_21 : decode cX10_countOf 21 = .ok (.arraylength, 1) := by decide +kernel
theorem dX10_countOf_22 : decode cX10_countOf 22 = .ok (.if_icmp .ge 12, 3) := by decide +kernel
theorem dX10_countOf_25 : decode cX10_countOf 25 = .ok (.aload_n 0, 1) := by decide +kernel
theorem dX10_countOf_26 : decode cX10_countOf 26 = .ok (.getfield 21, 3) := by decide +kernel
theorem dX10_countOf_29 : decode cX10_countOf 29 = .ok (.iload_n 3, 1) := by decide +kernel
theorem dX10_countOf_30 : decode cX10_countOf 30 = .ok (.iaload, 1) := by decide +kernel
theorem dX10_countOf_31 : decode cX10_countOf 31 = .ok (.goto 4, 3) := by decide +kernel
theorem dX10_countOf_34 : decode cX10_countOf 34 = .ok (.iconst 0, 1) := by decide +kernel
theorem dX10_countOf_35 : decode cX10_countOf 35 = .ok (.ireturn, 1) := by decide +kernel
theorem dX10_hasBetween_0 : decode cX10_hasBetween 0 = .ok (.aload_n 0, 1) := by decide +kernel
theorem dX10_hasBetween_1 : decode cX10_hasBetween 1 = .ok (.lload_n 1, 1) := by decide +kernel
theorem dX10_hasBetween_2 : decode cX10_hasBetween 2 = .ok (.invokevirtual 25, 3) := by decide +kernel
theorem dX10_hasBetween_5 : decode cX10_hasBetween 5 = .ok (.istore 5, 2) := by decide +kernel
theorem dX10_hasBetween_7 : decode cX10_hasBetween 7 = .ok (.iload 5, 2) := by decide +kernel
theorem dX10_hasBetween_9 : decode cX10_hasBetween 9 = .ok (.aload_n 0, 1) := by decide +kernel
theorem dX10_hasBetween_10 : decode cX10_hasBetween 10 = .ok (.getfield 17, 3) := by decide +kernel
theorem dX10_hasBetween_13 : decode cX10_hasBetween 13 = .ok (.arraylength, 1) := by decide +kernel
theorem dX10_hasBetween_14 : decode cX10_hasBetween 14 = .ok (.if_icmp .ge 18, 3) := by decide +kernel
theorem dX10_hasBetween_17 : decode cX10_hasBetween 17 = .ok (.aload_n 0, 1) := by decide +kernel
theorem dX10_hasBetween_18 : decode cX10_hasBetween 18 = .ok (.iload 5, 2) := by decide +kernel
theorem dX10_hasBetween_20 : decode cX10_hasBetween 20 = .ok (.invokevirtual 29, 3) := by decide +kernel
theorem dX10_hasBetween_23 : decode cX10_hasBetween 23 = .ok (.lload_n 3, 1) := by decide +kernel
theorem dX10_hasBetween_24 : decode cX10_hasBetween 24 = .ok (.lcmp, 1) := by decide +kernel
theorem dX10_hasBetween_25 : decode cX10_hasBetween 25 = .ok (.ifCond .gt 7, 3) := by decide +kernel
theorem dX10_hasBetween_28 : decode cX10_hasBetween 28 = .ok (.iconst 1, 1) := by decide +kernel
theorem dX10_hasBetween_29 : decode cX10_hasBetween 29 = .ok (.goto 4, 3) := by decide +kernel
theorem dX10_hasBetween_32 : decode cX10_hasBetween 32 = .ok (.iconst 0, 1) := by decide +kernel
theorem dX10_hasBetween_33 : decode cX10_hasBetween 33 = .ok (.ireturn, 1) := by decide +kernel
theorem dX10_placeOf_0 : decode cX10_placeOf 0 = .ok (.iconst 0, 1) := by decide +kernel
theorem dX10_placeOf_1 : decode cX10_placeOf 1 = .ok (.istore_n 3, 1) := by decide +kernel
theorem dX10_placeOf_2 : decode cX10_placeOf 2 = .ok (.aload_n 0, 1) := by decide +kernel
theorem dX10_placeOf_3 : decode cX10_placeOf 3 = .ok (.getfield 17, 3) := by decide +kernel
theorem dX10_placeOf_6 : decode cX10_placeOf 6 = .ok (.arraylength, 1) := by decide +kernel
theorem dX10_placeOf_7 : decode cX10_placeOf 7 = .ok (.istore 4, 2) := by decide +kernel
theorem dX10_placeOf_9 : decode cX10_placeOf 9 = .ok (.iconst 0, 1) := by decide +kernel
theorem dX10_placeOf_10 : decode cX10_placeOf 10 = .ok (.istore 5, 2) := by decide +kernel
theorem dX10_placeOf_12 : decode cX10_placeOf 12 = .ok (.iload 5, 2) := by decide +kernel
theorem dX10_placeOf_14 : decode cX10_placeOf 14 = .ok (.bipush 31, 2) := by decide +kernel
theorem dX10_placeOf_16 : decode cX10_placeOf 16 = .ok (.if_icmp .ge 47, 3) := by decide +kernel
theorem dX10_placeOf_19 : decode cX10_placeOf 19 = .ok (.iload_n 3, 1) := by decide +kernel
theorem dX10_placeOf_20 : decode cX10_placeOf 20 = .ok (.iload 4, 2) := by decide +kernel
theorem dX10_placeOf_22 : decode cX10_placeOf 22 = .ok (.if_icmp .ge 41, 3) := by decide +kernel
theorem dX10_placeOf_25 : decode cX10_placeOf 25 = .ok (.iload_n 3, 1) := by decide +kernel
theorem dX10_placeOf_26 : decode cX10_placeOf 26 = .ok (.iload 4, 2) := by decide +kernel
theorem dX10_placeOf_28 : decode cX10_placeOf 28 = .ok (.iadd, 1) := by decide +kernel
theorem dX10_placeOf_29 : decode cX10_placeOf 29 = .ok (.iconst 1, 1) := by decide +kernel
theorem dX10_placeOf_30 : decode cX10_placeOf 30 = .ok (.iushr, 1) := by decide +kernel
theorem dX10_placeOf_31 : decode cX10_placeOf 31 = .ok (.istore 6, 2) := by decide +kernel
theorem dX10_placeOf_33 : decode cX10_placeOf 33 = .ok (.aload_n 0, 1) := by decide +kernel
theorem dX10_placeOf_34 : decode cX10_placeOf 34 = .ok (.getfield 17, 3) := by decide +kernel
theorem dX10_placeOf_37 : decode cX10_placeOf 37 = .ok (.iload 6, 2) := by decide +kernel
theorem dX10_placeOf_39 : decode cX10_placeOf 39 = .ok (.laload, 1) := by decide +kernel
theorem dX10_placeOf_40 : decode cX10_placeOf 40 = .ok (.lload_n 1, 1) := by decide +kernel
theorem dX10_placeOf_41 : decode cX10_placeOf 41 = .ok (.lcmp, 1) := by decide +kernel
theorem dX10_placeOf_42 : decode cX10_placeOf 42 = .ok (.ifCond .ge 11, 3) := by decide +kernel
theorem dX10_placeOf_45 : decode cX10_placeOf 45 = .ok (.iload 6, 2) := by decide +kernel
theorem dX10_placeOf_47 : decode cX10_placeOf 47 = .ok (.iconst 1, 1) := by decide +kernel
theorem dX10_placeOf_48 : decode cX10_placeOf 48 = .ok (.iadd, 1) := by decide +kernel
theorem dX10_placeOf_49 : decode cX10_placeOf 49 = .ok (.istore_n 3, 1) := by decide +kernel
theorem dX10_placeOf_50 : decode cX10_placeOf 50 = .ok (.goto 7, 3) := by decide +kernel
theorem dX10_placeOf_53 : decode cX10_placeOf 53 = .ok (.iload 6, 2) := by decide +kernel
theorem dX10_placeOf_55 : decode cX10_placeOf 55 = .ok (.istore 4, 2) := by decide +kernel
theorem dX10_placeOf_57 : decode cX10_placeOf 57 = .ok (.iinc 5 1, 3) := by decide +kernel
theorem dX10_placeOf_60 : decode cX10_placeOf 60 = .ok (.goto (-48), 3) := by decide +kernel
theorem dX10_placeOf_63 : decode cX10_placeOf 63 = .ok (.iload_n 3, 1) := by decide +kernel
theorem dX10_placeOf_64 : decode cX10_placeOf 64 = .ok (.ireturn, 1) := by decide +kernel
theorem dX11_init_0 : decode cX11_init 0 = .ok (.aload_n 0, 1) := by decide +kernel
theorem dX11_init_1 : decode cX11_init 1 = .ok (.invokespecial 1, 3) := by decide +kernel
theorem dX11_init_4 : decode cX11_init 4 = .ok (.aload_n 0, 1) := by decide +kernel
theorem dX11_init_5 : decode cX11_init 5 = .ok (.new 7, 3) := by decide +kernel
theorem dX11_init_8 : decode cX11_init 8 = .ok (.dup, 1) := by decide +kernel
theorem dX11_init_9 : decode cX11_init 9 = .ok (.iload_n 1, 1) := by decide +kernel
theorem dX11_init_10 : decode cX11_init 10 = .ok (.iconst 1, 1) := by decide +kernel
theorem dX11_init_11 : decode cX11_init 11 = .ok (.iand, 1) := by decide +kernel
theorem dX11_init_12 : decode cX11_init 12 = .ok (.ifCond .eq 7, 3) := by decide +kernel
theorem dX11_init_15 : decode cX11_init 15 = .ok (.iconst 1, 1) := by decide +kernel
theorem dX11_init_16 : decode cX11_init 16 = .ok (.goto 4, 3) := by decide +kernel
theorem dX11_init_19 : decode cX11_init 19 = .ok (.iconst 0, 1) := by decide +kernel
theorem dX11_init_20 : decode cX11_init 20 = .ok (.iload_n 1, 1) := by decide +kernel
theorem dX11_init_21 : decode cX11_init 21 = .ok (.iconst 2, 1) := by decide +kernel
theorem dX11_init_22 : decode cX11_init 22 = .ok (.iand, 1) := by decide +kernel
theorem dX11_init_23 : decode cX11_init 23 = .ok (.ifCond .eq 7, 3) := by decide +kernel
theorem dX11_init_26 : decode cX11_init 26 = .ok (.iconst 1, 1) := by decide +kernel
theorem dX11_init_27 : decode cX11_init 27 = .ok (.goto 4, 3) := by decide +kernel
theorem dX11_init_30 : decode cX11_init 30 = .ok (.iconst 0, 1) := by decide +kernel
theorem dX11_init_31 : decode cX11_init 31 = .ok (.invokespecial 9, 3) := by decide +kernel
theorem dX11_init_34 : decode cX11_init 34 = .ok (.putfield 12, 3) := by decide +kernel
theorem dX11_init_37 : decode cX11_init 37 = .ok (.aload_n 0, 1) := by decide +kernel
theorem dX11_init_38 : decode cX11_init 38 = .ok (.sipush 600, 3) := by decide +kernel
theorem dX11_init_41 : decode cX11_init 41 = .ok (.newarray .byte, 2) := by decide +kernel
theorem dX11_init_43 : decode cX11_init 43 = .ok (.putfield 18, 3) := by decide +kernel
theorem dX11_init_46 : decode cX11_init 46 = .ok (.aload_n 0, 1) := by decide +kernel
theorem dX11_init_47 : decode cX11_init 47 = .ok (.sipush 400, 3) := by decide +kernel
theorem dX11_init_50 : decode cX11_init 50 = .ok (.anewarray 22, 3) := by decide +kernel
theorem dX11_init_53 : decode cX11_init 53 = .ok (.putfield 24, 3) := by decide +kernel
theorem dX11_init_56 : decode cX11_init 56 = .ok (.aload_n 0, 1) := by decide +kernel
theorem dX11_init_57 : decode cX11_init 57 = .ok (.bipush 16, 2) := by decide +kernel
theorem dX11_init_59 : decode cX11_init 59 = .ok (.anewarray 28, 3) := by decide +kernel
theorem dX11_init_62 : decode cX11_init 62 = .ok (.putfield 30, 3) := by decide +kernel
theorem dX11_init_65 : decode cX11_init 65 = .ok (.aload_n 0, 1) := by decide +kernel
theorem dX11_init_66 : decode cX11_init 66 = .ok (.sipush 400, 3) := by decide +kernel
theorem dX11_init_69 : decode cX11_init 69 = .ok (.anewarray 22, 3) := by decide +kernel
theorem dX11_init_72 : decode cX11_init 72 = .ok (.putfield 34, 3) := by decide +kernel
theorem dX11_init_75 : decode cX11_init 75 = .ok (.aload_n 0, 1) := by decide +kernel
theorem dX11_init_76 : decode cX11_init 76 = .ok (.iconst 4, 1) := by decide +kernel
theorem dX11_init_77 : decode cX11_init 77 = .ok (.anewarray 37, 3) := by decide +kernel
theorem dX11_init_80 : decode cX11_init 80 = .ok (.putfield 39, 3) := by decide +kernel
theorem dX11_init_83 : decode cX11_init 83 = .ok (.iconst 0, 1) := by decide +kernel
theorem dX11_init_84 : decode cX11_init 84 = .ok (.istore_n 2, 1) := by decide +kernel
theorem dX11_init_85 : decode cX11_init 85 = .ok (.iload_n 2, 1) := by decide +kernel
theorem dX11_init_86 : decode cX11_init 86 = .ok (.iconst 4, 1) := by decide +kernel
theorem dX11_init_87 : decode cX11_init 87 = .ok (.if_icmp .ge 22, 3) := by decide +kernel
theorem dX11_init_90 : decode cX11_init 90 = .ok (.aload_n 0, 1) := by decide +kernel
theorem dX11_init_91 : decode cX11_init 91 = .ok (.getfield 39, 3) := by decide +kernel
theorem dX11_init_94 : decode cX11_init 94 = .ok (.iload_n 2, 1) := by decide +kernel
theorem dX11_init_95 : decode cX11_init 95 = .ok (.new 37, 3) := by decide +kernel
theorem dX11_init_98 : decode cX11_init 98 = .ok (.dup, 1) := by decide +kernel
theorem dX11_init_99 : decode cX11_init 99 = .ok (.invokespecial 43, 3) := by decide +kernel
theorem dX11_init_102 : decode cX11_init 102 = .ok (.aastore, 1) := by decide +kernel
theorem dX11_init_103 : decode cX11_init 103 = .ok (.iinc 2 1, 3) := by decide +kernel
theorem dX11_init_106 : decode cX11_init 106 = .ok (.goto (-21), 3) := by decide +kernel
theorem dX11_init_109 : decode cX11_init 109 = .ok (.aload_n 0, 1) := by decide +kernel
theorem dX11_init_110 : decode cX11_init 110 = .ok (.new 44, 3) := by decide +kernel
theorem dX11_init_113 : decode cX11_init 113 = .ok (.dup, 1) := by decide +kernel
theorem dX11_init_114 : decode cX11_init 114 = .ok (.invokespecial 46, 3) := by decide +kernel
theorem dX11_init_117 : decode cX11_init 117 = .ok (.putfield 47, 3) := by decide +kernel
theorem dX11_init_120 : decode cX11_init 120 = .ok (.aload_n 0, 1) := by decide +kernel
theorem dX11_init_121 : decode cX11_init 121 = .ok (.new 51, 3) := by decide +kernel
theorem dX11_init_124 : decode cX11_init 124 = .ok (.dup, 1) := by decide +kernel
theorem dX11_init_125 : decode cX11_init 125 = .ok (.invokespecial 53, 3) := by decide +kernel
theorem dX11_init_128 : decode cX11_init 128 = .ok (.putfield 54, 3) := by decide +kernel
theorem dX11_init_131 : decode cX11_init 131 = .ok (.aload_n 0, 1) := by decide +kernel
theorem dX11_init_132 : decode cX11_init 132 = .ok (.new 58, 3) := by decide +kernel
theorem dX11_init_135 : decode cX11_init 135 = .ok (.dup, 1) := by decide +kernel
theorem dX11_init_136 : decode cX11_init 136 = .ok (.invokespecial 60, 3) := by decide +kernel
theorem dX11_init_139 : decode cX11_init 139 = .ok (.putfield 61, 3) := by decide +kernel
theorem dX11_init_142 : decode cX11_init 142 = .ok (.return_, 1) := by decide +kernel
theorem dX11_feed_0 : decode cX11_feed 0 = .ok (.iload 5, 2) := by decide +kernel
theorem dX11_feed_2 : decode cX11_feed 2 = .ok (.iconst 1, 1) := by decide +kernel
theorem dX11_feed_3 : decode cX11_feed 3 = .ok (.if_icmp .lt 10, 3) := by decide +kernel
theorem dX11_feed_6 : decode cX11_feed 6 = .ok (.iload 5, 2) := by decide +kernel
theorem dX11_feed_8 : decode cX11_feed 8 = .ok (.bipush 16, 2) := by decide +kernel
theorem dX11_feed_10 : decode cX11_feed 10 = .ok (.if_icmp .le 6, 3) := by decide +kernel
theorem dX11_feed_13 : decode cX11_feed 13 = .ok (.bipush (-2), 2) := by decide +kernel
theorem dX11_feed_15 : decode cX11_feed 15 = .ok (.ireturn, 1) := by decide +kernel
theorem dX11_feed_16 : decode cX11_feed 16 = .ok (.aload_n 0, 1) := by decide +kernel
theorem dX11_feed_17 : decode cX11_feed 17 = .ok (.getfield 65, 3) := by decide +kernel
theorem dX11_feed_20 : decode cX11_feed 20 = .ok (.iload 5, 2) := by decide +kernel
theorem dX11_feed_22 : decode cX11_feed 22 = .ok (.iadd, 1) := by decide +kernel
theorem dX11_feed_23 : decode cX11_feed 23 = .ok (.sipush 600, 3) := by decide +kernel
theorem dX11_feed_26 : decode cX11_feed 26 = .ok (.if_icmp .le 6, 3) := by decide +kernel
theorem dX11_feed_29 : decode cX11_feed 29 = .ok (.bipush (-3), 2) := by decide +kernel
theorem dX11_feed_31 : decode cX11_feed 31 = .ok (.ireturn, 1) := by decide +kernel
theorem dX11_feed_32 : decode cX11_feed 32 = .ok (.iconst 0, 1) := by decide +kernel
theorem dX11_feed_33 : decode cX11_feed 33 = .ok (.istore 6, 2) := by decide +kernel
theorem dX11_feed_35 : decode cX11_feed 35 = .ok (.iload 6, 2) := by decide +kernel
theorem dX11_feed_37 : decode cX11_feed 37 = .ok (.iload 5, 2) := by decide +kernel
theorem dX11_feed_39 : decode cX11_feed 39 = .ok (.if_icmp .ge 58, 3) := by decide +kernel
theorem dX11_feed_42 : decode cX11_feed 42 = .ok (.iload 6, 2) := by decide +kernel
theorem dX11_feed_44 : decode cX11_feed 44 = .ok (.bipush 8, 2) := by decide +kernel
theorem dX11_feed_46 : decode cX11_feed 46 = .ok (.if_icmp .ge 7, 3) := by decide +kernel
theorem dX11_feed_49 : decode cX11_feed 49 = .ok (.lload_n 1, 1) := by decide +kernel
theorem dX11_feed_50 : decode cX11_feed 50 = .ok (.goto 4, 3) := by decide +kernel
theorem dX11_feed_53 : decode cX11_feed 53 = .ok (.lload_n 3, 1) := by decide +kernel
theorem dX11_feed_54 : decode cX11_feed 54 = .ok (.lstore 7, 2) := by decide +kernel
theorem dX11_feed_56 : decode cX11_feed 56 = .ok (.aload_n 0, 1) := by decide +kernel
theorem dX11_feed_57 : decode cX11_feed 57 = .ok (.getfield 18, 3) := by decide +kernel
theorem dX11_feed_60 : decode cX11_feed 60 = .ok (.aload_n 0, 1) := by decide +kernel
theorem dX11_feed_61 : decode cX11_feed 61 = .ok (.getfield 65, 3) := by decide +kernel
theorem dX11_feed_64 : decode cX11_feed 64 = .ok (.lload 7, 2) := by decide +kernel
theorem dX11_feed_66 : decode cX11_feed 66 = .ok (.bipush 56, 2) := by decide +kernel
theorem dX11_feed_68 : decode cX11_feed 68 = .ok (.bipush 8, 2) := by decide +kernel
theorem dX11_feed_70 : decode cX11_feed 70 = .ok (.iload 6, 2) := by decide +kernel
theorem dX11_feed_72 : decode cX11_feed 72 = .ok (.bipush 7, 2) := by decide +kernel
theorem dX11_feed_74 : decode cX11_feed 74 = .ok (.iand, 1) := by decide +kernel
theorem dX11_feed_75 : decode cX11_feed 75 = .ok (.imul, 1) := by decide +kernel
theorem dX11_feed_76 : decode cX11_feed 76 = .ok (.isub, 1) := by decide +kernel
theorem dX11_feed_77 : decode cX11_feed 77 = .ok (.lushr, 1) := by decide +kernel
theorem dX11_feed_78 : decode cX11_feed 78 = .ok (.l2i, 1) := by decide +kernel
theorem dX11_feed_79 : decode cX11_feed 79 = .ok (.i2b, 1) := by decide +kernel
theorem dX11_feed_80 : decode cX11_feed 80 = .ok (.bastore, 1) := by decide +kernel
theorem dX11_feed_81 : decode cX11_feed 81 = .ok (.aload_n 0, 1) := by decide +kernel
theorem dX11_feed_82 : decode cX11_feed 82 = .ok (.dup, 1) := by decide +kernel
theorem dX11_feed_83 : decode cX11_feed 83 = .ok (.getfield 65, 3) := by decide +kernel
theorem dX11_feed_86 : decode cX11_feed 86 = .ok (.iconst 1, 1) := by decide +kernel
theorem dX11_feed_87 : decode cX11_feed 87 = .ok (.iadd, 1) := by decide +kernel
theorem dX11_feed_88 : decode cX11_feed 88 = .ok (.putfield 65, 3) := by decide +kernel
theorem dX11_feed_91 : decode cX11_feed 91 = .ok (.iinc 6 1, 3) := by decide +kernel
theorem dX11_feed_94 : decode cX11_feed 94 = .ok (.goto (-59), 3) := by decide +kernel
theorem dX11_feed_97 : decode cX11_feed 97 = .ok (.aload_n 0, 1) := by decide +kernel
theorem dX11_feed_98 : decode cX11_feed 98 = .ok (.getfield 65, 3) := by decide +kernel
theorem dX11_feed_101 : decode cX11_feed 101 = .ok (.ireturn, 1) := by decide +kernel
theorem dX11_add_0 : decode cX11_add 0 = .ok (.aload_n 0, 1) := by decide +kernel
theorem dX11_add_1 : decode cX11_add 1 = .ok (.invokevirtual 69, 3) := by decide +kernel
theorem dX11_add_4 : decode cX11_add 4 = .ok (.istore 5, 2) := by decide +kernel
theorem dX11_add_6 : decode cX11_add 6 = .ok (.aload_n 0, 1) := by decide +kernel
theorem dX11_add_7 : decode cX11_add 7 = .ok (.iload 5, 2) := by decide +kernel
theorem dX11_add_9 : decode cX11_add 9 = .ok (.invokevirtual 73, 3) := by decide +kernel
theorem dX11_add_12 : decode cX11_add 12 = .ok (.istore 6, 2) := by decide +kernel
theorem dX11_add_14 : decode cX11_add 14 = .ok (.iload 6, 2) := by decide +kernel
theorem dX11_add_16 : decode cX11_add 16 = .ok (.iconst 1, 1) := by decide +kernel
theorem dX11_add_17 : decode cX11_add 17 = .ok (.iadd, 1) := by decide +kernel
theorem dX11_add_18 : decode cX11_add 18 = .ok (.iload 5, 2) := by decide +kernel
theorem dX11_add_20 : decode cX11_add 20 = .ok (.invokestatic 77, 3) := by decide +kernel
theorem dX11_add_23 : decode cX11_add 23 = .ok (.istore 7, 2) := by decide +kernel
theorem dX11_add_25 : decode cX11_add 25 = .ok (.iload 6, 2) := by decide +kernel
theorem dX11_add_27 : decode cX11_add 27 = .ok (.bipush 100, 2) := by decide +kernel
theorem dX11_add_29 : decode cX11_add 29 = .ok (.if_icmp .gt 14, 3) := by decide +kernel
theorem dX11_add_32 : decode cX11_add 32 = .ok (.iload 5, 2) := by decide +kernel
theorem dX11_add_34 : decode cX11_add 34 = .ok (.iload 7, 2) := by decide +kernel
theorem dX11_add_36 : decode cX11_add 36 = .ok (.isub, 1) := by decide +kernel
theorem dX11_add_37 : decode cX11_add 37 = .ok (.sipush 400, 3) := by decide +kernel
theorem dX11_add_40 : decode cX11_add 40 = .ok (.if_icmp .le 6, 3) := by decide +kernel
theorem dX11_add_43 : decode cX11_add 43 = .ok (.bipush (-2), 2) := by decide +kernel
theorem dX11_add_45 : decode cX11_add 45 = .ok (.ireturn, 1) := by decide +kernel
theorem dX11_add_46 : decode cX11_add 46 = .ok (.aload_n 0, 1) := by decide +kernel
theorem dX11_add_47 : decode cX11_add 47 = .ok (.getfield 83, 3) := by decide +kernel
theorem dX11_add_50 : decode cX11_add 50 = .ok (.sipush 400, 3) := by decide +kernel
theorem dX11_add_53 : decode cX11_add 53 = .ok (.if_icmp .lt 6, 3) := by decide +kernel
theorem dX11_add_56 : decode cX11_add 56 = .ok (.bipush (-3), 2) := by decide +kernel
theorem dX11_add_58 : decode cX11_add 58 = .ok (.ireturn, 1) := by decide +kernel
theorem dX11_add_59 : decode cX11_add 59 = .ok (.aload_n 0, 1) := by decide +kernel
theorem dX11_add_60 : decode cX11_add 60 = .ok (.lload_n 1, 1) := by decide +kernel
theorem dX11_add_61 : decode cX11_add 61 = .ok (.invokevirtual 86, 3) := by decide +kernel
theorem dX11_add_64 : decode cX11_add 64 = .ok (.pop, 1) := by decide +kernel
theorem dX11_add_65 : decode cX11_add 65 = .ok (.new 90, 3) := by decide +kernel
theorem dX11_add_68 : decode cX11_add 68 = .ok (.dup, 1) := by decide +kernel
theorem dX11_add_69 : decode cX11_add 69 = .ok (.aload_n 0, 1) := by decide +kernel
theorem dX11_add_70 : decode cX11_add 70 = .ok (.getfield 18, 3) := by decide +kernel
theorem dX11_add_73 : decode cX11_add 73 = .ok (.iconst 0, 1) := by decide +kernel
theorem dX11_add_74 : decode cX11_add 74 = .ok (.iload 6, 2) := by decide +kernel
theorem dX11_add_76 : decode cX11_add 76 = .ok (.aload_n 0, 1) := by decide +kernel
theorem dX11_add_77 : decode cX11_add 77 = .ok (.getfield 12, 3) := by decide +kernel
theorem dX11_add_80 : decode cX11_add 80 = .ok (.invokespecial 92, 3) := by decide +kernel
theorem dX11_add_83 : decode cX11_add 83 = .ok (.astore 8, 2) := by decide +kernel
theorem dX11_add_85 : decode cX11_add 85 = .ok (.new 90, 3) := by decide +kernel
theorem dX11_add_88 : decode cX11_add 88 = .ok (.dup, 1) := by decide +kernel
theorem dX11_add_89 : decode cX11_add 89 = .ok (.aload_n 0, 1) := by decide +kernel
theorem dX11_add_90 : decode cX11_add 90 = .ok (.getfield 18, 3) := by decide +kernel
theorem dX11_add_93 : decode cX11_add 93 = .ok (.iload 7, 2) := by decide +kernel
theorem dX11_add_95 : decode cX11_add 95 = .ok (.iload 5, 2) := by decide +kernel
theorem dX11_add_97 : decode cX11_add 97 = .ok (.aload_n 0, 1) := by decide +kernel
theorem dX11_add_98 : decode cX11_add 98 = .ok (.getfield 12, 3) := by decide +kernel
theorem dX11_add_101 : decode cX11_add 101 = .ok (.invokespecial 92, 3) := by decide +kernel
theorem dX11_add_104 : decode cX11_add 104 = .ok (.astore 9, 2) := by decide +kernel
theorem dX11_add_106 : decode cX11_add 106 = .ok (.aload_n 0, 1) := by decide +kernel
theorem dX11_add_107 : decode cX11_add 107 = .ok (.getfield 24, 3) := by decide +kernel
theorem dX11_add_110 : decode cX11_add 110 = .ok (.aload_n 0, 1) := by decide +kernel
theorem dX11_add_111 : decode cX11_add 111 = .ok (.getfield 83, 3) := by decide +kernel
theorem dX11_add_114 : decode cX11_add 114 = .ok (.new 22, 3) := by decide +kernel
theorem dX11_add_117 : decode cX11_add 117 = .ok (.dup, 1) := by decide +kernel
theorem dX11_add_118 : decode cX11_add 118 = .ok (.lload_n 1, 1) := by decide +kernel
theorem dX11_add_119 : decode cX11_add 119 = .ok (.iload_n 3, 1) := by decide +kernel
theorem dX11_add_120 : decode cX11_add 120 = .ok (.iload 4, 2) := by decide +kernel
theorem dX11_add_122 : decode cX11_add 122 = .ok (.aload_n 0, 1) := by decide +kernel
theorem dX11_add_123 : decode cX11_add 123 = .ok (.getfield 83, 3) := by decide +kernel
theorem dX11_add_126 : decode cX11_add 126 = .ok (.aload 8, 2) := by decide +kernel
theorem dX11_add_128 : decode cX11_add 128 = .ok (.aload 9, 2) := by decide +kernel
theorem dX11_add_130 : decode cX11_add 130 = .ok (.invokespecial 95, 3) := by decide +kernel
theorem dX11_add_133 : decode cX11_add 133 = .ok (.aastore, 1) := by decide +kernel
theorem dX11_add_134 : decode cX11_add 134 = .ok (.aload_n 0, 1) := by decide +kernel
theorem dX11_add_135 : decode cX11_add 135 = .ok (.dup, 1) := by decide +kernel
theorem dX11_add_136 : decode cX11_add 136 = .ok (.getfield 83, 3) := by decide +kernel
theorem dX11_add_139 : decode cX11_add 139 = .ok (.iconst 1, 1) := by decide +kernel
theorem dX11_add_140 : decode cX11_add 140 = .ok (.iadd, 1) := by decide +kernel
theorem dX11_add_141 : decode cX11_add 141 = .ok (.putfield 83, 3) := by decide +kernel
theorem dX11_add_144 : decode cX11_add 144 = .ok (.aload_n 0, 1) := by decide +kernel
theorem dX11_add_145 : decode cX11_add 145 = .ok (.invokevirtual 98, 3) := by decide +kernel
theorem dX11_add_148 : decode cX11_add 148 = .ok (.bipush 16, 2) := by decide +kernel
theorem dX11_add_150 : decode cX11_add 150 = .ok (.if_icmp .lt 7, 3) := by decide +kernel
theorem dX11_add_153 : decode cX11_add 153 = .ok (.aload_n 0, 1) := by decide +kernel
theorem dX11_add_154 : decode cX11_add 154 = .ok (.invokevirtual 101, 3) := by decide +kernel
theorem dX11_add_157 : decode cX11_add 157 = .ok (.aload_n 0, 1) := by decide +kernel
theorem dX11_add_158 : decode cX11_add 158 = .ok (.getfield 83, 3) := by decide +kernel
theorem dX11_add_161 : decode cX11_add 161 = .ok (.ireturn, 1) := by decide +kernel
theorem dX11_delete_0 : decode cX11_delete 0 = .ok (.aload_n 0, 1) := by decide +kernel
theorem dX11_delete_1 : decode cX11_delete 1 = .ok (.lload_n 1, 1) := by decide +kernel
theorem dX11_delete_2 : decode cX11_delete 2 = .ok (.invokevirtual 86, 3) := by decide +kernel
theorem dX11_delete_5 : decode cX11_delete 5 = .ok (.ireturn, 1) := by decide +kernel
theorem dX11_refresh_0 : decode cX11_refresh 0 = .ok (.aload_n 0, 1) := by decide +kernel
theorem dX11_refresh_1 : decode cX11_refresh 1 = .ok (.invokevirtual 101, 3) := by decide +kernel
theorem dX11_refresh_4 : decode cX11_refresh 4 = .ok (.aload_n 0, 1) := by decide +kernel
theorem dX11_refresh_5 : decode cX11_refresh 5 = .ok (.getfield 104, 3) := by decide +kernel
theorem dX11_refresh_8 : decode cX11_refresh 8 = .ok (.ireturn, 1) := by decide +kernel
theorem dX11_open_0 : decode cX11_open 0 = .ok (.iconst 0, 1) := by decide +kernel
theorem dX11_open_1 : decode cX11_open 1 = .ok (.istore_n 1, 1) := by decide +kernel
theorem dX11_open_2 : decode cX11_open 2 = .ok (.iload_n 1, 1) := by decide +kernel
theorem dX11_open_3 : decode cX11_open 3 = .ok (.iconst 4, 1) := by decide +kernel
theorem dX11_open_4 : decode cX11_open 4 = .ok (.if_icmp .ge 40, 3) := by decide +kernel
theorem dX11_open_7 : decode cX11_open 7 = .ok (.aload_n 0, 1) := by decide +kernel
theorem dX11_open_8 : decode cX11_open 8 = .ok (.getfield 39, 3) := by decide +kernel
theorem dX11_open_11 : decode cX11_open 11 = .ok (.iload_n 1, 1) := by decide +kernel
theorem dX11_open_12 : decode cX11_open 12 = .ok (.aaload, 1) := by decide +kernel
theorem dX11_open_13 : decode cX11_open 13 = .ok (.getfield 107, 3) := by decide +kernel
theorem dX11_open_16 : decode cX11_open 16 = .ok (.ifCond .ne 22, 3) := by decide +kernel
theorem dX11_open_19 : decode cX11_open 19 = .ok (.aload_n 0, 1) := by decide +kernel
theorem dX11_open_20 : decode cX11_open 20 = .ok (.getfield 39, 3) := by decide +kernel
theorem dX11_open_23 : decode cX11_open 23 = .ok (.iload_n 1, 1) := by decide +kernel
theorem dX11_open_24 : decode cX11_open 24 = .ok (.aaload, 1) := by decide +kernel
theorem dX11_open_25 : decode cX11_open 25 = .ok (.aload_n 0, 1) := by decide +kernel
theorem dX11_open_26 : decode cX11_open 26 = .ok (.getfield 30, 3) := by decide +kernel
theorem dX11_open_29 : decode cX11_open 29 = .ok (.aload_n 0, 1) := by decide +kernel
theorem dX11_open_30 : decode cX11_open 30 = .ok (.getfield 104, 3) := by decide +kernel
theorem dX11_open_33 : decode cX11_open 33 = .ok (.invokevirtual 111, 3) := by decide +kernel
theorem dX11_open_36 : decode cX11_open 36 = .ok (.iload_n 1, 1) := by decide +kernel
theorem dX11_open_37 : decode cX11_open 37 = .ok (.ireturn, 1) := by decide +kernel
theorem dX11_open_38 : decode cX11_open 38 = .ok (.iinc 1 1, 3) := by decide +kernel
theorem dX11_open_41 : decode cX11_open 41 = .ok (.goto (-39), 3) := by decide +kernel
theorem dX11_open_44 : decode cX11_open 44 = .ok (.bipush (-3), 2) := by decide +kernel
theorem dX11_open_46 : decode cX11_open 46 = .ok (.ireturn, 1) := by decide +kernel
theorem dX11_close_0 : decode cX11_close 0 = .ok (.aload_n 0, 1) := by decide +kernel
theorem dX11_close_1 : decode cX11_close 1 = .ok (.iload_n 1, 1) := by decide +kernel
theorem dX11_close_2 : decode cX11_close 2 = .ok (.invokevirtual 115, 3) := by decide +kernel
theorem dX11_close_5 : decode cX11_close 5 = .ok (.astore_n 2, 1) := by decide +kernel
theorem dX11_close_6 : decode cX11_close 6 = .ok (.aload_n 2, 1) := by decide +kernel
theorem dX11_close_7 : decode cX11_close 7 = .ok (.ifnonnull 6, 3) := by decide +kernel
theorem dX11_close_10 : decode cX11_close 10 = .ok (.bipush (-2), 2) := by decide +kernel
theorem dX11_close_12 : decode cX11_close 12 = .ok (.ireturn, 1) := by decide +kernel
theorem dX11_close_13 : decode cX11_close 13 = .ok (.aload_n 2, 1) := by decide +kernel
theorem dX11_close_14 : decode cX11_close 14 = .ok (.iconst 0, 1) := by decide +kernel
theorem dX11_close_15 : decode cX11_close 15 = .ok (.putfield 107, 3) := by decide +kernel
theorem dX11_close_18 : decode cX11_close 18 = .ok (.iconst 0, 1) := by decide +kernel
theorem dX11_close_19 : decode cX11_close 19 = .ok (.ireturn, 1) := by decide +kernel
theorem dX11_search_0 : decode cX11_search 0 = .ok (.aload_n 0, 1) := by decide +kernel
theorem dX11_search_1 : decode cX11_search 1 = .ok (.invokevirtual 69, 3) := by decide +kernel
theorem dX11_search_4 : decode cX11_search 4 = .ok (.istore_n 2, 1) := by decide +kernel
theorem dX11_search_5 : decode cX11_search 5 = .ok (.aload_n 0, 1) := by decide +kernel
theorem dX11_search_6 : decode cX11_search 6 = .ok (.iload_n 1, 1) := by decide +kernel
theorem dX11_search_7 : decode cX11_search 7 = .ok (.invokevirtual 115, 3) := by decide +kernel
theorem dX11_search_10 : decode cX11_search 10 = .ok (.astore_n 3, 1) := by decide +kernel
theorem dX11_search_11 : decode cX11_search 11 = .ok (.aload_n 3, 1) := by decide +kernel
theorem dX11_search_12 : decode cX11_search 12 = .ok (.ifnonnull 6, 3) := by decide +kernel
theorem dX11_search_15 : decode cX11_search 15 = .ok (.bipush (-2), 2) := by decide +kernel
theorem dX11_search_17 : decode cX11_search 17 = .ok (.ireturn, 1) := by decide +kernel
theorem dX11_search_18 : decode cX11_search 18 = .ok (.new 119, 3) := by decide +kernel
theorem dX11_search_21 : decode cX11_search 21 = .ok (.dup, 1) := by decide +kernel
theorem dX11_search_22 : decode cX11_search 22 = .ok (.aload_n 0, 1) := by decide +kernel
theorem dX11_search_23 : decode cX11_search 23 = .ok (.getfield 18, 3) := by decide +kernel
theorem dX11_search_26 : decode cX11_search 26 = .ok (.iload_n 2, 1) := by decide +kernel
theorem dX11_search_27 : decode cX11_search 27 = .ok (.aload_n 0, 1) := by decide +kernel
theorem dX11_search_28 : decode cX11_search 28 = .ok (.getfield 12, 3) := by decide +kernel
theorem dX11_search_31 : decode cX11_search 31 = .ok (.aload_n 0, 1) := by decide +kernel
theorem dX11_search_32 : decode cX11_search 32 = .ok (.getfield 54, 3) := by decide +kernel
theorem dX11_search_35 : decode cX11_search 35 = .ok (.invokespecial 121, 3) := by decide +kernel
theorem dX11_search_38 : decode cX11_search 38 = .ok (.astore 4, 2) := by decide +kernel
theorem dX11_search_40 : decode cX11_search 40 = .ok (.aload 4, 2) := by decide +kernel
theorem dX11_search_42 : decode cX11_search 42 = .ok (.invokevirtual 124, 3) := by decide +kernel
theorem dX11_search_45 : decode cX11_search 45 = .ok (.istore 5, 2) := by decide +kernel
theorem dX11_search_47 : decode cX11_search 47 = .ok (.iload 5, 2) := by decide +kernel
theorem dX11_search_49 : decode cX11_search 49 = .ok (.ifCond .lt 9, 3) := by decide +kernel
theorem dX11_search_52 : decode cX11_search 52 = .ok (.bipush (-10), 2) := by decide +kernel
theorem dX11_search_54 : decode cX11_search 54 = .ok (.iload 5, 2) := by decide +kernel
theorem dX11_search_56 : decode cX11_search 56 = .ok (.isub, 1) := by decide +kernel
theorem dX11_search_57 : decode cX11_search 57 = .ok (.ireturn, 1) := by decide +kernel
theorem dX11_search_58 : decode cX11_search 58 = .ok (.aload_n 0, 1) := by decide +kernel
theorem dX11_search_59 : decode cX11_search 59 = .ok (.getfield 54, 3) := by decide +kernel
theorem dX11_search_62 : decode cX11_search 62 = .ok (.astore 6, 2) := by decide +kernel
theorem dX11_search_64 : decode cX11_search 64 = .ok (.aload_n 0, 1) := by decide +kernel
theorem dX11_search_65 : decode cX11_search 65 = .ok (.aload_n 0, 1) := by decide +kernel
theorem dX11_search_66 : decode cX11_search 66 = .ok (.getfield 47, 3) := by decide +kernel
theorem dX11_search_69 : decode cX11_search 69 = .ok (.getfield 127, 3) := by decide +kernel
theorem dX11_search_72 : decode cX11_search 72 = .ok (.putfield 54, 3) := by decide +kernel
theorem dX11_search_75 : decode cX11_search 75 = .ok (.aload 6, 2) := by decide +kernel
theorem dX11_search_77 : decode cX11_search 77 = .ok (.aload_n 3, 1) := by decide +kernel
theorem dX11_search_78 : decode cX11_search 78 = .ok (.invokevirtual 130, 3) := by decide +kernel
theorem dX11_search_81 : decode cX11_search 81 = .ok (.aload_n 0, 1) := by decide +kernel
theorem dX11_search_82 : decode cX11_search 82 = .ok (.getfield 47, 3) := by decide +kernel
theorem dX11_search_85 : decode cX11_search 85 = .ok (.iload_n 1, 1) := by decide +kernel
theorem dX11_search_86 : decode cX11_search 86 = .ok (.aload 6, 2) := by decide +kernel
theorem dX11_search_88 : decode cX11_search 88 = .ok (.invokevirtual 134, 3) := by decide +kernel
theorem dX11_search_91 : decode cX11_search 91 = .ok (.iconst 0, 1) := by decide +kernel
theorem dX11_search_92 : decode cX11_search 92 = .ok (.istore 7, 2) := by decide +kernel
theorem dX11_search_94 : decode cX11_search 94 = .ok (.iload 7, 2) := by decide +kernel
theorem dX11_search_96 : decode cX11_search 96 = .ok (.aload_n 3, 1) := by decide +kernel
theorem dX11_search_97 : decode cX11_search 97 = .ok (.getfield 138, 3) := by decide +kernel
theorem dX11_search_100 : decode cX11_search 100 = .ok (.if_icmp .ge 45, 3) := by decide +kernel
theorem dX11_search_103 : decode cX11_search 103 = .ok (.aload_n 3, 1) := by decide +kernel
theorem dX11_search_104 : decode cX11_search 104 = .ok (.iload 7, 2) := by decide +kernel
theorem dX11_search_106 : decode cX11_search 106 = .ok (.invokevirtual 141, 3) := by decide +kernel
theorem dX11_search_109 : decode cX11_search 109 = .ok (.astore 8, 2) := by decide +kernel
theorem dX11_search_111 : decode cX11_search 111 = .ok (.aload 8, 2) := by decide +kernel
theorem dX11_search_113 : decode cX11_search 113 = .ok (.ifnull 26, 3) := by decide +kernel
theorem dX11_search_116 : decode cX11_search 116 = .ok (.aload_n 0, 1) := by decide +kernel
theorem dX11_search_117 : decode cX11_search 117 = .ok (.getfield 47, 3) := by decide +kernel
theorem dX11_search_120 : decode cX11_search 120 = .ok (.aload 8, 2) := by decide +kernel
theorem dX11_search_122 : decode cX11_search 122 = .ok (.aload 6, 2) := by decide +kernel
theorem dX11_search_124 : decode cX11_search 124 = .ok (.iconst 0, 1) := by decide +kernel
theorem dX11_search_125 : decode cX11_search 125 = .ok (.aload 6, 2) := by decide +kernel
theorem dX11_search_127 : decode cX11_search 127 = .ok (.getfield 145, 3) := by decide +kernel
theorem dX11_search_130 : decode cX11_search 130 = .ok (.aload 8, 2) := by decide +kernel
theorem dX11_search_132 : decode cX11_search 132 = .ok (.iconst 0, 1) := by decide +kernel
theorem dX11_search_133 : decode cX11_search 133 = .ok (.invokevirtual 146, 3) := by decide +kernel
theorem dX11_search_136 : decode cX11_search 136 = .ok (.invokevirtual 150, 3) := by decide +kernel
theorem dX11_search_139 : decode cX11_search 139 = .ok (.iinc 7 1, 3) := by decide +kernel
theorem dX11_search_142 : decode cX11_search 142 = .ok (.goto (-48), 3) := by decide +kernel
theorem dX11_search_145 : decode cX11_search 145 = .ok (.aload_n 0, 1) := by decide +kernel
theorem dX11_search_146 : decode cX11_search 146 = .ok (.getfield 47, 3) := by decide +kernel
theorem dX11_search_149 : decode cX11_search 149 = .ok (.invokevirtual 153, 3) := by decide +kernel
theorem dX11_search_152 : decode cX11_search 152 = .ok (.aload_n 0, 1) := by decide +kernel
theorem dX11_search_153 : decode cX11_search 153 = .ok (.getfield 47, 3) := by decide +kernel
theorem dX11_search_156 : decode cX11_search 156 = .ok (.getfield 156, 3) := by decide +kernel
theorem dX11_search_159 : decode cX11_search 159 = .ok (.ireturn, 1) := by decide +kernel
theorem dX11_key_0 : decode cX11_key 0 = .ok (.aload_n 0, 1) := by decide +kernel
theorem dX11_key_1 : decode cX11_key 1 = .ok (.getfield 47, 3) := by decide +kernel
theorem dX11_key_4 : decode cX11_key 4 = .ok (.iload_n 1, 1) := by decide +kernel
theorem dX11_key_5 : decode cX11_key 5 = .ok (.invokevirtual 157, 3) := by decide +kernel
theorem dX11_key_8 : decode cX11_key 8 = .ok (.astore_n 2, 1) := by decide +kernel
theorem dX11_key_9 : decode cX11_key 9 = .ok (.aload_n 2, 1) := by decide +kernel
theorem dX11_key_10 : decode cX11_key 10 = .ok (.ifnonnull 7, 3) := by decide +kernel
theorem dX11_key_13 : decode cX11_key 13 = .ok (.lconst 0, 1) := by decide +kernel
theorem dX11_key_14 : decode cX11_key 14 = .ok (.goto 7, 3) := by decide +kernel
theorem dX11_key_17 : decode cX11_key 17 = .ok (.aload_n 2, 1) := by decide +kernel
theorem dX11_key_18 : decode cX11_key 18 = .ok (.getfield 160, 3) := by decide +kernel
theorem dX11_key_21 : decode cX11_key 21 = .ok (.lreturn, 1) := by decide +kernel
theorem dX11_hit_0 : decode cX11_hit 0 = .ok (.iload_n 2, 1) := by decide +kernel
theorem dX11_hit_1 : decode cX11_hit 1 = .ok (.ifCond .lt 8, 3) := by decide +kernel
theorem dX11_hit_4 : decode cX11_hit 4 = .ok (.iload_n 2, 1) := by decide +kernel
theorem dX11_hit_5 : decode cX11_hit 5 = .ok (.iconst 5, 1) := by decide +kernel
theorem dX11_hit_6 : decode cX11_hit 6 = .ok (.if_icmp .le 6, 3) := by decide +kernel
theorem dX11_hit_9 : decode cX11_hit 9 = .ok (.bipush (-2), 2) := by decide +kernel
theorem dX11_hit_11 : decode cX11_hit 11 = .ok (.ireturn, 1) := by decide +kernel
theorem dX11_hit_12 : decode cX11_hit 12 = .ok (.aload_n 0, 1) := by decide +kernel
theorem dX11_hit_13 : decode cX11_hit 13 = .ok (.getfield 47, 3) := by decide +kernel
theorem dX11_hit_16 : decode cX11_hit 16 = .ok (.iload_n 1, 1) := by decide +kernel
theorem dX11_hit_17 : decode cX11_hit 17 = .ok (.invokevirtual 157, 3) := by decide +kernel
theorem dX11_hit_20 : decode cX11_hit 20 = .ok (.astore_n 3, 1) := by decide +kernel
theorem dX11_hit_21 : decode cX11_hit 21 = .ok (.aload_n 3, 1) := by decide +kernel
theorem dX11_hit_22 : decode cX11_hit 22 = .ok (.ifnonnull 5, 3) := by decide +kernel
theorem dX11_hit_25 : decode cX11_hit 25 = .ok (.iconst (-1), 1) := by decide +kernel
theorem dX11_hit_26 : decode cX11_hit 26 = .ok (.ireturn, 1) := by decide +kernel
theorem dX11_hit_27 : decode cX11_hit 27 = .ok (.iload_n 2, 1) := by decide +kernel
theorem dX11_hit_28 : decode cX11_hit 28 = .ok (.tableswitch 71 0 4 #[36, 45, 50, 55, 63], 36) := by decide +kernel
theorem dX11_hit_64 : decode cX11_hit 64 = .ok (.aload_n 0, 1) := by decide +kernel
theorem dX11_hit_65 : decode cX11_hit 65 = .ok (.getfield 47, 3) := by decide +kernel
theorem dX11_hit_68 : decode cX11_hit 68 = .ok (.iload_n 1, 1) := by decide +kernel
theorem dX11_hit_69 : decode cX11_hit 69 = .ok (.invokevirtual 164, 3) := by decide +kernel
theorem dX11_hit_72 : decode cX11_hit 72 = .ok (.ireturn, 1) := by decide +kernel
theorem dX11_hit_73 : decode cX11_hit 73 = .ok (.aload_n 3, 1) := by decide +kernel
theorem dX11_hit_74 : decode cX11_hit 74 = .ok (.getfield 167, 3) := by decide +kernel
theorem dX11_hit_77 : decode cX11_hit 77 = .ok (.ireturn, 1) := by decide +kernel
theorem dX11_hit_78 : decode cX11_hit 78 = .ok (.aload_n 3, 1) := by decide +kernel
theorem dX11_hit_79 : decode cX11_hit 79 = .ok (.getfield 170, 3) := by decide +kernel
theorem dX11_hit_82 : decode cX11_hit 82 = .ok (.ireturn, 1) := by decide +kernel
theorem dX11_hit_83 : decode cX11_hit 83 = .ok (.aload_n 3, 1) := by decide +kernel
theorem dX11_hit_84 : decode cX11_hit 84 = .ok (.getfield 173, 3) := by decide +kernel
theorem dX11_hit_87 : decode cX11_hit 87 = .ok (.invokevirtual 177, 3) := by decide +kernel
theorem dX11_hit_90 : decode cX11_hit 90 = .ok (.ireturn, 1) := by decide +kernel
theorem dX11_hit_91 : decode cX11_hit 91 = .ok (.aload_n 3, 1) := by decide +kernel
theorem dX11_hit_92 : decode cX11_hit 92 = .ok (.getfield 180, 3) := by decide +kernel
theorem dX11_hit_95 : decode cX11_hit 95 = .ok (.invokevirtual 177, 3) := by decide +kernel
theorem dX11_hit_98 : decode cX11_hit 98 = .ok (.ireturn, 1) := by decide +kernel
theorem dX11_hit_99 : decode cX11_hit 99 = .ok (.aload_n 3, 1) := by decide +kernel
theorem dX11_hit_100 : decode cX11_hit 100 = .ok (.getfield 183, 3) := by decide +kernel
theorem dX11_hit_103 : decode cX11_hit 103 = .ok (.ireturn, 1) := by decide +kernel
theorem dX11_bucket_0 : decode cX11_bucket 0 = .ok (.iload_n 1, 1) := by decide +kernel
theorem dX11_bucket_1 : decode cX11_bucket 1 = .ok (.ifCond .lt 13, 3) := by decide +kernel
theorem dX11_bucket_4 : decode cX11_bucket 4 = .ok (.iload_n 1, 1) := by decide +kernel
theorem dX11_bucket_5 : decode cX11_bucket 5 = .ok (.iconst 2, 1) := by decide +kernel
theorem dX11_bucket_6 : decode cX11_bucket 6 = .ok (.if_icmp .ge 8, 3) := by decide +kernel
theorem dX11_bucket_9 : decode cX11_bucket 9 = .ok (.iload_n 3, 1) := by decide +kernel
theorem dX11_bucket_10 : decode cX11_bucket 10 = .ok (.iconst 1, 1) := by decide +kernel
theorem dX11_bucket_11 : decode cX11_bucket 11 = .ok (.if_icmp .ge 6, 3) := by decide +kernel
theorem dX11_bucket_14 : decode cX11_bucket 14 = .ok (.bipush (-2), 2) := by decide +kernel
theorem dX11_bucket_16 : decode cX11_bucket 16 = .ok (.ireturn, 1) := by decide +kernel
theorem dX11_bucket_17 : decode cX11_bucket 17 = .ok (.iload_n 2, 1) := by decide +kernel
theorem dX11_bucket_18 : decode cX11_bucket 18 = .ok (.i2l, 1) := by decide +kernel
theorem dX11_bucket_19 : decode cX11_bucket 19 = .ok (.iload_n 3, 1) := by decide +kernel
theorem dX11_bucket_20 : decode cX11_bucket 20 = .ok (.i2l, 1) := by decide +kernel
theorem dX11_bucket_21 : decode cX11_bucket 21 = .ok (.ladd, 1) := by decide +kernel
theorem dX11_bucket_22 : decode cX11_bucket 22 = .ok (.lconst 1, 1) := by decide +kernel
theorem dX11_bucket_23 : decode cX11_bucket 23 = .ok (.lsub, 1) := by decide +kernel
theorem dX11_bucket_24 : decode cX11_bucket 24 = .ok (.lstore 4, 2) := by decide +kernel
theorem dX11_bucket_26 : decode cX11_bucket 26 = .ok (.iconst 0, 1) := by decide +kernel
theorem dX11_bucket_27 : decode cX11_bucket 27 = .ok (.istore 6, 2) := by decide +kernel
theorem dX11_bucket_29 : decode cX11_bucket 29 = .ok (.iconst 0, 1) := by decide +kernel
theorem dX11_bucket_30 : decode cX11_bucket 30 = .ok (.istore 7, 2) := by decide +kernel
theorem dX11_bucket_32 : decode cX11_bucket 32 = .ok (.iload 7, 2) := by decide +kernel
theorem dX11_bucket_34 : decode cX11_bucket 34 = .ok (.aload_n 0, 1) := by decide +kernel
theorem dX11_bucket_35 : decode cX11_bucket 35 = .ok (.getfield 47, 3) := by decide +kernel
theorem dX11_bucket_38 : decode cX11_bucket 38 = .ok (.getfield 156, 3) := by decide +kernel
theorem dX11_bucket_41 : decode cX11_bucket 41 = .ok (.if_icmp .ge 41, 3) := by decide +kernel
theorem dX11_bucket_44 : decode cX11_bucket 44 = .ok (.aload_n 0, 1) := by decide +kernel
theorem dX11_bucket_45 : decode cX11_bucket 45 = .ok (.getfield 47, 3) := by decide +kernel
theorem dX11_bucket_48 : decode cX11_bucket 48 = .ok (.iload 7, 2) := by decide +kernel
theorem dX11_bucket_50 : decode cX11_bucket 50 = .ok (.invokevirtual 157, 3) := by decide +kernel
theorem dX11_bucket_53 : decode cX11_bucket 53 = .ok (.astore 8, 2) := by decide +kernel
theorem dX11_bucket_55 : decode cX11_bucket 55 = .ok (.aload 8, 2) := by decide +kernel
theorem dX11_bucket_57 : decode cX11_bucket 57 = .ok (.ifnull 19, 3) := by decide +kernel
theorem dX11_bucket_60 : decode cX11_bucket 60 = .ok (.aload 8, 2) := by decide +kernel
theorem dX11_bucket_62 : decode cX11_bucket 62 = .ok (.iload_n 1, 1) := by decide +kernel
theorem dX11_bucket_63 : decode cX11_bucket 63 = .ok (.iload_n 2, 1) := by decide +kernel
theorem dX11_bucket_64 : decode cX11_bucket 64 = .ok (.i2l, 1) := by decide +kernel
theorem dX11_bucket_65 : decode cX11_bucket 65 = .ok (.lload 4, 2) := by decide +kernel
theorem dX11_bucket_67 : decode cX11_bucket 67 = .ok (.invokevirtual 186, 3) := by decide +kernel
theorem dX11_bucket_70 : decode cX11_bucket 70 = .ok (.ifCond .eq 6, 3) := by decide +kernel
theorem dX11_bucket_73 : decode cX11_bucket 73 = .ok (.iinc 6 1, 3) := by decide +kernel
theorem dX11_bucket_76 : decode cX11_bucket 76 = .ok (.iinc 7 1, 3) := by decide +kernel
theorem dX11_bucket_79 : decode cX11_bucket 79 = .ok (.goto (-47), 3) := by decide +kernel
theorem dX11_bucket_82 : decode cX11_bucket 82 = .ok (.iload 6, 2) := by decide +kernel
theorem dX11_bucket_84 : decode cX11_bucket 84 = .ok (.ireturn, 1) := by decide +kernel
theorem dX11_over_0 : decode cX11_over 0 = .ok (.iload_n 1, 1) := by decide +kernel
theorem dX11_over_1 : decode cX11_over 1 = .ok (.ifCond .lt 17, 3) := by decide +kernel
theorem dX11_over_4 : decode cX11_over 4 = .ok (.iload_n 1, 1) := by decide +kernel
theorem dX11_over_5 : decode cX11_over 5 = .ok (.iconst 2, 1) := by decide +kernel
theorem dX11_over_6 : decode cX11_over 6 = .ok (.if_icmp .ge 12, 3) := by decide +kernel
theorem dX11_over_9 : decode cX11_over 9 = .ok (.iload_n 2, 1) := by decide +kernel
theorem dX11_over_10 : decode cX11_over 10 = .ok (.ifCond .lt 8, 3) := by decide +kernel
theorem dX11_over_13 : decode cX11_over 13 = .ok (.iload_n 2, 1) := by decide +kernel
theorem dX11_over_14 : decode cX11_over 14 = .ok (.iconst 2, 1) := by decide +kernel
theorem dX11_over_15 : decode cX11_over 15 = .ok (.if_icmp .le 7, 3) := by decide +kernel
theorem dX11_over_18 : decode cX11_over 18 = .ok (.ldc2_w 190, 3) := by decide +kernel
theorem dX11_over_21 : decode cX11_over 21 = .ok (.lreturn, 1) := by decide +kernel
theorem dX11_over_22 : decode cX11_over 22 = .ok (.lconst 0, 1) := by decide +kernel
theorem dX11_over_23 : decode cX11_over 23 = .ok (.lstore_n 3, 1) := by decide +kernel
theorem dX11_over_24 : decode cX11_over 24 = .ok (.lconst 0, 1) := by decide +kernel
theorem dX11_over_25 : decode cX11_over 25 = .ok (.lstore 5, 2) := by decide +kernel
theorem dX11_over_27 : decode cX11_over 27 = .ok (.lconst 0, 1) := by decide +kernel
theorem dX11_over_28 : decode cX11_over 28 = .ok (.lstore 7, 2) := by decide +kernel
theorem dX11_over_30 : decode cX11_over 30 = .ok (.iconst 0, 1) := by decide +kernel
theorem dX11_over_31 : decode cX11_over 31 = .ok (.istore 9, 2) := by decide +kernel
theorem dX11_over_33 : decode cX11_over 33 = .ok (.iload 9, 2) := by decide +kernel
theorem dX11_over_35 : decode cX11_over 35 = .ok (.aload_n 0, 1) := by decide +kernel
theorem dX11_over_36 : decode cX11_over 36 = .ok (.getfield 47, 3) := by decide +kernel
theorem dX11_over_39 : decode cX11_over 39 = .ok (.getfield 156, 3) := by decide +kernel
theorem dX11_over_42 : decode cX11_over 42 = .ok (.if_icmp .ge 77, 3) := by decide +kernel
theorem dX11_over_45 : decode cX11_over 45 = .ok (.aload_n 0, 1) := by decide +kernel
theorem dX11_over_46 : decode cX11_over 46 = .ok (.getfield 47, 3) := by decide +kernel
theorem dX11_over_49 : decode cX11_over 49 = .ok (.iload 9, 2) := by decide +kernel
theorem dX11_over_51 : decode cX11_over 51 = .ok (.invokevirtual 157, 3) := by decide +kernel
theorem dX11_over_54 : decode cX11_over 54 = .ok (.astore 10, 2) := by decide +kernel
theorem dX11_over_56 : decode cX11_over 56 = .ok (.aload 10, 2) := by decide +kernel
theorem dX11_over_58 : decode cX11_over 58 = .ok (.ifnull 55, 3) := by decide +kernel
theorem dX11_over_61 : decode cX11_over 61 = .ok (.aload 10, 2) := by decide +kernel
theorem dX11_over_63 : decode cX11_over 63 = .ok (.iload_n 1, 1) := by decide +kernel
theorem dX11_over_64 : decode cX11_over 64 = .ok (.invokevirtual 192, 3) := by decide +kernel
theorem dX11_over_67 : decode cX11_over 67 = .ok (.i2l, 1) := by decide +kernel
theorem dX11_over_68 : decode cX11_over 68 = .ok (.lstore 11, 2) := by decide +kernel
theorem dX11_over_70 : decode cX11_over 70 = .ok (.lload_n 3, 1) := by decide +kernel
theorem dX11_over_71 : decode cX11_over 71 = .ok (.lload 11, 2) := by decide +kernel
theorem dX11_over_73 : decode cX11_over 73 = .ok (.ladd, 1) := by decide +kernel
theorem dX11_over_74 : decode cX11_over 74 = .ok (.lstore_n 3, 1) := by decide +kernel
theorem dX11_over_75 : decode cX11_over 75 = .ok (.iload 9, 2) := by decide +kernel
theorem dX11_over_77 : decode cX11_over 77 = .ok (.ifCond .ne 8, 3) := by decide +kernel
theorem dX11_over_80 : decode cX11_over 80 = .ok (.lload 11, 2) := by decide +kernel
theorem dX11_over_82 : decode cX11_over 82 = .ok (.goto 10, 3) := by decide +kernel
theorem dX11_over_85 : decode cX11_over 85 = .ok (.lload 5, 2) := by decide +kernel
theorem dX11_over_87 : decode cX11_over 87 = .ok (.lload 11, 2) := by decide +kernel
theorem dX11_over_89 : decode cX11_over 89 = .ok (.invokestatic 195, 3) := by decide +kernel
theorem dX11_over_92 : decode cX11_over 92 = .ok (.lstore 5, 2) := by decide +kernel
theorem dX11_over_94 : decode cX11_over 94 = .ok (.iload 9, 2) := by decide +kernel
theorem dX11_over_96 : decode cX11_over 96 = .ok (.ifCond .ne 8, 3) := by decide +kernel
theorem dX11_over_99 : decode cX11_over 99 = .ok (.lload 11, 2) := by decide +kernel
theorem dX11_over_101 : decode cX11_over 101 = .ok (.goto 10, 3) := by decide +kernel
theorem dX11_over_104 : decode cX11_over 104 = .ok (.lload 7, 2) := by decide +kernel
theorem dX11_over_106 : decode cX11_over 106 = .ok (.lload 11, 2) := by decide +kernel
theorem dX11_over_108 : decode cX11_over 108 = .ok (.invokestatic 198, 3) := by decide +kernel
theorem dX11_over_111 : decode cX11_over 111 = .ok (.lstore 7, 2) := by decide +kernel
theorem dX11_over_113 : decode cX11_over 113 = .ok (.iinc 9 1, 3) := by decide +kernel
theorem dX11_over_116 : decode cX11_over 116 = .ok (.goto (-83), 3) := by decide +kernel
theorem dX11_over_119 : decode cX11_over 119 = .ok (.iload_n 2, 1) := by decide +kernel
theorem dX11_over_120 : decode cX11_over 120 = .ok (.ifCond .ne 5, 3) := by decide +kernel
theorem dX11_over_123 : decode cX11_over 123 = .ok (.lload_n 3, 1) := by decide +kernel
theorem dX11_over_124 : decode cX11_over 124 = .ok (.lreturn, 1) := by decide +kernel
theorem dX11_over_125 : decode cX11_over 125 = .ok (.iload_n 2, 1) := by decide +kernel
theorem dX11_over_126 : decode cX11_over 126 = .ok (.iconst 1, 1) := by decide +kernel
theorem dX11_over_127 : decode cX11_over 127 = .ok (.if_icmp .ne 8, 3) := by decide +kernel
theorem dX11_over_130 : decode cX11_over 130 = .ok (.lload 5, 2) := by decide +kernel
theorem dX11_over_132 : decode cX11_over 132 = .ok (.goto 5, 3) := by decide +kernel
theorem dX11_over_135 : decode cX11_over 135 = .ok (.lload 7, 2) := by decide +kernel
theorem dX11_over_137 : decode cX11_over 137 = .ok (.lreturn, 1) := by decide +kernel
theorem dX11_mark_0 : decode cX11_mark 0 = .ok (.iload_n 2, 1) := by decide +kernel
theorem dX11_mark_1 : decode cX11_mark 1 = .ok (.ifCond .eq 11, 3) := by decide +kernel
theorem dX11_mark_4 : decode cX11_mark 4 = .ok (.iload_n 2, 1) := by decide +kernel
theorem dX11_mark_5 : decode cX11_mark 5 = .ok (.iconst 1, 1) := by decide +kernel
theorem dX11_mark_6 : decode cX11_mark 6 = .ok (.if_icmp .eq 6, 3) := by decide +kernel
theorem dX11_mark_9 : decode cX11_mark 9 = .ok (.bipush (-2), 2) := by decide +kernel
theorem dX11_mark_11 : decode cX11_mark 11 = .ok (.ireturn, 1) := by decide +kernel
theorem dX11_mark_12 : decode cX11_mark 12 = .ok (.aload_n 0, 1) := by decide +kernel
theorem dX11_mark_13 : decode cX11_mark 13 = .ok (.getfield 47, 3) := by decide +kernel
theorem dX11_mark_16 : decode cX11_mark 16 = .ok (.iload_n 1, 1) := by decide +kernel
theorem dX11_mark_17 : decode cX11_mark 17 = .ok (.invokevirtual 157, 3) := by decide +kernel
theorem dX11_mark_20 : decode cX11_mark 20 = .ok (.astore 4, 2) := by decide +kernel
theorem dX11_mark_22 : decode cX11_mark 22 = .ok (.aload 4, 2) := by decide +kernel
theorem dX11_mark_24 : decode cX11_mark 24 = .ok (.ifnonnull 5, 3) := by decide +kernel
theorem dX11_mark_27 : decode cX11_mark 27 = .ok (.iconst (-1), 1) := by decide +kernel
theorem dX11_mark_28 : decode cX11_mark 28 = .ok (.ireturn, 1) := by decide +kernel
theorem dX11_mark_29 : decode cX11_mark 29 = .ok (.aload 4, 2) := by decide +kernel
theorem dX11_mark_31 : decode cX11_mark 31 = .ok (.iload_n 2, 1) := by decide +kernel
theorem dX11_mark_32 : decode cX11_mark 32 = .ok (.invokevirtual 201, 3) := by decide +kernel
theorem dX11_mark_35 : decode cX11_mark 35 = .ok (.astore 5, 2) := by decide +kernel
theorem dX11_mark_37 : decode cX11_mark 37 = .ok (.iconst 0, 1) := by decide +kernel
theorem dX11_mark_38 : decode cX11_mark 38 = .ok (.istore 6, 2) := by decide +kernel
theorem dX11_mark_40 : decode cX11_mark 40 = .ok (.iload 6, 2) := by decide +kernel
theorem dX11_mark_42 : decode cX11_mark 42 = .ok (.aload 5, 2) := by decide +kernel
theorem dX11_mark_44 : decode cX11_mark 44 = .ok (.invokevirtual 177, 3) := by decide +kernel
theorem dX11_mark_47 : decode cX11_mark 47 = .ok (.if_icmp .ge 52, 3) := by decide +kernel
theorem dX11_mark_50 : decode cX11_mark 50 = .ok (.aload_n 0, 1) := by decide +kernel
theorem dX11_mark_51 : decode cX11_mark 51 = .ok (.getfield 47, 3) := by decide +kernel
theorem dX11_mark_54 : decode cX11_mark 54 = .ok (.getfield 127, 3) := by decide +kernel
theorem dX11_mark_57 : decode cX11_mark 57 = .ok (.aload 5, 2) := by decide +kernel
theorem dX11_mark_59 : decode cX11_mark 59 = .ok (.iload 6, 2) := by decide +kernel
theorem dX11_mark_61 : decode cX11_mark 61 = .ok (.invokevirtual 205, 3) := by decide +kernel
theorem dX11_mark_64 : decode cX11_mark 64 = .ok (.iload_n 2, 1) := by decide +kernel
theorem dX11_mark_65 : decode cX11_mark 65 = .ok (.invokevirtual 209, 3) := by decide +kernel
theorem dX11_mark_68 : decode cX11_mark 68 = .ok (.ifCond .eq 25, 3) := by decide +kernel
theorem dX11_mark_71 : decode cX11_mark 71 = .ok (.iload_n 3, 1) := by decide +kernel
theorem dX11_mark_72 : decode cX11_mark 72 = .ok (.ifCond .eq 13, 3) := by decide +kernel
theorem dX11_mark_75 : decode cX11_mark 75 = .ok (.aload 5, 2) := by decide +kernel
theorem dX11_mark_77 : decode cX11_mark 77 = .ok (.iload 6, 2) := by decide +kernel
theorem dX11_mark_79 : decode cX11_mark 79 = .ok (.invokevirtual 213, 3) := by decide +kernel
theorem dX11_mark_82 : decode cX11_mark 82 = .ok (.goto 10, 3) := by decide +kernel
theorem dX11_mark_85 : decode cX11_mark 85 = .ok (.aload 5, 2) := by decide +kernel
theorem dX11_mark_87 : decode cX11_mark 87 = .ok (.iload 6, 2) := by decide +kernel
theorem dX11_mark_89 : decode cX11_mark 89 = .ok (.invokevirtual 216, 3) := by decide +kernel
theorem dX11_mark_92 : decode cX11_mark 92 = .ok (.ireturn, 1) := by decide +kernel
theorem dX11_mark_93 : decode cX11_mark 93 = .ok (.iinc 6 1, 3) := by decide +kernel
theorem dX11_mark_96 : decode cX11_mark 96 = .ok (.goto (-56), 3) := by decide +kernel
theorem dX11_mark_99 : decode cX11_mark 99 = .ok (.iconst (-1), 1) := by decide +kernel
theorem dX11_mark_100 : decode cX11_mark 100 = .ok (.ireturn, 1) := by decide +kernel
theorem dX11_near_0 : decode cX11_near 0 = .ok (.aload_n 0, 1) := by decide +kernel
theorem dX11_near_1 : decode cX11_near 1 = .ok (.invokevirtual 69, 3) := by decide +kernel
theorem dX11_near_4 : decode cX11_near 4 = .ok (.istore_n 2, 1) := by decide +kernel
theorem dX11_near_5 : decode cX11_near 5 = .ok (.aload_n 0, 1) := by decide +kernel
theorem dX11_near_6 : decode cX11_near 6 = .ok (.iload_n 1, 1) := by decide +kernel
theorem dX11_near_7 : decode cX11_near 7 = .ok (.invokevirtual 115, 3) := by decide +kernel
theorem dX11_near_10 : decode cX11_near 10 = .ok (.astore_n 3, 1) := by decide +kernel
theorem dX11_near_11 : decode cX11_near 11 = .ok (.aload_n 3, 1) := by decide +kernel
theorem dX11_near_12 : decode cX11_near 12 = .ok (.ifnull 14, 3) := by decide +kernel
theorem dX11_near_15 : decode cX11_near 15 = .ok (.aload_n 0, 1) := by decide +kernel
theorem dX11_near_16 : decode cX11_near 16 = .ok (.getfield 18, 3) := by decide +kernel
theorem dX11_near_19 : decode cX11_near 19 = .ok (.iload_n 2, 1) := by decide +kernel
theorem dX11_near_20 : decode cX11_near 20 = .ok (.invokestatic 219, 3) := by decide +kernel
theorem dX11_near_23 : decode cX11_near 23 = .ok (.ifCond .ne 6, 3) := by decide +kernel
theorem dX11_near_26 : decode cX11_near 26 = .ok (.bipush (-2), 2) := by decide +kernel
theorem dX11_near_28 : decode cX11_near 28 = .ok (.ireturn, 1) := by decide +kernel
theorem dX11_near_29 : decode cX11_near 29 = .ok (.aload_n 0, 1) := by decide +kernel
theorem dX11_near_30 : decode cX11_near 30 = .ok (.getfield 61, 3) := by decide +kernel
theorem dX11_near_33 : decode cX11_near 33 = .ok (.aload_n 3, 1) := by decide +kernel
theorem dX11_near_34 : decode cX11_near 34 = .ok (.aload_n 0, 1) := by decide +kernel
theorem dX11_near_35 : decode cX11_near 35 = .ok (.getfield 18, 3) := by decide +kernel
theorem dX11_near_38 : decode cX11_near 38 = .ok (.iload_n 2, 1) := by decide +kernel
theorem dX11_near_39 : decode cX11_near 39 = .ok (.invokevirtual 223, 3) := by decide +kernel
theorem dX11_near_42 : decode cX11_near 42 = .ok (.ireturn, 1) := by decide +kernel
theorem dX11_nearByte_0 : decode cX11_nearByte 0 = .ok (.aload_n 0, 1) := by decide +kernel
theorem dX11_nearByte_1 : decode cX11_nearByte 1 = .ok (.getfield 61, 3) := by decide +kernel
theorem dX11_nearByte_4 : decode cX11_nearByte 4 = .ok (.iload_n 1, 1) := by decide +kernel
theorem dX11_nearByte_5 : decode cX11_nearByte 5 = .ok (.invokevirtual 227, 3) := by decide +kernel
theorem dX11_nearByte_8 : decode cX11_nearByte 8 = .ok (.ireturn, 1) := by decide +kernel
theorem dX11_segment_0 : decode cX11_segment 0 = .ok (.iload_n 2, 1) := by decide +kernel
theorem dX11_segment_1 : decode cX11_segment 1 = .ok (.ifCond .lt 8, 3) := by decide +kernel
theorem dX11_segment_4 : decode cX11_segment 4 = .ok (.iload_n 2, 1) := by decide +kernel
theorem dX11_segment_5 : decode cX11_segment 5 = .ok (.iconst 4, 1) := by decide +kernel
theorem dX11_segment_6 : decode cX11_segment 6 = .ok (.if_icmp .le 6, 3) := by decide +kernel
theorem dX11_segment_9 : decode cX11_segment 9 = .ok (.bipush (-2), 2) := by decide +kernel
theorem dX11_segment_11 : decode cX11_segment 11 = .ok (.ireturn, 1) := by decide +kernel
theorem dX11_segment_12 : decode cX11_segment 12 = .ok (.aload_n 0, 1) := by decide +kernel
theorem dX11_segment_13 : decode cX11_segment 13 = .ok (.iload_n 1, 1) := by decide +kernel
theorem dX11_segment_14 : decode cX11_segment 14 = .ok (.invokevirtual 230, 3) := by decide +kernel
theorem dX11_segment_17 : decode cX11_segment 17 = .ok (.astore_n 3, 1) := by decide +kernel
theorem dX11_segment_18 : decode cX11_segment 18 = .ok (.aload_n 3, 1) := by decide +kernel
theorem dX11_segment_19 : decode cX11_segment 19 = .ok (.ifnonnull 5, 3) := by decide +kernel
theorem dX11_segment_22 : decode cX11_segment 22 = .ok (.iconst (-1), 1) := by decide +kernel
theorem dX11_segment_23 : decode cX11_segment 23 = .ok (.ireturn, 1) := by decide +kernel
theorem dX11_segment_24 : decode cX11_segment 24 = .ok (.iload_n 2, 1) := by decide +kernel
theorem dX11_segment_25 : decode cX11_segment 25 = .ok (.tableswitch 55 0 3 #[31, 36, 42, 47], 31) := by decide +kernel
theorem dX11_segment_56 : decode cX11_segment 56 = .ok (.aload_n 3, 1) := by decide +kernel
theorem dX11_segment_57 : decode cX11_segment 57 = .ok (.getfield 234, 3) := by decide +kernel
theorem dX11_segment_60 : decode cX11_segment 60 = .ok (.ireturn, 1) := by decide +kernel
theorem dX11_segment_61 : decode cX11_segment 61 = .ok (.aload_n 3, 1) := by decide +kernel
theorem dX11_segment_62 : decode cX11_segment 62 = .ok (.getfield 237, 3) := by decide +kernel
theorem dX11_segment_65 : decode cX11_segment 65 = .ok (.arraylength, 1) := by decide +kernel
theorem dX11_segment_66 : decode cX11_segment 66 = .ok (.ireturn, 1) := by decide +kernel
theorem dX11_segment_67 : decode cX11_segment 67 = .ok (.aload_n 3, 1) := by decide +kernel
theorem dX11_segment_68 : decode cX11_segment 68 = .ok (.invokevirtual 238, 3) := by decide +kernel
theorem dX11_segment_71 : decode cX11_segment 71 = .ok (.ireturn, 1) := by decide +kernel
theorem dX11_segment_72 : decode cX11_segment 72 = .ok (.aload_n 3, 1) := by decide +kernel
theorem dX11_segment_73 : decode cX11_segment 73 = .ok (.getfield 241, 3) := by decide +kernel
theorem dX11_segment_76 : decode cX11_segment 76 = .ok (.invokevirtual 245, 3) := by decide +kernel
theorem dX11_segment_79 : decode cX11_segment 79 = .ok (.ireturn, 1) := by decide +kernel
theorem dX11_segment_80 : decode cX11_segment 80 = .ok (.aload_n 3, 1) := by decide +kernel
theorem dX11_segment_81 : decode cX11_segment 81 = .ok (.getfield 250, 3) := by decide +kernel
theorem dX11_segment_84 : decode cX11_segment 84 = .ok (.invokevirtual 245, 3) := by decide +kernel
theorem dX11_segment_87 : decode cX11_segment 87 = .ok (.ireturn, 1) := by decide +kernel
theorem dX11_view_0 : decode cX11_view 0 = .ok (.aload_n 0, 1) := by decide +kernel
theorem dX11_view_1 : decode cX11_view 1 = .ok (.iload_n 1, 1) := by decide +kernel
theorem dX11_view_2 : decode cX11_view 2 = .ok (.invokevirtual 115, 3) := by decide +kernel
theorem dX11_view_5 : decode cX11_view 5 = .ok (.astore_n 3, 1) := by decide +kernel
theorem dX11_view_6 : decode cX11_view 6 = .ok (.aload_n 3, 1) := by decide +kernel
theorem dX11_view_7 : decode cX11_view 7 = .ok (.ifnonnull 6, 3) := by decide +kernel
theorem dX11_view_10 : decode cX11_view 10 = .ok (.bipush (-2), 2) := by decide +kernel
theorem dX11_view_12 : decode cX11_view 12 = .ok (.ireturn, 1) := by decide +kernel
theorem dX11_view_13 : decode cX11_view 13 = .ok (.iload_n 2, 1) := by decide +kernel
theorem dX11_view_14 : decode cX11_view 14 = .ok (.tableswitch 41 0 2 #[26, 31, 36], 26) := by decide +kernel
theorem dX11_view_40 : decode cX11_view 40 = .ok (.aload_n 3, 1) := by decide +kernel
theorem dX11_view_41 : decode cX11_view 41 = .ok (.getfield 253, 3) := by decide +kernel
theorem dX11_view_44 : decode cX11_view 44 = .ok (.ireturn, 1) := by decide +kernel
theorem dX11_view_45 : decode cX11_view 45 = .ok (.aload_n 3, 1) := by decide +kernel
theorem dX11_view_46 : decode cX11_view 46 = .ok (.getfield 138, 3) := by decide +kernel
theorem dX11_view_49 : decode cX11_view 49 = .ok (.ireturn, 1) := by decide +kernel
theorem dX11_view_50 : decode cX11_view 50 = .ok (.aload_n 3, 1) := by decide +kernel
theorem dX11_view_51 : decode cX11_view 51 = .ok (.getfield 254, 3) := by decide +kernel
theorem dX11_view_54 : decode cX11_view 54 = .ok (.ireturn, 1) := by decide +kernel
theorem dX11_view_55 : decode cX11_view 55 = .ok (.bipush (-2), 2) := by decide +kernel
theorem dX11_view_57 : decode cX11_view 57 = .ok (.ireturn, 1) := by decide +kernel
theorem dX11_frequency_0 : decode cX11_frequency 0 = .ok (.aload_n 0, 1) := by decide +kernel
theorem dX11_frequency_1 : decode cX11_frequency 1 = .ok (.invokevirtual 69, 3) := by decide +kernel
theorem dX11_frequency_4 : decode cX11_frequency 4 = .ok (.istore_n 3, 1) := by decide +kernel
theorem dX11_frequency_5 : decode cX11_frequency 5 = .ok (.aload_n 0, 1) := by decide +kernel
theorem dX11_frequency_6 : decode cX11_frequency 6 = .ok (.iload_n 1, 1) := by decide +kernel
theorem dX11_frequency_7 : decode cX11_frequency 7 = .ok (.invokevirtual 115, 3) := by decide +kernel
theorem dX11_frequency_10 : decode cX11_frequency 10 = .ok (.astore 4, 2) := by decide +kernel
theorem dX11_frequency_12 : decode cX11_frequency 12 = .ok (.aload 4, 2) := by decide +kernel
theorem dX11_frequency_14 : decode cX11_frequency 14 = .ok (.ifnull 23, 3) := by decide +kernel
theorem dX11_frequency_17 : decode cX11_frequency 17 = .ok (.iload_n 2, 1) := by decide +kernel
theorem dX11_frequency_18 : decode cX11_frequency 18 = .ok (.ifCond .eq 8, 3) := by decide +kernel
theorem dX11_frequency_21 : decode cX11_frequency 21 = .ok (.iload_n 2, 1) := by decide +kernel
theorem dX11_frequency_22 : decode cX11_frequency 22 = .ok (.iconst 1, 1) := by decide +kernel
theorem dX11_frequency_23 : decode cX11_frequency 23 = .ok (.if_icmp .ne 14, 3) := by decide +kernel
theorem dX11_frequency_26 : decode cX11_frequency 26 = .ok (.aload_n 0, 1) := by decide +kernel
theorem dX11_frequency_27 : decode cX11_frequency 27 = .ok (.getfield 18, 3) := by decide +kernel
theorem dX11_frequency_30 : decode cX11_frequency 30 = .ok (.iload_n 3, 1) := by decide +kernel
theorem dX11_frequency_31 : decode cX11_frequency 31 = .ok (.invokestatic 219, 3) := by decide +kernel
theorem dX11_frequency_34 : decode cX11_frequency 34 = .ok (.ifCond .ne 6, 3) := by decide +kernel
theorem dX11_frequency_37 : decode cX11_frequency 37 = .ok (.bipush (-2), 2) := by decide +kernel
theorem dX11_frequency_39 : decode cX11_frequency 39 = .ok (.ireturn, 1) := by decide +kernel
theorem dX11_frequency_40 : decode cX11_frequency 40 = .ok (.aload 4, 2) := by decide +kernel
theorem dX11_frequency_42 : decode cX11_frequency 42 = .ok (.iload_n 2, 1) := by decide +kernel
theorem dX11_frequency_43 : decode cX11_frequency 43 = .ok (.aload_n 0, 1) := by decide +kernel
theorem dX11_frequency_44 : decode cX11_frequency 44 = .ok (.getfield 12, 3) := by decide +kernel
theorem dX11_frequency_47 : decode cX11_frequency 47 = .ok (.aload_n 0, 1) := by decide +kernel
theorem dX11_frequency_48 : decode cX11_frequency 48 = .ok (.getfield 18, 3) := by decide +kernel
theorem dX11_frequency_51 : decode cX11_frequency 51 = .ok (.iconst 0, 1) := by decide +kernel
theorem dX11_frequency_52 : decode cX11_frequency 52 = .ok (.iload_n 3, 1) := by decide +kernel
theorem dX11_frequency_53 : decode cX11_frequency 53 = .ok (.invokevirtual 257, 3) := by decide +kernel
theorem dX11_frequency_56 : decode cX11_frequency 56 = .ok (.invokevirtual 261, 3) := by decide +kernel
theorem dX11_frequency_59 : decode cX11_frequency 59 = .ok (.ireturn, 1) := by decide +kernel
theorem dX11_told_0 : decode cX11_told 0 = .ok (.iload_n 1, 1) := by decide +kernel
theorem dX11_told_1 : decode cX11_told 1 = .ok (.tableswitch 84 0 6 #[43, 48, 53, 58, 63, 71, 79], 43) := by decide +kernel
theorem dX11_told_44 : decode cX11_told 44 = .ok (.aload_n 0, 1) := by decide +kernel
theorem dX11_told_45 : decode cX11_told 45 = .ok (.getfield 83, 3) := by decide +kernel
theorem dX11_told_48 : decode cX11_told 48 = .ok (.ireturn, 1) := by decide +kernel
theorem dX11_told_49 : decode cX11_told 49 = .ok (.aload_n 0, 1) := by decide +kernel
theorem dX11_told_50 : decode cX11_told 50 = .ok (.invokevirtual 98, 3) := by decide +kernel
theorem dX11_told_53 : decode cX11_told 53 = .ok (.ireturn, 1) := by decide +kernel
theorem dX11_told_54 : decode cX11_told 54 = .ok (.aload_n 0, 1) := by decide +kernel
theorem dX11_told_55 : decode cX11_told 55 = .ok (.getfield 104, 3) := by decide +kernel
theorem dX11_told_58 : decode cX11_told 58 = .ok (.ireturn, 1) := by decide +kernel
theorem dX11_told_59 : decode cX11_told 59 = .ok (.aload_n 0, 1) := by decide +kernel
theorem dX11_told_60 : decode cX11_told 60 = .ok (.invokevirtual 265, 3) := by decide +kernel
theorem dX11_told_63 : decode cX11_told 63 = .ok (.ireturn, 1) := by decide +kernel
theorem dX11_told_64 : decode cX11_told 64 = .ok (.aload_n 0, 1) := by decide +kernel
theorem dX11_told_65 : decode cX11_told 65 = .ok (.getfield 47, 3) := by decide +kernel
theorem dX11_told_68 : decode cX11_told 68 = .ok (.getfield 156, 3) := by decide +kernel
theorem dX11_told_71 : decode cX11_told 71 = .ok (.ireturn, 1) := by decide +kernel
theorem dX11_told_72 : decode cX11_told 72 = .ok (.aload_n 0, 1) := by decide +kernel
theorem dX11_told_73 : decode cX11_told 73 = .ok (.getfield 47, 3) := by decide +kernel
theorem dX11_told_76 : decode cX11_told 76 = .ok (.getfield 268, 3) := by decide +kernel
theorem dX11_told_79 : decode cX11_told 79 = .ok (.ireturn, 1) := by decide +kernel
theorem dX11_told_80 : decode cX11_told 80 = .ok (.aload_n 0, 1) := by decide +kernel
theorem dX11_told_81 : decode cX11_told 81 = .ok (.getfield 271, 3) := by decide +kernel
theorem dX11_told_84 : decode cX11_told 84 = .ok (.ireturn, 1) := by decide +kernel
theorem dX11_told_85 : decode cX11_told 85 = .ok (.bipush (-2), 2) := by decide +kernel
theorem dX11_told_87 : decode cX11_told 87 = .ok (.ireturn, 1) := by decide +kernel
theorem dX11_takeTape_0 : decode cX11_takeTape 0 = .ok (.aload_n 0, 1) := by decide +kernel
theorem dX11_takeTape_1 : decode cX11_takeTape 1 = .ok (.getfield 65, 3) := by decide +kernel
theorem dX11_takeTape_4 : decode cX11_takeTape 4 = .ok (.istore_n 1, 1) := by decide +kernel
theorem dX11_takeTape_5 : decode cX11_takeTape 5 = .ok (.aload_n 0, 1) := by decide +kernel
theorem dX11_takeTape_6 : decode cX11_takeTape 6 = .ok (.iconst 0, 1) := by decide +kernel
theorem dX11_takeTape_7 : decode cX11_takeTape 7 = .ok (.putfield 65, 3) := by decide +kernel
theorem dX11_takeTape_10 : decode cX11_takeTape 10 = .ok (.iload_n 1, 1) := by decide +kernel
theorem dX11_takeTape_11 : decode cX11_takeTape 11 = .ok (.ireturn, 1) := by decide +kernel
theorem dX11_firstZero_0 : decode cX11_firstZero 0 = .ok (.iconst 0, 1) := by decide +kernel
theorem dX11_firstZero_1 : decode cX11_firstZero 1 = .ok (.istore_n 2, 1) := by decide +kernel
theorem dX11_firstZero_2 : decode cX11_firstZero 2 = .ok (.iload_n 2, 1) := by decide +kernel
theorem dX11_firstZero_3 : decode cX11_firstZero 3 = .ok (.iload_n 1, 1) := by decide +kernel
theorem dX11_firstZero_4 : decode cX11_firstZero 4 = .ok (.if_icmp .ge 27, 3) := by decide +kernel
theorem dX11_firstZero_7 : decode cX11_firstZero 7 = .ok (.iload_n 2, 1) := by decide +kernel
theorem dX11_firstZero_8 : decode cX11_firstZero 8 = .ok (.sipush 600, 3) := by decide +kernel
theorem dX11_firstZero_11 : decode cX11_firstZero 11 = .ok (.if_icmp .ge 20, 3) := by decide +kernel
theorem dX11_firstZero_14 : decode cX11_firstZero 14 = .ok (.aload_n 0, 1) := by decide +kernel
theorem dX11_firstZero_15 : decode cX11_firstZero 15 = .ok (.getfield 18, 3) := by decide +kernel
theorem dX11_firstZero_18 : decode cX11_firstZero 18 = .ok (.iload_n 2, 1) := by decide +kernel
theorem dX11_firstZero_19 : decode cX11_firstZero 19 = .ok (.baload, 1) := by decide +kernel
theorem dX11_firstZero_20 : decode cX11_firstZero 20 = .ok (.ifCond .ne 5, 3) := by decide +kernel
theorem dX11_firstZero_23 : decode cX11_firstZero 23 = .ok (.iload_n 2, 1) := by decide +kernel
theorem dX11_firstZero_24 : decode cX11_firstZero 24 = .ok (.ireturn, 1) := by decide +kernel
theorem dX11_firstZero_25 : decode cX11_firstZero 25 = .ok (.iinc 2 1, 3) := by decide +kernel
theorem dX11_firstZero_28 : decode cX11_firstZero 28 = .ok (.goto (-26), 3) := by decide +kernel
theorem dX11_firstZero_31 : decode cX11_firstZero 31 = .ok (.iload_n 1, 1) := by decide +kernel
theorem dX11_firstZero_32 : decode cX11_firstZero 32 = .ok (.ireturn, 1) := by decide +kernel
theorem dX11_drop_0 : decode cX11_drop 0 = .ok (.iconst 0, 1) := by decide +kernel
theorem dX11_drop_1 : decode cX11_drop 1 = .ok (.istore_n 3, 1) := by decide +kernel
theorem dX11_drop_2 : decode cX11_drop 2 = .ok (.iload_n 3, 1) := by decide +kernel
theorem dX11_drop_3 : decode cX11_drop 3 = .ok (.aload_n 0, 1) := by decide +kernel
theorem dX11_drop_4 : decode cX11_drop 4 = .ok (.getfield 83, 3) := by decide +kernel
theorem dX11_drop_7 : decode cX11_drop 7 = .ok (.if_icmp .ge 42, 3) := by decide +kernel
theorem dX11_drop_10 : decode cX11_drop 10 = .ok (.aload_n 0, 1) := by decide +kernel
theorem dX11_drop_11 : decode cX11_drop 11 = .ok (.iload_n 3, 1) := by decide +kernel
theorem dX11_drop_12 : decode cX11_drop 12 = .ok (.invokevirtual 274, 3) := by decide +kernel
theorem dX11_drop_15 : decode cX11_drop 15 = .ok (.astore 4, 2) := by decide +kernel
theorem dX11_drop_17 : decode cX11_drop 17 = .ok (.aload 4, 2) := by decide +kernel
theorem dX11_drop_19 : decode cX11_drop 19 = .ok (.invokestatic 275, 3) := by decide +kernel
theorem dX11_drop_22 : decode cX11_drop 22 = .ok (.ifCond .eq 21, 3) := by decide +kernel
theorem dX11_drop_25 : decode cX11_drop 25 = .ok (.aload 4, 2) := by decide +kernel
theorem dX11_drop_27 : decode cX11_drop 27 = .ok (.getfield 160, 3) := by decide +kernel
theorem dX11_drop_30 : decode cX11_drop 30 = .ok (.lload_n 1, 1) := by decide +kernel
theorem dX11_drop_31 : decode cX11_drop 31 = .ok (.lcmp, 1) := by decide +kernel
theorem dX11_drop_32 : decode cX11_drop 32 = .ok (.ifCond .ne 11, 3) := by decide +kernel
theorem dX11_drop_35 : decode cX11_drop 35 = .ok (.aload 4, 2) := by decide +kernel
theorem dX11_drop_37 : decode cX11_drop 37 = .ok (.iconst 1, 1) := by decide +kernel
theorem dX11_drop_38 : decode cX11_drop 38 = .ok (.putfield 279, 3) := by decide +kernel
theorem dX11_drop_41 : decode cX11_drop 41 = .ok (.iconst 1, 1) := by decide +kernel
theorem dX11_drop_42 : decode cX11_drop 42 = .ok (.ireturn, 1) := by decide +kernel
theorem dX11_drop_43 : decode cX11_drop 43 = .ok (.iinc 3 1, 3) := by decide +kernel
theorem dX11_drop_46 : decode cX11_drop 46 = .ok (.goto (-44), 3) := by decide +kernel
theorem dX11_drop_49 : decode cX11_drop 49 = .ok (.iconst 0, 1) := by decide +kernel
theorem dX11_drop_50 : decode cX11_drop 50 = .ok (.ireturn, 1) := by decide +kernel
theorem dX11_documentAt_0 : decode cX11_documentAt 0 = .ok (.iload_n 1, 1) := by decide +kernel
theorem dX11_documentAt_1 : decode cX11_documentAt 1 = .ok (.ifCond .lt 27, 3) := by decide +kernel
theorem dX11_documentAt_4 : decode cX11_documentAt 4 = .ok (.iload_n 1, 1) := by decide +kernel
theorem dX11_documentAt_5 : decode cX11_documentAt 5 = .ok (.aload_n 0, 1) := by decide +kernel
theorem dX11_documentAt_6 : decode cX11_documentAt 6 = .ok (.getfield 83, 3) := by decide +kernel
theorem dX11_documentAt_9 : decode cX11_documentAt 9 = .ok (.if_icmp .ge 19, 3) := by decide +kernel
theorem dX11_documentAt_12 : decode cX11_documentAt 12 = .ok (.iload_n 1, 1) := by decide +kernel
theorem dX11_documentAt_13 : decode cX11_documentAt 13 = .ok (.sipush 400, 3) := by decide +kernel
theorem dX11_documentAt_16 : decode cX11_documentAt 16 = .ok (.if_icmp .ge 12, 3) := by decide +kernel
theorem dX11_documentAt_19 : decode cX11_documentAt 19 = .ok (.aload_n 0, 1) := by decide +kernel
theorem dX11_documentAt_20 : decode cX11_documentAt 20 = .ok (.getfield 24, 3) := by decide +kernel
theorem dX11_documentAt_23 : decode cX11_documentAt 23 = .ok (.iload_n 1, 1) := by decide +kernel
theorem dX11_documentAt_24 : decode cX11_documentAt 24 = .ok (.aaload, 1) := by decide +kernel
theorem dX11_documentAt_25 : decode cX11_documentAt 25 = .ok (.goto 4, 3) := by decide +kernel
theorem dX11_documentAt_28 : decode cX11_documentAt 28 = .ok (.aconst_null, 1) := by decide +kernel
theorem dX11_documentAt_29 : decode cX11_documentAt 29 = .ok (.areturn, 1) := by decide +kernel
theorem dX11_isLive_0 : decode cX11_isLive 0 = .ok (.aload_n 0, 1) := by decide +kernel
theorem dX11_isLive_1 : decode cX11_isLive 1 = .ok (.ifnull 14, 3) := by decide +kernel
theorem dX11_isLive_4 : decode cX11_isLive 4 = .ok (.aload_n 0, 1) := by decide +kernel
theorem dX11_isLive_5 : decode cX11_isLive 5 = .ok (.getfield 279, 3) := by decide +kernel
theorem dX11_isLive_8 : decode cX11_isLive 8 = .ok (.ifCond .ne 7, 3) := by decide +kernel
theorem dX11_isLive_11 : decode cX11_isLive 11 = .ok (.iconst 1, 1) := by decide +kernel
theorem dX11_isLive_12 : decode cX11_isLive 12 = .ok (.goto 4, 3) := by decide +kernel
theorem dX11_isLive_15 : decode cX11_isLive 15 = .ok (.iconst 0, 1) := by decide +kernel
theorem dX11_isLive_16 : decode cX11_isLive 16 = .ok (.ireturn, 1) := by decide +kernel
theorem dX11_segmentAt_0 : decode cX11_segmentAt 0 = .ok (.iload_n 1, 1) := by decide +kernel
theorem dX11_segmentAt_1 : decode cX11_segmentAt 1 = .ok (.ifCond .lt 26, 3) := by decide +kernel
theorem dX11_segmentAt_4 : decode cX11_segmentAt 4 = .ok (.iload_n 1, 1) := by decide +kernel
theorem dX11_segmentAt_5 : decode cX11_segmentAt 5 = .ok (.aload_n 0, 1) := by decide +kernel
theorem dX11_segmentAt_6 : decode cX11_segmentAt 6 = .ok (.getfield 104, 3) := by decide +kernel
theorem dX11_segmentAt_9 : decode cX11_segmentAt 9 = .ok (.if_icmp .ge 18, 3) := by decide +kernel
theorem dX11_segmentAt_12 : decode cX11_segmentAt 12 = .ok (.iload_n 1, 1) := by decide +kernel
theorem dX11_segmentAt_13 : decode cX11_segmentAt 13 = .ok (.bipush 16, 2) := by decide +kernel
theorem dX11_segmentAt_15 : decode cX11_segmentAt 15 = .ok (.if_icmp .ge 12, 3) := by decide +kernel
theorem dX11_segmentAt_18 : decode cX11_segmentAt 18 = .ok (.aload_n 0, 1) := by decide +kernel
theorem dX11_segmentAt_19 : decode cX11_segmentAt 19 = .ok (.getfield 30, 3) := by decide +kernel
theorem dX11_segmentAt_22 : decode cX11_segmentAt 22 = .ok (.iload_n 1, 1) := by decide +kernel
theorem dX11_segmentAt_23 : decode cX11_segmentAt 23 = .ok (.aaload, 1) := by decide +kernel
theorem dX11_segmentAt_24 : decode cX11_segmentAt 24 = .ok (.goto 4, 3) := by decide +kernel
theorem dX11_segmentAt_27 : decode cX11_segmentAt 27 = .ok (.aconst_null, 1) := by decide +kernel
theorem dX11_segmentAt_28 : decode cX11_segmentAt 28 = .ok (.areturn, 1) := by decide +kernel
theorem dX11_liveInBuffer_0 : decode cX11_liveInBuffer 0 = .ok (.iconst 0, 1) := by decide +kernel
theorem dX11_liveInBuffer_1 : decode cX11_liveInBuffer 1 = .ok (.istore_n 1, 1) := by decide +kernel
theorem dX11_liveInBuffer_2 : decode cX11_liveInBuffer 2 = .ok (.aload_n 0, 1) := by decide +kernel
theorem dX11_liveInBuffer_3 : decode cX11_liveInBuffer 3 = .ok (.getfield 282, 3) := by decide +kernel
theorem dX11_liveInBuffer_6 : decode cX11_liveInBuffer 6 = .ok (.istore_n 2, 1) := by decide +kernel
theorem dX11_liveInBuffer_7 : decode cX11_liveInBuffer 7 = .ok (.iload_n 2, 1) := by decide +kernel
theorem dX11_liveInBuffer_8 : decode cX11_liveInBuffer 8 = .ok (.aload_n 0, 1) := by decide +kernel
theorem dX11_liveInBuffer_9 : decode cX11_liveInBuffer 9 = .ok (.getfield 83, 3) := by decide +kernel
theorem dX11_liveInBuffer_12 : decode cX11_liveInBuffer 12 = .ok (.if_icmp .ge 23, 3) := by decide +kernel
theorem dX11_liveInBuffer_15 : decode cX11_liveInBuffer 15 = .ok (.aload_n 0, 1) := by decide +kernel
theorem dX11_liveInBuffer_16 : decode cX11_liveInBuffer 16 = .ok (.iload_n 2, 1) := by decide +kernel
theorem dX11_liveInBuffer_17 : decode cX11_liveInBuffer 17 = .ok (.invokevirtual 274, 3) := by decide +kernel
theorem dX11_liveInBuffer_20 : decode cX11_liveInBuffer 20 = .ok (.invokestatic 275, 3) := by decide +kernel
theorem dX11_liveInBuffer_23 : decode cX11_liveInBuffer 23 = .ok (.ifCond .eq 6, 3) := by decide +kernel
theorem dX11_liveInBuffer_26 : decode cX11_liveInBuffer 26 = .ok (.iinc 1 1, 3) := by decide +kernel
theorem dX11_liveInBuffer_29 : decode cX11_liveInBuffer 29 = .ok (.iinc 2 1, 3) := by decide +kernel
theorem dX11_liveInBuffer_32 : decode cX11_liveInBuffer 32 = .ok (.goto (-25), 3) := by decide +kernel
theorem dX11_liveInBuffer_35 : decode cX11_liveInBuffer 35 = .ok (.iload_n 1, 1) := by decide +kernel
theorem dX11_liveInBuffer_36 : decode cX11_liveInBuffer 36 = .ok (.ireturn, 1) := by decide +kernel
theorem dX11_flush_0 : decode cX11_flush 0 = .ok (.aload_n 0, 1) := by decide +kernel
theorem dX11_flush_1 : decode cX11_flush 1 = .ok (.iconst 0, 1) := by decide +kernel
theorem dX11_flush_2 : decode cX11_flush 2 = .ok (.putfield 285, 3) := by decide +kernel
theorem dX11_flush_5 : decode cX11_flush 5 = .ok (.aload_n 0, 1) := by decide +kernel
theorem dX11_flush_6 : decode cX11_flush 6 = .ok (.getfield 282, 3) := by decide +kernel
theorem dX11_flush_9 : decode cX11_flush 9 = .ok (.istore_n 1, 1) := by decide +kernel
theorem dX11_flush_10 : decode cX11_flush 10 = .ok (.iload_n 1, 1) := by decide +kernel
theorem dX11_flush_11 : decode cX11_flush 11 = .ok (.aload_n 0, 1) := by decide +kernel
theorem dX11_flush_12 : decode cX11_flush 12 = .ok (.getfield 83, 3) := by decide +kernel
theorem dX11_flush_15 : decode cX11_flush 15 = .ok (.if_icmp .ge 18, 3) := by decide +kernel
theorem dX11_flush_18 : decode cX11_flush 18 = .ok (.aload_n 0, 1) := by decide +kernel
theorem dX11_flush_19 : decode cX11_flush 19 = .ok (.aload_n 0, 1) := by decide +kernel
theorem dX11_flush_20 : decode cX11_flush 20 = .ok (.iload_n 1, 1) := by decide +kernel
theorem dX11_flush_21 : decode cX11_flush 21 = .ok (.invokevirtual 274, 3) := by decide +kernel
theorem dX11_flush_24 : decode cX11_flush 24 = .ok (.invokevirtual 288, 3) := by decide +kernel
theorem dX11_flush_27 : decode cX11_flush 27 = .ok (.iinc 1 1, 3) := by decide +kernel
theorem dX11_flush_30 : decode cX11_flush 30 = .ok (.goto (-20), 3) := by decide +kernel
theorem dX11_flush_33 : decode cX11_flush 33 = .ok (.aload_n 0, 1) := by decide +kernel
theorem dX11_flush_34 : decode cX11_flush 34 = .ok (.aload_n 0, 1) := by decide +kernel
theorem dX11_flush_35 : decode cX11_flush 35 = .ok (.getfield 83, 3) := by decide +kernel
theorem dX11_flush_38 : decode cX11_flush 38 = .ok (.putfield 282, 3) := by decide +kernel
theorem dX11_flush_41 : decode cX11_flush 41 = .ok (.aload_n 0, 1) := by decide +kernel
theorem dX11_flush_42 : decode cX11_flush 42 = .ok (.getfield 285, 3) := by decide +kernel
theorem dX11_flush_45 : decode cX11_flush 45 = .ok (.ifCond .le 47, 3) := by decide +kernel
theorem dX11_flush_48 : decode cX11_flush 48 = .ok (.aload_n 0, 1) := by decide +kernel
theorem dX11_flush_49 : decode cX11_flush 49 = .ok (.getfield 104, 3) := by decide +kernel
theorem dX11_flush_52 : decode cX11_flush 52 = .ok (.bipush 16, 2) := by decide +kernel
theorem dX11_flush_54 : decode cX11_flush 54 = .ok (.if_icmp .ge 38, 3) := by decide +kernel
theorem dX11_flush_57 : decode cX11_flush 57 = .ok (.aload_n 0, 1) := by decide +kernel
theorem dX11_flush_58 : decode cX11_flush 58 = .ok (.getfield 30, 3) := by decide +kernel
theorem dX11_flush_61 : decode cX11_flush 61 = .ok (.aload_n 0, 1) := by decide +kernel
theorem dX11_flush_62 : decode cX11_flush 62 = .ok (.getfield 104, 3) := by decide +kernel
theorem dX11_flush_65 : decode cX11_flush 65 = .ok (.new 28, 3) := by decide +kernel
theorem dX11_flush_68 : decode cX11_flush 68 = .ok (.dup, 1) := by decide +kernel
theorem dX11_flush_69 : decode cX11_flush 69 = .ok (.iconst 0, 1) := by decide +kernel
theorem dX11_flush_70 : decode cX11_flush 70 = .ok (.aload_n 0, 1) := by decide +kernel
theorem dX11_flush_71 : decode cX11_flush 71 = .ok (.getfield 34, 3) := by decide +kernel
theorem dX11_flush_74 : decode cX11_flush 74 = .ok (.aload_n 0, 1) := by decide +kernel
theorem dX11_flush_75 : decode cX11_flush 75 = .ok (.getfield 285, 3) := by decide +kernel
theorem dX11_flush_78 : decode cX11_flush 78 = .ok (.invokespecial 292, 3) := by decide +kernel
theorem dX11_flush_81 : decode cX11_flush 81 = .ok (.aastore, 1) := by decide +kernel
theorem dX11_flush_82 : decode cX11_flush 82 = .ok (.aload_n 0, 1) := by decide +kernel
theorem dX11_flush_83 : decode cX11_flush 83 = .ok (.dup, 1) := by decide +kernel
theorem dX11_flush_84 : decode cX11_flush 84 = .ok (.getfield 104, 3) := by decide +kernel
theorem dX11_flush_87 : decode cX11_flush 87 = .ok (.iconst 1, 1) := by decide +kernel
theorem dX11_flush_88 : decode cX11_flush 88 = .ok (.iadd, 1) := by decide +kernel
theorem dX11_flush_89 : decode cX11_flush 89 = .ok (.putfield 104, 3) := by decide +kernel
theorem dX11_flush_92 : decode cX11_flush 92 = .ok (.aload_n 0, 1) := by decide +kernel
theorem dX11_flush_93 : decode cX11_flush 93 = .ok (.invokevirtual 295, 3) := by decide +kernel
theorem dX11_flush_96 : decode cX11_flush 96 = .ok (.istore_n 1, 1) := by decide +kernel
theorem dX11_flush_97 : decode cX11_flush 97 = .ok (.iconst 0, 1) := by decide +kernel
theorem dX11_flush_98 : decode cX11_flush 98 = .ok (.istore_n 2, 1) := by decide +kernel
theorem dX11_flush_99 : decode cX11_flush 99 = .ok (.iload_n 2, 1) := by decide +kernel
theorem dX11_flush_100 : decode cX11_flush 100 = .ok (.sipush 400, 3) := by decide +kernel
theorem dX11_flush_103 : decode cX11_flush 103 = .ok (.if_icmp .ge 23, 3) := by decide +kernel
theorem dX11_flush_106 : decode cX11_flush 106 = .ok (.iload_n 1, 1) := by decide +kernel
theorem dX11_flush_107 : decode cX11_flush 107 = .ok (.ifCond .lt 19, 3) := by decide +kernel
theorem dX11_flush_110 : decode cX11_flush 110 = .ok (.aload_n 0, 1) := by decide +kernel
theorem dX11_flush_111 : decode cX11_flush 111 = .ok (.iload_n 1, 1) := by decide +kernel
theorem dX11_flush_112 : decode cX11_flush 112 = .ok (.invokevirtual 298, 3) := by decide +kernel
theorem dX11_flush_115 : decode cX11_flush 115 = .ok (.aload_n 0, 1) := by decide +kernel
theorem dX11_flush_116 : decode cX11_flush 116 = .ok (.invokevirtual 295, 3) := by decide +kernel
theorem dX11_flush_119 : decode cX11_flush 119 = .ok (.istore_n 1, 1) := by decide +kernel
theorem dX11_flush_120 : decode cX11_flush 120 = .ok (.iinc 2 1, 3) := by decide +kernel
theorem dX11_flush_123 : decode cX11_flush 123 = .ok (.goto (-24), 3) := by decide +kernel
theorem dX11_flush_126 : decode cX11_flush 126 = .ok (.return_, 1) := by decide +kernel
theorem dX11_gather_0 : decode cX11_gather 0 = .ok (.aload_n 1, 1) := by decide +kernel
theorem dX11_gather_1 : decode cX11_gather 1 = .ok (.invokestatic 275, 3) := by decide +kernel
theorem dX11_gather_4 : decode cX11_gather 4 = .ok (.ifCond .eq 33, 3) := by decide +kernel
theorem dX11_gather_7 : decode cX11_gather 7 = .ok (.aload_n 0, 1) := by decide +kernel
theorem dX11_gather_8 : decode cX11_gather 8 = .ok (.getfield 285, 3) := by decide +kernel
theorem dX11_gather_11 : decode cX11_gather 11 = .ok (.sipush 400, 3) := by decide +kernel
theorem dX11_gather_14 : decode cX11_gather 14 = .ok (.if_icmp .ge 23, 3) := by decide +kernel
theorem dX11_gather_17 : decode cX11_gather 17 = .ok (.aload_n 0, 1) := by decide +kernel
theorem dX11_gather_18 : decode cX11_gather 18 = .ok (.getfield 34, 3) := by decide +kernel
theorem dX11_gather_21 : decode cX11_gather 21 = .ok (.aload_n 0, 1) := by decide +kernel
theorem dX11_gather_22 : decode cX11_gather 22 = .ok (.getfield 285, 3) := by decide +kernel
theorem dX11_gather_25 : decode cX11_gather 25 = .ok (.aload_n 1, 1) := by decide +kernel
theorem dX11_gather_26 : decode cX11_gather 26 = .ok (.aastore, 1) := by decide +kernel
theorem dX11_gather_27 : decode cX11_gather 27 = .ok (.aload_n 0, 1) := by decide +kernel
theorem dX11_gather_28 : decode cX11_gather 28 = .ok (.dup, 1) := by decide +kernel
theorem dX11_gather_29 : decode cX11_gather 29 = .ok (.getfield 285, 3) := by decide +kernel
theorem dX11_gather_32 : decode cX11_gather 32 = .ok (.iconst 1, 1) := by decide +kernel
theorem dX11_gather_33 : decode cX11_gather 33 = .ok (.iadd, 1) := by decide +kernel
theorem dX11_gather_34 : decode cX11_gather 34 = .ok (.putfield 285, 3) := by decide +kernel
theorem dX11_gather_37 : decode cX11_gather 37 = .ok (.return_, 1) := by decide +kernel
theorem dX11_leastFullLevel_0 : decode cX11_leastFullLevel 0 = .ok (.iconst 0, 1) := by decide +kernel
theorem dX11_leastFullLevel_1 : decode cX11_leastFullLevel 1 = .ok (.istore_n 1, 1) := by decide +kernel
theorem dX11_leastFullLevel_2 : decode cX11_leastFullLevel 2 = .ok (.iload_n 1, 1) := by decide +kernel
theorem dX11_leastFullLevel_3 : decode cX11_leastFullLevel 3 = .ok (.bipush 6, 2) := by decide +kernel
theorem dX11_leastFullLevel_5 : decode cX11_leastFullLevel 5 = .ok (.if_icmp .ge 58, 3) := by decide +kernel
theorem dX11_leastFullLevel_8 : decode cX11_leastFullLevel 8 = .ok (.iconst 0, 1) := by decide +kernel
theorem dX11_leastFullLevel_9 : decode cX11_leastFullLevel 9 = .ok (.istore_n 2, 1) := by decide +kernel
theorem dX11_leastFullLevel_10 : decode cX11_leastFullLevel 10 = .ok (.iconst 0, 1) := by decide +kernel
theorem dX11_leastFullLevel_11 : decode cX11_leastFullLevel 11 = .ok (.istore_n 3, 1) := by decide +kernel
theorem dX11_leastFullLevel_12 : decode cX11_leastFullLevel 12 = .ok (.iload_n 3, 1) := by decide +kernel
theorem dX11_leastFullLevel_13 : decode cX11_leastFullLevel 13 = .ok (.aload_n 0, 1) := by decide +kernel
theorem dX11_leastFullLevel_14 : decode cX11_leastFullLevel 14 = .ok (.getfield 104, 3) := by decide +kernel
theorem dX11_leastFullLevel_17 : decode cX11_leastFullLevel 17 = .ok (.if_icmp .ge 33, 3) := by decide +kernel
theorem dX11_leastFullLevel_20 : decode cX11_leastFullLevel 20 = .ok (.aload_n 0, 1) := by decide +kernel
theorem dX11_leastFullLevel_21 : decode cX11_leastFullLevel 21 = .ok (.iload_n 3, 1) := by decide +kernel
theorem dX11_leastFullLevel_22 : decode cX11_leastFullLevel 22 = .ok (.invokevirtual 230, 3) := by decide +kernel
theorem dX11_leastFullLevel_25 : decode cX11_leastFullLevel 25 = .ok (.astore 4, 2) := by decide +kernel
theorem dX11_leastFullLevel_27 : decode cX11_leastFullLevel 27 = .ok (.aload 4, 2) := by decide +kernel
theorem dX11_leastFullLevel_29 : decode cX11_leastFullLevel 29 = .ok (.ifnull 15, 3) := by decide +kernel
theorem dX11_leastFullLevel_32 : decode cX11_leastFullLevel 32 = .ok (.aload 4, 2) := by decide +kernel
theorem dX11_leastFullLevel_34 : decode cX11_leastFullLevel 34 = .ok (.getfield 234, 3) := by decide +kernel
theorem dX11_leastFullLevel_37 : decode cX11_leastFullLevel 37 = .ok (.iload_n 1, 1) := by decide +kernel
theorem dX11_leastFullLevel_38 : decode cX11_leastFullLevel 38 = .ok (.if_icmp .ne 6, 3) := by decide +kernel
theorem dX11_leastFullLevel_41 : decode cX11_leastFullLevel 41 = .ok (.iinc 2 1, 3) := by decide +kernel
theorem dX11_leastFullLevel_44 : decode cX11_leastFullLevel 44 = .ok (.iinc 3 1, 3) := by decide +kernel
theorem dX11_leastFullLevel_47 : decode cX11_leastFullLevel 47 = .ok (.goto (-35), 3) := by decide +kernel
theorem dX11_leastFullLevel_50 : decode cX11_leastFullLevel 50 = .ok (.iload_n 2, 1) := by decide +kernel
theorem dX11_leastFullLevel_51 : decode cX11_leastFullLevel 51 = .ok (.iconst 4, 1) := by decide +kernel
theorem dX11_leastFullLevel_52 : decode cX11_leastFullLevel 52 = .ok (.if_icmp .lt 5, 3) := by decide +kernel
theorem dX11_leastFullLevel_55 : decode cX11_leastFullLevel 55 = .ok (.iload_n 1, 1) := by decide +kernel
theorem dX11_leastFullLevel_56 : decode cX11_leastFullLevel 56 = .ok (.ireturn, 1) := by decide +kernel
theorem dX11_leastFullLevel_57 : decode cX11_leastFullLevel 57 = .ok (.iinc 1 1, 3) := by decide +kernel
theorem dX11_leastFullLevel_60 : decode cX11_leastFullLevel 60 = .ok (.goto (-58), 3) := by decide +kernel
theorem dX11_leastFullLevel_63 : decode cX11_leastFullLevel 63 = .ok (.iconst (-1), 1) := by decide +kernel
theorem dX11_leastFullLevel_64 : decode cX11_leastFullLevel 64 = .ok (.ireturn, 1) := by decide +kernel
theorem dX11_mergeFirst_0 : decode cX11_mergeFirst 0 = .ok (.aload_n 0, 1) := by decide +kernel
theorem dX11_mergeFirst_1 : decode cX11_mergeFirst 1 = .ok (.iconst 0, 1) := by decide +kernel
theorem dX11_mergeFirst_2 : decode cX11_mergeFirst 2 = .ok (.putfield 285, 3) := by decide +kernel
theorem dX11_mergeFirst_5 : decode cX11_mergeFirst 5 = .ok (.iconst 0, 1) := by decide +kernel
theorem dX11_mergeFirst_6 : decode cX11_mergeFirst 6 = .ok (.istore_n 2, 1) := by decide +kernel
theorem dX11_mergeFirst_7 : decode cX11_mergeFirst 7 = .ok (.iconst 0, 1) := by decide +kernel
theorem dX11_mergeFirst_8 : decode cX11_mergeFirst 8 = .ok (.istore_n 3, 1) := by decide +kernel
theorem dX11_mergeFirst_9 : decode cX11_mergeFirst 9 = .ok (.iconst 0, 1) := by decide +kernel
theorem dX11_mergeFirst_10 : decode cX11_mergeFirst 10 = .ok (.istore 4, 2) := by decide +kernel
theorem dX11_mergeFirst_12 : decode cX11_mergeFirst 12 = .ok (.iconst 0, 1) := by decide +kernel
theorem dX11_mergeFirst_13 : decode cX11_mergeFirst 13 = .ok (.istore 5, 2) := by decide +kernel
theorem dX11_mergeFirst_15 : decode cX11_mergeFirst 15 = .ok (.iload 5, 2) := by decide +kernel
theorem dX11_mergeFirst_17 : decode cX11_mergeFirst 17 = .ok (.aload_n 0, 1) := by decide +kernel
theorem dX11_mergeFirst_18 : decode cX11_mergeFirst 18 = .ok (.getfield 104, 3) := by decide +kernel
theorem dX11_mergeFirst_21 : decode cX11_mergeFirst 21 = .ok (.if_icmp .ge 75, 3) := by decide +kernel
theorem dX11_mergeFirst_24 : decode cX11_mergeFirst 24 = .ok (.aload_n 0, 1) := by decide +kernel
theorem dX11_mergeFirst_25 : decode cX11_mergeFirst 25 = .ok (.iload 5, 2) := by decide +kernel
theorem dX11_mergeFirst_27 : decode cX11_mergeFirst 27 = .ok (.invokevirtual 230, 3) := by decide +kernel
theorem dX11_mergeFirst_30 : decode cX11_mergeFirst 30 = .ok (.astore 6, 2) := by decide +kernel
theorem dX11_mergeFirst_32 : decode cX11_mergeFirst 32 = .ok (.aload 6, 2) := by decide +kernel
theorem dX11_mergeFirst_34 : decode cX11_mergeFirst 34 = .ok (.ifnull 39, 3) := by decide +kernel
theorem dX11_mergeFirst_37 : decode cX11_mergeFirst 37 = .ok (.aload 6, 2) := by decide +kernel
theorem dX11_mergeFirst_39 : decode cX11_mergeFirst 39 = .ok (.getfield 234, 3) := by decide +kernel
theorem dX11_mergeFirst_42 : decode cX11_mergeFirst 42 = .ok (.iload_n 1, 1) := by decide +kernel
theorem dX11_mergeFirst_43 : decode cX11_mergeFirst 43 = .ok (.if_icmp .ne 30, 3) := by decide +kernel
theorem dX11_mergeFirst_46 : decode cX11_mergeFirst 46 = .ok (.iload_n 2, 1) := by decide +kernel
theorem dX11_mergeFirst_47 : decode cX11_mergeFirst 47 = .ok (.iconst 4, 1) := by decide +kernel
theorem dX11_mergeFirst_48 : decode cX11_mergeFirst 48 = .ok (.if_icmp .ge 25, 3) := by decide +kernel
theorem dX11_mergeFirst_51 : decode cX11_mergeFirst 51 = .ok (.iload_n 2, 1) := by decide +kernel
theorem dX11_mergeFirst_52 : decode cX11_mergeFirst 52 = .ok (.ifCond .ne 9, 3) := by decide +kernel
theorem dX11_mergeFirst_55 : decode cX11_mergeFirst 55 = .ok (.iload 4, 2) := by decide +kernel
theorem dX11_mergeFirst_57 : decode cX11_mergeFirst 57 = .ok (.istore_n 3, 1) := by decide +kernel
theorem dX11_mergeFirst_58 : decode cX11_mergeFirst 58 = .ok (.iinc 4 1, 3) := by decide +kernel
theorem dX11_mergeFirst_61 : decode cX11_mergeFirst 61 = .ok (.iinc 2 1, 3) := by decide +kernel
theorem dX11_mergeFirst_64 : decode cX11_mergeFirst 64 = .ok (.aload_n 0, 1) := by decide +kernel
theorem dX11_mergeFirst_65 : decode cX11_mergeFirst 65 = .ok (.aload 6, 2) := by decide +kernel
theorem dX11_mergeFirst_67 : decode cX11_mergeFirst 67 = .ok (.invokevirtual 302, 3) := by decide +kernel
theorem dX11_mergeFirst_70 : decode cX11_mergeFirst 70 = .ok (.goto 20, 3) := by decide +kernel
theorem dX11_mergeFirst_73 : decode cX11_mergeFirst 73 = .ok (.aload 6, 2) := by decide +kernel
theorem dX11_mergeFirst_75 : decode cX11_mergeFirst 75 = .ok (.ifnull 15, 3) := by decide +kernel
theorem dX11_mergeFirst_78 : decode cX11_mergeFirst 78 = .ok (.aload_n 0, 1) := by decide +kernel
theorem dX11_mergeFirst_79 : decode cX11_mergeFirst 79 = .ok (.getfield 30, 3) := by decide +kernel
theorem dX11_mergeFirst_82 : decode cX11_mergeFirst 82 = .ok (.iload 4, 2) := by decide +kernel
theorem dX11_mergeFirst_84 : decode cX11_mergeFirst 84 = .ok (.aload 6, 2) := by decide +kernel
theorem dX11_mergeFirst_86 : decode cX11_mergeFirst 86 = .ok (.aastore, 1) := by decide +kernel
theorem dX11_mergeFirst_87 : decode cX11_mergeFirst 87 = .ok (.iinc 4 1, 3) := by decide +kernel
theorem dX11_mergeFirst_90 : decode cX11_mergeFirst 90 = .ok (.iinc 5 1, 3) := by decide +kernel
theorem dX11_mergeFirst_93 : decode cX11_mergeFirst 93 = .ok (.goto (-78), 3) := by decide +kernel
theorem dX11_mergeFirst_96 : decode cX11_mergeFirst 96 = .ok (.aload_n 0, 1) := by decide +kernel
theorem dX11_mergeFirst_97 : decode cX11_mergeFirst 97 = .ok (.iload 4, 2) := by decide +kernel
theorem dX11_mergeFirst_99 : decode cX11_mergeFirst 99 = .ok (.putfield 104, 3) := by decide +kernel
theorem dX11_mergeFirst_102 : decode cX11_mergeFirst 102 = .ok (.aload_n 0, 1) := by decide +kernel
theorem dX11_mergeFirst_103 : decode cX11_mergeFirst 103 = .ok (.dup, 1) := by decide +kernel
theorem dX11_mergeFirst_104 : decode cX11_mergeFirst 104 = .ok (.getfield 271, 3) := by decide +kernel
theorem dX11_mergeFirst_107 : decode cX11_mergeFirst 107 = .ok (.iconst 1, 1) := by decide +kernel
theorem dX11_mergeFirst_108 : decode cX11_mergeFirst 108 = .ok (.iadd, 1) := by decide +kernel
theorem dX11_mergeFirst_109 : decode cX11_mergeFirst 109 = .ok (.putfield 271, 3) := by decide +kernel
theorem dX11_mergeFirst_112 : decode cX11_mergeFirst 112 = .ok (.aload_n 0, 1) := by decide +kernel
theorem dX11_mergeFirst_113 : decode cX11_mergeFirst 113 = .ok (.getfield 285, 3) := by decide +kernel
theorem dX11_mergeFirst_116 : decode cX11_mergeFirst 116 = .ok (.ifCond .ne 11, 3) := by decide +kernel
theorem dX11_mergeFirst_119 : decode cX11_mergeFirst 119 = .ok (.aload_n 0, 1) := by decide +kernel
theorem dX11_mergeFirst_120 : decode cX11_mergeFirst 120 = .ok (.iload_n 3, 1) := by decide +kernel
theorem dX11_mergeFirst_121 : decode cX11_mergeFirst 121 = .ok (.invokevirtual 306, 3) := by decide +kernel
theorem dX11_mergeFirst_124 : decode cX11_mergeFirst 124 = .ok (.goto 33, 3) := by decide +kernel
theorem dX11_mergeFirst_127 : decode cX11_mergeFirst 127 = .ok (.iload_n 3, 1) := by decide +kernel
theorem dX11_mergeFirst_128 : decode cX11_mergeFirst 128 = .ok (.iload 4, 2) := by decide +kernel
theorem dX11_mergeFirst_130 : decode cX11_mergeFirst 130 = .ok (.if_icmp .ge 27, 3) := by decide +kernel
theorem dX11_mergeFirst_133 : decode cX11_mergeFirst 133 = .ok (.aload_n 0, 1) := by decide +kernel
theorem dX11_mergeFirst_134 : decode cX11_mergeFirst 134 = .ok (.getfield 30, 3) := by decide +kernel
theorem dX11_mergeFirst_137 : decode cX11_mergeFirst 137 = .ok (.iload_n 3, 1) := by decide +kernel
theorem dX11_mergeFirst_138 : decode cX11_mergeFirst 138 = .ok (.new 28, 3) := by decide +kernel
theorem dX11_mergeFirst_141 : decode cX11_mergeFirst 141 = .ok (.dup, 1) := by decide +kernel
theorem dX11_mergeFirst_142 : decode cX11_mergeFirst 142 = .ok (.iload_n 1, 1) := by decide +kernel
theorem dX11_mergeFirst_143 : decode cX11_mergeFirst 143 = .ok (.iconst 1, 1) := by decide +kernel
theorem dX11_mergeFirst_144 : decode cX11_mergeFirst 144 = .ok (.iadd, 1) := by decide +kernel
theorem dX11_mergeFirst_145 : decode cX11_mergeFirst 145 = .ok (.aload_n 0, 1) := by decide +kernel
theorem dX11_mergeFirst_146 : decode cX11_mergeFirst 146 = .ok (.getfield 34, 3) := by decide +kernel
theorem dX11_mergeFirst_149 : decode cX11_mergeFirst 149 = .ok (.aload_n 0, 1) := by decide +kernel
theorem dX11_mergeFirst_150 : decode cX11_mergeFirst 150 = .ok (.getfield 285, 3) := by decide +kernel
theorem dX11_mergeFirst_153 : decode cX11_mergeFirst 153 = .ok (.invokespecial 292, 3) := by decide +kernel
theorem dX11_mergeFirst_156 : decode cX11_mergeFirst 156 = .ok (.aastore, 1) := by decide +kernel
theorem dX11_mergeFirst_157 : decode cX11_mergeFirst 157 = .ok (.return_, 1) := by decide +kernel
theorem dX11_gatherAll_0 : decode cX11_gatherAll 0 = .ok (.iconst 0, 1) := by decide +kernel
theorem dX11_gatherAll_1 : decode cX11_gatherAll 1 = .ok (.istore_n 2, 1) := by decide +kernel
theorem dX11_gatherAll_2 : decode cX11_gatherAll 2 = .ok (.iload_n 2, 1) := by decide +kernel
theorem dX11_gatherAll_3 : decode cX11_gatherAll 3 = .ok (.aload_n 1, 1) := by decide +kernel
theorem dX11_gatherAll_4 : decode cX11_gatherAll 4 = .ok (.getfield 237, 3) := by decide +kernel
theorem dX11_gatherAll_7 : decode cX11_gatherAll 7 = .ok (.arraylength, 1) := by decide +kernel
theorem dX11_gatherAll_8 : decode cX11_gatherAll 8 = .ok (.if_icmp .ge 19, 3) := by decide +kernel
theorem dX11_gatherAll_11 : decode cX11_gatherAll 11 = .ok (.aload_n 0, 1) := by decide +kernel
theorem dX11_gatherAll_12 : decode cX11_gatherAll 12 = .ok (.aload_n 1, 1) := by decide +kernel
theorem dX11_gatherAll_13 : decode cX11_gatherAll 13 = .ok (.getfield 237, 3) := by decide +kernel
theorem dX11_gatherAll_16 : decode cX11_gatherAll 16 = .ok (.iload_n 2, 1) := by decide +kernel
theorem dX11_gatherAll_17 : decode cX11_gatherAll 17 = .ok (.aaload, 1) := by decide +kernel
theorem dX11_gatherAll_18 : decode cX11_gatherAll 18 = .ok (.invokevirtual 288, 3) := by decide +kernel
theorem dX11_gatherAll_21 : decode cX11_gatherAll 21 = .ok (.iinc 2 1, 3) := by decide +kernel
theorem dX11_gatherAll_24 : decode cX11_gatherAll 24 = .ok (.goto (-22), 3) := by decide +kernel
theorem dX11_gatherAll_27 : decode cX11_gatherAll 27 = .ok (.return_, 1) := by decide +kernel
theorem dX11_removeSegment_0 : decode cX11_removeSegment 0 = .ok (.iload_n 1, 1) := by decide +kernel
theorem dX11_removeSegment_1 : decode cX11_removeSegment 1 = .ok (.istore_n 2, 1) := by decide +kernel
theorem dX11_removeSegment_2 : decode cX11_removeSegment 2 = .ok (.iload_n 2, 1) := by decide +kernel
theorem dX11_removeSegment_3 : decode cX11_removeSegment 3 = .ok (.ifCond .lt 41, 3) := by decide +kernel
theorem dX11_removeSegment_6 : decode cX11_removeSegment 6 = .ok (.iload_n 2, 1) := by decide +kernel
theorem dX11_removeSegment_7 : decode cX11_removeSegment 7 = .ok (.iconst 1, 1) := by decide +kernel
theorem dX11_removeSegment_8 : decode cX11_removeSegment 8 = .ok (.iadd, 1) := by decide +kernel
theorem dX11_removeSegment_9 : decode cX11_removeSegment 9 = .ok (.aload_n 0, 1) := by decide +kernel
theorem dX11_removeSegment_10 : decode cX11_removeSegment 10 = .ok (.getfield 104, 3) := by decide +kernel
theorem dX11_removeSegment_13 : decode cX11_removeSegment 13 = .ok (.if_icmp .ge 31, 3) := by decide +kernel
theorem dX11_removeSegment_16 : decode cX11_removeSegment 16 = .ok (.iload_n 2, 1) := by decide +kernel
theorem dX11_removeSegment_17 : decode cX11_removeSegment 17 = .ok (.iconst 1, 1) := by decide +kernel
theorem dX11_removeSegment_18 : decode cX11_removeSegment 18 = .ok (.iadd, 1) := by decide +kernel
theorem dX11_removeSegment_19 : decode cX11_removeSegment 19 = .ok (.bipush 16, 2) := by decide +kernel
theorem dX11_removeSegment_21 : decode cX11_removeSegment 21 = .ok (.if_icmp .ge 23, 3) := by decide +kernel
theorem dX11_removeSegment_24 : decode cX11_removeSegment 24 = .ok (.aload_n 0, 1) := by decide +kernel
theorem dX11_removeSegment_25 : decode cX11_removeSegment 25 = .ok (.getfield 30, 3) := by decide +kernel
theorem dX11_removeSegment_28 : decode cX11_removeSegment 28 = .ok (.iload_n 2, 1) := by decide +kernel
theorem dX11_removeSegment_29 : decode cX11_removeSegment 29 = .ok (.aload_n 0, 1) := by decide +kernel
theorem dX11_removeSegment_30 : decode cX11_removeSegment 30 = .ok (.getfield 30, 3) := by decide +kernel
theorem dX11_removeSegment_33 : decode cX11_removeSegment 33 = .ok (.iload_n 2, 1) := by decide +kernel
theorem dX11_removeSegment_34 : decode cX11_removeSegment 34 = .ok (.iconst 1, 1) := by decide +kernel
theorem dX11_removeSegment_35 : decode cX11_removeSegment 35 = .ok (.iadd, 1) := by decide +kernel
theorem dX11_removeSegment_36 : decode cX11_removeSegment 36 = .ok (.aaload, 1) := by decide +kernel
theorem dX11_removeSegment_37 : decode cX11_removeSegment 37 = .ok (.aastore, 1) := by decide +kernel
theorem dX11_removeSegment_38 : decode cX11_removeSegment 38 = .ok (.iinc 2 1, 3) := by decide +kernel
theorem dX11_removeSegment_41 : decode cX11_removeSegment 41 = .ok (.goto (-39), 3) := by decide +kernel
theorem dX11_removeSegment_44 : decode cX11_removeSegment 44 = .ok (.aload_n 0, 1) := by decide +kernel
theorem dX11_removeSegment_45 : decode cX11_removeSegment 45 = .ok (.iconst 0, 1) := by decide +kernel
theorem dX11_removeSegment_46 : decode cX11_removeSegment 46 = .ok (.aload_n 0, 1) := by decide +kernel
theorem dX11_removeSegment_47 : decode cX11_removeSegment 47 = .ok (.getfield 104, 3) := by decide +kernel
theorem dX11_removeSegment_50 : decode cX11_removeSegment 50 = .ok (.iconst 1, 1) := by decide +kernel
theorem dX11_removeSegment_51 : decode cX11_removeSegment 51 = .ok (.isub, 1) := by decide +kernel
theorem dX11_removeSegment_52 : decode cX11_removeSegment 52 = .ok (.invokestatic 309, 3) := by decide +kernel
theorem dX11_removeSegment_55 : decode cX11_removeSegment 55 = .ok (.putfield 104, 3) := by decide +kernel
theorem dX11_removeSegment_58 : decode cX11_removeSegment 58 = .ok (.return_, 1) := by decide +kernel
theorem dX11_viewAt_0 : decode cX11_viewAt 0 = .ok (.iload_n 1, 1) := by decide +kernel
theorem dX11_viewAt_1 : decode cX11_viewAt 1 = .ok (.ifCond .lt 20, 3) := by decide +kernel
theorem dX11_viewAt_4 : decode cX11_viewAt 4 = .ok (.iload_n 1, 1) := by decide +kernel
theorem dX11_viewAt_5 : decode cX11_viewAt 5 = .ok (.iconst 4, 1) := by decide +kernel
theorem dX11_viewAt_6 : decode cX11_viewAt 6 = .ok (.if_icmp .ge 15, 3) := by decide +kernel
theorem dX11_viewAt_9 : decode cX11_viewAt 9 = .ok (.aload_n 0, 1) := by decide +kernel
theorem dX11_viewAt_10 : decode cX11_viewAt 10 = .ok (.getfield 39, 3) := by decide +kernel
theorem dX11_viewAt_13 : decode cX11_viewAt 13 = .ok (.iload_n 1, 1) := by decide +kernel
theorem dX11_viewAt_14 : decode cX11_viewAt 14 = .ok (.aaload, 1) := by decide +kernel
theorem dX11_viewAt_15 : decode cX11_viewAt 15 = .ok (.getfield 107, 3) := by decide +kernel
theorem dX11_viewAt_18 : decode cX11_viewAt 18 = .ok (.ifCond .ne 5, 3) := by decide +kernel
theorem dX11_viewAt_21 : decode cX11_viewAt 21 = .ok (.aconst_null, 1) := by decide +kernel
theorem dX11_viewAt_22 : decode cX11_viewAt 22 = .ok (.areturn, 1) := by decide +kernel
theorem dX11_viewAt_23 : decode cX11_viewAt 23 = .ok (.aload_n 0, 1) := by decide +kernel
theorem dX11_viewAt_24 : decode cX11_viewAt 24 = .ok (.getfield 39, 3) := by decide +kernel
theorem dX11_viewAt_27 : decode cX11_viewAt 27 = .ok (.iload_n 1, 1) := by decide +kernel
theorem dX11_viewAt_28 : decode cX11_viewAt 28 = .ok (.aaload, 1) := by decide +kernel
theorem dX11_viewAt_29 : decode cX11_viewAt 29 = .ok (.areturn, 1) := by decide +kernel
theorem dX11_openViews_0 : decode cX11_openViews 0 = .ok (.iconst 0, 1) := by decide +kernel
theorem dX11_openViews_1 : decode cX11_openViews 1 = .ok (.istore_n 1, 1) := by decide +kernel
theorem dX11_openViews_2 : decode cX11_openViews 2 = .ok (.iconst 0, 1) := by decide +kernel
theorem dX11_openViews_3 : decode cX11_openViews 3 = .ok (.istore_n 2, 1) := by decide +kernel
theorem dX11_openViews_4 : decode cX11_openViews 4 = .ok (.iload_n 2, 1) := by decide +kernel
theorem dX11_openViews_5 : decode cX11_openViews 5 = .ok (.iconst 4, 1) := by decide +kernel
theorem dX11_openViews_6 : decode cX11_openViews 6 = .ok (.if_icmp .ge 24, 3) := by decide +kernel
theorem dX11_openViews_9 : decode cX11_openViews 9 = .ok (.aload_n 0, 1) := by decide +kernel
theorem dX11_openViews_10 : decode cX11_openViews 10 = .ok (.getfield 39, 3) := by decide +kernel
theorem dX11_openViews_13 : decode cX11_openViews 13 = .ok (.iload_n 2, 1) := by decide +kernel
theorem dX11_openViews_14 : decode cX11_openViews 14 = .ok (.aaload, 1) := by decide +kernel
theorem dX11_openViews_15 : decode cX11_openViews 15 = .ok (.getfield 107, 3) := by decide +kernel
theorem dX11_openViews_18 : decode cX11_openViews 18 = .ok (.ifCond .eq 6, 3) := by decide +kernel
theorem dX11_openViews_21 : decode cX11_openViews 21 = .ok (.iinc 1 1, 3) := by decide +kernel
theorem dX11_openViews_24 : decode cX11_openViews 24 = .ok (.iinc 2 1, 3) := by decide +kernel
theorem dX11_openViews_27 : decode cX11_openViews 27 = .ok (.goto (-23), 3) := by decide +kernel
theorem dX11_openViews_30 : decode cX11_openViews 30 = .ok (.iload_n 1, 1) := by decide +kernel
theorem dX11_openViews_31 : decode cX11_openViews 31 = .ok (.ireturn, 1) := by decide +kernel
theorem dX11_capped_0 : decode cX11_capped 0 = .ok (.lload_n 0, 1) := by decide +kernel
theorem dX11_capped_1 : decode cX11_capped 1 = .ok (.ldc2_w 311, 3) := by decide +kernel
theorem dX11_capped_4 : decode cX11_capped 4 = .ok (.invokestatic 195, 3) := by decide +kernel
theorem dX11_capped_7 : decode cX11_capped 7 = .ok (.l2i, 1) := by decide +kernel
theorem dX11_capped_8 : decode cX11_capped 8 = .ok (.ireturn, 1) := by decide +kernel
theorem dX11_eitherScore_0 : decode cX11_eitherScore 0 = .ok (.iload_n 0, 1) := by decide +kernel
theorem dX11_eitherScore_1 : decode cX11_eitherScore 1 = .ok (.iconst (-1), 1) := by decide +kernel
theorem dX11_eitherScore_2 : decode cX11_eitherScore 2 = .ok (.if_icmp .ne 5, 3) := by decide +kernel
theorem dX11_eitherScore_5 : decode cX11_eitherScore 5 = .ok (.iload_n 1, 1) := by decide +kernel
theorem dX11_eitherScore_6 : decode cX11_eitherScore 6 = .ok (.ireturn, 1) := by decide +kernel
theorem dX11_eitherScore_7 : decode cX11_eitherScore 7 = .ok (.iload_n 1, 1) := by decide +kernel
theorem dX11_eitherScore_8 : decode cX11_eitherScore 8 = .ok (.iconst (-1), 1) := by decide +kernel
theorem dX11_eitherScore_9 : decode cX11_eitherScore 9 = .ok (.if_icmp .ne 7, 3) := by decide +kernel
theorem dX11_eitherScore_12 : decode cX11_eitherScore 12 = .ok (.iload_n 0, 1) := by decide +kernel
theorem dX11_eitherScore_13 : decode cX11_eitherScore 13 = .ok (.goto 11, 3) := by decide +kernel
theorem dX11_eitherScore_16 : decode cX11_eitherScore 16 = .ok (.iload_n 0, 1) := by decide +kernel
theorem dX11_eitherScore_17 : decode cX11_eitherScore 17 = .ok (.i2l, 1) := by decide +kernel
theorem dX11_eitherScore_18 : decode cX11_eitherScore 18 = .ok (.iload_n 1, 1) := by decide +kernel
theorem dX11_eitherScore_19 : decode cX11_eitherScore 19 = .ok (.i2l, 1) := by decide +kernel
theorem dX11_eitherScore_20 : decode cX11_eitherScore 20 = .ok (.ladd, 1) := by decide +kernel
theorem dX11_eitherScore_21 : decode cX11_eitherScore 21 = .ok (.invokestatic 313, 3) := by decide +kernel
theorem dX11_eitherScore_24 : decode cX11_eitherScore 24 = .ok (.ireturn, 1) := by decide +kernel
theorem dX11_bothScore_0 : decode cX11_bothScore 0 = .ok (.iload_n 0, 1) := by decide +kernel
theorem dX11_bothScore_1 : decode cX11_bothScore 1 = .ok (.iconst (-1), 1) := by decide +kernel
theorem dX11_bothScore_2 : decode cX11_bothScore 2 = .ok (.if_icmp .eq 8, 3) := by decide +kernel
theorem dX11_bothScore_5 : decode cX11_bothScore 5 = .ok (.iload_n 1, 1) := by decide +kernel
theorem dX11_bothScore_6 : decode cX11_bothScore 6 = .ok (.iconst (-1), 1) := by decide +kernel
theorem dX11_bothScore_7 : decode cX11_bothScore 7 = .ok (.if_icmp .ne 5, 3) := by decide +kernel
theorem dX11_bothScore_10 : decode cX11_bothScore 10 = .ok (.iconst (-1), 1) := by decide +kernel
theorem dX11_bothScore_11 : decode cX11_bothScore 11 = .ok (.ireturn, 1) := by decide +kernel
theorem dX11_bothScore_12 : decode cX11_bothScore 12 = .ok (.iload_n 0, 1) := by decide +kernel
theorem dX11_bothScore_13 : decode cX11_bothScore 13 = .ok (.i2l, 1) := by decide +kernel
theorem dX11_bothScore_14 : decode cX11_bothScore 14 = .ok (.iload_n 1, 1) := by decide +kernel
theorem dX11_bothScore_15 : decode cX11_bothScore 15 = .ok (.i2l, 1) := by decide +kernel
theorem dX11_bothScore_16 : decode cX11_bothScore 16 = .ok (.ladd, 1) := by decide +kernel
theorem dX11_bothScore_17 : decode cX11_bothScore 17 = .ok (.invokestatic 313, 3) := by decide +kernel
theorem dX11_bothScore_20 : decode cX11_bothScore 20 = .ok (.ireturn, 1) := by decide +kernel
theorem dX2_init_0 : decode cX2_init 0 = .ok (.aload_n 0, 1) := by decide +kernel
theorem dX2_init_1 : decode cX2_init 1 = .ok (.invokespecial 3, 3) := by decide +kernel
theorem dX2_init_4 : decode cX2_init 4 = .ok (.aload_n 0, 1) := by decide +kernel
theorem dX2_init_5 : decode cX2_init 5 = .ok (.bipush 12, 2) := by decide +kernel
theorem dX2_init_7 : decode cX2_init 7 = .ok (.newarray .int, 2) := by decide +kernel
theorem dX2_init_9 : decode cX2_init 9 = .ok (.putfield 11, 3) := by decide +kernel
theorem dX2_init_12 : decode cX2_init 12 = .ok (.aload_n 0, 1) := by decide +kernel
theorem dX2_init_13 : decode cX2_init 13 = .ok (.bipush 12, 2) := by decide +kernel
theorem dX2_init_15 : decode cX2_init 15 = .ok (.newarray .int, 2) := by decide +kernel
theorem dX2_init_17 : decode cX2_init 17 = .ok (.putfield 17, 3) := by decide +kernel
theorem dX2_init_20 : decode cX2_init 20 = .ok (.aload_n 0, 1) := by decide +kernel
theorem dX2_init_21 : decode cX2_init 21 = .ok (.bipush 13, 2) := by decide +kernel
theorem dX2_init_23 : decode cX2_init 23 = .ok (.newarray .int, 2) := by decide +kernel
theorem dX2_init_25 : decode cX2_init 25 = .ok (.putfield 20, 3) := by decide +kernel
theorem dX2_init_28 : decode cX2_init 28 = .ok (.return_, 1) := by decide +kernel
theorem dX2_lookIn_0 : decode cX2_lookIn 0 = .ok (.aload_n 0, 1) := by decide +kernel
theorem dX2_lookIn_1 : decode cX2_lookIn 1 = .ok (.aload_n 2, 1) := by decide +kernel
theorem dX2_lookIn_2 : decode cX2_lookIn 2 = .ok (.iconst 0, 1) := by decide +kernel
theorem dX2_lookIn_3 : decode cX2_lookIn 3 = .ok (.iload_n 3, 1) := by decide +kernel
theorem dX2_lookIn_4 : decode cX2_lookIn 4 = .ok (.invokestatic 23, 3) := by decide +kernel
theorem dX2_lookIn_7 : decode cX2_lookIn 7 = .ok (.aload_n 0, 1) := by decide +kernel
theorem dX2_lookIn_8 : decode cX2_lookIn 8 = .ok (.getfield 11, 3) := by decide +kernel
theorem dX2_lookIn_11 : decode cX2_lookIn 11 = .ok (.invokestatic 27, 3) := by decide +kernel
theorem dX2_lookIn_14 : decode cX2_lookIn 14 = .ok (.putfield 31, 3) := by decide +kernel
theorem dX2_lookIn_17 : decode cX2_lookIn 17 = .ok (.aload_n 0, 1) := by decide +kernel
theorem dX2_lookIn_18 : decode cX2_lookIn 18 = .ok (.iconst 3, 1) := by decide +kernel
theorem dX2_lookIn_19 : decode cX2_lookIn 19 = .ok (.putfield 35, 3) := by decide +kernel
theorem dX2_lookIn_22 : decode cX2_lookIn 22 = .ok (.iconst 0, 1) := by decide +kernel
theorem dX2_lookIn_23 : decode cX2_lookIn 23 = .ok (.istore 4, 2) := by decide +kernel
theorem dX2_lookIn_25 : decode cX2_lookIn 25 = .ok (.iload 4, 2) := by decide +kernel
theorem dX2_lookIn_27 : decode cX2_lookIn 27 = .ok (.aload_n 1, 1) := by decide +kernel
theorem dX2_lookIn_28 : decode cX2_lookIn 28 = .ok (.getfield 38, 3) := by decide +kernel
theorem dX2_lookIn_31 : decode cX2_lookIn 31 = .ok (.if_icmp .ge 54, 3) := by decide +kernel
theorem dX2_lookIn_34 : decode cX2_lookIn 34 = .ok (.aload_n 1, 1) := by decide +kernel
theorem dX2_lookIn_35 : decode cX2_lookIn 35 = .ok (.iload 4, 2) := by decide +kernel
theorem dX2_lookIn_37 : decode cX2_lookIn 37 = .ok (.iconst 1, 1) := by decide +kernel
theorem dX2_lookIn_38 : decode cX2_lookIn 38 = .ok (.invokevirtual 43, 3) := by decide +kernel
theorem dX2_lookIn_41 : decode cX2_lookIn 41 = .ok (.astore 5, 2) := by decide +kernel
theorem dX2_lookIn_43 : decode cX2_lookIn 43 = .ok (.iconst 0, 1) := by decide +kernel
theorem dX2_lookIn_44 : decode cX2_lookIn 44 = .ok (.istore 6, 2) := by decide +kernel
theorem dX2_lookIn_46 : decode cX2_lookIn 46 = .ok (.aload 5, 2) := by decide +kernel
theorem dX2_lookIn_48 : decode cX2_lookIn 48 = .ok (.ifnull 31, 3) := by decide +kernel
theorem dX2_lookIn_51 : decode cX2_lookIn 51 = .ok (.iload 6, 2) := by decide +kernel
theorem dX2_lookIn_53 : decode cX2_lookIn 53 = .ok (.aload 5, 2) := by decide +kernel
theorem dX2_lookIn_55 : decode cX2_lookIn 55 = .ok (.invokevirtual 47, 3) := by decide +kernel
theorem dX2_lookIn_58 : decode cX2_lookIn 58 = .ok (.if_icmp .ge 21, 3) := by decide +kernel
theorem dX2_lookIn_61 : decode cX2_lookIn 61 = .ok (.aload_n 0, 1) := by decide +kernel
theorem dX2_lookIn_62 : decode cX2_lookIn 62 = .ok (.aload 5, 2) := by decide +kernel
theorem dX2_lookIn_64 : decode cX2_lookIn 64 = .ok (.iload 6, 2) := by decide +kernel
theorem dX2_lookIn_66 : decode cX2_lookIn 66 = .ok (.invokevirtual 53, 3) := by decide +kernel
theorem dX2_lookIn_69 : decode cX2_lookIn 69 = .ok (.aload_n 1, 1) := by decide +kernel
theorem dX2_lookIn_70 : decode cX2_lookIn 70 = .ok (.invokevirtual 57, 3) := by decide +kernel
theorem dX2_lookIn_73 : decode cX2_lookIn 73 = .ok (.iinc 6 1, 3) := by decide +kernel
theorem dX2_lookIn_76 : decode cX2_lookIn 76 = .ok (.goto (-30), 3) := by decide +kernel
theorem dX2_lookIn_79 : decode cX2_lookIn 79 = .ok (.iinc 4 1, 3) := by decide +kernel
theorem dX2_lookIn_82 : decode cX2_lookIn 82 = .ok (.goto (-57), 3) := by decide +kernel
theorem dX2_lookIn_85 : decode cX2_lookIn 85 = .ok (.aload_n 0, 1) := by decide +kernel
theorem dX2_lookIn_86 : decode cX2_lookIn 86 = .ok (.getfield 35, 3) := by decide +kernel
theorem dX2_lookIn_89 : decode cX2_lookIn 89 = .ok (.iconst 2, 1) := by decide +kernel
theorem dX2_lookIn_90 : decode cX2_lookIn 90 = .ok (.if_icmp .le 5, 3) := by decide +kernel
theorem dX2_lookIn_93 : decode cX2_lookIn 93 = .ok (.iconst (-1), 1) := by decide +kernel
theorem dX2_lookIn_94 : decode cX2_lookIn 94 = .ok (.ireturn, 1) := by decide +kernel
theorem dX2_lookIn_95 : decode cX2_lookIn 95 = .ok (.aload_n 0, 1) := by decide +kernel
theorem dX2_lookIn_96 : decode cX2_lookIn 96 = .ok (.aload_n 0, 1) := by decide +kernel
theorem dX2_lookIn_97 : decode cX2_lookIn 97 = .ok (.getfield 61, 3) := by decide +kernel
theorem dX2_lookIn_100 : decode cX2_lookIn 100 = .ok (.putfield 65, 3) := by decide +kernel
theorem dX2_lookIn_103 : decode cX2_lookIn 103 = .ok (.aload_n 0, 1) := by decide +kernel
theorem dX2_lookIn_104 : decode cX2_lookIn 104 = .ok (.getfield 35, 3) := by decide +kernel
theorem dX2_lookIn_107 : decode cX2_lookIn 107 = .ok (.ireturn, 1) := by decide +kernel
theorem dX2_compare_0 : decode cX2_compare 0 = .ok (.aload_n 0, 1) := by decide +kernel
theorem dX2_compare_1 : decode cX2_compare 1 = .ok (.lload_n 1, 1) := by decide +kernel
theorem dX2_compare_2 : decode cX2_compare 2 = .ok (.invokevirtual 68, 3) := by decide +kernel
theorem dX2_compare_5 : decode cX2_compare 5 = .ok (.istore 4, 2) := by decide +kernel
theorem dX2_compare_7 : decode cX2_compare 7 = .ok (.iload 4, 2) := by decide +kernel
theorem dX2_compare_9 : decode cX2_compare 9 = .ok (.iconst 2, 1) := by decide +kernel
theorem dX2_compare_10 : decode cX2_compare 10 = .ok (.if_icmp .gt 12, 3) := by decide +kernel
theorem dX2_compare_13 : decode cX2_compare 13 = .ok (.iload 4, 2) := by decide +kernel
theorem dX2_compare_15 : decode cX2_compare 15 = .ok (.aload_n 0, 1) := by decide +kernel
theorem dX2_compare_16 : decode cX2_compare 16 = .ok (.getfield 35, 3) := by decide +kernel
theorem dX2_compare_19 : decode cX2_compare 19 = .ok (.if_icmp .le 4, 3) := by decide +kernel
theorem dX2_compare_22 : decode cX2_compare 22 = .ok (.return_, 1) := by decide +kernel
theorem dX2_compare_23 : decode cX2_compare 23 = .ok (.aload_n 3, 1) := by decide +kernel
theorem dX2_compare_24 : decode cX2_compare 24 = .ok (.iconst 1, 1) := by decide +kernel
theorem dX2_compare_25 : decode cX2_compare 25 = .ok (.lload_n 1, 1) := by decide +kernel
theorem dX2_compare_26 : decode cX2_compare 26 = .ok (.invokevirtual 72, 3) := by decide +kernel
theorem dX2_compare_29 : decode cX2_compare 29 = .ok (.istore 5, 2) := by decide +kernel
theorem dX2_compare_31 : decode cX2_compare 31 = .ok (.iload 4, 2) := by decide +kernel
theorem dX2_compare_33 : decode cX2_compare 33 = .ok (.aload_n 0, 1) := by decide +kernel
theorem dX2_compare_34 : decode cX2_compare 34 = .ok (.getfield 35, 3) := by decide +kernel
theorem dX2_compare_37 : decode cX2_compare 37 = .ok (.if_icmp .lt 30, 3) := by decide +kernel
theorem dX2_compare_40 : decode cX2_compare 40 = .ok (.iload 5, 2) := by decide +kernel
theorem dX2_compare_42 : decode cX2_compare 42 = .ok (.aload_n 0, 1) := by decide +kernel
theorem dX2_compare_43 : decode cX2_compare 43 = .ok (.getfield 76, 3) := by decide +kernel
theorem dX2_compare_46 : decode cX2_compare 46 = .ok (.if_icmp .gt 21, 3) := by decide +kernel
theorem dX2_compare_49 : decode cX2_compare 49 = .ok (.iload 5, 2) := by decide +kernel
theorem dX2_compare_51 : decode cX2_compare 51 = .ok (.aload_n 0, 1) := by decide +kernel
theorem dX2_compare_52 : decode cX2_compare 52 = .ok (.getfield 76, 3) := by decide +kernel
theorem dX2_compare_55 : decode cX2_compare 55 = .ok (.if_icmp .ne 16, 3) := by decide +kernel
theorem dX2_compare_58 : decode cX2_compare 58 = .ok (.lload_n 1, 1) := by decide +kernel
theorem dX2_compare_59 : decode cX2_compare 59 = .ok (.aload_n 0, 1) := by decide +kernel
theorem dX2_compare_60 : decode cX2_compare 60 = .ok (.getfield 61, 3) := by decide +kernel
theorem dX2_compare_63 : decode cX2_compare 63 = .ok (.lcmp, 1) := by decide +kernel
theorem dX2_compare_64 : decode cX2_compare 64 = .ok (.ifCond .ge 7, 3) := by decide +kernel
theorem dX2_compare_67 : decode cX2_compare 67 = .ok (.iconst 1, 1) := by decide +kernel
theorem dX2_compare_68 : decode cX2_compare 68 = .ok (.goto 4, 3) := by decide +kernel
theorem dX2_compare_71 : decode cX2_compare 71 = .ok (.iconst 0, 1) := by decide +kernel
theorem dX2_compare_72 : decode cX2_compare 72 = .ok (.istore 6, 2) := by decide +kernel
theorem dX2_compare_74 : decode cX2_compare 74 = .ok (.iload 6, 2) := by decide +kernel
theorem dX2_compare_76 : decode cX2_compare 76 = .ok (.ifCond .eq 20, 3) := by decide +kernel
theorem dX2_compare_79 : decode cX2_compare 79 = .ok (.aload_n 0, 1) := by decide +kernel
theorem dX2_compare_80 : decode cX2_compare 80 = .ok (.iload 4, 2) := by decide +kernel
theorem dX2_compare_82 : decode cX2_compare 82 = .ok (.putfield 35, 3) := by decide +kernel
theorem dX2_compare_85 : decode cX2_compare 85 = .ok (.aload_n 0, 1) := by decide +kernel
theorem dX2_compare_86 : decode cX2_compare 86 = .ok (.iload 5, 2) := by decide +kernel
theorem dX2_compare_88 : decode cX2_compare 88 = .ok (.putfield 76, 3) := by decide +kernel
theorem dX2_compare_91 : decode cX2_compare 91 = .ok (.aload_n 0, 1) := by decide +kernel
theorem dX2_compare_92 : decode cX2_compare 92 = .ok (.lload_n 1, 1) := by decide +kernel
theorem dX2_compare_93 : decode cX2_compare 93 = .ok (.putfield 61, 3) := by decide +kernel
theorem dX2_compare_96 : decode cX2_compare 96 = .ok (.return_, 1) := by decide +kernel
theorem dX2_editsTo_0 : decode cX2_editsTo 0 = .ok (.lload_n 1, 1) := by decide +kernel
theorem dX2_editsTo_1 : decode cX2_editsTo 1 = .ok (.aload_n 0, 1) := by decide +kernel
theorem dX2_editsTo_2 : decode cX2_editsTo 2 = .ok (.getfield 17, 3) := by decide +kernel
theorem dX2_editsTo_5 : decode cX2_editsTo 5 = .ok (.invokestatic 27, 3) := by decide +kernel
theorem dX2_editsTo_8 : decode cX2_editsTo 8 = .ok (.istore_n 3, 1) := by decide +kernel
theorem dX2_editsTo_9 : decode cX2_editsTo 9 = .ok (.iload_n 3, 1) := by decide +kernel
theorem dX2_editsTo_10 : decode cX2_editsTo 10 = .ok (.aload_n 0, 1) := by decide +kernel
theorem dX2_editsTo_11 : decode cX2_editsTo 11 = .ok (.getfield 31, 3) := by decide +kernel
theorem dX2_editsTo_14 : decode cX2_editsTo 14 = .ok (.isub, 1) := by decide +kernel
theorem dX2_editsTo_15 : decode cX2_editsTo 15 = .ok (.invokestatic 79, 3) := by decide +kernel
theorem dX2_editsTo_18 : decode cX2_editsTo 18 = .ok (.iconst 2, 1) := by decide +kernel
theorem dX2_editsTo_19 : decode cX2_editsTo 19 = .ok (.if_icmp .le 5, 3) := by decide +kernel
theorem dX2_editsTo_22 : decode cX2_editsTo 22 = .ok (.iconst 3, 1) := by decide +kernel
theorem dX2_editsTo_23 : decode cX2_editsTo 23 = .ok (.ireturn, 1) := by decide +kernel
theorem dX2_editsTo_24 : decode cX2_editsTo 24 = .ok (.iconst 0, 1) := by decide +kernel
theorem dX2_editsTo_25 : decode cX2_editsTo 25 = .ok (.istore 4, 2) := by decide +kernel
theorem dX2_editsTo_27 : decode cX2_editsTo 27 = .ok (.iload 4, 2) := by decide +kernel
theorem dX2_editsTo_29 : decode cX2_editsTo 29 = .ok (.iload_n 3, 1) := by decide +kernel
theorem dX2_editsTo_30 : decode cX2_editsTo 30 = .ok (.if_icmp .gt 18, 3) := by decide +kernel
theorem dX2_editsTo_33 : decode cX2_editsTo 33 = .ok (.aload_n 0, 1) := by decide +kernel
theorem dX2_editsTo_34 : decode cX2_editsTo 34 = .ok (.getfield 20, 3) := by decide +kernel
theorem dX2_editsTo_37 : decode cX2_editsTo 37 = .ok (.iload 4, 2) := by decide +kernel
theorem dX2_editsTo_39 : decode cX2_editsTo 39 = .ok (.iload 4, 2) := by decide +kernel
theorem dX2_editsTo_41 : decode cX2_editsTo 41 = .ok (.iastore, 1) := by decide +kernel
theorem dX2_editsTo_42 : decode cX2_editsTo 42 = .ok (.iinc 4 1, 3) := by decide +kernel
theorem dX2_editsTo_45 : decode cX2_editsTo 45 = .ok (.goto (-18), 3) := by decide +kernel
theorem dX2_editsTo_48 : decode cX2_editsTo 48 = .ok (.iconst 1, 1) := by decide +kernel
theorem dX2_editsTo_49 : decode cX2_editsTo 49 = .ok (.istore 4, 2) := by decide +kernel
theorem dX2_editsTo_51 : decode cX2_editsTo 51 = .ok (.iload 4, 2) := by decide +kernel
theorem dX2_editsTo_53 : decode cX2_editsTo 53 = .ok (.aload_n 0, 1) := by decide +kernel
theorem dX2_editsTo_54 : decode cX2_editsTo 54 = .ok (.getfield 31, 3) := by decide +kernel
theorem dX2_editsTo_57 : decode cX2_editsTo 57 = .ok (.if_icmp .gt 113, 3) := by decide +kernel
theorem dX2_editsTo_60 : decode cX2_editsTo 60 = .ok (.aload_n 0, 1) := by decide +kernel
theorem dX2_editsTo_61 : decode cX2_editsTo 61 = .ok (.getfield 20, 3) := by decide +kernel
theorem dX2_editsTo_64 : decode cX2_editsTo 64 = .ok (.iconst 0, 1) := by decide +kernel
theorem dX2_editsTo_65 : decode cX2_editsTo 65 = .ok (.iaload, 1) := by decide +kernel
theorem dX2_editsTo_66 : decode cX2_editsTo 66 = .ok (.istore 5, 2) := by decide +kernel
theorem dX2_editsTo_68 : decode cX2_editsTo 68 = .ok (.aload_n 0, 1) := by decide +kernel
theorem dX2_editsTo_69 : decode cX2_editsTo 69 = .ok (.getfield 20, 3) := by decide +kernel
theorem dX2_editsTo_72 : decode cX2_editsTo 72 = .ok (.iconst 0, 1) := by decide +kernel
theorem dX2_editsTo_73 : decode cX2_editsTo 73 = .ok (.iload 4, 2) := by decide +kernel
theorem dX2_editsTo_75 : decode cX2_editsTo 75 = .ok (.iastore, 1) := by decide +kernel
theorem dX2_editsTo_76 : decode cX2_editsTo 76 = .ok (.iconst 1, 1) := by decide +kernel
theorem dX2_editsTo_77 : decode cX2_editsTo 77 = .ok (.istore 6, 2) := by decide +kernel
theorem dX2_editsTo_79 : decode cX2_editsTo 79 = .ok (.iload 6, 2) := by decide +kernel
theorem dX2_editsTo_81 : decode cX2_editsTo 81 = .ok (.iload_n 3, 1) := by decide +kernel
theorem dX2_editsTo_82 : decode cX2_editsTo 82 = .ok (.if_icmp .gt 82, 3) := by decide +kernel
theorem dX2_editsTo_85 : decode cX2_editsTo 85 = .ok (.iload 5, 2) := by decide +kernel
theorem dX2_editsTo_87 : decode cX2_editsTo 87 = .ok (.aload_n 0, 1) := by decide +kernel
theorem dX2_editsTo_88 : decode cX2_editsTo 88 = .ok (.getfield 11, 3) := by decide +kernel
theorem dX2_editsTo_91 : decode cX2_editsTo 91 = .ok (.iload 4, 2) := by decide +kernel
theorem dX2_editsTo_93 : decode cX2_editsTo 93 = .ok (.iconst 1, 1) := by decide +kernel
theorem dX2_editsTo_94 : decode cX2_editsTo 94 = .ok (.isub, 1) := by decide +kernel
theorem dX2_editsTo_95 : decode cX2_editsTo 95 = .ok (.iaload, 1) := by decide +kernel
theorem dX2_editsTo_96 : decode cX2_editsTo 96 = .ok (.aload_n 0, 1) := by decide +kernel
theorem dX2_editsTo_97 : decode cX2_editsTo 97 = .ok (.getfield 17, 3) := by decide +kernel
theorem dX2_editsTo_100 : decode cX2_editsTo 100 = .ok (.iload 6, 2) := by decide +kernel
theorem dX2_editsTo_102 : decode cX2_editsTo 102 = .ok (.iconst 1, 1) := by decide +kernel
theorem dX2_editsTo_103 : decode cX2_editsTo 103 = .ok (.isub, 1) := by decide +kernel
theorem dX2_editsTo_104 : decode cX2_editsTo 104 = .ok (.iaload, 1) := by decide +kernel
theorem dX2_editsTo_105 : decode cX2_editsTo 105 = .ok (.if_icmp .ne 7, 3) := by decide +kernel
theorem dX2_editsTo_108 : decode cX2_editsTo 108 = .ok (.iconst 0, 1) := by decide +kernel
theorem dX2_editsTo_109 : decode cX2_editsTo 109 = .ok (.goto 4, 3) := by decide +kernel
theorem dX2_editsTo_112 : decode cX2_editsTo 112 = .ok (.iconst 1, 1) := by decide +kernel
theorem dX2_editsTo_113 : decode cX2_editsTo 113 = .ok (.iadd, 1) := by decide +kernel
theorem dX2_editsTo_114 : decode cX2_editsTo 114 = .ok (.istore 7, 2) := by decide +kernel
theorem dX2_editsTo_116 : decode cX2_editsTo 116 = .ok (.aload_n 0, 1) := by decide +kernel
theorem dX2_editsTo_117 : decode cX2_editsTo 117 = .ok (.getfield 20, 3) := by decide +kernel
theorem dX2_editsTo_120 : decode cX2_editsTo 120 = .ok (.iload 6, 2) := by decide +kernel
theorem dX2_editsTo_122 : decode cX2_editsTo 122 = .ok (.iaload, 1) := by decide +kernel
theorem dX2_editsTo_123 : decode cX2_editsTo 123 = .ok (.istore 5, 2) := by decide +kernel
theorem dX2_editsTo_125 : decode cX2_editsTo 125 = .ok (.aload_n 0, 1) := by decide +kernel
theorem dX2_editsTo_126 : decode cX2_editsTo 126 = .ok (.getfield 20, 3) := by decide +kernel
theorem dX2_editsTo_129 : decode cX2_editsTo 129 = .ok (.iload 6, 2) := by decide +kernel
theorem dX2_editsTo_131 : decode cX2_editsTo 131 = .ok (.iload 7, 2) := by decide +kernel
theorem dX2_editsTo_133 : decode cX2_editsTo 133 = .ok (.iconst 1, 1) := by decide +kernel
theorem dX2_editsTo_134 : decode cX2_editsTo 134 = .ok (.aload_n 0, 1) := by decide +kernel
theorem dX2_editsTo_135 : decode cX2_editsTo 135 = .ok (.getfield 20, 3) := by decide +kernel
theorem dX2_editsTo_138 : decode cX2_editsTo 138 = .ok (.iload 6, 2) := by decide +kernel
theorem dX2_editsTo_140 : decode cX2_editsTo 140 = .ok (.iaload, 1) := by decide +kernel
theorem dX2_editsTo_141 : decode cX2_editsTo 141 = .ok (.aload_n 0, 1) := by decide +kernel
theorem dX2_editsTo_142 : decode cX2_editsTo 142 = .ok (.getfield 20, 3) := by decide +kernel
theorem dX2_editsTo_145 : decode cX2_editsTo 145 = .ok (.iload 6, 2) := by decide +kernel
theorem dX2_editsTo_147 : decode cX2_editsTo 147 = .ok (.iconst 1, 1) := by decide +kernel
theorem dX2_editsTo_148 : decode cX2_editsTo 148 = .ok (.isub, 1) := by decide +kernel
theorem dX2_editsTo_149 : decode cX2_editsTo 149 = .ok (.iaload, 1) := by decide +kernel
theorem dX2_editsTo_150 : decode cX2_editsTo 150 = .ok (.invokestatic 85, 3) := by decide +kernel
theorem dX2_editsTo_153 : decode cX2_editsTo 153 = .ok (.iadd, 1) := by decide +kernel
theorem dX2_editsTo_154 : decode cX2_editsTo 154 = .ok (.invokestatic 85, 3) := by decide +kernel
theorem dX2_editsTo_157 : decode cX2_editsTo 157 = .ok (.iastore, 1) := by decide +kernel
theorem dX2_editsTo_158 : decode cX2_editsTo 158 = .ok (.iinc 6 1, 3) := by decide +kernel
theorem dX2_editsTo_161 : decode cX2_editsTo 161 = .ok (.goto (-82), 3) := by decide +kernel
theorem dX2_editsTo_164 : decode cX2_editsTo 164 = .ok (.iinc 4 1, 3) := by decide +kernel
theorem dX2_editsTo_167 : decode cX2_editsTo 167 = .ok (.goto (-116), 3) := by decide +kernel
theorem dX2_editsTo_170 : decode cX2_editsTo 170 = .ok (.aload_n 0, 1) := by decide +kernel
theorem dX2_editsTo_171 : decode cX2_editsTo 171 = .ok (.getfield 20, 3) := by decide +kernel
theorem dX2_editsTo_174 : decode cX2_editsTo 174 = .ok (.iload_n 3, 1) := by decide +kernel
theorem dX2_editsTo_175 : decode cX2_editsTo 175 = .ok (.iaload, 1) := by decide +kernel
theorem dX2_editsTo_176 : decode cX2_editsTo 176 = .ok (.ireturn, 1) := by decide +kernel
theorem dX2_spell_0 : decode cX2_spell 0 = .ok (.lload_n 0, 1) := by decide +kernel
theorem dX2_spell_1 : decode cX2_spell 1 = .ok (.lstore_n 3, 1) := by decide +kernel
theorem dX2_spell_2 : decode cX2_spell 2 = .ok (.iconst 0, 1) := by decide +kernel
theorem dX2_spell_3 : decode cX2_spell 3 = .ok (.istore 5, 2) := by decide +kernel
theorem dX2_spell_5 : decode cX2_spell 5 = .ok (.aload_n 2, 1) := by decide +kernel
theorem dX2_spell_6 : decode cX2_spell 6 = .ok (.arraylength, 1) := by decide +kernel
theorem dX2_spell_7 : decode cX2_spell 7 = .ok (.bipush 12, 2) := by decide +kernel
theorem dX2_spell_9 : decode cX2_spell 9 = .ok (.invokestatic 85, 3) := by decide +kernel
theorem dX2_spell_12 : decode cX2_spell 12 = .ok (.iconst 1, 1) := by decide +kernel
theorem dX2_spell_13 : decode cX2_spell 13 = .ok (.isub, 1) := by decide +kernel
theorem dX2_spell_14 : decode cX2_spell 14 = .ok (.istore 6, 2) := by decide +kernel
theorem dX2_spell_16 : decode cX2_spell 16 = .ok (.iload 6, 2) := by decide +kernel
theorem dX2_spell_18 : decode cX2_spell 18 = .ok (.ifCond .lt 35, 3) := by decide +kernel
theorem dX2_spell_21 : decode cX2_spell 21 = .ok (.aload_n 2, 1) := by decide +kernel
theorem dX2_spell_22 : decode cX2_spell 22 = .ok (.iload 6, 2) := by decide +kernel
theorem dX2_spell_24 : decode cX2_spell 24 = .ok (.lload_n 3, 1) := by decide +kernel
theorem dX2_spell_25 : decode cX2_spell 25 = .ok (.ldc2_w 89, 3) := by decide +kernel
theorem dX2_spell_28 : decode cX2_spell 28 = .ok (.lrem, 1) := by decide +kernel
theorem dX2_spell_29 : decode cX2_spell 29 = .ok (.l2i, 1) := by decide +kernel
theorem dX2_spell_30 : decode cX2_spell 30 = .ok (.iastore, 1) := by decide +kernel
theorem dX2_spell_31 : decode cX2_spell 31 = .ok (.lload_n 3, 1) := by decide +kernel
theorem dX2_spell_32 : decode cX2_spell 32 = .ok (.ldc2_w 89, 3) := by decide +kernel
theorem dX2_spell_35 : decode cX2_spell 35 = .ok (.ldiv, 1) := by decide +kernel
theorem dX2_spell_36 : decode cX2_spell 36 = .ok (.lstore_n 3, 1) := by decide +kernel
theorem dX2_spell_37 : decode cX2_spell 37 = .ok (.aload_n 2, 1) := by decide +kernel
theorem dX2_spell_38 : decode cX2_spell 38 = .ok (.iload 6, 2) := by decide +kernel
theorem dX2_spell_40 : decode cX2_spell 40 = .ok (.iaload, 1) := by decide +kernel
theorem dX2_spell_41 : decode cX2_spell 41 = .ok (.ifCond .eq 6, 3) := by decide +kernel
theorem dX2_spell_44 : decode cX2_spell 44 = .ok (.iinc 5 1, 3) := by decide +kernel
theorem dX2_spell_47 : decode cX2_spell 47 = .ok (.iinc 6 (-1), 3) := by decide +kernel
theorem dX2_spell_50 : decode cX2_spell 50 = .ok (.goto (-34), 3) := by decide +kernel
theorem dX2_spell_53 : decode cX2_spell 53 = .ok (.iload 5, 2) := by decide +kernel
theorem dX2_spell_55 : decode cX2_spell 55 = .ok (.ireturn, 1) := by decide +kernel
theorem dX2_byteAt_0 : decode cX2_byteAt 0 = .ok (.aload_n 0, 1) := by decide +kernel
theorem dX2_byteAt_1 : decode cX2_byteAt 1 = .ok (.getfield 65, 3) := by decide +kernel
theorem dX2_byteAt_4 : decode cX2_byteAt 4 = .ok (.aload_n 0, 1) := by decide +kernel
theorem dX2_byteAt_5 : decode cX2_byteAt 5 = .ok (.getfield 17, 3) := by decide +kernel
theorem dX2_byteAt_8 : decode cX2_byteAt 8 = .ok (.invokestatic 27, 3) := by decide +kernel
theorem dX2_byteAt_11 : decode cX2_byteAt 11 = .ok (.istore_n 2, 1) := by decide +kernel
theorem dX2_byteAt_12 : decode cX2_byteAt 12 = .ok (.iload_n 2, 1) := by decide +kernel
theorem dX2_byteAt_13 : decode cX2_byteAt 13 = .ok (.ifCond .eq 13, 3) := by decide +kernel
theorem dX2_byteAt_16 : decode cX2_byteAt 16 = .ok (.iload_n 1, 1) := by decide +kernel
theorem dX2_byteAt_17 : decode cX2_byteAt 17 = .ok (.iconst (-1), 1) := by decide +kernel
theorem dX2_byteAt_18 : decode cX2_byteAt 18 = .ok (.if_icmp .lt 8, 3) := by decide +kernel
theorem dX2_byteAt_21 : decode cX2_byteAt 21 = .ok (.iload_n 1, 1) := by decide +kernel
theorem dX2_byteAt_22 : decode cX2_byteAt 22 = .ok (.iload_n 2, 1) := by decide +kernel
theorem dX2_byteAt_23 : decode cX2_byteAt 23 = .ok (.if_icmp .lt 5, 3) := by decide +kernel
theorem dX2_byteAt_26 : decode cX2_byteAt 26 = .ok (.iconst (-1), 1) := by decide +kernel
theorem dX2_byteAt_27 : decode cX2_byteAt 27 = .ok (.ireturn, 1) := by decide +kernel
theorem dX2_byteAt_28 : decode cX2_byteAt 28 = .ok (.iload_n 1, 1) := by decide +kernel
theorem dX2_byteAt_29 : decode cX2_byteAt 29 = .ok (.iconst (-1), 1) := by decide +kernel
theorem dX2_byteAt_30 : decode cX2_byteAt 30 = .ok (.if_icmp .ne 7, 3) := by decide +kernel
theorem dX2_byteAt_33 : decode cX2_byteAt 33 = .ok (.iload_n 2, 1) := by decide +kernel
theorem dX2_byteAt_34 : decode cX2_byteAt 34 = .ok (.goto 12, 3) := by decide +kernel
theorem dX2_byteAt_37 : decode cX2_byteAt 37 = .ok (.aload_n 0, 1) := by decide +kernel
theorem dX2_byteAt_38 : decode cX2_byteAt 38 = .ok (.getfield 17, 3) := by decide +kernel
theorem dX2_byteAt_41 : decode cX2_byteAt 41 = .ok (.iload_n 1, 1) := by decide +kernel
theorem dX2_byteAt_42 : decode cX2_byteAt 42 = .ok (.iaload, 1) := by decide +kernel
theorem dX2_byteAt_43 : decode cX2_byteAt 43 = .ok (.invokestatic 91, 3) := by decide +kernel
theorem dX2_byteAt_46 : decode cX2_byteAt 46 = .ok (.ireturn, 1) := by decide +kernel
theorem dX3_init_0 : decode cX3_init 0 = .ok (.aload_n 0, 1) := by decide +kernel
theorem dX3_init_1 : decode cX3_init 1 = .ok (.invokespecial 3, 3) := by decide +kernel
theorem dX3_init_4 : decode cX3_init 4 = .ok (.aload_n 0, 1) := by decide +kernel
theorem dX3_init_5 : decode cX3_init 5 = .ok (.aload_n 1, 1) := by decide +kernel
theorem dX3_init_6 : decode cX3_init 6 = .ok (.putfield 9, 3) := by decide +kernel
theorem dX3_init_9 : decode cX3_init 9 = .ok (.aload_n 0, 1) := by decide +kernel
theorem dX3_init_10 : decode cX3_init 10 = .ok (.iload_n 2, 1) := by decide +kernel
theorem dX3_init_11 : decode cX3_init 11 = .ok (.aload_n 1, 1) := by decide +kernel
theorem dX3_init_12 : decode cX3_init 12 = .ok (.arraylength, 1) := by decide +kernel
theorem dX3_init_13 : decode cX3_init 13 = .ok (.invokestatic 15, 3) := by decide +kernel
theorem dX3_init_16 : decode cX3_init 16 = .ok (.putfield 21, 3) := by decide +kernel
theorem dX3_init_19 : decode cX3_init 19 = .ok (.aload_n 0, 1) := by decide +kernel
theorem dX3_init_20 : decode cX3_init 20 = .ok (.aload_n 3, 1) := by decide +kernel
theorem dX3_init_21 : decode cX3_init 21 = .ok (.putfield 25, 3) := by decide +kernel
theorem dX3_init_24 : decode cX3_init 24 = .ok (.aload_n 0, 1) := by decide +kernel
theorem dX3_init_25 : decode cX3_init 25 = .ok (.aload 4, 2) := by decide +kernel
theorem dX3_init_27 : decode cX3_init 27 = .ok (.putfield 29, 3) := by decide +kernel
theorem dX3_init_30 : decode cX3_init 30 = .ok (.return_, 1) := by decide +kernel
theorem dX3_wrongPlace_0 : decode cX3_wrongPlace 0 = .ok (.aload_n 0, 1) := by decide +kernel
theorem dX3_wrongPlace_1 : decode cX3_wrongPlace 1 = .ok (.getfield 29, 3) := by decide +kernel
theorem dX3_wrongPlace_4 : decode cX3_wrongPlace 4 = .ok (.iconst 0, 1) := by decide +kernel
theorem dX3_wrongPlace_5 : decode cX3_wrongPlace 5 = .ok (.putfield 33, 3) := by decide +kernel
theorem dX3_wrongPlace_8 : decode cX3_wrongPlace 8 = .ok (.aload_n 0, 1) := by decide +kernel
theorem dX3_wrongPlace_9 : decode cX3_wrongPlace 9 = .ok (.invokevirtual 38, 3) := by decide +kernel
theorem dX3_wrongPlace_12 : decode cX3_wrongPlace 12 = .ok (.aload_n 0, 1) := by decide +kernel
theorem dX3_wrongPlace_13 : decode cX3_wrongPlace 13 = .ok (.iconst 0, 1) := by decide +kernel
theorem dX3_wrongPlace_14 : decode cX3_wrongPlace 14 = .ok (.iconst 0, 1) := by decide +kernel
theorem dX3_wrongPlace_15 : decode cX3_wrongPlace 15 = .ok (.invokevirtual 41, 3) := by decide +kernel
theorem dX3_wrongPlace_18 : decode cX3_wrongPlace 18 = .ok (.ifCond .eq 17, 3) := by decide +kernel
theorem dX3_wrongPlace_21 : decode cX3_wrongPlace 21 = .ok (.aload_n 0, 1) := by decide +kernel
theorem dX3_wrongPlace_22 : decode cX3_wrongPlace 22 = .ok (.getfield 45, 3) := by decide +kernel
theorem dX3_wrongPlace_25 : decode cX3_wrongPlace 25 = .ok (.sipush 257, 3) := by decide +kernel
theorem dX3_wrongPlace_28 : decode cX3_wrongPlace 28 = .ok (.if_icmp .ne 7, 3) := by decide +kernel
theorem dX3_wrongPlace_31 : decode cX3_wrongPlace 31 = .ok (.iconst (-1), 1) := by decide +kernel
theorem dX3_wrongPlace_32 : decode cX3_wrongPlace 32 = .ok (.goto 7, 3) := by decide +kernel
theorem dX3_wrongPlace_35 : decode cX3_wrongPlace 35 = .ok (.aload_n 0, 1) := by decide +kernel
theorem dX3_wrongPlace_36 : decode cX3_wrongPlace 36 = .ok (.getfield 48, 3) := by decide +kernel
theorem dX3_wrongPlace_39 : decode cX3_wrongPlace 39 = .ok (.ireturn, 1) := by decide +kernel
theorem dX3_advance_0 : decode cX3_advance 0 = .ok (.aload_n 0, 1) := by decide +kernel
theorem dX3_advance_1 : decode cX3_advance 1 = .ok (.aload_n 0, 1) := by decide +kernel
theorem dX3_advance_2 : decode cX3_advance 2 = .ok (.getfield 51, 3) := by decide +kernel
theorem dX3_advance_5 : decode cX3_advance 5 = .ok (.putfield 48, 3) := by decide +kernel
theorem dX3_advance_8 : decode cX3_advance 8 = .ok (.aload_n 0, 1) := by decide +kernel
theorem dX3_advance_9 : decode cX3_advance 9 = .ok (.getfield 48, 3) := by decide +kernel
theorem dX3_advance_12 : decode cX3_advance 12 = .ok (.aload_n 0, 1) := by decide +kernel
theorem dX3_advance_13 : decode cX3_advance 13 = .ok (.getfield 21, 3) := by decide +kernel
theorem dX3_advance_16 : decode cX3_advance 16 = .ok (.if_icmp .ge 30, 3) := by decide +kernel
theorem dX3_advance_19 : decode cX3_advance 19 = .ok (.aload_n 0, 1) := by decide +kernel
theorem dX3_advance_20 : decode cX3_advance 20 = .ok (.getfield 9, 3) := by decide +kernel
theorem dX3_advance_23 : decode cX3_advance 23 = .ok (.aload_n 0, 1) := by decide +kernel
theorem dX3_advance_24 : decode cX3_advance 24 = .ok (.getfield 48, 3) := by decide +kernel
theorem dX3_advance_27 : decode cX3_advance 27 = .ok (.baload, 1) := by decide +kernel
theorem dX3_advance_28 : decode cX3_advance 28 = .ok (.bipush 32, 2) := by decide +kernel
theorem dX3_advance_30 : decode cX3_advance 30 = .ok (.if_icmp .ne 16, 3) := by decide +kernel
theorem dX3_advance_33 : decode cX3_advance 33 = .ok (.aload_n 0, 1) := by decide +kernel
theorem dX3_advance_34 : decode cX3_advance 34 = .ok (.dup, 1) := by decide +kernel
theorem dX3_advance_35 : decode cX3_advance 35 = .ok (.getfield 48, 3) := by decide +kernel
theorem dX3_advance_38 : decode cX3_advance 38 = .ok (.iconst 1, 1) := by decide +kernel
theorem dX3_advance_39 : decode cX3_advance 39 = .ok (.iadd, 1) := by decide +kernel
theorem dX3_advance_40 : decode cX3_advance 40 = .ok (.putfield 48, 3) := by decide +kernel
theorem dX3_advance_43 : decode cX3_advance 43 = .ok (.goto (-35), 3) := by decide +kernel
theorem dX3_advance_46 : decode cX3_advance 46 = .ok (.aload_n 0, 1) := by decide +kernel
theorem dX3_advance_47 : decode cX3_advance 47 = .ok (.getfield 48, 3) := by decide +kernel
theorem dX3_advance_50 : decode cX3_advance 50 = .ok (.aload_n 0, 1) := by decide +kernel
theorem dX3_advance_51 : decode cX3_advance 51 = .ok (.getfield 21, 3) := by decide +kernel
theorem dX3_advance_54 : decode cX3_advance 54 = .ok (.if_icmp .lt 19, 3) := by decide +kernel
theorem dX3_advance_57 : decode cX3_advance 57 = .ok (.aload_n 0, 1) := by decide +kernel
theorem dX3_advance_58 : decode cX3_advance 58 = .ok (.sipush 257, 3) := by decide +kernel
theorem dX3_advance_61 : decode cX3_advance 61 = .ok (.putfield 45, 3) := by decide +kernel
theorem dX3_advance_64 : decode cX3_advance 64 = .ok (.aload_n 0, 1) := by decide +kernel
theorem dX3_advance_65 : decode cX3_advance 65 = .ok (.aload_n 0, 1) := by decide +kernel
theorem dX3_advance_66 : decode cX3_advance 66 = .ok (.getfield 48, 3) := by decide +kernel
theorem dX3_advance_69 : decode cX3_advance 69 = .ok (.putfield 51, 3) := by decide +kernel
theorem dX3_advance_72 : decode cX3_advance 72 = .ok (.return_, 1) := by decide +kernel
theorem dX3_advance_73 : decode cX3_advance 73 = .ok (.aload_n 0, 1) := by decide +kernel
theorem dX3_advance_74 : decode cX3_advance 74 = .ok (.aload_n 0, 1) := by decide +kernel
theorem dX3_advance_75 : decode cX3_advance 75 = .ok (.getfield 9, 3) := by decide +kernel
theorem dX3_advance_78 : decode cX3_advance 78 = .ok (.aload_n 0, 1) := by decide +kernel
theorem dX3_advance_79 : decode cX3_advance 79 = .ok (.getfield 48, 3) := by decide +kernel
theorem dX3_advance_82 : decode cX3_advance 82 = .ok (.aload_n 0, 1) := by decide +kernel
theorem dX3_advance_83 : decode cX3_advance 83 = .ok (.getfield 21, 3) := by decide +kernel
theorem dX3_advance_86 : decode cX3_advance 86 = .ok (.invokestatic 54, 3) := by decide +kernel
theorem dX3_advance_89 : decode cX3_advance 89 = .ok (.putfield 51, 3) := by decide +kernel
theorem dX3_advance_92 : decode cX3_advance 92 = .ok (.aload_n 0, 1) := by decide +kernel
theorem dX3_advance_93 : decode cX3_advance 93 = .ok (.sipush 256, 3) := by decide +kernel
theorem dX3_advance_96 : decode cX3_advance 96 = .ok (.putfield 45, 3) := by decide +kernel
theorem dX3_advance_99 : decode cX3_advance 99 = .ok (.aload_n 0, 1) := by decide +kernel
theorem dX3_advance_100 : decode cX3_advance 100 = .ok (.getfield 51, 3) := by decide +kernel
theorem dX3_advance_103 : decode cX3_advance 103 = .ok (.aload_n 0, 1) := by decide +kernel
theorem dX3_advance_104 : decode cX3_advance 104 = .ok (.getfield 48, 3) := by decide +kernel
theorem dX3_advance_107 : decode cX3_advance 107 = .ok (.if_icmp .ne 30, 3) := by decide +kernel
theorem dX3_advance_110 : decode cX3_advance 110 = .ok (.aload_n 0, 1) := by decide +kernel
theorem dX3_advance_111 : decode cX3_advance 111 = .ok (.aload_n 0, 1) := by decide +kernel
theorem dX3_advance_112 : decode cX3_advance 112 = .ok (.getfield 9, 3) := by decide +kernel
theorem dX3_advance_115 : decode cX3_advance 115 = .ok (.aload_n 0, 1) := by decide +kernel
theorem dX3_advance_116 : decode cX3_advance 116 = .ok (.getfield 48, 3) := by decide +kernel
theorem dX3_advance_119 : decode cX3_advance 119 = .ok (.baload, 1) := by decide +kernel
theorem dX3_advance_120 : decode cX3_advance 120 = .ok (.sipush 255, 3) := by decide +kernel
theorem dX3_advance_123 : decode cX3_advance 123 = .ok (.iand, 1) := by decide +kernel
theorem dX3_advance_124 : decode cX3_advance 124 = .ok (.putfield 45, 3) := by decide +kernel
theorem dX3_advance_127 : decode cX3_advance 127 = .ok (.aload_n 0, 1) := by decide +kernel
theorem dX3_advance_128 : decode cX3_advance 128 = .ok (.aload_n 0, 1) := by decide +kernel
theorem dX3_advance_129 : decode cX3_advance 129 = .ok (.getfield 48, 3) := by decide +kernel
theorem dX3_advance_132 : decode cX3_advance 132 = .ok (.iconst 1, 1) := by decide +kernel
theorem dX3_advance_133 : decode cX3_advance 133 = .ok (.iadd, 1) := by decide +kernel
theorem dX3_advance_134 : decode cX3_advance 134 = .ok (.putfield 51, 3) := by decide +kernel
theorem dX3_advance_137 : decode cX3_advance 137 = .ok (.return_, 1) := by decide +kernel
theorem dX3_readAny_0 : decode cX3_readAny 0 = .ok (.iconst 1, 1) := by decide +kernel
theorem dX3_readAny_1 : decode cX3_readAny 1 = .ok (.istore_n 3, 1) := by decide +kernel
theorem dX3_readAny_2 : decode cX3_readAny 2 = .ok (.iconst 0, 1) := by decide +kernel
theorem dX3_readAny_3 : decode cX3_readAny 3 = .ok (.istore 4, 2) := by decide +kernel
theorem dX3_readAny_5 : decode cX3_readAny 5 = .ok (.iload 4, 2) := by decide +kernel
theorem dX3_readAny_7 : decode cX3_readAny 7 = .ok (.bipush 40, 2) := by decide +kernel
theorem dX3_readAny_9 : decode cX3_readAny 9 = .ok (.if_icmp .gt 56, 3) := by decide +kernel
theorem dX3_readAny_12 : decode cX3_readAny 12 = .ok (.aload_n 0, 1) := by decide +kernel
theorem dX3_readAny_13 : decode cX3_readAny 13 = .ok (.iload_n 1, 1) := by decide +kernel
theorem dX3_readAny_14 : decode cX3_readAny 14 = .ok (.iload_n 2, 1) := by decide +kernel
theorem dX3_readAny_15 : decode cX3_readAny 15 = .ok (.iload_n 3, 1) := by decide +kernel
theorem dX3_readAny_16 : decode cX3_readAny 16 = .ok (.invokevirtual 60, 3) := by decide +kernel
theorem dX3_readAny_19 : decode cX3_readAny 19 = .ok (.ifCond .ne 5, 3) := by decide +kernel
theorem dX3_readAny_22 : decode cX3_readAny 22 = .ok (.iconst 0, 1) := by decide +kernel
theorem dX3_readAny_23 : decode cX3_readAny 23 = .ok (.ireturn, 1) := by decide +kernel
theorem dX3_readAny_24 : decode cX3_readAny 24 = .ok (.aload_n 0, 1) := by decide +kernel
theorem dX3_readAny_25 : decode cX3_readAny 25 = .ok (.getfield 45, 3) := by decide +kernel
theorem dX3_readAny_28 : decode cX3_readAny 28 = .ok (.bipush 124, 2) := by decide +kernel
theorem dX3_readAny_30 : decode cX3_readAny 30 = .ok (.if_icmp .ne 7, 3) := by decide +kernel
theorem dX3_readAny_33 : decode cX3_readAny 33 = .ok (.iconst 1, 1) := by decide +kernel
theorem dX3_readAny_34 : decode cX3_readAny 34 = .ok (.goto 4, 3) := by decide +kernel
theorem dX3_readAny_37 : decode cX3_readAny 37 = .ok (.iconst 0, 1) := by decide +kernel
theorem dX3_readAny_38 : decode cX3_readAny 38 = .ok (.istore_n 3, 1) := by decide +kernel
theorem dX3_readAny_39 : decode cX3_readAny 39 = .ok (.iload_n 3, 1) := by decide +kernel
theorem dX3_readAny_40 : decode cX3_readAny 40 = .ok (.ifCond .eq 10, 3) := by decide +kernel
theorem dX3_readAny_43 : decode cX3_readAny 43 = .ok (.aload_n 0, 1) := by decide +kernel
theorem dX3_readAny_44 : decode cX3_readAny 44 = .ok (.invokevirtual 38, 3) := by decide +kernel
theorem dX3_readAny_47 : decode cX3_readAny 47 = .ok (.goto 12, 3) := by decide +kernel
theorem dX3_readAny_50 : decode cX3_readAny 50 = .ok (.aload_n 0, 1) := by decide +kernel
theorem dX3_readAny_51 : decode cX3_readAny 51 = .ok (.invokevirtual 64, 3) := by decide +kernel
theorem dX3_readAny_54 : decode cX3_readAny 54 = .ok (.ifCond .ne 5, 3) := by decide +kernel
theorem dX3_readAny_57 : decode cX3_readAny 57 = .ok (.iconst 1, 1) := by decide +kernel
theorem dX3_readAny_58 : decode cX3_readAny 58 = .ok (.ireturn, 1) := by decide +kernel
theorem dX3_readAny_59 : decode cX3_readAny 59 = .ok (.iinc 4 1, 3) := by decide +kernel
theorem dX3_readAny_62 : decode cX3_readAny 62 = .ok (.goto (-57), 3) := by decide +kernel
theorem dX3_readAny_65 : decode cX3_readAny 65 = .ok (.iconst 0, 1) := by decide +kernel
theorem dX3_readAny_66 : decode cX3_readAny 66 = .ok (.ireturn, 1) := by decide +kernel
theorem dX3_beginsPart_0 : decode cX3_beginsPart 0 = .ok (.aload_n 0, 1) := by decide +kernel
theorem dX3_beginsPart_1 : decode cX3_beginsPart 1 = .ok (.getfield 45, 3) := by decide +kernel
theorem dX3_beginsPart_4 : decode cX3_beginsPart 4 = .ok (.sipush 256, 3) := by decide +kernel
theorem dX3_beginsPart_7 : decode cX3_beginsPart 7 = .ok (.if_icmp .eq 39, 3) := by decide +kernel
theorem dX3_beginsPart_10 : decode cX3_beginsPart 10 = .ok (.aload_n 0, 1) := by decide +kernel
theorem dX3_beginsPart_11 : decode cX3_beginsPart 11 = .ok (.getfield 45, 3) := by decide +kernel
theorem dX3_beginsPart_14 : decode cX3_beginsPart 14 = .ok (.bipush 34, 2) := by decide +kernel
theorem dX3_beginsPart_16 : decode cX3_beginsPart 16 = .ok (.if_icmp .eq 30, 3) := by decide +kernel
theorem dX3_beginsPart_19 : decode cX3_beginsPart 19 = .ok (.aload_n 0, 1) := by decide +kernel
theorem dX3_beginsPart_20 : decode cX3_beginsPart 20 = .ok (.getfield 45, 3) := by decide +kernel
theorem dX3_beginsPart_23 : decode cX3_beginsPart 23 = .ok (.bipush 40, 2) := by decide +kernel
theorem dX3_beginsPart_25 : decode cX3_beginsPart 25 = .ok (.if_icmp .eq 21, 3) := by decide +kernel
theorem dX3_beginsPart_28 : decode cX3_beginsPart 28 = .ok (.aload_n 0, 1) := by decide +kernel
theorem dX3_beginsPart_29 : decode cX3_beginsPart 29 = .ok (.getfield 45, 3) := by decide +kernel
theorem dX3_beginsPart_32 : decode cX3_beginsPart 32 = .ok (.bipush 91, 2) := by decide +kernel
theorem dX3_beginsPart_34 : decode cX3_beginsPart 34 = .ok (.if_icmp .eq 12, 3) := by decide +kernel
theorem dX3_beginsPart_37 : decode cX3_beginsPart 37 = .ok (.aload_n 0, 1) := by decide +kernel
theorem dX3_beginsPart_38 : decode cX3_beginsPart 38 = .ok (.getfield 45, 3) := by decide +kernel
theorem dX3_beginsPart_41 : decode cX3_beginsPart 41 = .ok (.bipush 45, 2) := by decide +kernel
theorem dX3_beginsPart_43 : decode cX3_beginsPart 43 = .ok (.if_icmp .ne 7, 3) := by decide +kernel
theorem dX3_beginsPart_46 : decode cX3_beginsPart 46 = .ok (.iconst 1, 1) := by decide +kernel
theorem dX3_beginsPart_47 : decode cX3_beginsPart 47 = .ok (.goto 4, 3) := by decide +kernel
theorem dX3_beginsPart_50 : decode cX3_beginsPart 50 = .ok (.iconst 0, 1) := by decide +kernel
theorem dX3_beginsPart_51 : decode cX3_beginsPart 51 = .ok (.ireturn, 1) := by decide +kernel
theorem dX3_readPart_0 : decode cX3_readPart 0 = .ok (.aload_n 0, 1) := by decide +kernel
theorem dX3_readPart_1 : decode cX3_readPart 1 = .ok (.getfield 29, 3) := by decide +kernel
theorem dX3_readPart_4 : decode cX3_readPart 4 = .ok (.invokevirtual 68, 3) := by decide +kernel
theorem dX3_readPart_7 : decode cX3_readPart 7 = .ok (.astore 4, 2) := by decide +kernel
theorem dX3_readPart_9 : decode cX3_readPart 9 = .ok (.aload 4, 2) := by decide +kernel
theorem dX3_readPart_11 : decode cX3_readPart 11 = .ok (.ifnonnull 5, 3) := by decide +kernel
theorem dX3_readPart_14 : decode cX3_readPart 14 = .ok (.iconst 0, 1) := by decide +kernel
theorem dX3_readPart_15 : decode cX3_readPart 15 = .ok (.ireturn, 1) := by decide +kernel
theorem dX3_readPart_16 : decode cX3_readPart 16 = .ok (.aload 4, 2) := by decide +kernel
theorem dX3_readPart_18 : decode cX3_readPart 18 = .ok (.iload_n 3, 1) := by decide +kernel
theorem dX3_readPart_19 : decode cX3_readPart 19 = .ok (.putfield 72, 3) := by decide +kernel
theorem dX3_readPart_22 : decode cX3_readPart 22 = .ok (.aload 4, 2) := by decide +kernel
theorem dX3_readPart_24 : decode cX3_readPart 24 = .ok (.aload_n 0, 1) := by decide +kernel
theorem dX3_readPart_25 : decode cX3_readPart 25 = .ok (.getfield 45, 3) := by decide +kernel
theorem dX3_readPart_28 : decode cX3_readPart 28 = .ok (.bipush 45, 2) := by decide +kernel
theorem dX3_readPart_30 : decode cX3_readPart 30 = .ok (.if_icmp .ne 7, 3) := by decide +kernel
theorem dX3_readPart_33 : decode cX3_readPart 33 = .ok (.iconst 1, 1) := by decide +kernel
theorem dX3_readPart_34 : decode cX3_readPart 34 = .ok (.goto 4, 3) := by decide +kernel
theorem dX3_readPart_37 : decode cX3_readPart 37 = .ok (.iconst 0, 1) := by decide +kernel
theorem dX3_readPart_38 : decode cX3_readPart 38 = .ok (.putfield 78, 3) := by decide +kernel
theorem dX3_readPart_41 : decode cX3_readPart 41 = .ok (.aload 4, 2) := by decide +kernel
theorem dX3_readPart_43 : decode cX3_readPart 43 = .ok (.iload_n 2, 1) := by decide +kernel
theorem dX3_readPart_44 : decode cX3_readPart 44 = .ok (.ifCond .ne 11, 3) := by decide +kernel
theorem dX3_readPart_47 : decode cX3_readPart 47 = .ok (.aload 4, 2) := by decide +kernel
theorem dX3_readPart_49 : decode cX3_readPart 49 = .ok (.getfield 78, 3) := by decide +kernel
theorem dX3_readPart_52 : decode cX3_readPart 52 = .ok (.ifCond .eq 7, 3) := by decide +kernel
theorem dX3_readPart_55 : decode cX3_readPart 55 = .ok (.iconst 1, 1) := by decide +kernel
theorem dX3_readPart_56 : decode cX3_readPart 56 = .ok (.goto 4, 3) := by decide +kernel
theorem dX3_readPart_59 : decode cX3_readPart 59 = .ok (.iconst 0, 1) := by decide +kernel
theorem dX3_readPart_60 : decode cX3_readPart 60 = .ok (.putfield 81, 3) := by decide +kernel
theorem dX3_readPart_63 : decode cX3_readPart 63 = .ok (.aload 4, 2) := by decide +kernel
theorem dX3_readPart_65 : decode cX3_readPart 65 = .ok (.getfield 78, 3) := by decide +kernel
theorem dX3_readPart_68 : decode cX3_readPart 68 = .ok (.ifCond .eq 7, 3) := by decide +kernel
theorem dX3_readPart_71 : decode cX3_readPart 71 = .ok (.aload_n 0, 1) := by decide +kernel
theorem dX3_readPart_72 : decode cX3_readPart 72 = .ok (.invokevirtual 38, 3) := by decide +kernel
theorem dX3_readPart_75 : decode cX3_readPart 75 = .ok (.aload_n 0, 1) := by decide +kernel
theorem dX3_readPart_76 : decode cX3_readPart 76 = .ok (.aload 4, 2) := by decide +kernel
theorem dX3_readPart_78 : decode cX3_readPart 78 = .ok (.iload_n 1, 1) := by decide +kernel
theorem dX3_readPart_79 : decode cX3_readPart 79 = .ok (.invokevirtual 84, 3) := by decide +kernel
theorem dX3_readPart_82 : decode cX3_readPart 82 = .ok (.ifCond .ne 5, 3) := by decide +kernel
theorem dX3_readPart_85 : decode cX3_readPart 85 = .ok (.iconst 0, 1) := by decide +kernel
theorem dX3_readPart_86 : decode cX3_readPart 86 = .ok (.ireturn, 1) := by decide +kernel
theorem dX3_readPart_87 : decode cX3_readPart 87 = .ok (.aload_n 0, 1) := by decide +kernel
theorem dX3_readPart_88 : decode cX3_readPart 88 = .ok (.getfield 45, 3) := by decide +kernel
theorem dX3_readPart_91 : decode cX3_readPart 91 = .ok (.bipush 94, 2) := by decide +kernel
theorem dX3_readPart_93 : decode cX3_readPart 93 = .ok (.if_icmp .ne 32, 3) := by decide +kernel
theorem dX3_readPart_96 : decode cX3_readPart 96 = .ok (.aload_n 0, 1) := by decide +kernel
theorem dX3_readPart_97 : decode cX3_readPart 97 = .ok (.invokevirtual 38, 3) := by decide +kernel
theorem dX3_readPart_100 : decode cX3_readPart 100 = .ok (.aload 4, 2) := by decide +kernel
theorem dX3_readPart_102 : decode cX3_readPart 102 = .ok (.aload_n 0, 1) := by decide +kernel
theorem dX3_readPart_103 : decode cX3_readPart 103 = .ok (.iconst 1, 1) := by decide +kernel
theorem dX3_readPart_104 : decode cX3_readPart 104 = .ok (.invokevirtual 88, 3) := by decide +kernel
theorem dX3_readPart_107 : decode cX3_readPart 107 = .ok (.putfield 92, 3) := by decide +kernel
theorem dX3_readPart_110 : decode cX3_readPart 110 = .ok (.aload 4, 2) := by decide +kernel
theorem dX3_readPart_112 : decode cX3_readPart 112 = .ok (.getfield 92, 3) := by decide +kernel
theorem dX3_readPart_115 : decode cX3_readPart 115 = .ok (.iconst 1, 1) := by decide +kernel
theorem dX3_readPart_116 : decode cX3_readPart 116 = .ok (.if_icmp .ge 5, 3) := by decide +kernel
theorem dX3_readPart_119 : decode cX3_readPart 119 = .ok (.iconst 0, 1) := by decide +kernel
theorem dX3_readPart_120 : decode cX3_readPart 120 = .ok (.ireturn, 1) := by decide +kernel
theorem dX3_readPart_121 : decode cX3_readPart 121 = .ok (.aload_n 0, 1) := by decide +kernel
theorem dX3_readPart_122 : decode cX3_readPart 122 = .ok (.invokevirtual 38, 3) := by decide +kernel
theorem dX3_readPart_125 : decode cX3_readPart 125 = .ok (.aload 4, 2) := by decide +kernel
theorem dX3_readPart_127 : decode cX3_readPart 127 = .ok (.aload_n 0, 1) := by decide +kernel
theorem dX3_readPart_128 : decode cX3_readPart 128 = .ok (.getfield 29, 3) := by decide +kernel
theorem dX3_readPart_131 : decode cX3_readPart 131 = .ok (.getfield 33, 3) := by decide +kernel
theorem dX3_readPart_134 : decode cX3_readPart 134 = .ok (.putfield 95, 3) := by decide +kernel
theorem dX3_readPart_137 : decode cX3_readPart 137 = .ok (.iconst 1, 1) := by decide +kernel
theorem dX3_readPart_138 : decode cX3_readPart 138 = .ok (.ireturn, 1) := by decide +kernel
theorem dX3_readAtom_0 : decode cX3_readAtom 0 = .ok (.aload_n 0, 1) := by decide +kernel
theorem dX3_readAtom_1 : decode cX3_readAtom 1 = .ok (.getfield 45, 3) := by decide +kernel
theorem dX3_readAtom_4 : decode cX3_readAtom 4 = .ok (.lookupswitch 69 #[(34, 57), (40, 44), (91, 51), (256, 63)], 44) := by decide +kernel
theorem dX3_readAtom_48 : decode cX3_readAtom 48 = .ok (.aload_n 0, 1) := by decide +kernel
theorem dX3_readAtom_49 : decode cX3_readAtom 49 = .ok (.aload_n 1, 1) := by decide +kernel
theorem dX3_readAtom_50 : decode cX3_readAtom 50 = .ok (.iload_n 2, 1) := by decide +kernel
theorem dX3_readAtom_51 : decode cX3_readAtom 51 = .ok (.invokevirtual 96, 3) := by decide +kernel
theorem dX3_readAtom_54 : decode cX3_readAtom 54 = .ok (.ireturn, 1) := by decide +kernel
theorem dX3_readAtom_55 : decode cX3_readAtom 55 = .ok (.aload_n 0, 1) := by decide +kernel
theorem dX3_readAtom_56 : decode cX3_readAtom 56 = .ok (.aload_n 1, 1) := by decide +kernel
theorem dX3_readAtom_57 : decode cX3_readAtom 57 = .ok (.invokevirtual 99, 3) := by decide +kernel
theorem dX3_readAtom_60 : decode cX3_readAtom 60 = .ok (.ireturn, 1) := by decide +kernel
theorem dX3_readAtom_61 : decode cX3_readAtom 61 = .ok (.aload_n 0, 1) := by decide +kernel
theorem dX3_readAtom_62 : decode cX3_readAtom 62 = .ok (.aload_n 1, 1) := by decide +kernel
theorem dX3_readAtom_63 : decode cX3_readAtom 63 = .ok (.invokevirtual 103, 3) := by decide +kernel
theorem dX3_readAtom_66 : decode cX3_readAtom 66 = .ok (.ireturn, 1) := by decide +kernel
theorem dX3_readAtom_67 : decode cX3_readAtom 67 = .ok (.aload_n 0, 1) := by decide +kernel
theorem dX3_readAtom_68 : decode cX3_readAtom 68 = .ok (.aload_n 1, 1) := by decide +kernel
theorem dX3_readAtom_69 : decode cX3_readAtom 69 = .ok (.invokevirtual 106, 3) := by decide +kernel
theorem dX3_readAtom_72 : decode cX3_readAtom 72 = .ok (.ireturn, 1) := by decide +kernel
theorem dX3_readAtom_73 : decode cX3_readAtom 73 = .ok (.iconst 0, 1) := by decide +kernel
theorem dX3_readAtom_74 : decode cX3_readAtom 74 = .ok (.ireturn, 1) := by decide +kernel
theorem dX3_readGroup_0 : decode cX3_readGroup 0 = .ok (.iload_n 2, 1) := by decide +kernel
theorem dX3_readGroup_1 : decode cX3_readGroup 1 = .ok (.bipush 8, 2) := by decide +kernel
theorem dX3_readGroup_3 : decode cX3_readGroup 3 = .ok (.if_icmp .lt 5, 3) := by decide +kernel
theorem dX3_readGroup_6 : decode cX3_readGroup 6 = .ok (.iconst 0, 1) := by decide +kernel
theorem dX3_readGroup_7 : decode cX3_readGroup 7 = .ok (.ireturn, 1) := by decide +kernel
theorem dX3_readGroup_8 : decode cX3_readGroup 8 = .ok (.aload_n 1, 1) := by decide +kernel
theorem dX3_readGroup_9 : decode cX3_readGroup 9 = .ok (.iconst 0, 1) := by decide +kernel
theorem dX3_readGroup_10 : decode cX3_readGroup 10 = .ok (.putfield 109, 3) := by decide +kernel
theorem dX3_readGroup_13 : decode cX3_readGroup 13 = .ok (.aload_n 0, 1) := by decide +kernel
theorem dX3_readGroup_14 : decode cX3_readGroup 14 = .ok (.invokevirtual 38, 3) := by decide +kernel
theorem dX3_readGroup_17 : decode cX3_readGroup 17 = .ok (.aload_n 0, 1) := by decide +kernel
theorem dX3_readGroup_18 : decode cX3_readGroup 18 = .ok (.iload_n 2, 1) := by decide +kernel
theorem dX3_readGroup_19 : decode cX3_readGroup 19 = .ok (.iconst 1, 1) := by decide +kernel
theorem dX3_readGroup_20 : decode cX3_readGroup 20 = .ok (.iadd, 1) := by decide +kernel
theorem dX3_readGroup_21 : decode cX3_readGroup 21 = .ok (.aload_n 1, 1) := by decide +kernel
theorem dX3_readGroup_22 : decode cX3_readGroup 22 = .ok (.getfield 81, 3) := by decide +kernel
theorem dX3_readGroup_25 : decode cX3_readGroup 25 = .ok (.invokevirtual 41, 3) := by decide +kernel
theorem dX3_readGroup_28 : decode cX3_readGroup 28 = .ok (.ifCond .eq 12, 3) := by decide +kernel
theorem dX3_readGroup_31 : decode cX3_readGroup 31 = .ok (.aload_n 0, 1) := by decide +kernel
theorem dX3_readGroup_32 : decode cX3_readGroup 32 = .ok (.getfield 45, 3) := by decide +kernel
theorem dX3_readGroup_35 : decode cX3_readGroup 35 = .ok (.bipush 41, 2) := by decide +kernel
theorem dX3_readGroup_37 : decode cX3_readGroup 37 = .ok (.if_icmp .eq 5, 3) := by decide +kernel
theorem dX3_readGroup_40 : decode cX3_readGroup 40 = .ok (.iconst 0, 1) := by decide +kernel
theorem dX3_readGroup_41 : decode cX3_readGroup 41 = .ok (.ireturn, 1) := by decide +kernel
theorem dX3_readGroup_42 : decode cX3_readGroup 42 = .ok (.aload_n 0, 1) := by decide +kernel
theorem dX3_readGroup_43 : decode cX3_readGroup 43 = .ok (.invokevirtual 38, 3) := by decide +kernel
theorem dX3_readGroup_46 : decode cX3_readGroup 46 = .ok (.iconst 1, 1) := by decide +kernel
theorem dX3_readGroup_47 : decode cX3_readGroup 47 = .ok (.ireturn, 1) := by decide +kernel
theorem dX3_readRange_0 : decode cX3_readRange 0 = .ok (.aload_n 1, 1) := by decide +kernel
theorem dX3_readRange_1 : decode cX3_readRange 1 = .ok (.iconst 3, 1) := by decide +kernel
theorem dX3_readRange_2 : decode cX3_readRange 2 = .ok (.putfield 109, 3) := by decide +kernel
theorem dX3_readRange_5 : decode cX3_readRange 5 = .ok (.aload_n 0, 1) := by decide +kernel
theorem dX3_readRange_6 : decode cX3_readRange 6 = .ok (.invokevirtual 38, 3) := by decide +kernel
theorem dX3_readRange_9 : decode cX3_readRange 9 = .ok (.aload_n 0, 1) := by decide +kernel
theorem dX3_readRange_10 : decode cX3_readRange 10 = .ok (.aload_n 0, 1) := by decide +kernel
theorem dX3_readRange_11 : decode cX3_readRange 11 = .ok (.getfield 48, 3) := by decide +kernel
theorem dX3_readRange_14 : decode cX3_readRange 14 = .ok (.aload_n 0, 1) := by decide +kernel
theorem dX3_readRange_15 : decode cX3_readRange 15 = .ok (.getfield 51, 3) := by decide +kernel
theorem dX3_readRange_18 : decode cX3_readRange 18 = .ok (.ldc 110, 2) := by decide +kernel
theorem dX3_readRange_20 : decode cX3_readRange 20 = .ok (.invokevirtual 112, 3) := by decide +kernel
theorem dX3_readRange_23 : decode cX3_readRange 23 = .ok (.istore_n 2, 1) := by decide +kernel
theorem dX3_readRange_24 : decode cX3_readRange 24 = .ok (.iload_n 2, 1) := by decide +kernel
theorem dX3_readRange_25 : decode cX3_readRange 25 = .ok (.ifCond .ne 22, 3) := by decide +kernel
theorem dX3_readRange_28 : decode cX3_readRange 28 = .ok (.aload_n 0, 1) := by decide +kernel
theorem dX3_readRange_29 : decode cX3_readRange 29 = .ok (.aload_n 0, 1) := by decide +kernel
theorem dX3_readRange_30 : decode cX3_readRange 30 = .ok (.getfield 48, 3) := by decide +kernel
theorem dX3_readRange_33 : decode cX3_readRange 33 = .ok (.aload_n 0, 1) := by decide +kernel
theorem dX3_readRange_34 : decode cX3_readRange 34 = .ok (.getfield 51, 3) := by decide +kernel
theorem dX3_readRange_37 : decode cX3_readRange 37 = .ok (.ldc 116, 2) := by decide +kernel
theorem dX3_readRange_39 : decode cX3_readRange 39 = .ok (.invokevirtual 112, 3) := by decide +kernel
theorem dX3_readRange_42 : decode cX3_readRange 42 = .ok (.ifCond .ne 5, 3) := by decide +kernel
theorem dX3_readRange_45 : decode cX3_readRange 45 = .ok (.iconst 0, 1) := by decide +kernel
theorem dX3_readRange_46 : decode cX3_readRange 46 = .ok (.ireturn, 1) := by decide +kernel
theorem dX3_readRange_47 : decode cX3_readRange 47 = .ok (.aload_n 1, 1) := by decide +kernel
theorem dX3_readRange_48 : decode cX3_readRange 48 = .ok (.iload_n 2, 1) := by decide +kernel
theorem dX3_readRange_49 : decode cX3_readRange 49 = .ok (.ifCond .eq 7, 3) := by decide +kernel
theorem dX3_readRange_52 : decode cX3_readRange 52 = .ok (.iconst 0, 1) := by decide +kernel
theorem dX3_readRange_53 : decode cX3_readRange 53 = .ok (.goto 4, 3) := by decide +kernel
theorem dX3_readRange_56 : decode cX3_readRange 56 = .ok (.iconst 1, 1) := by decide +kernel
theorem dX3_readRange_57 : decode cX3_readRange 57 = .ok (.putfield 118, 3) := by decide +kernel
theorem dX3_readRange_60 : decode cX3_readRange 60 = .ok (.aload_n 0, 1) := by decide +kernel
theorem dX3_readRange_61 : decode cX3_readRange 61 = .ok (.invokevirtual 38, 3) := by decide +kernel
theorem dX3_readRange_64 : decode cX3_readRange 64 = .ok (.iconst 0, 1) := by decide +kernel
theorem dX3_readRange_65 : decode cX3_readRange 65 = .ok (.istore_n 3, 1) := by decide +kernel
theorem dX3_readRange_66 : decode cX3_readRange 66 = .ok (.iload_n 3, 1) := by decide +kernel
theorem dX3_readRange_67 : decode cX3_readRange 67 = .ok (.iconst 2, 1) := by decide +kernel
theorem dX3_readRange_68 : decode cX3_readRange 68 = .ok (.if_icmp .ge 77, 3) := by decide +kernel
theorem dX3_readRange_71 : decode cX3_readRange 71 = .ok (.aload_n 0, 1) := by decide +kernel
theorem dX3_readRange_72 : decode cX3_readRange 72 = .ok (.getfield 45, 3) := by decide +kernel
theorem dX3_readRange_75 : decode cX3_readRange 75 = .ok (.bipush 45, 2) := by decide +kernel
theorem dX3_readRange_77 : decode cX3_readRange 77 = .ok (.if_icmp .ne 7, 3) := by decide +kernel
theorem dX3_readRange_80 : decode cX3_readRange 80 = .ok (.iconst (-1), 1) := by decide +kernel
theorem dX3_readRange_81 : decode cX3_readRange 81 = .ok (.goto 4, 3) := by decide +kernel
theorem dX3_readRange_84 : decode cX3_readRange 84 = .ok (.iconst 1, 1) := by decide +kernel
theorem dX3_readRange_85 : decode cX3_readRange 85 = .ok (.istore 4, 2) := by decide +kernel
theorem dX3_readRange_87 : decode cX3_readRange 87 = .ok (.iload 4, 2) := by decide +kernel
theorem dX3_readRange_89 : decode cX3_readRange 89 = .ok (.ifCond .ge 7, 3) := by decide +kernel
theorem dX3_readRange_92 : decode cX3_readRange 92 = .ok (.aload_n 0, 1) := by decide +kernel
theorem dX3_readRange_93 : decode cX3_readRange 93 = .ok (.invokevirtual 38, 3) := by decide +kernel
theorem dX3_readRange_96 : decode cX3_readRange 96 = .ok (.aload_n 0, 1) := by decide +kernel
theorem dX3_readRange_97 : decode cX3_readRange 97 = .ok (.bipush 9, 2) := by decide +kernel
theorem dX3_readRange_99 : decode cX3_readRange 99 = .ok (.invokevirtual 88, 3) := by decide +kernel
theorem dX3_readRange_102 : decode cX3_readRange 102 = .ok (.istore 5, 2) := by decide +kernel
theorem dX3_readRange_104 : decode cX3_readRange 104 = .ok (.iload 5, 2) := by decide +kernel
theorem dX3_readRange_106 : decode cX3_readRange 106 = .ok (.ifCond .ge 5, 3) := by decide +kernel
theorem dX3_readRange_109 : decode cX3_readRange 109 = .ok (.iconst 0, 1) := by decide +kernel
theorem dX3_readRange_110 : decode cX3_readRange 110 = .ok (.ireturn, 1) := by decide +kernel
theorem dX3_readRange_111 : decode cX3_readRange 111 = .ok (.iload_n 3, 1) := by decide +kernel
theorem dX3_readRange_112 : decode cX3_readRange 112 = .ok (.ifCond .ne 13, 3) := by decide +kernel
theorem dX3_readRange_115 : decode cX3_readRange 115 = .ok (.aload_n 1, 1) := by decide +kernel
theorem dX3_readRange_116 : decode cX3_readRange 116 = .ok (.iload 4, 2) := by decide +kernel
theorem dX3_readRange_118 : decode cX3_readRange 118 = .ok (.iload 5, 2) := by decide +kernel
theorem dX3_readRange_120 : decode cX3_readRange 120 = .ok (.imul, 1) := by decide +kernel
theorem dX3_readRange_121 : decode cX3_readRange 121 = .ok (.i2l, 1) := by decide +kernel
theorem dX3_readRange_122 : decode cX3_readRange 122 = .ok (.putfield 121, 3) := by decide +kernel
theorem dX3_readRange_125 : decode cX3_readRange 125 = .ok (.aload_n 1, 1) := by decide +kernel
theorem dX3_readRange_126 : decode cX3_readRange 126 = .ok (.iload 4, 2) := by decide +kernel
theorem dX3_readRange_128 : decode cX3_readRange 128 = .ok (.iload 5, 2) := by decide +kernel
theorem dX3_readRange_130 : decode cX3_readRange 130 = .ok (.imul, 1) := by decide +kernel
theorem dX3_readRange_131 : decode cX3_readRange 131 = .ok (.i2l, 1) := by decide +kernel
theorem dX3_readRange_132 : decode cX3_readRange 132 = .ok (.putfield 125, 3) := by decide +kernel
theorem dX3_readRange_135 : decode cX3_readRange 135 = .ok (.aload_n 0, 1) := by decide +kernel
theorem dX3_readRange_136 : decode cX3_readRange 136 = .ok (.invokevirtual 38, 3) := by decide +kernel
theorem dX3_readRange_139 : decode cX3_readRange 139 = .ok (.iinc 3 1, 3) := by decide +kernel
theorem dX3_readRange_142 : decode cX3_readRange 142 = .ok (.goto (-76), 3) := by decide +kernel
theorem dX3_readRange_145 : decode cX3_readRange 145 = .ok (.aload_n 0, 1) := by decide +kernel
theorem dX3_readRange_146 : decode cX3_readRange 146 = .ok (.getfield 45, 3) := by decide +kernel
theorem dX3_readRange_149 : decode cX3_readRange 149 = .ok (.bipush 93, 2) := by decide +kernel
theorem dX3_readRange_151 : decode cX3_readRange 151 = .ok (.if_icmp .eq 5, 3) := by decide +kernel
theorem dX3_readRange_154 : decode cX3_readRange 154 = .ok (.iconst 0, 1) := by decide +kernel
theorem dX3_readRange_155 : decode cX3_readRange 155 = .ok (.ireturn, 1) := by decide +kernel
theorem dX3_readRange_156 : decode cX3_readRange 156 = .ok (.aload_n 0, 1) := by decide +kernel
theorem dX3_readRange_157 : decode cX3_readRange 157 = .ok (.invokevirtual 38, 3) := by decide +kernel
theorem dX3_readRange_160 : decode cX3_readRange 160 = .ok (.iconst 1, 1) := by decide +kernel
theorem dX3_readRange_161 : decode cX3_readRange 161 = .ok (.ireturn, 1) := by decide +kernel
theorem dX3_readPhrase_0 : decode cX3_readPhrase 0 = .ok (.aload_n 1, 1) := by decide +kernel
theorem dX3_readPhrase_1 : decode cX3_readPhrase 1 = .ok (.iconst 1, 1) := by decide +kernel
theorem dX3_readPhrase_2 : decode cX3_readPhrase 2 = .ok (.putfield 109, 3) := by decide +kernel
theorem dX3_readPhrase_5 : decode cX3_readPhrase 5 = .ok (.aload_n 0, 1) := by decide +kernel
theorem dX3_readPhrase_6 : decode cX3_readPhrase 6 = .ok (.invokevirtual 38, 3) := by decide +kernel
theorem dX3_readPhrase_9 : decode cX3_readPhrase 9 = .ok (.iconst 0, 1) := by decide +kernel
theorem dX3_readPhrase_10 : decode cX3_readPhrase 10 = .ok (.istore_n 2, 1) := by decide +kernel
theorem dX3_readPhrase_11 : decode cX3_readPhrase 11 = .ok (.aload_n 0, 1) := by decide +kernel
theorem dX3_readPhrase_12 : decode cX3_readPhrase 12 = .ok (.getfield 45, 3) := by decide +kernel
theorem dX3_readPhrase_15 : decode cX3_readPhrase 15 = .ok (.sipush 256, 3) := by decide +kernel
theorem dX3_readPhrase_18 : decode cX3_readPhrase 18 = .ok (.if_icmp .ne 48, 3) := by decide +kernel
theorem dX3_readPhrase_21 : decode cX3_readPhrase 21 = .ok (.iload_n 2, 1) := by decide +kernel
theorem dX3_readPhrase_22 : decode cX3_readPhrase 22 = .ok (.bipush 8, 2) := by decide +kernel
theorem dX3_readPhrase_24 : decode cX3_readPhrase 24 = .ok (.if_icmp .ge 42, 3) := by decide +kernel
theorem dX3_readPhrase_27 : decode cX3_readPhrase 27 = .ok (.aload_n 1, 1) := by decide +kernel
theorem dX3_readPhrase_28 : decode cX3_readPhrase 28 = .ok (.aload_n 0, 1) := by decide +kernel
theorem dX3_readPhrase_29 : decode cX3_readPhrase 29 = .ok (.getfield 25, 3) := by decide +kernel
theorem dX3_readPhrase_32 : decode cX3_readPhrase 32 = .ok (.aload_n 0, 1) := by decide +kernel
theorem dX3_readPhrase_33 : decode cX3_readPhrase 33 = .ok (.getfield 9, 3) := by decide +kernel
theorem dX3_readPhrase_36 : decode cX3_readPhrase 36 = .ok (.aload_n 0, 1) := by decide +kernel
theorem dX3_readPhrase_37 : decode cX3_readPhrase 37 = .ok (.getfield 48, 3) := by decide +kernel
theorem dX3_readPhrase_40 : decode cX3_readPhrase 40 = .ok (.aload_n 0, 1) := by decide +kernel
theorem dX3_readPhrase_41 : decode cX3_readPhrase 41 = .ok (.getfield 51, 3) := by decide +kernel
theorem dX3_readPhrase_44 : decode cX3_readPhrase 44 = .ok (.aload_n 0, 1) := by decide +kernel
theorem dX3_readPhrase_45 : decode cX3_readPhrase 45 = .ok (.getfield 48, 3) := by decide +kernel
theorem dX3_readPhrase_48 : decode cX3_readPhrase 48 = .ok (.isub, 1) := by decide +kernel
theorem dX3_readPhrase_49 : decode cX3_readPhrase 49 = .ok (.invokevirtual 128, 3) := by decide +kernel
theorem dX3_readPhrase_52 : decode cX3_readPhrase 52 = .ok (.iload_n 2, 1) := by decide +kernel
theorem dX3_readPhrase_53 : decode cX3_readPhrase 53 = .ok (.invokevirtual 132, 3) := by decide +kernel
theorem dX3_readPhrase_56 : decode cX3_readPhrase 56 = .ok (.iinc 2 1, 3) := by decide +kernel
theorem dX3_readPhrase_59 : decode cX3_readPhrase 59 = .ok (.aload_n 0, 1) := by decide +kernel
theorem dX3_readPhrase_60 : decode cX3_readPhrase 60 = .ok (.invokevirtual 38, 3) := by decide +kernel
theorem dX3_readPhrase_63 : decode cX3_readPhrase 63 = .ok (.goto (-52), 3) := by decide +kernel
theorem dX3_readPhrase_66 : decode cX3_readPhrase 66 = .ok (.iload_n 2, 1) := by decide +kernel
theorem dX3_readPhrase_67 : decode cX3_readPhrase 67 = .ok (.ifCond .eq 12, 3) := by decide +kernel
theorem dX3_readPhrase_70 : decode cX3_readPhrase 70 = .ok (.aload_n 0, 1) := by decide +kernel
theorem dX3_readPhrase_71 : decode cX3_readPhrase 71 = .ok (.getfield 45, 3) := by decide +kernel
theorem dX3_readPhrase_74 : decode cX3_readPhrase 74 = .ok (.bipush 34, 2) := by decide +kernel
theorem dX3_readPhrase_76 : decode cX3_readPhrase 76 = .ok (.if_icmp .eq 5, 3) := by decide +kernel
theorem dX3_readPhrase_79 : decode cX3_readPhrase 79 = .ok (.iconst 0, 1) := by decide +kernel
theorem dX3_readPhrase_80 : decode cX3_readPhrase 80 = .ok (.ireturn, 1) := by decide +kernel
theorem dX3_readPhrase_81 : decode cX3_readPhrase 81 = .ok (.aload_n 0, 1) := by decide +kernel
theorem dX3_readPhrase_82 : decode cX3_readPhrase 82 = .ok (.invokevirtual 38, 3) := by decide +kernel
theorem dX3_readPhrase_85 : decode cX3_readPhrase 85 = .ok (.aload_n 0, 1) := by decide +kernel
theorem dX3_readPhrase_86 : decode cX3_readPhrase 86 = .ok (.getfield 45, 3) := by decide +kernel
theorem dX3_readPhrase_89 : decode cX3_readPhrase 89 = .ok (.bipush 126, 2) := by decide +kernel
theorem dX3_readPhrase_91 : decode cX3_readPhrase 91 = .ok (.if_icmp .eq 5, 3) := by decide +kernel
theorem dX3_readPhrase_94 : decode cX3_readPhrase 94 = .ok (.iconst 1, 1) := by decide +kernel
theorem dX3_readPhrase_95 : decode cX3_readPhrase 95 = .ok (.ireturn, 1) := by decide +kernel
theorem dX3_readPhrase_96 : decode cX3_readPhrase 96 = .ok (.aload_n 0, 1) := by decide +kernel
theorem dX3_readPhrase_97 : decode cX3_readPhrase 97 = .ok (.invokevirtual 38, 3) := by decide +kernel
theorem dX3_readPhrase_100 : decode cX3_readPhrase 100 = .ok (.aload_n 1, 1) := by decide +kernel
theorem dX3_readPhrase_101 : decode cX3_readPhrase 101 = .ok (.aload_n 0, 1) := by decide +kernel
theorem dX3_readPhrase_102 : decode cX3_readPhrase 102 = .ok (.iconst 1, 1) := by decide +kernel
theorem dX3_readPhrase_103 : decode cX3_readPhrase 103 = .ok (.invokevirtual 88, 3) := by decide +kernel
theorem dX3_readPhrase_106 : decode cX3_readPhrase 106 = .ok (.putfield 136, 3) := by decide +kernel
theorem dX3_readPhrase_109 : decode cX3_readPhrase 109 = .ok (.aload_n 1, 1) := by decide +kernel
theorem dX3_readPhrase_110 : decode cX3_readPhrase 110 = .ok (.getfield 136, 3) := by decide +kernel
theorem dX3_readPhrase_113 : decode cX3_readPhrase 113 = .ok (.ifCond .ge 5, 3) := by decide +kernel
theorem dX3_readPhrase_116 : decode cX3_readPhrase 116 = .ok (.iconst 0, 1) := by decide +kernel
theorem dX3_readPhrase_117 : decode cX3_readPhrase 117 = .ok (.ireturn, 1) := by decide +kernel
theorem dX3_readPhrase_118 : decode cX3_readPhrase 118 = .ok (.aload_n 0, 1) := by decide +kernel
theorem dX3_readPhrase_119 : decode cX3_readPhrase 119 = .ok (.invokevirtual 38, 3) := by decide +kernel
theorem dX3_readPhrase_122 : decode cX3_readPhrase 122 = .ok (.iconst 1, 1) := by decide +kernel
theorem dX3_readPhrase_123 : decode cX3_readPhrase 123 = .ok (.ireturn, 1) := by decide +kernel
theorem dX3_readWord_0 : decode cX3_readWord 0 = .ok (.aload_n 0, 1) := by decide +kernel
theorem dX3_readWord_1 : decode cX3_readWord 1 = .ok (.getfield 48, 3) := by decide +kernel
theorem dX3_readWord_4 : decode cX3_readWord 4 = .ok (.istore_n 2, 1) := by decide +kernel
theorem dX3_readWord_5 : decode cX3_readWord 5 = .ok (.aload_n 0, 1) := by decide +kernel
theorem dX3_readWord_6 : decode cX3_readWord 6 = .ok (.getfield 51, 3) := by decide +kernel
theorem dX3_readWord_9 : decode cX3_readWord 9 = .ok (.istore_n 3, 1) := by decide +kernel
theorem dX3_readWord_10 : decode cX3_readWord 10 = .ok (.aload_n 0, 1) := by decide +kernel
theorem dX3_readWord_11 : decode cX3_readWord 11 = .ok (.invokevirtual 38, 3) := by decide +kernel
theorem dX3_readWord_14 : decode cX3_readWord 14 = .ok (.aload_n 0, 1) := by decide +kernel
theorem dX3_readWord_15 : decode cX3_readWord 15 = .ok (.iload_n 2, 1) := by decide +kernel
theorem dX3_readWord_16 : decode cX3_readWord 16 = .ok (.iload_n 3, 1) := by decide +kernel
theorem dX3_readWord_17 : decode cX3_readWord 17 = .ok (.invokevirtual 139, 3) := by decide +kernel
theorem dX3_readWord_20 : decode cX3_readWord 20 = .ok (.istore 4, 2) := by decide +kernel
theorem dX3_readWord_22 : decode cX3_readWord 22 = .ok (.aload_n 0, 1) := by decide +kernel
theorem dX3_readWord_23 : decode cX3_readWord 23 = .ok (.getfield 45, 3) := by decide +kernel
theorem dX3_readWord_26 : decode cX3_readWord 26 = .ok (.bipush 58, 2) := by decide +kernel
theorem dX3_readWord_28 : decode cX3_readWord 28 = .ok (.if_icmp .ne 59, 3) := by decide +kernel
theorem dX3_readWord_31 : decode cX3_readWord 31 = .ok (.iload 4, 2) := by decide +kernel
theorem dX3_readWord_33 : decode cX3_readWord 33 = .ok (.ifCond .lt 54, 3) := by decide +kernel
theorem dX3_readWord_36 : decode cX3_readWord 36 = .ok (.aload_n 1, 1) := by decide +kernel
theorem dX3_readWord_37 : decode cX3_readWord 37 = .ok (.iload 4, 2) := by decide +kernel
theorem dX3_readWord_39 : decode cX3_readWord 39 = .ok (.putfield 142, 3) := by decide +kernel
theorem dX3_readWord_42 : decode cX3_readWord 42 = .ok (.aload_n 0, 1) := by decide +kernel
theorem dX3_readWord_43 : decode cX3_readWord 43 = .ok (.invokevirtual 38, 3) := by decide +kernel
theorem dX3_readWord_46 : decode cX3_readWord 46 = .ok (.aload_n 0, 1) := by decide +kernel
theorem dX3_readWord_47 : decode cX3_readWord 47 = .ok (.getfield 45, 3) := by decide +kernel
theorem dX3_readWord_50 : decode cX3_readWord 50 = .ok (.bipush 34, 2) := by decide +kernel
theorem dX3_readWord_52 : decode cX3_readWord 52 = .ok (.if_icmp .ne 9, 3) := by decide +kernel
theorem dX3_readWord_55 : decode cX3_readWord 55 = .ok (.aload_n 0, 1) := by decide +kernel
theorem dX3_readWord_56 : decode cX3_readWord 56 = .ok (.aload_n 1, 1) := by decide +kernel
theorem dX3_readWord_57 : decode cX3_readWord 57 = .ok (.invokevirtual 103, 3) := by decide +kernel
theorem dX3_readWord_60 : decode cX3_readWord 60 = .ok (.ireturn, 1) := by decide +kernel
theorem dX3_readWord_61 : decode cX3_readWord 61 = .ok (.aload_n 0, 1) := by decide +kernel
theorem dX3_readWord_62 : decode cX3_readWord 62 = .ok (.getfield 45, 3) := by decide +kernel
theorem dX3_readWord_65 : decode cX3_readWord 65 = .ok (.sipush 256, 3) := by decide +kernel
theorem dX3_readWord_68 : decode cX3_readWord 68 = .ok (.if_icmp .eq 5, 3) := by decide +kernel
theorem dX3_readWord_71 : decode cX3_readWord 71 = .ok (.iconst 0, 1) := by decide +kernel
theorem dX3_readWord_72 : decode cX3_readWord 72 = .ok (.ireturn, 1) := by decide +kernel
theorem dX3_readWord_73 : decode cX3_readWord 73 = .ok (.aload_n 0, 1) := by decide +kernel
theorem dX3_readWord_74 : decode cX3_readWord 74 = .ok (.getfield 48, 3) := by decide +kernel
theorem dX3_readWord_77 : decode cX3_readWord 77 = .ok (.istore_n 2, 1) := by decide +kernel
theorem dX3_readWord_78 : decode cX3_readWord 78 = .ok (.aload_n 0, 1) := by decide +kernel
theorem dX3_readWord_79 : decode cX3_readWord 79 = .ok (.getfield 51, 3) := by decide +kernel
theorem dX3_readWord_82 : decode cX3_readWord 82 = .ok (.istore_n 3, 1) := by decide +kernel
theorem dX3_readWord_83 : decode cX3_readWord 83 = .ok (.aload_n 0, 1) := by decide +kernel
theorem dX3_readWord_84 : decode cX3_readWord 84 = .ok (.invokevirtual 38, 3) := by decide +kernel
theorem dX3_readWord_87 : decode cX3_readWord 87 = .ok (.aload_n 0, 1) := by decide +kernel
theorem dX3_readWord_88 : decode cX3_readWord 88 = .ok (.getfield 45, 3) := by decide +kernel
theorem dX3_readWord_91 : decode cX3_readWord 91 = .ok (.bipush 42, 2) := by decide +kernel
theorem dX3_readWord_93 : decode cX3_readWord 93 = .ok (.if_icmp .ne 45, 3) := by decide +kernel
theorem dX3_readWord_96 : decode cX3_readWord 96 = .ok (.aload_n 1, 1) := by decide +kernel
theorem dX3_readWord_97 : decode cX3_readWord 97 = .ok (.iconst 2, 1) := by decide +kernel
theorem dX3_readWord_98 : decode cX3_readWord 98 = .ok (.putfield 109, 3) := by decide +kernel
theorem dX3_readWord_101 : decode cX3_readWord 101 = .ok (.aload_n 1, 1) := by decide +kernel
theorem dX3_readWord_102 : decode cX3_readWord 102 = .ok (.aload_n 0, 1) := by decide +kernel
theorem dX3_readWord_103 : decode cX3_readWord 103 = .ok (.getfield 9, 3) := by decide +kernel
theorem dX3_readWord_106 : decode cX3_readWord 106 = .ok (.iload_n 2, 1) := by decide +kernel
theorem dX3_readWord_107 : decode cX3_readWord 107 = .ok (.iload_n 3, 1) := by decide +kernel
theorem dX3_readWord_108 : decode cX3_readWord 108 = .ok (.iload_n 2, 1) := by decide +kernel
theorem dX3_readWord_109 : decode cX3_readWord 109 = .ok (.isub, 1) := by decide +kernel
theorem dX3_readWord_110 : decode cX3_readWord 110 = .ok (.invokestatic 145, 3) := by decide +kernel
theorem dX3_readWord_113 : decode cX3_readWord 113 = .ok (.putfield 121, 3) := by decide +kernel
theorem dX3_readWord_116 : decode cX3_readWord 116 = .ok (.aload_n 1, 1) := by decide +kernel
theorem dX3_readWord_117 : decode cX3_readWord 117 = .ok (.aload_n 0, 1) := by decide +kernel
theorem dX3_readWord_118 : decode cX3_readWord 118 = .ok (.getfield 9, 3) := by decide +kernel
theorem dX3_readWord_121 : decode cX3_readWord 121 = .ok (.iload_n 2, 1) := by decide +kernel
theorem dX3_readWord_122 : decode cX3_readWord 122 = .ok (.iload_n 3, 1) := by decide +kernel
theorem dX3_readWord_123 : decode cX3_readWord 123 = .ok (.iload_n 2, 1) := by decide +kernel
theorem dX3_readWord_124 : decode cX3_readWord 124 = .ok (.isub, 1) := by decide +kernel
theorem dX3_readWord_125 : decode cX3_readWord 125 = .ok (.invokestatic 148, 3) := by decide +kernel
theorem dX3_readWord_128 : decode cX3_readWord 128 = .ok (.putfield 125, 3) := by decide +kernel
theorem dX3_readWord_131 : decode cX3_readWord 131 = .ok (.aload_n 0, 1) := by decide +kernel
theorem dX3_readWord_132 : decode cX3_readWord 132 = .ok (.invokevirtual 38, 3) := by decide +kernel
theorem dX3_readWord_135 : decode cX3_readWord 135 = .ok (.goto 28, 3) := by decide +kernel
theorem dX3_readWord_138 : decode cX3_readWord 138 = .ok (.aload_n 1, 1) := by decide +kernel
theorem dX3_readWord_139 : decode cX3_readWord 139 = .ok (.iconst 1, 1) := by decide +kernel
theorem dX3_readWord_140 : decode cX3_readWord 140 = .ok (.putfield 109, 3) := by decide +kernel
theorem dX3_readWord_143 : decode cX3_readWord 143 = .ok (.aload_n 1, 1) := by decide +kernel
theorem dX3_readWord_144 : decode cX3_readWord 144 = .ok (.aload_n 0, 1) := by decide +kernel
theorem dX3_readWord_145 : decode cX3_readWord 145 = .ok (.getfield 25, 3) := by decide +kernel
theorem dX3_readWord_148 : decode cX3_readWord 148 = .ok (.aload_n 0, 1) := by decide +kernel
theorem dX3_readWord_149 : decode cX3_readWord 149 = .ok (.getfield 9, 3) := by decide +kernel
theorem dX3_readWord_152 : decode cX3_readWord 152 = .ok (.iload_n 2, 1) := by decide +kernel
theorem dX3_readWord_153 : decode cX3_readWord 153 = .ok (.iload_n 3, 1) := by decide +kernel
theorem dX3_readWord_154 : decode cX3_readWord 154 = .ok (.iload_n 2, 1) := by decide +kernel
theorem dX3_readWord_155 : decode cX3_readWord 155 = .ok (.isub, 1) := by decide +kernel
theorem dX3_readWord_156 : decode cX3_readWord 156 = .ok (.invokevirtual 128, 3) := by decide +kernel
theorem dX3_readWord_159 : decode cX3_readWord 159 = .ok (.iconst 0, 1) := by decide +kernel
theorem dX3_readWord_160 : decode cX3_readWord 160 = .ok (.invokevirtual 132, 3) := by decide +kernel
theorem dX3_readWord_163 : decode cX3_readWord 163 = .ok (.iconst 1, 1) := by decide +kernel
theorem dX3_readWord_164 : decode cX3_readWord 164 = .ok (.ireturn, 1) := by decide +kernel
theorem dX3_fieldNamed_0 : decode cX3_fieldNamed 0 = .ok (.aload_n 0, 1) := by decide +kernel
theorem dX3_fieldNamed_1 : decode cX3_fieldNamed 1 = .ok (.iload_n 1, 1) := by decide +kernel
theorem dX3_fieldNamed_2 : decode cX3_fieldNamed 2 = .ok (.iload_n 2, 1) := by decide +kernel
theorem dX3_fieldNamed_3 : decode cX3_fieldNamed 3 = .ok (.ldc 151, 2) := by decide +kernel
theorem dX3_fieldNamed_5 : decode cX3_fieldNamed 5 = .ok (.invokevirtual 112, 3) := by decide +kernel
theorem dX3_fieldNamed_8 : decode cX3_fieldNamed 8 = .ok (.ifCond .eq 5, 3) := by decide +kernel
theorem dX3_fieldNamed_11 : decode cX3_fieldNamed 11 = .ok (.iconst 0, 1) := by decide +kernel
theorem dX3_fieldNamed_12 : decode cX3_fieldNamed 12 = .ok (.ireturn, 1) := by decide +kernel
theorem dX3_fieldNamed_13 : decode cX3_fieldNamed 13 = .ok (.aload_n 0, 1) := by decide +kernel
theorem dX3_fieldNamed_14 : decode cX3_fieldNamed 14 = .ok (.iload_n 1, 1) := by decide +kernel
theorem dX3_fieldNamed_15 : decode cX3_fieldNamed 15 = .ok (.iload_n 2, 1) := by decide +kernel
theorem dX3_fieldNamed_16 : decode cX3_fieldNamed 16 = .ok (.ldc 153, 2) := by decide +kernel
theorem dX3_fieldNamed_18 : decode cX3_fieldNamed 18 = .ok (.invokevirtual 112, 3) := by decide +kernel
theorem dX3_fieldNamed_21 : decode cX3_fieldNamed 21 = .ok (.ifCond .eq 7, 3) := by decide +kernel
theorem dX3_fieldNamed_24 : decode cX3_fieldNamed 24 = .ok (.iconst 1, 1) := by decide +kernel
theorem dX3_fieldNamed_25 : decode cX3_fieldNamed 25 = .ok (.goto 4, 3) := by decide +kernel
theorem dX3_fieldNamed_28 : decode cX3_fieldNamed 28 = .ok (.iconst (-1), 1) := by decide +kernel
theorem dX3_fieldNamed_29 : decode cX3_fieldNamed 29 = .ok (.ireturn, 1) := by decide +kernel
theorem dX3_wordIs_0 : decode cX3_wordIs 0 = .ok (.iload_n 1, 1) := by decide +kernel
theorem dX3_wordIs_1 : decode cX3_wordIs 1 = .ok (.ifCond .lt 21, 3) := by decide +kernel
theorem dX3_wordIs_4 : decode cX3_wordIs 4 = .ok (.iload_n 2, 1) := by decide +kernel
theorem dX3_wordIs_5 : decode cX3_wordIs 5 = .ok (.aload_n 0, 1) := by decide +kernel
theorem dX3_wordIs_6 : decode cX3_wordIs 6 = .ok (.getfield 21, 3) := by decide +kernel
theorem dX3_wordIs_9 : decode cX3_wordIs 9 = .ok (.if_icmp .gt 13, 3) := by decide +kernel
theorem dX3_wordIs_12 : decode cX3_wordIs 12 = .ok (.iload_n 2, 1) := by decide +kernel
theorem dX3_wordIs_13 : decode cX3_wordIs 13 = .ok (.iload_n 1, 1) := by decide +kernel
theorem dX3_wordIs_14 : decode cX3_wordIs 14 = .ok (.isub, 1) := by decide +kernel
theorem dX3_wordIs_15 : decode cX3_wordIs 15 = .ok (.aload_n 3, 1) := by decide +kernel
theorem dX3_wordIs_16 : decode cX3_wordIs 16 = .ok (.invokevirtual 155, 3) := by decide +kernel
theorem dX3_wordIs_19 : decode cX3_wordIs 19 = .ok (.if_icmp .eq 5, 3) := by decide +kernel
theorem dX3_wordIs_22 : decode cX3_wordIs 22 = .ok (.iconst 0, 1) := by decide +kernel
theorem dX3_wordIs_23 : decode cX3_wordIs 23 = .ok (.ireturn, 1) := by decide +kernel
theorem dX3_wordIs_24 : decode cX3_wordIs 24 = .ok (.iconst 0, 1) := by decide +kernel
theorem dX3_wordIs_25 : decode cX3_wordIs 25 = .ok (.istore 4, 2) := by decide +kernel
theorem dX3_wordIs_27 : decode cX3_wordIs 27 = .ok (.iload 4, 2) := by decide +kernel
theorem dX3_wordIs_29 : decode cX3_wordIs 29 = .ok (.aload_n 3, 1) := by decide +kernel
theorem dX3_wordIs_30 : decode cX3_wordIs 30 = .ok (.invokevirtual 155, 3) := by decide +kernel
theorem dX3_wordIs_33 : decode cX3_wordIs 33 = .ok (.if_icmp .ge 29, 3) := by decide +kernel
theorem dX3_wordIs_36 : decode cX3_wordIs 36 = .ok (.aload_n 0, 1) := by decide +kernel
theorem dX3_wordIs_37 : decode cX3_wordIs 37 = .ok (.getfield 9, 3) := by decide +kernel
theorem dX3_wordIs_40 : decode cX3_wordIs 40 = .ok (.iload_n 1, 1) := by decide +kernel
theorem dX3_wordIs_41 : decode cX3_wordIs 41 = .ok (.iload 4, 2) := by decide +kernel
theorem dX3_wordIs_43 : decode cX3_wordIs 43 = .ok (.iadd, 1) := by decide +kernel
theorem dX3_wordIs_44 : decode cX3_wordIs 44 = .ok (.baload, 1) := by decide +kernel
theorem dX3_wordIs_45 : decode cX3_wordIs 45 = .ok (.aload_n 3, 1) := by decide +kernel
theorem dX3_wordIs_46 : decode cX3_wordIs 46 = .ok (.iload 4, 2) := by decide +kernel
theorem dX3_wordIs_48 : decode cX3_wordIs 48 = .ok (.invokevirtual 160, 3) := by decide +kernel
theorem dX3_wordIs_51 : decode cX3_wordIs 51 = .ok (.if_icmp .eq 5, 3) := by decide +kernel
theorem dX3_wordIs_54 : decode cX3_wordIs 54 = .ok (.iconst 0, 1) := by decide +kernel
theorem dX3_wordIs_55 : decode cX3_wordIs 55 = .ok (.ireturn, 1) := by decide +kernel
theorem dX3_wordIs_56 : decode cX3_wordIs 56 = .ok (.iinc 4 1, 3) := by decide +kernel
theorem dX3_wordIs_59 : decode cX3_wordIs 59 = .ok (.goto (-32), 3) := by decide +kernel
theorem dX3_wordIs_62 : decode cX3_wordIs 62 = .ok (.iconst 1, 1) := by decide +kernel
theorem dX3_wordIs_63 : decode cX3_wordIs 63 = .ok (.ireturn, 1) := by decide +kernel
theorem dX3_number_0 : decode cX3_number 0 = .ok (.aload_n 0, 1) := by decide +kernel
theorem dX3_number_1 : decode cX3_number 1 = .ok (.getfield 45, 3) := by decide +kernel
theorem dX3_number_4 : decode cX3_number 4 = .ok (.sipush 256, 3) := by decide +kernel
theorem dX3_number_7 : decode cX3_number 7 = .ok (.if_icmp .ne 16, 3) := by decide +kernel
theorem dX3_number_10 : decode cX3_number 10 = .ok (.aload_n 0, 1) := by decide +kernel
theorem dX3_number_11 : decode cX3_number 11 = .ok (.getfield 51, 3) := by decide +kernel
theorem dX3_number_14 : decode cX3_number 14 = .ok (.aload_n 0, 1) := by decide +kernel
theorem dX3_number_15 : decode cX3_number 15 = .ok (.getfield 48, 3) := by decide +kernel
theorem dX3_number_18 : decode cX3_number 18 = .ok (.isub, 1) := by decide +kernel
theorem dX3_number_19 : decode cX3_number 19 = .ok (.iload_n 1, 1) := by decide +kernel
theorem dX3_number_20 : decode cX3_number 20 = .ok (.if_icmp .le 5, 3) := by decide +kernel
theorem dX3_number_23 : decode cX3_number 23 = .ok (.iconst (-1), 1) := by decide +kernel
theorem dX3_number_24 : decode cX3_number 24 = .ok (.ireturn, 1) := by decide +kernel
theorem dX3_number_25 : decode cX3_number 25 = .ok (.iconst 0, 1) := by decide +kernel
theorem dX3_number_26 : decode cX3_number 26 = .ok (.istore_n 2, 1) := by decide +kernel
theorem dX3_number_27 : decode cX3_number 27 = .ok (.aload_n 0, 1) := by decide +kernel
theorem dX3_number_28 : decode cX3_number 28 = .ok (.getfield 48, 3) := by decide +kernel
theorem dX3_number_31 : decode cX3_number 31 = .ok (.istore_n 3, 1) := by decide +kernel
theorem dX3_number_32 : decode cX3_number 32 = .ok (.iload_n 3, 1) := by decide +kernel
theorem dX3_number_33 : decode cX3_number 33 = .ok (.aload_n 0, 1) := by decide +kernel
theorem dX3_number_34 : decode cX3_number 34 = .ok (.getfield 51, 3) := by decide +kernel
theorem dX3_number_37 : decode cX3_number 37 = .ok (.if_icmp .ge 56, 3) := by decide +kernel
theorem dX3_number_40 : decode cX3_number 40 = .ok (.iload_n 3, 1) := by decide +kernel
theorem dX3_number_41 : decode cX3_number 41 = .ok (.aload_n 0, 1) := by decide +kernel
theorem dX3_number_42 : decode cX3_number 42 = .ok (.getfield 21, 3) := by decide +kernel
theorem dX3_number_45 : decode cX3_number 45 = .ok (.if_icmp .ge 48, 3) := by decide +kernel
theorem dX3_number_48 : decode cX3_number 48 = .ok (.aload_n 0, 1) := by decide +kernel
theorem dX3_number_49 : decode cX3_number 49 = .ok (.getfield 9, 3) := by decide +kernel
theorem dX3_number_52 : decode cX3_number 52 = .ok (.iload_n 3, 1) := by decide +kernel
theorem dX3_number_53 : decode cX3_number 53 = .ok (.baload, 1) := by decide +kernel
theorem dX3_number_54 : decode cX3_number 54 = .ok (.bipush 48, 2) := by decide +kernel
theorem dX3_number_56 : decode cX3_number 56 = .ok (.if_icmp .lt 14, 3) := by decide +kernel
theorem dX3_number_59 : decode cX3_number 59 = .ok (.aload_n 0, 1) := by decide +kernel
theorem dX3_number_60 : decode cX3_number 60 = .ok (.getfield 9, 3) := by decide +kernel
theorem dX3_number_63 : decode cX3_number 63 = .ok (.iload_n 3, 1) := by decide +kernel
theorem dX3_number_64 : decode cX3_number 64 = .ok (.baload, 1) := by decide +kernel
theorem dX3_number_65 : decode cX3_number 65 = .ok (.bipush 57, 2) := by decide +kernel
theorem dX3_number_67 : decode cX3_number 67 = .ok (.if_icmp .le 5, 3) := by decide +kernel
theorem dX3_number_70 : decode cX3_number 70 = .ok (.iconst (-1), 1) := by decide +kernel
theorem dX3_number_71 : decode cX3_number 71 = .ok (.ireturn, 1) := by decide +kernel
theorem dX3_number_72 : decode cX3_number 72 = .ok (.iload_n 2, 1) := by decide +kernel
theorem dX3_number_73 : decode cX3_number 73 = .ok (.bipush 10, 2) := by decide +kernel
theorem dX3_number_75 : decode cX3_number 75 = .ok (.imul, 1) := by decide +kernel
theorem dX3_number_76 : decode cX3_number 76 = .ok (.aload_n 0, 1) := by decide +kernel
theorem dX3_number_77 : decode cX3_number 77 = .ok (.getfield 9, 3) := by decide +kernel
theorem dX3_number_80 : decode cX3_number 80 = .ok (.iload_n 3, 1) := by decide +kernel
theorem dX3_number_81 : decode cX3_number 81 = .ok (.baload, 1) := by decide +kernel
theorem dX3_number_82 : decode cX3_number 82 = .ok (.iadd, 1) := by decide +kernel
theorem dX3_number_83 : decode cX3_number 83 = .ok (.bipush 48, 2) := by decide +kernel
theorem dX3_number_85 : decode cX3_number 85 = .ok (.isub, 1) := by decide +kernel
theorem dX3_number_86 : decode cX3_number 86 = .ok (.istore_n 2, 1) := by decide +kernel
theorem dX3_number_87 : decode cX3_number 87 = .ok (.iinc 3 1, 3) := by decide +kernel
theorem dX3_number_90 : decode cX3_number 90 = .ok (.goto (-58), 3) := by decide +kernel
theorem dX3_number_93 : decode cX3_number 93 = .ok (.iload_n 2, 1) := by decide +kernel
theorem dX3_number_94 : decode cX3_number 94 = .ok (.ireturn, 1) := by decide +kernel
theorem dX4_init_0 : decode cX4_init 0 = .ok (.aload_n 0, 1) := by decide +kernel
theorem dX4_init_1 : decode cX4_init 1 = .ok (.invokespecial 3, 3) := by decide +kernel
theorem dX4_init_4 : decode cX4_init 4 = .ok (.aload_n 0, 1) := by decide +kernel
theorem dX4_init_5 : decode cX4_init 5 = .ok (.bipush 8, 2) := by decide +kernel
theorem dX4_init_7 : decode cX4_init 7 = .ok (.newarray .long, 2) := by decide +kernel
theorem dX4_init_9 : decode cX4_init 9 = .ok (.putfield 9, 3) := by decide +kernel
theorem dX4_init_12 : decode cX4_init 12 = .ok (.aload_n 0, 1) := by decide +kernel
theorem dX4_init_13 : decode cX4_init 13 = .ok (.bipush 8, 2) := by decide +kernel
theorem dX4_init_15 : decode cX4_init 15 = .ok (.newarray .int, 2) := by decide +kernel
theorem dX4_init_17 : decode cX4_init 17 = .ok (.putfield 15, 3) := by decide +kernel
theorem dX4_init_20 : decode cX4_init 20 = .ok (.aload_n 0, 1) := by decide +kernel
theorem dX4_init_21 : decode cX4_init 21 = .ok (.iconst 2, 1) := by decide +kernel
theorem dX4_init_22 : decode cX4_init 22 = .ok (.newarray .int, 2) := by decide +kernel
theorem dX4_init_24 : decode cX4_init 24 = .ok (.putfield 19, 3) := by decide +kernel
theorem dX4_init_27 : decode cX4_init 27 = .ok (.return_, 1) := by decide +kernel
theorem dX4_clear_0 : decode cX4_clear 0 = .ok (.aload_n 0, 1) := by decide +kernel
theorem dX4_clear_1 : decode cX4_clear 1 = .ok (.iconst 0, 1) := by decide +kernel
theorem dX4_clear_2 : decode cX4_clear 2 = .ok (.putfield 22, 3) := by decide +kernel
theorem dX4_clear_5 : decode cX4_clear 5 = .ok (.aload_n 0, 1) := by decide +kernel
theorem dX4_clear_6 : decode cX4_clear 6 = .ok (.iconst (-1), 1) := by decide +kernel
theorem dX4_clear_7 : decode cX4_clear 7 = .ok (.putfield 26, 3) := by decide +kernel
theorem dX4_clear_10 : decode cX4_clear 10 = .ok (.aload_n 0, 1) := by decide +kernel
theorem dX4_clear_11 : decode cX4_clear 11 = .ok (.iconst 0, 1) := by decide +kernel
theorem dX4_clear_12 : decode cX4_clear 12 = .ok (.putfield 29, 3) := by decide +kernel
theorem dX4_clear_15 : decode cX4_clear 15 = .ok (.aload_n 0, 1) := by decide +kernel
theorem dX4_clear_16 : decode cX4_clear 16 = .ok (.iconst 0, 1) := by decide +kernel
theorem dX4_clear_17 : decode cX4_clear 17 = .ok (.putfield 33, 3) := by decide +kernel
theorem dX4_clear_20 : decode cX4_clear 20 = .ok (.aload_n 0, 1) := by decide +kernel
theorem dX4_clear_21 : decode cX4_clear 21 = .ok (.iconst 0, 1) := by decide +kernel
theorem dX4_clear_22 : decode cX4_clear 22 = .ok (.putfield 36, 3) := by decide +kernel
theorem dX4_clear_25 : decode cX4_clear 25 = .ok (.aload_n 0, 1) := by decide +kernel
theorem dX4_clear_26 : decode cX4_clear 26 = .ok (.iconst 1, 1) := by decide +kernel
theorem dX4_clear_27 : decode cX4_clear 27 = .ok (.putfield 39, 3) := by decide +kernel
theorem dX4_clear_30 : decode cX4_clear 30 = .ok (.aload_n 0, 1) := by decide +kernel
theorem dX4_clear_31 : decode cX4_clear 31 = .ok (.iconst 0, 1) := by decide +kernel
theorem dX4_clear_32 : decode cX4_clear 32 = .ok (.putfield 42, 3) := by decide +kernel
theorem dX4_clear_35 : decode cX4_clear 35 = .ok (.aload_n 0, 1) := by decide +kernel
theorem dX4_clear_36 : decode cX4_clear 36 = .ok (.iconst 0, 1) := by decide +kernel
theorem dX4_clear_37 : decode cX4_clear 37 = .ok (.putfield 45, 3) := by decide +kernel
theorem dX4_clear_40 : decode cX4_clear 40 = .ok (.aload_n 0, 1) := by decide +kernel
theorem dX4_clear_41 : decode cX4_clear 41 = .ok (.iconst 0, 1) := by decide +kernel
theorem dX4_clear_42 : decode cX4_clear 42 = .ok (.putfield 48, 3) := by decide +kernel
theorem dX4_clear_45 : decode cX4_clear 45 = .ok (.return_, 1) := by decide +kernel
theorem dX4_takeTerm_0 : decode cX4_takeTerm 0 = .ok (.lload_n 1, 1) := by decide +kernel
theorem dX4_takeTerm_1 : decode cX4_takeTerm 1 = .ok (.lconst 0, 1) := by decide +kernel
theorem dX4_takeTerm_2 : decode cX4_takeTerm 2 = .ok (.lcmp, 1) := by decide +kernel
theorem dX4_takeTerm_3 : decode cX4_takeTerm 3 = .ok (.ifCond .eq 42, 3) := by decide +kernel
theorem dX4_takeTerm_6 : decode cX4_takeTerm 6 = .ok (.aload_n 0, 1) := by decide +kernel
theorem dX4_takeTerm_7 : decode cX4_takeTerm 7 = .ok (.getfield 45, 3) := by decide +kernel
theorem dX4_takeTerm_10 : decode cX4_takeTerm 10 = .ok (.bipush 8, 2) := by decide +kernel
theorem dX4_takeTerm_12 : decode cX4_takeTerm 12 = .ok (.if_icmp .ge 33, 3) := by decide +kernel
theorem dX4_takeTerm_15 : decode cX4_takeTerm 15 = .ok (.aload_n 0, 1) := by decide +kernel
theorem dX4_takeTerm_16 : decode cX4_takeTerm 16 = .ok (.getfield 9, 3) := by decide +kernel
theorem dX4_takeTerm_19 : decode cX4_takeTerm 19 = .ok (.aload_n 0, 1) := by decide +kernel
theorem dX4_takeTerm_20 : decode cX4_takeTerm 20 = .ok (.getfield 45, 3) := by decide +kernel
theorem dX4_takeTerm_23 : decode cX4_takeTerm 23 = .ok (.lload_n 1, 1) := by decide +kernel
theorem dX4_takeTerm_24 : decode cX4_takeTerm 24 = .ok (.lastore, 1) := by decide +kernel
theorem dX4_takeTerm_25 : decode cX4_takeTerm 25 = .ok (.aload_n 0, 1) := by decide +kernel
theorem dX4_takeTerm_26 : decode cX4_takeTerm 26 = .ok (.getfield 15, 3) := by decide +kernel
theorem dX4_takeTerm_29 : decode cX4_takeTerm 29 = .ok (.aload_n 0, 1) := by decide +kernel
theorem dX4_takeTerm_30 : decode cX4_takeTerm 30 = .ok (.getfield 45, 3) := by decide +kernel
theorem dX4_takeTerm_33 : decode cX4_takeTerm 33 = .ok (.iload_n 3, 1) := by decide +kernel
theorem dX4_takeTerm_34 : decode cX4_takeTerm 34 = .ok (.iastore, 1) := by decide +kernel
theorem dX4_takeTerm_35 : decode cX4_takeTerm 35 = .ok (.aload_n 0, 1) := by decide +kernel
theorem dX4_takeTerm_36 : decode cX4_takeTerm 36 = .ok (.dup, 1) := by decide +kernel
theorem dX4_takeTerm_37 : decode cX4_takeTerm 37 = .ok (.getfield 45, 3) := by decide +kernel
theorem dX4_takeTerm_40 : decode cX4_takeTerm 40 = .ok (.iconst 1, 1) := by decide +kernel
theorem dX4_takeTerm_41 : decode cX4_takeTerm 41 = .ok (.iadd, 1) := by decide +kernel
theorem dX4_takeTerm_42 : decode cX4_takeTerm 42 = .ok (.putfield 45, 3) := by decide +kernel
theorem dX4_takeTerm_45 : decode cX4_takeTerm 45 = .ok (.return_, 1) := by decide +kernel
theorem dX4_weigh_0 : decode cX4_weigh 0 = .ok (.iconst 0, 1) := by decide +kernel
theorem dX4_weigh_1 : decode cX4_weigh 1 = .ok (.istore_n 2, 1) := by decide +kernel
theorem dX4_weigh_2 : decode cX4_weigh 2 = .ok (.aload_n 0, 1) := by decide +kernel
theorem dX4_weigh_3 : decode cX4_weigh 3 = .ok (.getfield 22, 3) := by decide +kernel
theorem dX4_weigh_6 : decode cX4_weigh 6 = .ok (.iconst 1, 1) := by decide +kernel
theorem dX4_weigh_7 : decode cX4_weigh 7 = .ok (.if_icmp .ne 65, 3) := by decide +kernel
theorem dX4_weigh_10 : decode cX4_weigh 10 = .ok (.iload_n 2, 1) := by decide +kernel
theorem dX4_weigh_11 : decode cX4_weigh 11 = .ok (.iconst 2, 1) := by decide +kernel
theorem dX4_weigh_12 : decode cX4_weigh 12 = .ok (.if_icmp .ge 60, 3) := by decide +kernel
theorem dX4_weigh_15 : decode cX4_weigh 15 = .ok (.aload_n 0, 1) := by decide +kernel
theorem dX4_weigh_16 : decode cX4_weigh 16 = .ok (.getfield 19, 3) := by decide +kernel
theorem dX4_weigh_19 : decode cX4_weigh 19 = .ok (.iload_n 2, 1) := by decide +kernel
theorem dX4_weigh_20 : decode cX4_weigh 20 = .ok (.iconst 0, 1) := by decide +kernel
theorem dX4_weigh_21 : decode cX4_weigh 21 = .ok (.iastore, 1) := by decide +kernel
theorem dX4_weigh_22 : decode cX4_weigh 22 = .ok (.iconst 0, 1) := by decide +kernel
theorem dX4_weigh_23 : decode cX4_weigh 23 = .ok (.istore_n 3, 1) := by decide +kernel
theorem dX4_weigh_24 : decode cX4_weigh 24 = .ok (.aload_n 0, 1) := by decide +kernel
theorem dX4_weigh_25 : decode cX4_weigh 25 = .ok (.iload_n 2, 1) := by decide +kernel
theorem dX4_weigh_26 : decode cX4_weigh 26 = .ok (.invokevirtual 51, 3) := by decide +kernel
theorem dX4_weigh_29 : decode cX4_weigh 29 = .ok (.ifCond .eq 37, 3) := by decide +kernel
theorem dX4_weigh_32 : decode cX4_weigh 32 = .ok (.iload_n 3, 1) := by decide +kernel
theorem dX4_weigh_33 : decode cX4_weigh 33 = .ok (.aload_n 0, 1) := by decide +kernel
theorem dX4_weigh_34 : decode cX4_weigh 34 = .ok (.getfield 45, 3) := by decide +kernel
theorem dX4_weigh_37 : decode cX4_weigh 37 = .ok (.if_icmp .ge 29, 3) := by decide +kernel
theorem dX4_weigh_40 : decode cX4_weigh 40 = .ok (.aload_n 0, 1) := by decide +kernel
theorem dX4_weigh_41 : decode cX4_weigh 41 = .ok (.getfield 19, 3) := by decide +kernel
theorem dX4_weigh_44 : decode cX4_weigh 44 = .ok (.iload_n 2, 1) := by decide +kernel
theorem dX4_weigh_45 : decode cX4_weigh 45 = .ok (.dup2, 1) := by decide +kernel
theorem dX4_weigh_46 : decode cX4_weigh 46 = .ok (.iaload, 1) := by decide +kernel
theorem dX4_weigh_47 : decode cX4_weigh 47 = .ok (.aload_n 1, 1) := by decide +kernel
theorem dX4_weigh_48 : decode cX4_weigh 48 = .ok (.iload_n 2, 1) := by decide +kernel
theorem dX4_weigh_49 : decode cX4_weigh 49 = .ok (.aload_n 0, 1) := by decide +kernel
theorem dX4_weigh_50 : decode cX4_weigh 50 = .ok (.getfield 9, 3) := by decide +kernel
theorem dX4_weigh_53 : decode cX4_weigh 53 = .ok (.iload_n 3, 1) := by decide +kernel
theorem dX4_weigh_54 : decode cX4_weigh 54 = .ok (.laload, 1) := by decide +kernel
theorem dX4_weigh_55 : decode cX4_weigh 55 = .ok (.invokevirtual 55, 3) := by decide +kernel
theorem dX4_weigh_58 : decode cX4_weigh 58 = .ok (.iadd, 1) := by decide +kernel
theorem dX4_weigh_59 : decode cX4_weigh 59 = .ok (.iastore, 1) := by decide +kernel
theorem dX4_weigh_60 : decode cX4_weigh 60 = .ok (.iinc 3 1, 3) := by decide +kernel
theorem dX4_weigh_63 : decode cX4_weigh 63 = .ok (.goto (-39), 3) := by decide +kernel
theorem dX4_weigh_66 : decode cX4_weigh 66 = .ok (.iinc 2 1, 3) := by decide +kernel
theorem dX4_weigh_69 : decode cX4_weigh 69 = .ok (.goto (-67), 3) := by decide +kernel
theorem dX4_weigh_72 : decode cX4_weigh 72 = .ok (.return_, 1) := by decide +kernel
theorem dX4_scoreOf_0 : decode cX4_scoreOf 0 = .ok (.aload_n 0, 1) := by decide +kernel
theorem dX4_scoreOf_1 : decode cX4_scoreOf 1 = .ok (.getfield 22, 3) := by decide +kernel
theorem dX4_scoreOf_4 : decode cX4_scoreOf 4 = .ok (.iconst 3, 1) := by decide +kernel
theorem dX4_scoreOf_5 : decode cX4_scoreOf 5 = .ok (.if_icmp .ne 28, 3) := by decide +kernel
theorem dX4_scoreOf_8 : decode cX4_scoreOf 8 = .ok (.aload_n 1, 1) := by decide +kernel
theorem dX4_scoreOf_9 : decode cX4_scoreOf 9 = .ok (.aload_n 0, 1) := by decide +kernel
theorem dX4_scoreOf_10 : decode cX4_scoreOf 10 = .ok (.getfield 60, 3) := by decide +kernel
theorem dX4_scoreOf_13 : decode cX4_scoreOf 13 = .ok (.aload_n 0, 1) := by decide +kernel
theorem dX4_scoreOf_14 : decode cX4_scoreOf 14 = .ok (.getfield 63, 3) := by decide +kernel
theorem dX4_scoreOf_17 : decode cX4_scoreOf 17 = .ok (.aload_n 0, 1) := by decide +kernel
theorem dX4_scoreOf_18 : decode cX4_scoreOf 18 = .ok (.getfield 67, 3) := by decide +kernel
theorem dX4_scoreOf_21 : decode cX4_scoreOf 21 = .ok (.invokevirtual 70, 3) := by decide +kernel
theorem dX4_scoreOf_24 : decode cX4_scoreOf 24 = .ok (.ifCond .eq 7, 3) := by decide +kernel
theorem dX4_scoreOf_27 : decode cX4_scoreOf 27 = .ok (.iconst 0, 1) := by decide +kernel
theorem dX4_scoreOf_28 : decode cX4_scoreOf 28 = .ok (.goto 4, 3) := by decide +kernel
theorem dX4_scoreOf_31 : decode cX4_scoreOf 31 = .ok (.iconst (-1), 1) := by decide +kernel
theorem dX4_scoreOf_32 : decode cX4_scoreOf 32 = .ok (.ireturn, 1) := by decide +kernel
theorem dX4_scoreOf_33 : decode cX4_scoreOf 33 = .ok (.aload_n 0, 1) := by decide +kernel
theorem dX4_scoreOf_34 : decode cX4_scoreOf 34 = .ok (.getfield 22, 3) := by decide +kernel
theorem dX4_scoreOf_37 : decode cX4_scoreOf 37 = .ok (.iconst 1, 1) := by decide +kernel
theorem dX4_scoreOf_38 : decode cX4_scoreOf 38 = .ok (.if_icmp .ne 12, 3) := by decide +kernel
theorem dX4_scoreOf_41 : decode cX4_scoreOf 41 = .ok (.aload_n 0, 1) := by decide +kernel
theorem dX4_scoreOf_42 : decode cX4_scoreOf 42 = .ok (.getfield 45, 3) := by decide +kernel
theorem dX4_scoreOf_45 : decode cX4_scoreOf 45 = .ok (.ifCond .ne 5, 3) := by decide +kernel
theorem dX4_scoreOf_48 : decode cX4_scoreOf 48 = .ok (.iconst 0, 1) := by decide +kernel
theorem dX4_scoreOf_49 : decode cX4_scoreOf 49 = .ok (.ireturn, 1) := by decide +kernel
theorem dX4_scoreOf_50 : decode cX4_scoreOf 50 = .ok (.iconst (-1), 1) := by decide +kernel
theorem dX4_scoreOf_51 : decode cX4_scoreOf 51 = .ok (.istore_n 2, 1) := by decide +kernel
theorem dX4_scoreOf_52 : decode cX4_scoreOf 52 = .ok (.iconst 0, 1) := by decide +kernel
theorem dX4_scoreOf_53 : decode cX4_scoreOf 53 = .ok (.istore_n 3, 1) := by decide +kernel
theorem dX4_scoreOf_54 : decode cX4_scoreOf 54 = .ok (.iload_n 3, 1) := by decide +kernel
theorem dX4_scoreOf_55 : decode cX4_scoreOf 55 = .ok (.iconst 2, 1) := by decide +kernel
theorem dX4_scoreOf_56 : decode cX4_scoreOf 56 = .ok (.if_icmp .ge 32, 3) := by decide +kernel
theorem dX4_scoreOf_59 : decode cX4_scoreOf 59 = .ok (.aload_n 0, 1) := by decide +kernel
theorem dX4_scoreOf_60 : decode cX4_scoreOf 60 = .ok (.iload_n 3, 1) := by decide +kernel
theorem dX4_scoreOf_61 : decode cX4_scoreOf 61 = .ok (.invokevirtual 51, 3) := by decide +kernel
theorem dX4_scoreOf_64 : decode cX4_scoreOf 64 = .ok (.ifCond .eq 18, 3) := by decide +kernel
theorem dX4_scoreOf_67 : decode cX4_scoreOf 67 = .ok (.iload_n 2, 1) := by decide +kernel
theorem dX4_scoreOf_68 : decode cX4_scoreOf 68 = .ok (.aload_n 0, 1) := by decide +kernel
theorem dX4_scoreOf_69 : decode cX4_scoreOf 69 = .ok (.aload_n 1, 1) := by decide +kernel
theorem dX4_scoreOf_70 : decode cX4_scoreOf 70 = .ok (.iload_n 3, 1) := by decide +kernel
theorem dX4_scoreOf_71 : decode cX4_scoreOf 71 = .ok (.invokevirtual 76, 3) := by decide +kernel
theorem dX4_scoreOf_74 : decode cX4_scoreOf 74 = .ok (.iload_n 3, 1) := by decide +kernel
theorem dX4_scoreOf_75 : decode cX4_scoreOf 75 = .ok (.invokevirtual 80, 3) := by decide +kernel
theorem dX4_scoreOf_78 : decode cX4_scoreOf 78 = .ok (.invokestatic 84, 3) := by decide +kernel
theorem dX4_scoreOf_81 : decode cX4_scoreOf 81 = .ok (.istore_n 2, 1) := by decide +kernel
theorem dX4_scoreOf_82 : decode cX4_scoreOf 82 = .ok (.iinc 3 1, 3) := by decide +kernel
theorem dX4_scoreOf_85 : decode cX4_scoreOf 85 = .ok (.goto (-31), 3) := by decide +kernel
theorem dX4_scoreOf_88 : decode cX4_scoreOf 88 = .ok (.iload_n 2, 1) := by decide +kernel
theorem dX4_scoreOf_89 : decode cX4_scoreOf 89 = .ok (.ireturn, 1) := by decide +kernel
theorem dX4_isFor_0 : decode cX4_isFor 0 = .ok (.aload_n 0, 1) := by decide +kernel
theorem dX4_isFor_1 : decode cX4_isFor 1 = .ok (.getfield 26, 3) := by decide +kernel
theorem dX4_isFor_4 : decode cX4_isFor 4 = .ok (.iconst (-1), 1) := by decide +kernel
theorem dX4_isFor_5 : decode cX4_isFor 5 = .ok (.if_icmp .eq 11, 3) := by decide +kernel
theorem dX4_isFor_8 : decode cX4_isFor 8 = .ok (.aload_n 0, 1) := by decide +kernel
theorem dX4_isFor_9 : decode cX4_isFor 9 = .ok (.getfield 26, 3) := by decide +kernel
theorem dX4_isFor_12 : decode cX4_isFor 12 = .ok (.iload_n 1, 1) := by decide +kernel
theorem dX4_isFor_13 : decode cX4_isFor 13 = .ok (.if_icmp .ne 7, 3) := by decide +kernel
theorem dX4_isFor_16 : decode cX4_isFor 16 = .ok (.iconst 1, 1) := by decide +kernel
theorem dX4_isFor_17 : decode cX4_isFor 17 = .ok (.goto 4, 3) := by decide +kernel
theorem dX4_isFor_20 : decode cX4_isFor 20 = .ok (.iconst 0, 1) := by decide +kernel
theorem dX4_isFor_21 : decode cX4_isFor 21 = .ok (.ireturn, 1) := by decide +kernel
theorem dX4_scoreIn_0 : decode cX4_scoreIn 0 = .ok (.iload_n 2, 1) := by decide +kernel
theorem dX4_scoreIn_1 : decode cX4_scoreIn 1 = .ok (.ifCond .ne 7, 3) := by decide +kernel
theorem dX4_scoreIn_4 : decode cX4_scoreIn 4 = .ok (.iconst 3, 1) := by decide +kernel
theorem dX4_scoreIn_5 : decode cX4_scoreIn 5 = .ok (.goto 4, 3) := by decide +kernel
theorem dX4_scoreIn_8 : decode cX4_scoreIn 8 = .ok (.iconst 1, 1) := by decide +kernel
theorem dX4_scoreIn_9 : decode cX4_scoreIn 9 = .ok (.istore_n 3, 1) := by decide +kernel
theorem dX4_scoreIn_10 : decode cX4_scoreIn 10 = .ok (.aload_n 0, 1) := by decide +kernel
theorem dX4_scoreIn_11 : decode cX4_scoreIn 11 = .ok (.getfield 22, 3) := by decide +kernel
theorem dX4_scoreIn_14 : decode cX4_scoreIn 14 = .ok (.iconst 2, 1) := by decide +kernel
theorem dX4_scoreIn_15 : decode cX4_scoreIn 15 = .ok (.if_icmp .ne 30, 3) := by decide +kernel
theorem dX4_scoreIn_18 : decode cX4_scoreIn 18 = .ok (.aload_n 1, 1) := by decide +kernel
theorem dX4_scoreIn_19 : decode cX4_scoreIn 19 = .ok (.getfield 88, 3) := by decide +kernel
theorem dX4_scoreIn_22 : decode cX4_scoreIn 22 = .ok (.aload_n 0, 1) := by decide +kernel
theorem dX4_scoreIn_23 : decode cX4_scoreIn 23 = .ok (.getfield 63, 3) := by decide +kernel
theorem dX4_scoreIn_26 : decode cX4_scoreIn 26 = .ok (.aload_n 0, 1) := by decide +kernel
theorem dX4_scoreIn_27 : decode cX4_scoreIn 27 = .ok (.getfield 67, 3) := by decide +kernel
theorem dX4_scoreIn_30 : decode cX4_scoreIn 30 = .ok (.invokevirtual 94, 3) := by decide +kernel
theorem dX4_scoreIn_33 : decode cX4_scoreIn 33 = .ok (.ifCond .eq 10, 3) := by decide +kernel
theorem dX4_scoreIn_36 : decode cX4_scoreIn 36 = .ok (.bipush 16, 2) := by decide +kernel
theorem dX4_scoreIn_38 : decode cX4_scoreIn 38 = .ok (.iload_n 3, 1) := by decide +kernel
theorem dX4_scoreIn_39 : decode cX4_scoreIn 39 = .ok (.imul, 1) := by decide +kernel
theorem dX4_scoreIn_40 : decode cX4_scoreIn 40 = .ok (.goto 4, 3) := by decide +kernel
theorem dX4_scoreIn_43 : decode cX4_scoreIn 43 = .ok (.iconst (-1), 1) := by decide +kernel
theorem dX4_scoreIn_44 : decode cX4_scoreIn 44 = .ok (.ireturn, 1) := by decide +kernel
theorem dX4_scoreIn_45 : decode cX4_scoreIn 45 = .ok (.aload_n 0, 1) := by decide +kernel
theorem dX4_scoreIn_46 : decode cX4_scoreIn 46 = .ok (.getfield 45, 3) := by decide +kernel
theorem dX4_scoreIn_49 : decode cX4_scoreIn 49 = .ok (.iconst 1, 1) := by decide +kernel
theorem dX4_scoreIn_50 : decode cX4_scoreIn 50 = .ok (.if_icmp .ne 19, 3) := by decide +kernel
theorem dX4_scoreIn_53 : decode cX4_scoreIn 53 = .ok (.aload_n 1, 1) := by decide +kernel
theorem dX4_scoreIn_54 : decode cX4_scoreIn 54 = .ok (.getfield 88, 3) := by decide +kernel
theorem dX4_scoreIn_57 : decode cX4_scoreIn 57 = .ok (.aload_n 0, 1) := by decide +kernel
theorem dX4_scoreIn_58 : decode cX4_scoreIn 58 = .ok (.getfield 9, 3) := by decide +kernel
theorem dX4_scoreIn_61 : decode cX4_scoreIn 61 = .ok (.iconst 0, 1) := by decide +kernel
theorem dX4_scoreIn_62 : decode cX4_scoreIn 62 = .ok (.laload, 1) := by decide +kernel
theorem dX4_scoreIn_63 : decode cX4_scoreIn 63 = .ok (.invokevirtual 100, 3) := by decide +kernel
theorem dX4_scoreIn_66 : decode cX4_scoreIn 66 = .ok (.goto 8, 3) := by decide +kernel
theorem dX4_scoreIn_69 : decode cX4_scoreIn 69 = .ok (.aload_n 0, 1) := by decide +kernel
theorem dX4_scoreIn_70 : decode cX4_scoreIn 70 = .ok (.aload_n 1, 1) := by decide +kernel
theorem dX4_scoreIn_71 : decode cX4_scoreIn 71 = .ok (.invokevirtual 104, 3) := by decide +kernel
theorem dX4_scoreIn_74 : decode cX4_scoreIn 74 = .ok (.istore 4, 2) := by decide +kernel
theorem dX4_scoreIn_76 : decode cX4_scoreIn 76 = .ok (.iload 4, 2) := by decide +kernel
theorem dX4_scoreIn_78 : decode cX4_scoreIn 78 = .ok (.ifCond .ne 5, 3) := by decide +kernel
theorem dX4_scoreIn_81 : decode cX4_scoreIn 81 = .ok (.iconst (-1), 1) := by decide +kernel
theorem dX4_scoreIn_82 : decode cX4_scoreIn 82 = .ok (.ireturn, 1) := by decide +kernel
theorem dX4_scoreIn_83 : decode cX4_scoreIn 83 = .ok (.ldc2_w 108, 3) := by decide +kernel
theorem dX4_scoreIn_86 : decode cX4_scoreIn 86 = .ok (.iload 4, 2) := by decide +kernel
theorem dX4_scoreIn_88 : decode cX4_scoreIn 88 = .ok (.i2l, 1) := by decide +kernel
theorem dX4_scoreIn_89 : decode cX4_scoreIn 89 = .ok (.lmul, 1) := by decide +kernel
theorem dX4_scoreIn_90 : decode cX4_scoreIn 90 = .ok (.aload_n 0, 1) := by decide +kernel
theorem dX4_scoreIn_91 : decode cX4_scoreIn 91 = .ok (.getfield 19, 3) := by decide +kernel
theorem dX4_scoreIn_94 : decode cX4_scoreIn 94 = .ok (.iload_n 2, 1) := by decide +kernel
theorem dX4_scoreIn_95 : decode cX4_scoreIn 95 = .ok (.iaload, 1) := by decide +kernel
theorem dX4_scoreIn_96 : decode cX4_scoreIn 96 = .ok (.i2l, 1) := by decide +kernel
theorem dX4_scoreIn_97 : decode cX4_scoreIn 97 = .ok (.lmul, 1) := by decide +kernel
theorem dX4_scoreIn_98 : decode cX4_scoreIn 98 = .ok (.iload_n 3, 1) := by decide +kernel
theorem dX4_scoreIn_99 : decode cX4_scoreIn 99 = .ok (.i2l, 1) := by decide +kernel
theorem dX4_scoreIn_100 : decode cX4_scoreIn 100 = .ok (.lmul, 1) := by decide +kernel
theorem dX4_scoreIn_101 : decode cX4_scoreIn 101 = .ok (.invokestatic 110, 3) := by decide +kernel
theorem dX4_scoreIn_104 : decode cX4_scoreIn 104 = .ok (.bipush 8, 2) := by decide +kernel
theorem dX4_scoreIn_106 : decode cX4_scoreIn 106 = .ok (.aload_n 1, 1) := by decide +kernel
theorem dX4_scoreIn_107 : decode cX4_scoreIn 107 = .ok (.invokevirtual 113, 3) := by decide +kernel
theorem dX4_scoreIn_110 : decode cX4_scoreIn 110 = .ok (.iadd, 1) := by decide +kernel
theorem dX4_scoreIn_111 : decode cX4_scoreIn 111 = .ok (.idiv, 1) := by decide +kernel
theorem dX4_scoreIn_112 : decode cX4_scoreIn 112 = .ok (.ireturn, 1) := by decide +kernel
theorem dX4_occurrences_0 : decode cX4_occurrences 0 = .ok (.iconst 0, 1) := by decide +kernel
theorem dX4_occurrences_1 : decode cX4_occurrences 1 = .ok (.istore_n 2, 1) := by decide +kernel
theorem dX4_occurrences_2 : decode cX4_occurrences 2 = .ok (.iconst 0, 1) := by decide +kernel
theorem dX4_occurrences_3 : decode cX4_occurrences 3 = .ok (.istore_n 3, 1) := by decide +kernel
theorem dX4_occurrences_4 : decode cX4_occurrences 4 = .ok (.iload_n 3, 1) := by decide +kernel
theorem dX4_occurrences_5 : decode cX4_occurrences 5 = .ok (.aload_n 1, 1) := by decide +kernel
theorem dX4_occurrences_6 : decode cX4_occurrences 6 = .ok (.invokevirtual 113, 3) := by decide +kernel
theorem dX4_occurrences_9 : decode cX4_occurrences 9 = .ok (.if_icmp .ge 36, 3) := by decide +kernel
theorem dX4_occurrences_12 : decode cX4_occurrences 12 = .ok (.aload_n 1, 1) := by decide +kernel
theorem dX4_occurrences_13 : decode cX4_occurrences 13 = .ok (.iload_n 3, 1) := by decide +kernel
theorem dX4_occurrences_14 : decode cX4_occurrences 14 = .ok (.invokevirtual 117, 3) := by decide +kernel
theorem dX4_occurrences_17 : decode cX4_occurrences 17 = .ok (.aload_n 0, 1) := by decide +kernel
theorem dX4_occurrences_18 : decode cX4_occurrences 18 = .ok (.getfield 9, 3) := by decide +kernel
theorem dX4_occurrences_21 : decode cX4_occurrences 21 = .ok (.iconst 0, 1) := by decide +kernel
theorem dX4_occurrences_22 : decode cX4_occurrences 22 = .ok (.laload, 1) := by decide +kernel
theorem dX4_occurrences_23 : decode cX4_occurrences 23 = .ok (.lcmp, 1) := by decide +kernel
theorem dX4_occurrences_24 : decode cX4_occurrences 24 = .ok (.ifCond .ne 15, 3) := by decide +kernel
theorem dX4_occurrences_27 : decode cX4_occurrences 27 = .ok (.aload_n 0, 1) := by decide +kernel
theorem dX4_occurrences_28 : decode cX4_occurrences 28 = .ok (.aload_n 1, 1) := by decide +kernel
theorem dX4_occurrences_29 : decode cX4_occurrences 29 = .ok (.iload_n 3, 1) := by decide +kernel
theorem dX4_occurrences_30 : decode cX4_occurrences 30 = .ok (.invokevirtual 121, 3) := by decide +kernel
theorem dX4_occurrences_33 : decode cX4_occurrences 33 = .ok (.ifCond .eq 6, 3) := by decide +kernel
theorem dX4_occurrences_36 : decode cX4_occurrences 36 = .ok (.iinc 2 1, 3) := by decide +kernel
theorem dX4_occurrences_39 : decode cX4_occurrences 39 = .ok (.iinc 3 1, 3) := by decide +kernel
theorem dX4_occurrences_42 : decode cX4_occurrences 42 = .ok (.goto (-38), 3) := by decide +kernel
theorem dX4_occurrences_45 : decode cX4_occurrences 45 = .ok (.iload_n 2, 1) := by decide +kernel
theorem dX4_occurrences_46 : decode cX4_occurrences 46 = .ok (.ireturn, 1) := by decide +kernel
theorem dX4_occursAt_0 : decode cX4_occursAt 0 = .ok (.aload_n 0, 1) := by decide +kernel
theorem dX4_occursAt_1 : decode cX4_occursAt 1 = .ok (.getfield 45, 3) := by decide +kernel
theorem dX4_occursAt_4 : decode cX4_occursAt 4 = .ok (.iconst 1, 1) := by decide +kernel
theorem dX4_occursAt_5 : decode cX4_occursAt 5 = .ok (.if_icmp .lt 12, 3) := by decide +kernel
theorem dX4_occursAt_8 : decode cX4_occursAt 8 = .ok (.aload_n 0, 1) := by decide +kernel
theorem dX4_occursAt_9 : decode cX4_occursAt 9 = .ok (.getfield 45, 3) := by decide +kernel
theorem dX4_occursAt_12 : decode cX4_occursAt 12 = .ok (.bipush 8, 2) := by decide +kernel
theorem dX4_occursAt_14 : decode cX4_occursAt 14 = .ok (.if_icmp .le 5, 3) := by decide +kernel
theorem dX4_occursAt_17 : decode cX4_occursAt 17 = .ok (.iconst 0, 1) := by decide +kernel
theorem dX4_occursAt_18 : decode cX4_occursAt 18 = .ok (.ireturn, 1) := by decide +kernel
theorem dX4_occursAt_19 : decode cX4_occursAt 19 = .ok (.iload_n 2, 1) := by decide +kernel
theorem dX4_occursAt_20 : decode cX4_occursAt 20 = .ok (.aload_n 0, 1) := by decide +kernel
theorem dX4_occursAt_21 : decode cX4_occursAt 21 = .ok (.getfield 15, 3) := by decide +kernel
theorem dX4_occursAt_24 : decode cX4_occursAt 24 = .ok (.aload_n 0, 1) := by decide +kernel
theorem dX4_occursAt_25 : decode cX4_occursAt 25 = .ok (.getfield 45, 3) := by decide +kernel
theorem dX4_occursAt_28 : decode cX4_occursAt 28 = .ok (.iconst 1, 1) := by decide +kernel
theorem dX4_occursAt_29 : decode cX4_occursAt 29 = .ok (.isub, 1) := by decide +kernel
theorem dX4_occursAt_30 : decode cX4_occursAt 30 = .ok (.iaload, 1) := by decide +kernel
theorem dX4_occursAt_31 : decode cX4_occursAt 31 = .ok (.iadd, 1) := by decide +kernel
theorem dX4_occursAt_32 : decode cX4_occursAt 32 = .ok (.aload_n 0, 1) := by decide +kernel
theorem dX4_occursAt_33 : decode cX4_occursAt 33 = .ok (.getfield 15, 3) := by decide +kernel
theorem dX4_occursAt_36 : decode cX4_occursAt 36 = .ok (.iconst 0, 1) := by decide +kernel
theorem dX4_occursAt_37 : decode cX4_occursAt 37 = .ok (.iaload, 1) := by decide +kernel
theorem dX4_occursAt_38 : decode cX4_occursAt 38 = .ok (.isub, 1) := by decide +kernel
theorem dX4_occursAt_39 : decode cX4_occursAt 39 = .ok (.aload_n 0, 1) := by decide +kernel
theorem dX4_occursAt_40 : decode cX4_occursAt 40 = .ok (.getfield 48, 3) := by decide +kernel
theorem dX4_occursAt_43 : decode cX4_occursAt 43 = .ok (.iadd, 1) := by decide +kernel
theorem dX4_occursAt_44 : decode cX4_occursAt 44 = .ok (.istore_n 3, 1) := by decide +kernel
theorem dX4_occursAt_45 : decode cX4_occursAt 45 = .ok (.iload_n 2, 1) := by decide +kernel
theorem dX4_occursAt_46 : decode cX4_occursAt 46 = .ok (.istore 4, 2) := by decide +kernel
theorem dX4_occursAt_48 : decode cX4_occursAt 48 = .ok (.iconst 1, 1) := by decide +kernel
theorem dX4_occursAt_49 : decode cX4_occursAt 49 = .ok (.istore 5, 2) := by decide +kernel
theorem dX4_occursAt_51 : decode cX4_occursAt 51 = .ok (.iload 5, 2) := by decide +kernel
theorem dX4_occursAt_53 : decode cX4_occursAt 53 = .ok (.aload_n 0, 1) := by decide +kernel
theorem dX4_occursAt_54 : decode cX4_occursAt 54 = .ok (.getfield 45, 3) := by decide +kernel
theorem dX4_occursAt_57 : decode cX4_occursAt 57 = .ok (.if_icmp .ge 48, 3) := by decide +kernel
theorem dX4_occursAt_60 : decode cX4_occursAt 60 = .ok (.iload 4, 2) := by decide +kernel
theorem dX4_occursAt_62 : decode cX4_occursAt 62 = .ok (.ifCond .lt 43, 3) := by decide +kernel
theorem dX4_occursAt_65 : decode cX4_occursAt 65 = .ok (.aload_n 1, 1) := by decide +kernel
theorem dX4_occursAt_66 : decode cX4_occursAt 66 = .ok (.aload_n 0, 1) := by decide +kernel
theorem dX4_occursAt_67 : decode cX4_occursAt 67 = .ok (.getfield 9, 3) := by decide +kernel
theorem dX4_occursAt_70 : decode cX4_occursAt 70 = .ok (.iload 5, 2) := by decide +kernel
theorem dX4_occursAt_72 : decode cX4_occursAt 72 = .ok (.laload, 1) := by decide +kernel
theorem dX4_occursAt_73 : decode cX4_occursAt 73 = .ok (.iload 4, 2) := by decide +kernel
theorem dX4_occursAt_75 : decode cX4_occursAt 75 = .ok (.aload_n 0, 1) := by decide +kernel
theorem dX4_occursAt_76 : decode cX4_occursAt 76 = .ok (.getfield 15, 3) := by decide +kernel
theorem dX4_occursAt_79 : decode cX4_occursAt 79 = .ok (.iload 5, 2) := by decide +kernel
theorem dX4_occursAt_81 : decode cX4_occursAt 81 = .ok (.iaload, 1) := by decide +kernel
theorem dX4_occursAt_82 : decode cX4_occursAt 82 = .ok (.iadd, 1) := by decide +kernel
theorem dX4_occursAt_83 : decode cX4_occursAt 83 = .ok (.aload_n 0, 1) := by decide +kernel
theorem dX4_occursAt_84 : decode cX4_occursAt 84 = .ok (.getfield 15, 3) := by decide +kernel
theorem dX4_occursAt_87 : decode cX4_occursAt 87 = .ok (.iload 5, 2) := by decide +kernel
theorem dX4_occursAt_89 : decode cX4_occursAt 89 = .ok (.iconst 1, 1) := by decide +kernel
theorem dX4_occursAt_90 : decode cX4_occursAt 90 = .ok (.isub, 1) := by decide +kernel
theorem dX4_occursAt_91 : decode cX4_occursAt 91 = .ok (.iaload, 1) := by decide +kernel
theorem dX4_occursAt_92 : decode cX4_occursAt 92 = .ok (.isub, 1) := by decide +kernel
theorem dX4_occursAt_93 : decode cX4_occursAt 93 = .ok (.iload_n 3, 1) := by decide +kernel
theorem dX4_occursAt_94 : decode cX4_occursAt 94 = .ok (.invokevirtual 125, 3) := by decide +kernel
theorem dX4_occursAt_97 : decode cX4_occursAt 97 = .ok (.istore 4, 2) := by decide +kernel
theorem dX4_occursAt_99 : decode cX4_occursAt 99 = .ok (.iinc 5 1, 3) := by decide +kernel
theorem dX4_occursAt_102 : decode cX4_occursAt 102 = .ok (.goto (-51), 3) := by decide +kernel
theorem dX4_occursAt_105 : decode cX4_occursAt 105 = .ok (.iload 4, 2) := by decide +kernel
theorem dX4_occursAt_107 : decode cX4_occursAt 107 = .ok (.ifCond .lt 7, 3) := by decide +kernel
theorem dX4_occursAt_110 : decode cX4_occursAt 110 = .ok (.iconst 1, 1) := by decide +kernel
theorem dX4_occursAt_111 : decode cX4_occursAt 111 = .ok (.goto 4, 3) := by decide +kernel
theorem dX4_occursAt_114 : decode cX4_occursAt 114 = .ok (.iconst 0, 1) := by decide +kernel
theorem dX4_occursAt_115 : decode cX4_occursAt 115 = .ok (.ireturn, 1) := by decide +kernel
theorem dX4_names_0 : decode cX4_names 0 = .ok (.aload_n 0, 1) := by decide +kernel
theorem dX4_names_1 : decode cX4_names 1 = .ok (.getfield 33, 3) := by decide +kernel
theorem dX4_names_4 : decode cX4_names 4 = .ok (.ifCond .ne 11, 3) := by decide +kernel
theorem dX4_names_7 : decode cX4_names 7 = .ok (.aload_n 0, 1) := by decide +kernel
theorem dX4_names_8 : decode cX4_names 8 = .ok (.iload_n 3, 1) := by decide +kernel
theorem dX4_names_9 : decode cX4_names 9 = .ok (.invokevirtual 51, 3) := by decide +kernel
theorem dX4_names_12 : decode cX4_names 12 = .ok (.ifCond .ne 5, 3) := by decide +kernel
theorem dX4_names_15 : decode cX4_names 15 = .ok (.iconst 0, 1) := by decide +kernel
theorem dX4_names_16 : decode cX4_names 16 = .ok (.ireturn, 1) := by decide +kernel
theorem dX4_names_17 : decode cX4_names 17 = .ok (.aload_n 0, 1) := by decide +kernel
theorem dX4_names_18 : decode cX4_names 18 = .ok (.getfield 22, 3) := by decide +kernel
theorem dX4_names_21 : decode cX4_names 21 = .ok (.iconst 2, 1) := by decide +kernel
theorem dX4_names_22 : decode cX4_names 22 = .ok (.if_icmp .ne 27, 3) := by decide +kernel
theorem dX4_names_25 : decode cX4_names 25 = .ok (.lload_n 1, 1) := by decide +kernel
theorem dX4_names_26 : decode cX4_names 26 = .ok (.aload_n 0, 1) := by decide +kernel
theorem dX4_names_27 : decode cX4_names 27 = .ok (.getfield 63, 3) := by decide +kernel
theorem dX4_names_30 : decode cX4_names 30 = .ok (.lcmp, 1) := by decide +kernel
theorem dX4_names_31 : decode cX4_names 31 = .ok (.ifCond .lt 16, 3) := by decide +kernel
theorem dX4_names_34 : decode cX4_names 34 = .ok (.lload_n 1, 1) := by decide +kernel
theorem dX4_names_35 : decode cX4_names 35 = .ok (.aload_n 0, 1) := by decide +kernel
theorem dX4_names_36 : decode cX4_names 36 = .ok (.getfield 67, 3) := by decide +kernel
theorem dX4_names_39 : decode cX4_names 39 = .ok (.lcmp, 1) := by decide +kernel
theorem dX4_names_40 : decode cX4_names 40 = .ok (.ifCond .gt 7, 3) := by decide +kernel
theorem dX4_names_43 : decode cX4_names 43 = .ok (.iconst 1, 1) := by decide +kernel
theorem dX4_names_44 : decode cX4_names 44 = .ok (.goto 4, 3) := by decide +kernel
theorem dX4_names_47 : decode cX4_names 47 = .ok (.iconst 0, 1) := by decide +kernel
theorem dX4_names_48 : decode cX4_names 48 = .ok (.ireturn, 1) := by decide +kernel
theorem dX4_names_49 : decode cX4_names 49 = .ok (.aload_n 0, 1) := by decide +kernel
theorem dX4_names_50 : decode cX4_names 50 = .ok (.getfield 22, 3) := by decide +kernel
theorem dX4_names_53 : decode cX4_names 53 = .ok (.iconst 1, 1) := by decide +kernel
theorem dX4_names_54 : decode cX4_names 54 = .ok (.if_icmp .ne 35, 3) := by decide +kernel
theorem dX4_names_57 : decode cX4_names 57 = .ok (.iconst 0, 1) := by decide +kernel
theorem dX4_names_58 : decode cX4_names 58 = .ok (.istore 4, 2) := by decide +kernel
theorem dX4_names_60 : decode cX4_names 60 = .ok (.iload 4, 2) := by decide +kernel
theorem dX4_names_62 : decode cX4_names 62 = .ok (.aload_n 0, 1) := by decide +kernel
theorem dX4_names_63 : decode cX4_names 63 = .ok (.getfield 45, 3) := by decide +kernel
theorem dX4_names_66 : decode cX4_names 66 = .ok (.if_icmp .ge 23, 3) := by decide +kernel
theorem dX4_names_69 : decode cX4_names 69 = .ok (.aload_n 0, 1) := by decide +kernel
theorem dX4_names_70 : decode cX4_names 70 = .ok (.getfield 9, 3) := by decide +kernel
theorem dX4_names_73 : decode cX4_names 73 = .ok (.iload 4, 2) := by decide +kernel
theorem dX4_names_75 : decode cX4_names 75 = .ok (.laload, 1) := by decide +kernel
theorem dX4_names_76 : decode cX4_names 76 = .ok (.lload_n 1, 1) := by decide +kernel
theorem dX4_names_77 : decode cX4_names 77 = .ok (.lcmp, 1) := by decide +kernel
theorem dX4_names_78 : decode cX4_names 78 = .ok (.ifCond .ne 5, 3) := by decide +kernel
theorem dX4_names_81 : decode cX4_names 81 = .ok (.iconst 1, 1) := by decide +kernel
theorem dX4_names_82 : decode cX4_names 82 = .ok (.ireturn, 1) := by decide +kernel
theorem dX4_names_83 : decode cX4_names 83 = .ok (.iinc 4 1, 3) := by decide +kernel
theorem dX4_names_86 : decode cX4_names 86 = .ok (.goto (-26), 3) := by decide +kernel
theorem dX4_names_89 : decode cX4_names 89 = .ok (.iconst 0, 1) := by decide +kernel
theorem dX4_names_90 : decode cX4_names 90 = .ok (.ireturn, 1) := by decide +kernel
theorem dX5_init_0 : decode cX5_init 0 = .ok (.aload_n 0, 1) := by decide +kernel
theorem dX5_init_1 : decode cX5_init 1 = .ok (.invokespecial 3, 3) := by decide +kernel
theorem dX5_init_4 : decode cX5_init 4 = .ok (.aload_n 0, 1) := by decide +kernel
theorem dX5_init_5 : decode cX5_init 5 = .ok (.bipush 40, 2) := by decide +kernel
theorem dX5_init_7 : decode cX5_init 7 = .ok (.anewarray 9, 3) := by decide +kernel
theorem dX5_init_10 : decode cX5_init 10 = .ok (.putfield 11, 3) := by decide +kernel
theorem dX5_init_13 : decode cX5_init 13 = .ok (.iconst 0, 1) := by decide +kernel
theorem dX5_init_14 : decode cX5_init 14 = .ok (.istore_n 1, 1) := by decide +kernel
theorem dX5_init_15 : decode cX5_init 15 = .ok (.iload_n 1, 1) := by decide +kernel
theorem dX5_init_16 : decode cX5_init 16 = .ok (.bipush 40, 2) := by decide +kernel
theorem dX5_init_18 : decode cX5_init 18 = .ok (.if_icmp .ge 22, 3) := by decide +kernel
theorem dX5_init_21 : decode cX5_init 21 = .ok (.aload_n 0, 1) := by decide +kernel
theorem dX5_init_22 : decode cX5_init 22 = .ok (.getfield 11, 3) := by decide +kernel
theorem dX5_init_25 : decode cX5_init 25 = .ok (.iload_n 1, 1) := by decide +kernel
theorem dX5_init_26 : decode cX5_init 26 = .ok (.new 9, 3) := by decide +kernel
theorem dX5_init_29 : decode cX5_init 29 = .ok (.dup, 1) := by decide +kernel
theorem dX5_init_30 : decode cX5_init 30 = .ok (.invokespecial 17, 3) := by decide +kernel
theorem dX5_init_33 : decode cX5_init 33 = .ok (.aastore, 1) := by decide +kernel
theorem dX5_init_34 : decode cX5_init 34 = .ok (.iinc 1 1, 3) := by decide +kernel
theorem dX5_init_37 : decode cX5_init 37 = .ok (.goto (-22), 3) := by decide +kernel
theorem dX5_init_40 : decode cX5_init 40 = .ok (.return_, 1) := by decide +kernel
theorem dX5_nextPart_0 : decode cX5_nextPart 0 = .ok (.aload_n 0, 1) := by decide +kernel
theorem dX5_nextPart_1 : decode cX5_nextPart 1 = .ok (.getfield 18, 3) := by decide +kernel
theorem dX5_nextPart_4 : decode cX5_nextPart 4 = .ok (.bipush 40, 2) := by decide +kernel
theorem dX5_nextPart_6 : decode cX5_nextPart 6 = .ok (.if_icmp .lt 5, 3) := by decide +kernel
theorem dX5_nextPart_9 : decode cX5_nextPart 9 = .ok (.aconst_null, 1) := by decide +kernel
theorem dX5_nextPart_10 : decode cX5_nextPart 10 = .ok (.areturn, 1) := by decide +kernel
theorem dX5_nextPart_11 : decode cX5_nextPart 11 = .ok (.aload_n 0, 1) := by decide +kernel
theorem dX5_nextPart_12 : decode cX5_nextPart 12 = .ok (.getfield 11, 3) := by decide +kernel
theorem dX5_nextPart_15 : decode cX5_nextPart 15 = .ok (.aload_n 0, 1) := by decide +kernel
theorem dX5_nextPart_16 : decode cX5_nextPart 16 = .ok (.getfield 18, 3) := by decide +kernel
theorem dX5_nextPart_19 : decode cX5_nextPart 19 = .ok (.aaload, 1) := by decide +kernel
theorem dX5_nextPart_20 : decode cX5_nextPart 20 = .ok (.astore_n 1, 1) := by decide +kernel
theorem dX5_nextPart_21 : decode cX5_nextPart 21 = .ok (.aload_n 1, 1) := by decide +kernel
theorem dX5_nextPart_22 : decode cX5_nextPart 22 = .ok (.invokevirtual 22, 3) := by decide +kernel
theorem dX5_nextPart_25 : decode cX5_nextPart 25 = .ok (.aload_n 0, 1) := by decide +kernel
theorem dX5_nextPart_26 : decode cX5_nextPart 26 = .ok (.dup, 1) := by decide +kernel
theorem dX5_nextPart_27 : decode cX5_nextPart 27 = .ok (.getfield 18, 3) := by decide +kernel
theorem dX5_nextPart_30 : decode cX5_nextPart 30 = .ok (.iconst 1, 1) := by decide +kernel
theorem dX5_nextPart_31 : decode cX5_nextPart 31 = .ok (.iadd, 1) := by decide +kernel
theorem dX5_nextPart_32 : decode cX5_nextPart 32 = .ok (.putfield 18, 3) := by decide +kernel
theorem dX5_nextPart_35 : decode cX5_nextPart 35 = .ok (.aload_n 1, 1) := by decide +kernel
theorem dX5_nextPart_36 : decode cX5_nextPart 36 = .ok (.areturn, 1) := by decide +kernel
theorem dX5_weigh_0 : decode cX5_weigh 0 = .ok (.iconst 0, 1) := by decide +kernel
theorem dX5_weigh_1 : decode cX5_weigh 1 = .ok (.istore_n 2, 1) := by decide +kernel
theorem dX5_weigh_2 : decode cX5_weigh 2 = .ok (.iload_n 2, 1) := by decide +kernel
theorem dX5_weigh_3 : decode cX5_weigh 3 = .ok (.aload_n 0, 1) := by decide +kernel
theorem dX5_weigh_4 : decode cX5_weigh 4 = .ok (.getfield 18, 3) := by decide +kernel
theorem dX5_weigh_7 : decode cX5_weigh 7 = .ok (.if_icmp .ge 19, 3) := by decide +kernel
theorem dX5_weigh_10 : decode cX5_weigh 10 = .ok (.aload_n 0, 1) := by decide +kernel
theorem dX5_weigh_11 : decode cX5_weigh 11 = .ok (.getfield 11, 3) := by decide +kernel
theorem dX5_weigh_14 : decode cX5_weigh 14 = .ok (.iload_n 2, 1) := by decide +kernel
theorem dX5_weigh_15 : decode cX5_weigh 15 = .ok (.aaload, 1) := by decide +kernel
theorem dX5_weigh_16 : decode cX5_weigh 16 = .ok (.aload_n 1, 1) := by decide +kernel
theorem dX5_weigh_17 : decode cX5_weigh 17 = .ok (.invokevirtual 25, 3) := by decide +kernel
theorem dX5_weigh_20 : decode cX5_weigh 20 = .ok (.iinc 2 1, 3) := by decide +kernel
theorem dX5_weigh_23 : decode cX5_weigh 23 = .ok (.goto (-21), 3) := by decide +kernel
theorem dX5_weigh_26 : decode cX5_weigh 26 = .ok (.return_, 1) := by decide +kernel
theorem dX5_scoreOfAny_0 : decode cX5_scoreOfAny 0 = .ok (.iload 4, 2) := by decide +kernel
theorem dX5_scoreOfAny_2 : decode cX5_scoreOfAny 2 = .ok (.bipush 8, 2) := by decide +kernel
theorem dX5_scoreOfAny_4 : decode cX5_scoreOfAny 4 = .ok (.if_icmp .le 5, 3) := by decide +kernel
theorem dX5_scoreOfAny_7 : decode cX5_scoreOfAny 7 = .ok (.iconst (-1), 1) := by decide +kernel
theorem dX5_scoreOfAny_8 : decode cX5_scoreOfAny 8 = .ok (.ireturn, 1) := by decide +kernel
theorem dX5_scoreOfAny_9 : decode cX5_scoreOfAny 9 = .ok (.iconst (-1), 1) := by decide +kernel
theorem dX5_scoreOfAny_10 : decode cX5_scoreOfAny 10 = .ok (.istore 5, 2) := by decide +kernel
theorem dX5_scoreOfAny_12 : decode cX5_scoreOfAny 12 = .ok (.iconst (-1), 1) := by decide +kernel
theorem dX5_scoreOfAny_13 : decode cX5_scoreOfAny 13 = .ok (.istore 6, 2) := by decide +kernel
theorem dX5_scoreOfAny_15 : decode cX5_scoreOfAny 15 = .ok (.iload_n 1, 1) := by decide +kernel
theorem dX5_scoreOfAny_16 : decode cX5_scoreOfAny 16 = .ok (.iconst 0, 1) := by decide +kernel
theorem dX5_scoreOfAny_17 : decode cX5_scoreOfAny 17 = .ok (.invokestatic 29, 3) := by decide +kernel
theorem dX5_scoreOfAny_20 : decode cX5_scoreOfAny 20 = .ok (.istore 7, 2) := by decide +kernel
theorem dX5_scoreOfAny_22 : decode cX5_scoreOfAny 22 = .ok (.iload 7, 2) := by decide +kernel
theorem dX5_scoreOfAny_24 : decode cX5_scoreOfAny 24 = .ok (.iload_n 2, 1) := by decide +kernel
theorem dX5_scoreOfAny_25 : decode cX5_scoreOfAny 25 = .ok (.if_icmp .ge 82, 3) := by decide +kernel
theorem dX5_scoreOfAny_28 : decode cX5_scoreOfAny 28 = .ok (.iload 7, 2) := by decide +kernel
theorem dX5_scoreOfAny_30 : decode cX5_scoreOfAny 30 = .ok (.aload_n 0, 1) := by decide +kernel
theorem dX5_scoreOfAny_31 : decode cX5_scoreOfAny 31 = .ok (.getfield 18, 3) := by decide +kernel
theorem dX5_scoreOfAny_34 : decode cX5_scoreOfAny 34 = .ok (.if_icmp .ge 73, 3) := by decide +kernel
theorem dX5_scoreOfAny_37 : decode cX5_scoreOfAny 37 = .ok (.aload_n 0, 1) := by decide +kernel
theorem dX5_scoreOfAny_38 : decode cX5_scoreOfAny 38 = .ok (.getfield 11, 3) := by decide +kernel
theorem dX5_scoreOfAny_41 : decode cX5_scoreOfAny 41 = .ok (.iload 7, 2) := by decide +kernel
theorem dX5_scoreOfAny_43 : decode cX5_scoreOfAny 43 = .ok (.aaload, 1) := by decide +kernel
theorem dX5_scoreOfAny_44 : decode cX5_scoreOfAny 44 = .ok (.astore 8, 2) := by decide +kernel
theorem dX5_scoreOfAny_46 : decode cX5_scoreOfAny 46 = .ok (.aload_n 0, 1) := by decide +kernel
theorem dX5_scoreOfAny_47 : decode cX5_scoreOfAny 47 = .ok (.iload 7, 2) := by decide +kernel
theorem dX5_scoreOfAny_49 : decode cX5_scoreOfAny 49 = .ok (.aload_n 3, 1) := by decide +kernel
theorem dX5_scoreOfAny_50 : decode cX5_scoreOfAny 50 = .ok (.iload 4, 2) := by decide +kernel
theorem dX5_scoreOfAny_52 : decode cX5_scoreOfAny 52 = .ok (.invokevirtual 35, 3) := by decide +kernel
theorem dX5_scoreOfAny_55 : decode cX5_scoreOfAny 55 = .ok (.istore 9, 2) := by decide +kernel
theorem dX5_scoreOfAny_57 : decode cX5_scoreOfAny 57 = .ok (.aload 8, 2) := by decide +kernel
theorem dX5_scoreOfAny_59 : decode cX5_scoreOfAny 59 = .ok (.getfield 39, 3) := by decide +kernel
theorem dX5_scoreOfAny_62 : decode cX5_scoreOfAny 62 = .ok (.ifCond .eq 19, 3) := by decide +kernel
theorem dX5_scoreOfAny_65 : decode cX5_scoreOfAny 65 = .ok (.iload 5, 2) := by decide +kernel
theorem dX5_scoreOfAny_67 : decode cX5_scoreOfAny 67 = .ok (.iload 6, 2) := by decide +kernel
theorem dX5_scoreOfAny_69 : decode cX5_scoreOfAny 69 = .ok (.invokestatic 43, 3) := by decide +kernel
theorem dX5_scoreOfAny_72 : decode cX5_scoreOfAny 72 = .ok (.istore 5, 2) := by decide +kernel
theorem dX5_scoreOfAny_74 : decode cX5_scoreOfAny 74 = .ok (.iload 9, 2) := by decide +kernel
theorem dX5_scoreOfAny_76 : decode cX5_scoreOfAny 76 = .ok (.istore 6, 2) := by decide +kernel
theorem dX5_scoreOfAny_78 : decode cX5_scoreOfAny 78 = .ok (.goto 12, 3) := by decide +kernel
theorem dX5_scoreOfAny_81 : decode cX5_scoreOfAny 81 = .ok (.iload 6, 2) := by decide +kernel
theorem dX5_scoreOfAny_83 : decode cX5_scoreOfAny 83 = .ok (.iload 9, 2) := by decide +kernel
theorem dX5_scoreOfAny_85 : decode cX5_scoreOfAny 85 = .ok (.invokestatic 46, 3) := by decide +kernel
theorem dX5_scoreOfAny_88 : decode cX5_scoreOfAny 88 = .ok (.istore 6, 2) := by decide +kernel
theorem dX5_scoreOfAny_90 : decode cX5_scoreOfAny 90 = .ok (.iload 7, 2) := by decide +kernel
theorem dX5_scoreOfAny_92 : decode cX5_scoreOfAny 92 = .ok (.iconst 1, 1) := by decide +kernel
theorem dX5_scoreOfAny_93 : decode cX5_scoreOfAny 93 = .ok (.iadd, 1) := by decide +kernel
theorem dX5_scoreOfAny_94 : decode cX5_scoreOfAny 94 = .ok (.aload 8, 2) := by decide +kernel
theorem dX5_scoreOfAny_96 : decode cX5_scoreOfAny 96 = .ok (.getfield 49, 3) := by decide +kernel
theorem dX5_scoreOfAny_99 : decode cX5_scoreOfAny 99 = .ok (.invokestatic 29, 3) := by decide +kernel
theorem dX5_scoreOfAny_102 : decode cX5_scoreOfAny 102 = .ok (.istore 7, 2) := by decide +kernel
theorem dX5_scoreOfAny_104 : decode cX5_scoreOfAny 104 = .ok (.goto (-82), 3) := by decide +kernel
theorem dX5_scoreOfAny_107 : decode cX5_scoreOfAny 107 = .ok (.iload 5, 2) := by decide +kernel
theorem dX5_scoreOfAny_109 : decode cX5_scoreOfAny 109 = .ok (.iload 6, 2) := by decide +kernel
theorem dX5_scoreOfAny_111 : decode cX5_scoreOfAny 111 = .ok (.invokestatic 43, 3) := by decide +kernel
theorem dX5_scoreOfAny_114 : decode cX5_scoreOfAny 114 = .ok (.ireturn, 1) := by decide +kernel
theorem dX5_scoreOfPart_0 : decode cX5_scoreOfPart 0 = .ok (.iload_n 1, 1) := by decide +kernel
theorem dX5_scoreOfPart_1 : decode cX5_scoreOfPart 1 = .ok (.ifCond .lt 11, 3) := by decide +kernel
theorem dX5_scoreOfPart_4 : decode cX5_scoreOfPart 4 = .ok (.iload_n 1, 1) := by decide +kernel
theorem dX5_scoreOfPart_5 : decode cX5_scoreOfPart 5 = .ok (.aload_n 0, 1) := by decide +kernel
theorem dX5_scoreOfPart_6 : decode cX5_scoreOfPart 6 = .ok (.getfield 18, 3) := by decide +kernel
theorem dX5_scoreOfPart_9 : decode cX5_scoreOfPart 9 = .ok (.if_icmp .lt 5, 3) := by decide +kernel
theorem dX5_scoreOfPart_12 : decode cX5_scoreOfPart 12 = .ok (.iconst (-1), 1) := by decide +kernel
theorem dX5_scoreOfPart_13 : decode cX5_scoreOfPart 13 = .ok (.ireturn, 1) := by decide +kernel
theorem dX5_scoreOfPart_14 : decode cX5_scoreOfPart 14 = .ok (.aload_n 0, 1) := by decide +kernel
theorem dX5_scoreOfPart_15 : decode cX5_scoreOfPart 15 = .ok (.getfield 11, 3) := by decide +kernel
theorem dX5_scoreOfPart_18 : decode cX5_scoreOfPart 18 = .ok (.iload_n 1, 1) := by decide +kernel
theorem dX5_scoreOfPart_19 : decode cX5_scoreOfPart 19 = .ok (.aaload, 1) := by decide +kernel
theorem dX5_scoreOfPart_20 : decode cX5_scoreOfPart 20 = .ok (.astore 4, 2) := by decide +kernel
theorem dX5_scoreOfPart_22 : decode cX5_scoreOfPart 22 = .ok (.aload 4, 2) := by decide +kernel
theorem dX5_scoreOfPart_24 : decode cX5_scoreOfPart 24 = .ok (.getfield 52, 3) := by decide +kernel
theorem dX5_scoreOfPart_27 : decode cX5_scoreOfPart 27 = .ok (.ifCond .ne 22, 3) := by decide +kernel
theorem dX5_scoreOfPart_30 : decode cX5_scoreOfPart 30 = .ok (.aload_n 0, 1) := by decide +kernel
theorem dX5_scoreOfPart_31 : decode cX5_scoreOfPart 31 = .ok (.iload_n 1, 1) := by decide +kernel
theorem dX5_scoreOfPart_32 : decode cX5_scoreOfPart 32 = .ok (.iconst 1, 1) := by decide +kernel
theorem dX5_scoreOfPart_33 : decode cX5_scoreOfPart 33 = .ok (.iadd, 1) := by decide +kernel
theorem dX5_scoreOfPart_34 : decode cX5_scoreOfPart 34 = .ok (.aload 4, 2) := by decide +kernel
theorem dX5_scoreOfPart_36 : decode cX5_scoreOfPart 36 = .ok (.getfield 49, 3) := by decide +kernel
theorem dX5_scoreOfPart_39 : decode cX5_scoreOfPart 39 = .ok (.aload_n 2, 1) := by decide +kernel
theorem dX5_scoreOfPart_40 : decode cX5_scoreOfPart 40 = .ok (.iload_n 3, 1) := by decide +kernel
theorem dX5_scoreOfPart_41 : decode cX5_scoreOfPart 41 = .ok (.iconst 1, 1) := by decide +kernel
theorem dX5_scoreOfPart_42 : decode cX5_scoreOfPart 42 = .ok (.iadd, 1) := by decide +kernel
theorem dX5_scoreOfPart_43 : decode cX5_scoreOfPart 43 = .ok (.invokevirtual 55, 3) := by decide +kernel
theorem dX5_scoreOfPart_46 : decode cX5_scoreOfPart 46 = .ok (.goto 9, 3) := by decide +kernel
theorem dX5_scoreOfPart_49 : decode cX5_scoreOfPart 49 = .ok (.aload 4, 2) := by decide +kernel
theorem dX5_scoreOfPart_51 : decode cX5_scoreOfPart 51 = .ok (.aload_n 2, 1) := by decide +kernel
theorem dX5_scoreOfPart_52 : decode cX5_scoreOfPart 52 = .ok (.invokevirtual 59, 3) := by decide +kernel
theorem dX5_scoreOfPart_55 : decode cX5_scoreOfPart 55 = .ok (.istore 5, 2) := by decide +kernel
theorem dX5_scoreOfPart_57 : decode cX5_scoreOfPart 57 = .ok (.aload 4, 2) := by decide +kernel
theorem dX5_scoreOfPart_59 : decode cX5_scoreOfPart 59 = .ok (.getfield 63, 3) := by decide +kernel
theorem dX5_scoreOfPart_62 : decode cX5_scoreOfPart 62 = .ok (.ifCond .eq 16, 3) := by decide +kernel
theorem dX5_scoreOfPart_65 : decode cX5_scoreOfPart 65 = .ok (.iload 5, 2) := by decide +kernel
theorem dX5_scoreOfPart_67 : decode cX5_scoreOfPart 67 = .ok (.iconst (-1), 1) := by decide +kernel
theorem dX5_scoreOfPart_68 : decode cX5_scoreOfPart 68 = .ok (.if_icmp .ne 7, 3) := by decide +kernel
theorem dX5_scoreOfPart_71 : decode cX5_scoreOfPart 71 = .ok (.iconst 0, 1) := by decide +kernel
theorem dX5_scoreOfPart_72 : decode cX5_scoreOfPart 72 = .ok (.goto 4, 3) := by decide +kernel
theorem dX5_scoreOfPart_75 : decode cX5_scoreOfPart 75 = .ok (.iconst (-1), 1) := by decide +kernel
theorem dX5_scoreOfPart_76 : decode cX5_scoreOfPart 76 = .ok (.istore 5, 2) := by decide +kernel
theorem dX5_scoreOfPart_78 : decode cX5_scoreOfPart 78 = .ok (.iload 5, 2) := by decide +kernel
theorem dX5_scoreOfPart_80 : decode cX5_scoreOfPart 80 = .ok (.iconst (-1), 1) := by decide +kernel
theorem dX5_scoreOfPart_81 : decode cX5_scoreOfPart 81 = .ok (.if_icmp .ne 7, 3) := by decide +kernel
theorem dX5_scoreOfPart_84 : decode cX5_scoreOfPart 84 = .ok (.iconst (-1), 1) := by decide +kernel
theorem dX5_scoreOfPart_85 : decode cX5_scoreOfPart 85 = .ok (.goto 16, 3) := by decide +kernel
theorem dX5_scoreOfPart_88 : decode cX5_scoreOfPart 88 = .ok (.iload 5, 2) := by decide +kernel
theorem dX5_scoreOfPart_90 : decode cX5_scoreOfPart 90 = .ok (.i2l, 1) := by decide +kernel
theorem dX5_scoreOfPart_91 : decode cX5_scoreOfPart 91 = .ok (.aload 4, 2) := by decide +kernel
theorem dX5_scoreOfPart_93 : decode cX5_scoreOfPart 93 = .ok (.getfield 66, 3) := by decide +kernel
theorem dX5_scoreOfPart_96 : decode cX5_scoreOfPart 96 = .ok (.i2l, 1) := by decide +kernel
theorem dX5_scoreOfPart_97 : decode cX5_scoreOfPart 97 = .ok (.lmul, 1) := by decide +kernel
theorem dX5_scoreOfPart_98 : decode cX5_scoreOfPart 98 = .ok (.invokestatic 69, 3) := by decide +kernel
theorem dX5_scoreOfPart_101 : decode cX5_scoreOfPart 101 = .ok (.ireturn, 1) := by decide +kernel
theorem dX5_names_0 : decode cX5_names 0 = .ok (.iconst 0, 1) := by decide +kernel
theorem dX5_names_1 : decode cX5_names 1 = .ok (.istore 4, 2) := by decide +kernel
theorem dX5_names_3 : decode cX5_names 3 = .ok (.lload_n 1, 1) := by decide +kernel
theorem dX5_names_4 : decode cX5_names 4 = .ok (.lconst 0, 1) := by decide +kernel
theorem dX5_names_5 : decode cX5_names 5 = .ok (.lcmp, 1) := by decide +kernel
theorem dX5_names_6 : decode cX5_names 6 = .ok (.ifCond .eq 35, 3) := by decide +kernel
theorem dX5_names_9 : decode cX5_names 9 = .ok (.iload 4, 2) := by decide +kernel
theorem dX5_names_11 : decode cX5_names 11 = .ok (.aload_n 0, 1) := by decide +kernel
theorem dX5_names_12 : decode cX5_names 12 = .ok (.getfield 18, 3) := by decide +kernel
theorem dX5_names_15 : decode cX5_names 15 = .ok (.if_icmp .ge 26, 3) := by decide +kernel
theorem dX5_names_18 : decode cX5_names 18 = .ok (.aload_n 0, 1) := by decide +kernel
theorem dX5_names_19 : decode cX5_names 19 = .ok (.getfield 11, 3) := by decide +kernel
theorem dX5_names_22 : decode cX5_names 22 = .ok (.iload 4, 2) := by decide +kernel
theorem dX5_names_24 : decode cX5_names 24 = .ok (.aaload, 1) := by decide +kernel
theorem dX5_names_25 : decode cX5_names 25 = .ok (.lload_n 1, 1) := by decide +kernel
theorem dX5_names_26 : decode cX5_names 26 = .ok (.iload_n 3, 1) := by decide +kernel
theorem dX5_names_27 : decode cX5_names 27 = .ok (.invokevirtual 73, 3) := by decide +kernel
theorem dX5_names_30 : decode cX5_names 30 = .ok (.ifCond .eq 5, 3) := by decide +kernel
theorem dX5_names_33 : decode cX5_names 33 = .ok (.iconst 1, 1) := by decide +kernel
theorem dX5_names_34 : decode cX5_names 34 = .ok (.ireturn, 1) := by decide +kernel
theorem dX5_names_35 : decode cX5_names 35 = .ok (.iinc 4 1, 3) := by decide +kernel
theorem dX5_names_38 : decode cX5_names 38 = .ok (.goto (-35), 3) := by decide +kernel
theorem dX5_names_41 : decode cX5_names 41 = .ok (.iconst 0, 1) := by decide +kernel
theorem dX5_names_42 : decode cX5_names 42 = .ok (.ireturn, 1) := by decide +kernel
theorem dX6_init_0 : decode cX6_init 0 = .ok (.aload_n 0, 1) := by decide +kernel
theorem dX6_init_1 : decode cX6_init 1 = .ok (.invokespecial 3, 3) := by decide +kernel
theorem dX6_init_4 : decode cX6_init 4 = .ok (.aload_n 0, 1) := by decide +kernel
theorem dX6_init_5 : decode cX6_init 5 = .ok (.iload_n 1, 1) := by decide +kernel
theorem dX6_init_6 : decode cX6_init 6 = .ok (.putfield 9, 3) := by decide +kernel
theorem dX6_init_9 : decode cX6_init 9 = .ok (.aload_n 0, 1) := by decide +kernel
theorem dX6_init_10 : decode cX6_init 10 = .ok (.iconst 0, 1) := by decide +kernel
theorem dX6_init_11 : decode cX6_init 11 = .ok (.iload_n 3, 1) := by decide +kernel
theorem dX6_init_12 : decode cX6_init 12 = .ok (.aload_n 2, 1) := by decide +kernel
theorem dX6_init_13 : decode cX6_init 13 = .ok (.arraylength, 1) := by decide +kernel
theorem dX6_init_14 : decode cX6_init 14 = .ok (.invokestatic 15, 3) := by decide +kernel
theorem dX6_init_17 : decode cX6_init 17 = .ok (.invokestatic 21, 3) := by decide +kernel
theorem dX6_init_20 : decode cX6_init 20 = .ok (.anewarray 24, 3) := by decide +kernel
theorem dX6_init_23 : decode cX6_init 23 = .ok (.putfield 26, 3) := by decide +kernel
theorem dX6_init_26 : decode cX6_init 26 = .ok (.iconst 0, 1) := by decide +kernel
theorem dX6_init_27 : decode cX6_init 27 = .ok (.istore 4, 2) := by decide +kernel
theorem dX6_init_29 : decode cX6_init 29 = .ok (.iload 4, 2) := by decide +kernel
theorem dX6_init_31 : decode cX6_init 31 = .ok (.aload_n 0, 1) := by decide +kernel
theorem dX6_init_32 : decode cX6_init 32 = .ok (.getfield 26, 3) := by decide +kernel
theorem dX6_init_35 : decode cX6_init 35 = .ok (.arraylength, 1) := by decide +kernel
theorem dX6_init_36 : decode cX6_init 36 = .ok (.if_icmp .ge 20, 3) := by decide +kernel
theorem dX6_init_39 : decode cX6_init 39 = .ok (.aload_n 0, 1) := by decide +kernel
theorem dX6_init_40 : decode cX6_init 40 = .ok (.getfield 26, 3) := by decide +kernel
theorem dX6_init_43 : decode cX6_init 43 = .ok (.iload 4, 2) := by decide +kernel
theorem dX6_init_45 : decode cX6_init 45 = .ok (.aload_n 2, 1) := by decide +kernel
theorem dX6_init_46 : decode cX6_init 46 = .ok (.iload 4, 2) := by decide +kernel
theorem dX6_init_48 : decode cX6_init 48 = .ok (.aaload, 1) := by decide +kernel
theorem dX6_init_49 : decode cX6_init 49 = .ok (.aastore, 1) := by decide +kernel
theorem dX6_init_50 : decode cX6_init 50 = .ok (.iinc 4 1, 3) := by decide +kernel
theorem dX6_init_53 : decode cX6_init 53 = .ok (.goto (-24), 3) := by decide +kernel
theorem dX6_init_56 : decode cX6_init 56 = .ok (.aload_n 0, 1) := by decide +kernel
theorem dX6_init_57 : decode cX6_init 57 = .ok (.new 30, 3) := by decide +kernel
theorem dX6_init_60 : decode cX6_init 60 = .ok (.dup, 1) := by decide +kernel
theorem dX6_init_61 : decode cX6_init 61 = .ok (.aload_n 0, 1) := by decide +kernel
theorem dX6_init_62 : decode cX6_init 62 = .ok (.getfield 26, 3) := by decide +kernel
theorem dX6_init_65 : decode cX6_init 65 = .ok (.iconst 0, 1) := by decide +kernel
theorem dX6_init_66 : decode cX6_init 66 = .ok (.invokestatic 32, 3) := by decide +kernel
theorem dX6_init_69 : decode cX6_init 69 = .ok (.invokespecial 36, 3) := by decide +kernel
theorem dX6_init_72 : decode cX6_init 72 = .ok (.putfield 39, 3) := by decide +kernel
theorem dX6_init_75 : decode cX6_init 75 = .ok (.aload_n 0, 1) := by decide +kernel
theorem dX6_init_76 : decode cX6_init 76 = .ok (.new 30, 3) := by decide +kernel
theorem dX6_init_79 : decode cX6_init 79 = .ok (.dup, 1) := by decide +kernel
theorem dX6_init_80 : decode cX6_init 80 = .ok (.aload_n 0, 1) := by decide +kernel
theorem dX6_init_81 : decode cX6_init 81 = .ok (.getfield 26, 3) := by decide +kernel
theorem dX6_init_84 : decode cX6_init 84 = .ok (.iconst 1, 1) := by decide +kernel
theorem dX6_init_85 : decode cX6_init 85 = .ok (.invokestatic 32, 3) := by decide +kernel
theorem dX6_init_88 : decode cX6_init 88 = .ok (.invokespecial 36, 3) := by decide +kernel
theorem dX6_init_91 : decode cX6_init 91 = .ok (.putfield 43, 3) := by decide +kernel
theorem dX6_init_94 : decode cX6_init 94 = .ok (.return_, 1) := by decide +kernel
theorem dX6_termsOf_0 : decode cX6_termsOf 0 = .ok (.iconst 0, 1) := by decide +kernel
theorem dX6_termsOf_1 : decode cX6_termsOf 1 = .ok (.istore_n 2, 1) := by decide +kernel
theorem dX6_termsOf_2 : decode cX6_termsOf 2 = .ok (.iconst 0, 1) := by decide +kernel
theorem dX6_termsOf_3 : decode cX6_termsOf 3 = .ok (.istore_n 3, 1) := by decide +kernel
theorem dX6_termsOf_4 : decode cX6_termsOf 4 = .ok (.iload_n 3, 1) := by decide +kernel
theorem dX6_termsOf_5 : decode cX6_termsOf 5 = .ok (.aload_n 0, 1) := by decide +kernel
theorem dX6_termsOf_6 : decode cX6_termsOf 6 = .ok (.arraylength, 1) := by decide +kernel
theorem dX6_termsOf_7 : decode cX6_termsOf 7 = .ok (.if_icmp .ge 31, 3) := by decide +kernel
theorem dX6_termsOf_10 : decode cX6_termsOf 10 = .ok (.aload_n 0, 1) := by decide +kernel
theorem dX6_termsOf_11 : decode cX6_termsOf 11 = .ok (.iload_n 3, 1) := by decide +kernel
theorem dX6_termsOf_12 : decode cX6_termsOf 12 = .ok (.aaload, 1) := by decide +kernel
theorem dX6_termsOf_13 : decode cX6_termsOf 13 = .ok (.ifnull 19, 3) := by decide +kernel
theorem dX6_termsOf_16 : decode cX6_termsOf 16 = .ok (.iload_n 2, 1) := by decide +kernel
theorem dX6_termsOf_17 : decode cX6_termsOf 17 = .ok (.aload_n 0, 1) := by decide +kernel
theorem dX6_termsOf_18 : decode cX6_termsOf 18 = .ok (.iload_n 3, 1) := by decide +kernel
theorem dX6_termsOf_19 : decode cX6_termsOf 19 = .ok (.aaload, 1) := by decide +kernel
theorem dX6_termsOf_20 : decode cX6_termsOf 20 = .ok (.iload_n 1, 1) := by decide +kernel
theorem dX6_termsOf_21 : decode cX6_termsOf 21 = .ok (.invokevirtual 46, 3) := by decide +kernel
theorem dX6_termsOf_24 : decode cX6_termsOf 24 = .ok (.getfield 50, 3) := by decide +kernel
theorem dX6_termsOf_27 : decode cX6_termsOf 27 = .ok (.invokevirtual 55, 3) := by decide +kernel
theorem dX6_termsOf_30 : decode cX6_termsOf 30 = .ok (.iadd, 1) := by decide +kernel
theorem dX6_termsOf_31 : decode cX6_termsOf 31 = .ok (.istore_n 2, 1) := by decide +kernel
theorem dX6_termsOf_32 : decode cX6_termsOf 32 = .ok (.iinc 3 1, 3) := by decide +kernel
theorem dX6_termsOf_35 : decode cX6_termsOf 35 = .ok (.goto (-31), 3) := by decide +kernel
theorem dX6_termsOf_38 : decode cX6_termsOf 38 = .ok (.iload_n 2, 1) := by decide +kernel
theorem dX6_termsOf_39 : decode cX6_termsOf 39 = .ok (.newarray .long, 2) := by decide +kernel
theorem dX6_termsOf_41 : decode cX6_termsOf 41 = .ok (.astore_n 3, 1) := by decide +kernel
theorem dX6_termsOf_42 : decode cX6_termsOf 42 = .ok (.iconst 0, 1) := by decide +kernel
theorem dX6_termsOf_43 : decode cX6_termsOf 43 = .ok (.istore 4, 2) := by decide +kernel
theorem dX6_termsOf_45 : decode cX6_termsOf 45 = .ok (.iconst 0, 1) := by decide +kernel
theorem dX6_termsOf_46 : decode cX6_termsOf 46 = .ok (.istore 5, 2) := by decide +kernel
theorem dX6_termsOf_48 : decode cX6_termsOf 48 = .ok (.iload 5, 2) := by decide +kernel
theorem dX6_termsOf_50 : decode cX6_termsOf 50 = .ok (.aload_n 0, 1) := by decide +kernel
theorem dX6_termsOf_51 : decode cX6_termsOf 51 = .ok (.arraylength, 1) := by decide +kernel
theorem dX6_termsOf_52 : decode cX6_termsOf 52 = .ok (.if_icmp .ge 68, 3) := by decide +kernel
theorem dX6_termsOf_55 : decode cX6_termsOf 55 = .ok (.aload_n 0, 1) := by decide +kernel
theorem dX6_termsOf_56 : decode cX6_termsOf 56 = .ok (.iload 5, 2) := by decide +kernel
theorem dX6_termsOf_58 : decode cX6_termsOf 58 = .ok (.aaload, 1) := by decide +kernel
theorem dX6_termsOf_59 : decode cX6_termsOf 59 = .ok (.ifnull 55, 3) := by decide +kernel
theorem dX6_termsOf_62 : decode cX6_termsOf 62 = .ok (.aload_n 0, 1) := by decide +kernel
theorem dX6_termsOf_63 : decode cX6_termsOf 63 = .ok (.iload 5, 2) := by decide +kernel
theorem dX6_termsOf_65 : decode cX6_termsOf 65 = .ok (.aaload, 1) := by decide +kernel
theorem dX6_termsOf_66 : decode cX6_termsOf 66 = .ok (.iload_n 1, 1) := by decide +kernel
theorem dX6_termsOf_67 : decode cX6_termsOf 67 = .ok (.invokevirtual 46, 3) := by decide +kernel
theorem dX6_termsOf_70 : decode cX6_termsOf 70 = .ok (.getfield 50, 3) := by decide +kernel
theorem dX6_termsOf_73 : decode cX6_termsOf 73 = .ok (.astore 6, 2) := by decide +kernel
theorem dX6_termsOf_75 : decode cX6_termsOf 75 = .ok (.iconst 0, 1) := by decide +kernel
theorem dX6_termsOf_76 : decode cX6_termsOf 76 = .ok (.istore 7, 2) := by decide +kernel
theorem dX6_termsOf_78 : decode cX6_termsOf 78 = .ok (.iload 7, 2) := by decide +kernel
theorem dX6_termsOf_80 : decode cX6_termsOf 80 = .ok (.aload 6, 2) := by decide +kernel
theorem dX6_termsOf_82 : decode cX6_termsOf 82 = .ok (.invokevirtual 55, 3) := by decide +kernel
theorem dX6_termsOf_85 : decode cX6_termsOf 85 = .ok (.if_icmp .ge 29, 3) := by decide +kernel
theorem dX6_termsOf_88 : decode cX6_termsOf 88 = .ok (.iload 4, 2) := by decide +kernel
theorem dX6_termsOf_90 : decode cX6_termsOf 90 = .ok (.iload_n 2, 1) := by decide +kernel
theorem dX6_termsOf_91 : decode cX6_termsOf 91 = .ok (.if_icmp .ge 23, 3) := by decide +kernel
theorem dX6_termsOf_94 : decode cX6_termsOf 94 = .ok (.aload_n 3, 1) := by decide +kernel
theorem dX6_termsOf_95 : decode cX6_termsOf 95 = .ok (.iload 4, 2) := by decide +kernel
theorem dX6_termsOf_97 : decode cX6_termsOf 97 = .ok (.aload 6, 2) := by decide +kernel
theorem dX6_termsOf_99 : decode cX6_termsOf 99 = .ok (.iload 7, 2) := by decide +kernel
theorem dX6_termsOf_101 : decode cX6_termsOf 101 = .ok (.invokevirtual 59, 3) := by decide +kernel
theorem dX6_termsOf_104 : decode cX6_termsOf 104 = .ok (.lastore, 1) := by decide +kernel
theorem dX6_termsOf_105 : decode cX6_termsOf 105 = .ok (.iinc 4 1, 3) := by decide +kernel
theorem dX6_termsOf_108 : decode cX6_termsOf 108 = .ok (.iinc 7 1, 3) := by decide +kernel
theorem dX6_termsOf_111 : decode cX6_termsOf 111 = .ok (.goto (-33), 3) := by decide +kernel
theorem dX6_termsOf_114 : decode cX6_termsOf 114 = .ok (.iinc 5 1, 3) := by decide +kernel
theorem dX6_termsOf_117 : decode cX6_termsOf 117 = .ok (.goto (-69), 3) := by decide +kernel
theorem dX6_termsOf_120 : decode cX6_termsOf 120 = .ok (.aload_n 3, 1) := by decide +kernel
theorem dX6_termsOf_121 : decode cX6_termsOf 121 = .ok (.areturn, 1) := by decide +kernel
theorem dX6_termsOf__0 : decode cX6_termsOf_ 0 = .ok (.iload_n 1, 1) := by decide +kernel
theorem dX6_termsOf__1 : decode cX6_termsOf_ 1 = .ok (.ifCond .ne 10, 3) := by decide +kernel
theorem dX6_termsOf__4 : decode cX6_termsOf_ 4 = .ok (.aload_n 0, 1) := by decide +kernel
theorem dX6_termsOf__5 : decode cX6_termsOf_ 5 = .ok (.getfield 39, 3) := by decide +kernel
theorem dX6_termsOf__8 : decode cX6_termsOf_ 8 = .ok (.goto 7, 3) := by decide +kernel
theorem dX6_termsOf__11 : decode cX6_termsOf_ 11 = .ok (.aload_n 0, 1) := by decide +kernel
theorem dX6_termsOf__12 : decode cX6_termsOf_ 12 = .ok (.getfield 43, 3) := by decide +kernel
theorem dX6_termsOf__15 : decode cX6_termsOf_ 15 = .ok (.areturn, 1) := by decide +kernel
theorem dX6_deletedDocuments_0 : decode cX6_deletedDocuments 0 = .ok (.iconst 0, 1) := by decide +kernel
theorem dX6_deletedDocuments_1 : decode cX6_deletedDocuments 1 = .ok (.istore_n 1, 1) := by decide +kernel
theorem dX6_deletedDocuments_2 : decode cX6_deletedDocuments 2 = .ok (.iconst 0, 1) := by decide +kernel
theorem dX6_deletedDocuments_3 : decode cX6_deletedDocuments 3 = .ok (.istore_n 2, 1) := by decide +kernel
theorem dX6_deletedDocuments_4 : decode cX6_deletedDocuments 4 = .ok (.iload_n 2, 1) := by decide +kernel
theorem dX6_deletedDocuments_5 : decode cX6_deletedDocuments 5 = .ok (.aload_n 0, 1) := by decide +kernel
theorem dX6_deletedDocuments_6 : decode cX6_deletedDocuments 6 = .ok (.getfield 26, 3) := by decide +kernel
theorem dX6_deletedDocuments_9 : decode cX6_deletedDocuments 9 = .ok (.arraylength, 1) := by decide +kernel
theorem dX6_deletedDocuments_10 : decode cX6_deletedDocuments 10 = .ok (.if_icmp .ge 33, 3) := by decide +kernel
theorem dX6_deletedDocuments_13 : decode cX6_deletedDocuments 13 = .ok (.aload_n 0, 1) := by decide +kernel
theorem dX6_deletedDocuments_14 : decode cX6_deletedDocuments 14 = .ok (.getfield 26, 3) := by decide +kernel
theorem dX6_deletedDocuments_17 : decode cX6_deletedDocuments 17 = .ok (.iload_n 2, 1) := by decide +kernel
theorem dX6_deletedDocuments_18 : decode cX6_deletedDocuments 18 = .ok (.aaload, 1) := by decide +kernel
theorem dX6_deletedDocuments_19 : decode cX6_deletedDocuments 19 = .ok (.ifnull 18, 3) := by decide +kernel
theorem dX6_deletedDocuments_22 : decode cX6_deletedDocuments 22 = .ok (.aload_n 0, 1) := by decide +kernel
theorem dX6_deletedDocuments_23 : decode cX6_deletedDocuments 23 = .ok (.getfield 26, 3) := by decide +kernel
theorem dX6_deletedDocuments_26 : decode cX6_deletedDocuments 26 = .ok (.iload_n 2, 1) := by decide +kernel
theorem dX6_deletedDocuments_27 : decode cX6_deletedDocuments 27 = .ok (.aaload, 1) := by decide +kernel
theorem dX6_deletedDocuments_28 : decode cX6_deletedDocuments 28 = .ok (.getfield 63, 3) := by decide +kernel
theorem dX6_deletedDocuments_31 : decode cX6_deletedDocuments 31 = .ok (.ifCond .eq 6, 3) := by decide +kernel
theorem dX6_deletedDocuments_34 : decode cX6_deletedDocuments 34 = .ok (.iinc 1 1, 3) := by decide +kernel
theorem dX6_deletedDocuments_37 : decode cX6_deletedDocuments 37 = .ok (.iinc 2 1, 3) := by decide +kernel
theorem dX6_deletedDocuments_40 : decode cX6_deletedDocuments 40 = .ok (.goto (-36), 3) := by decide +kernel
theorem dX6_deletedDocuments_43 : decode cX6_deletedDocuments 43 = .ok (.iload_n 1, 1) := by decide +kernel
theorem dX6_deletedDocuments_44 : decode cX6_deletedDocuments 44 = .ok (.ireturn, 1) := by decide +kernel
theorem dX7_init_0 : decode cX7_init 0 = .ok (.aload_n 0, 1) := by decide +kernel
theorem dX7_init_1 : decode cX7_init 1 = .ok (.invokespecial 3, 3) := by decide +kernel
theorem dX7_init_4 : decode cX7_init 4 = .ok (.aload_n 0, 1) := by decide +kernel
theorem dX7_init_5 : decode cX7_init 5 = .ok (.iload_n 1, 1) := by decide +kernel
theorem dX7_init_6 : decode cX7_init 6 = .ok (.putfield 9, 3) := by decide +kernel
theorem dX7_init_9 : decode cX7_init 9 = .ok (.aload_n 0, 1) := by decide +kernel
theorem dX7_init_10 : decode cX7_init 10 = .ok (.iload_n 2, 1) := by decide +kernel
theorem dX7_init_11 : decode cX7_init 11 = .ok (.putfield 13, 3) := by decide +kernel
theorem dX7_init_14 : decode cX7_init 14 = .ok (.aload_n 0, 1) := by decide +kernel
theorem dX7_init_15 : decode cX7_init 15 = .ok (.bipush 11, 2) := by decide +kernel
theorem dX7_init_17 : decode cX7_init 17 = .ok (.newarray .long, 2) := by decide +kernel
theorem dX7_init_19 : decode cX7_init 19 = .ok (.putfield 16, 3) := by decide +kernel
theorem dX7_init_22 : decode cX7_init 22 = .ok (.iconst 0, 1) := by decide +kernel
theorem dX7_init_23 : decode cX7_init 23 = .ok (.istore_n 3, 1) := by decide +kernel
theorem dX7_init_24 : decode cX7_init 24 = .ok (.iconst 0, 1) := by decide +kernel
theorem dX7_init_25 : decode cX7_init 25 = .ok (.istore 4, 2) := by decide +kernel
theorem dX7_init_27 : decode cX7_init 27 = .ok (.lconst 0, 1) := by decide +kernel
theorem dX7_init_28 : decode cX7_init 28 = .ok (.lstore 5, 2) := by decide +kernel
theorem dX7_init_30 : decode cX7_init 30 = .ok (.iconst 0, 1) := by decide +kernel
theorem dX7_init_31 : decode cX7_init 31 = .ok (.istore 7, 2) := by decide +kernel
theorem dX7_init_33 : decode cX7_init 33 = .ok (.iload 7, 2) := by decide +kernel
theorem dX7_init_35 : decode cX7_init 35 = .ok (.ldc 20, 2) := by decide +kernel
theorem dX7_init_37 : decode cX7_init 37 = .ok (.invokevirtual 22, 3) := by decide +kernel
theorem dX7_init_40 : decode cX7_init 40 = .ok (.if_icmp .ge 72, 3) := by decide +kernel
theorem dX7_init_43 : decode cX7_init 43 = .ok (.ldc 20, 2) := by decide +kernel
theorem dX7_init_45 : decode cX7_init 45 = .ok (.iload 7, 2) := by decide +kernel
theorem dX7_init_47 : decode cX7_init 47 = .ok (.invokevirtual 28, 3) := by decide +kernel
theorem dX7_init_50 : decode cX7_init 50 = .ok (.invokestatic 32, 3) := by decide +kernel
theorem dX7_init_53 : decode cX7_init 53 = .ok (.istore 8, 2) := by decide +kernel
theorem dX7_init_55 : decode cX7_init 55 = .ok (.iload 8, 2) := by decide +kernel
theorem dX7_init_57 : decode cX7_init 57 = .ok (.ifCond .eq 21, 3) := by decide +kernel
theorem dX7_init_60 : decode cX7_init 60 = .ok (.lload 5, 2) := by decide +kernel
theorem dX7_init_62 : decode cX7_init 62 = .ok (.ldc2_w 36, 3) := by decide +kernel
theorem dX7_init_65 : decode cX7_init 65 = .ok (.lmul, 1) := by decide +kernel
theorem dX7_init_66 : decode cX7_init 66 = .ok (.iload 8, 2) := by decide +kernel
theorem dX7_init_68 : decode cX7_init 68 = .ok (.i2l, 1) := by decide +kernel
theorem dX7_init_69 : decode cX7_init 69 = .ok (.ladd, 1) := by decide +kernel
theorem dX7_init_70 : decode cX7_init 70 = .ok (.lstore 5, 2) := by decide +kernel
theorem dX7_init_72 : decode cX7_init 72 = .ok (.iinc 4 1, 3) := by decide +kernel
theorem dX7_init_75 : decode cX7_init 75 = .ok (.goto 31, 3) := by decide +kernel
theorem dX7_init_78 : decode cX7_init 78 = .ok (.iload_n 3, 1) := by decide +kernel
theorem dX7_init_79 : decode cX7_init 79 = .ok (.bipush 11, 2) := by decide +kernel
theorem dX7_init_81 : decode cX7_init 81 = .ok (.if_icmp .ge 25, 3) := by decide +kernel
theorem dX7_init_84 : decode cX7_init 84 = .ok (.aload_n 0, 1) := by decide +kernel
theorem dX7_init_85 : decode cX7_init 85 = .ok (.getfield 16, 3) := by decide +kernel
theorem dX7_init_88 : decode cX7_init 88 = .ok (.iload_n 3, 1) := by decide +kernel
theorem dX7_init_89 : decode cX7_init 89 = .ok (.lload 5, 2) := by decide +kernel
theorem dX7_init_91 : decode cX7_init 91 = .ok (.iload 4, 2) := by decide +kernel
theorem dX7_init_93 : decode cX7_init 93 = .ok (.invokestatic 38, 3) := by decide +kernel
theorem dX7_init_96 : decode cX7_init 96 = .ok (.lastore, 1) := by decide +kernel
theorem dX7_init_97 : decode cX7_init 97 = .ok (.iinc 3 1, 3) := by decide +kernel
theorem dX7_init_100 : decode cX7_init 100 = .ok (.iconst 0, 1) := by decide +kernel
theorem dX7_init_101 : decode cX7_init 101 = .ok (.istore 4, 2) := by decide +kernel
theorem dX7_init_103 : decode cX7_init 103 = .ok (.lconst 0, 1) := by decide +kernel
theorem dX7_init_104 : decode cX7_init 104 = .ok (.lstore 5, 2) := by decide +kernel
theorem dX7_init_106 : decode cX7_init 106 = .ok (.iinc 7 1, 3) := by decide +kernel
theorem dX7_init_109 : decode cX7_init 109 = .ok (.goto (-76), 3) := by decide +kernel
theorem dX7_init_112 : decode cX7_init 112 = .ok (.return_, 1) := by decide +kernel
theorem dX7_signOf_0 : decode cX7_signOf 0 = .ok (.iload_n 0, 1) := by decide +kernel
theorem dX7_signOf_1 : decode cX7_signOf 1 = .ok (.bipush 48, 2) := by decide +kernel
theorem dX7_signOf_3 : decode cX7_signOf 3 = .ok (.if_icmp .lt 16, 3) := by decide +kernel
theorem dX7_signOf_6 : decode cX7_signOf 6 = .ok (.iload_n 0, 1) := by decide +kernel
theorem dX7_signOf_7 : decode cX7_signOf 7 = .ok (.bipush 57, 2) := by decide +kernel
theorem dX7_signOf_9 : decode cX7_signOf 9 = .ok (.if_icmp .gt 10, 3) := by decide +kernel
theorem dX7_signOf_12 : decode cX7_signOf 12 = .ok (.iconst 1, 1) := by decide +kernel
theorem dX7_signOf_13 : decode cX7_signOf 13 = .ok (.iload_n 0, 1) := by decide +kernel
theorem dX7_signOf_14 : decode cX7_signOf 14 = .ok (.iadd, 1) := by decide +kernel
theorem dX7_signOf_15 : decode cX7_signOf 15 = .ok (.bipush 48, 2) := by decide +kernel
theorem dX7_signOf_17 : decode cX7_signOf 17 = .ok (.isub, 1) := by decide +kernel
theorem dX7_signOf_18 : decode cX7_signOf 18 = .ok (.ireturn, 1) := by decide +kernel
theorem dX7_signOf_19 : decode cX7_signOf 19 = .ok (.iload_n 0, 1) := by decide +kernel
theorem dX7_signOf_20 : decode cX7_signOf 20 = .ok (.bipush 97, 2) := by decide +kernel
theorem dX7_signOf_22 : decode cX7_signOf 22 = .ok (.if_icmp .lt 17, 3) := by decide +kernel
theorem dX7_signOf_25 : decode cX7_signOf 25 = .ok (.iload_n 0, 1) := by decide +kernel
theorem dX7_signOf_26 : decode cX7_signOf 26 = .ok (.bipush 122, 2) := by decide +kernel
theorem dX7_signOf_28 : decode cX7_signOf 28 = .ok (.if_icmp .gt 11, 3) := by decide +kernel
theorem dX7_signOf_31 : decode cX7_signOf 31 = .ok (.bipush 11, 2) := by decide +kernel
theorem dX7_signOf_33 : decode cX7_signOf 33 = .ok (.iload_n 0, 1) := by decide +kernel
theorem dX7_signOf_34 : decode cX7_signOf 34 = .ok (.iadd, 1) := by decide +kernel
theorem dX7_signOf_35 : decode cX7_signOf 35 = .ok (.bipush 97, 2) := by decide +kernel
theorem dX7_signOf_37 : decode cX7_signOf 37 = .ok (.isub, 1) := by decide +kernel
theorem dX7_signOf_38 : decode cX7_signOf 38 = .ok (.ireturn, 1) := by decide +kernel
theorem dX7_signOf_39 : decode cX7_signOf 39 = .ok (.iload_n 0, 1) := by decide +kernel
theorem dX7_signOf_40 : decode cX7_signOf 40 = .ok (.bipush 65, 2) := by decide +kernel
theorem dX7_signOf_42 : decode cX7_signOf 42 = .ok (.if_icmp .lt 19, 3) := by decide +kernel
theorem dX7_signOf_45 : decode cX7_signOf 45 = .ok (.iload_n 0, 1) := by decide +kernel
theorem dX7_signOf_46 : decode cX7_signOf 46 = .ok (.bipush 90, 2) := by decide +kernel
theorem dX7_signOf_48 : decode cX7_signOf 48 = .ok (.if_icmp .gt 13, 3) := by decide +kernel
theorem dX7_signOf_51 : decode cX7_signOf 51 = .ok (.bipush 11, 2) := by decide +kernel
theorem dX7_signOf_53 : decode cX7_signOf 53 = .ok (.iload_n 0, 1) := by decide +kernel
theorem dX7_signOf_54 : decode cX7_signOf 54 = .ok (.iadd, 1) := by decide +kernel
theorem dX7_signOf_55 : decode cX7_signOf 55 = .ok (.bipush 65, 2) := by decide +kernel
theorem dX7_signOf_57 : decode cX7_signOf 57 = .ok (.isub, 1) := by decide +kernel
theorem dX7_signOf_58 : decode cX7_signOf 58 = .ok (.goto 4, 3) := by decide +kernel
theorem dX7_signOf_61 : decode cX7_signOf 61 = .ok (.iconst 0, 1) := by decide +kernel
theorem dX7_signOf_62 : decode cX7_signOf 62 = .ok (.ireturn, 1) := by decide +kernel
theorem dX7_byteOf_0 : decode cX7_byteOf 0 = .ok (.iload_n 0, 1) := by decide +kernel
theorem dX7_byteOf_1 : decode cX7_byteOf 1 = .ok (.bipush 11, 2) := by decide +kernel
theorem dX7_byteOf_3 : decode cX7_byteOf 3 = .ok (.if_icmp .lt 13, 3) := by decide +kernel
theorem dX7_byteOf_6 : decode cX7_byteOf 6 = .ok (.bipush 97, 2) := by decide +kernel
theorem dX7_byteOf_8 : decode cX7_byteOf 8 = .ok (.iload_n 0, 1) := by decide +kernel
theorem dX7_byteOf_9 : decode cX7_byteOf 9 = .ok (.iadd, 1) := by decide +kernel
theorem dX7_byteOf_10 : decode cX7_byteOf 10 = .ok (.bipush 11, 2) := by decide +kernel
theorem dX7_byteOf_12 : decode cX7_byteOf 12 = .ok (.isub, 1) := by decide +kernel
theorem dX7_byteOf_13 : decode cX7_byteOf 13 = .ok (.goto 9, 3) := by decide +kernel
theorem dX7_byteOf_16 : decode cX7_byteOf 16 = .ok (.bipush 48, 2) := by decide +kernel
theorem dX7_byteOf_18 : decode cX7_byteOf 18 = .ok (.iload_n 0, 1) := by decide +kernel
theorem dX7_byteOf_19 : decode cX7_byteOf 19 = .ok (.iadd, 1) := by decide +kernel
theorem dX7_byteOf_20 : decode cX7_byteOf 20 = .ok (.iconst 1, 1) := by decide +kernel
theorem dX7_byteOf_21 : decode cX7_byteOf 21 = .ok (.isub, 1) := by decide +kernel
theorem dX7_byteOf_22 : decode cX7_byteOf 22 = .ok (.ireturn, 1) := by decide +kernel
theorem dX7_wordEnd_0 : decode cX7_wordEnd 0 = .ok (.iload_n 1, 1) := by decide +kernel
theorem dX7_wordEnd_1 : decode cX7_wordEnd 1 = .ok (.istore_n 3, 1) := by decide +kernel
theorem dX7_wordEnd_2 : decode cX7_wordEnd 2 = .ok (.iload_n 3, 1) := by decide +kernel
theorem dX7_wordEnd_3 : decode cX7_wordEnd 3 = .ok (.ifCond .lt 29, 3) := by decide +kernel
theorem dX7_wordEnd_6 : decode cX7_wordEnd 6 = .ok (.iload_n 3, 1) := by decide +kernel
theorem dX7_wordEnd_7 : decode cX7_wordEnd 7 = .ok (.iload_n 2, 1) := by decide +kernel
theorem dX7_wordEnd_8 : decode cX7_wordEnd 8 = .ok (.if_icmp .ge 24, 3) := by decide +kernel
theorem dX7_wordEnd_11 : decode cX7_wordEnd 11 = .ok (.iload_n 3, 1) := by decide +kernel
theorem dX7_wordEnd_12 : decode cX7_wordEnd 12 = .ok (.aload_n 0, 1) := by decide +kernel
theorem dX7_wordEnd_13 : decode cX7_wordEnd 13 = .ok (.arraylength, 1) := by decide +kernel
theorem dX7_wordEnd_14 : decode cX7_wordEnd 14 = .ok (.if_icmp .ge 18, 3) := by decide +kernel
theorem dX7_wordEnd_17 : decode cX7_wordEnd 17 = .ok (.aload_n 0, 1) := by decide +kernel
theorem dX7_wordEnd_18 : decode cX7_wordEnd 18 = .ok (.iload_n 3, 1) := by decide +kernel
theorem dX7_wordEnd_19 : decode cX7_wordEnd 19 = .ok (.baload, 1) := by decide +kernel
theorem dX7_wordEnd_20 : decode cX7_wordEnd 20 = .ok (.invokestatic 32, 3) := by decide +kernel
theorem dX7_wordEnd_23 : decode cX7_wordEnd 23 = .ok (.ifCond .eq 9, 3) := by decide +kernel
theorem dX7_wordEnd_26 : decode cX7_wordEnd 26 = .ok (.iinc 3 1, 3) := by decide +kernel
theorem dX7_wordEnd_29 : decode cX7_wordEnd 29 = .ok (.goto (-27), 3) := by decide +kernel
theorem dX7_wordEnd_32 : decode cX7_wordEnd 32 = .ok (.iload_n 3, 1) := by decide +kernel
theorem dX7_wordEnd_33 : decode cX7_wordEnd 33 = .ok (.ireturn, 1) := by decide +kernel
theorem dX7_wordStart_0 : decode cX7_wordStart 0 = .ok (.iload_n 1, 1) := by decide +kernel
theorem dX7_wordStart_1 : decode cX7_wordStart 1 = .ok (.istore_n 3, 1) := by decide +kernel
theorem dX7_wordStart_2 : decode cX7_wordStart 2 = .ok (.iload_n 3, 1) := by decide +kernel
theorem dX7_wordStart_3 : decode cX7_wordStart 3 = .ok (.ifCond .lt 29, 3) := by decide +kernel
theorem dX7_wordStart_6 : decode cX7_wordStart 6 = .ok (.iload_n 3, 1) := by decide +kernel
theorem dX7_wordStart_7 : decode cX7_wordStart 7 = .ok (.iload_n 2, 1) := by decide +kernel
theorem dX7_wordStart_8 : decode cX7_wordStart 8 = .ok (.if_icmp .ge 24, 3) := by decide +kernel
theorem dX7_wordStart_11 : decode cX7_wordStart 11 = .ok (.iload_n 3, 1) := by decide +kernel
theorem dX7_wordStart_12 : decode cX7_wordStart 12 = .ok (.aload_n 0, 1) := by decide +kernel
theorem dX7_wordStart_13 : decode cX7_wordStart 13 = .ok (.arraylength, 1) := by decide +kernel
theorem dX7_wordStart_14 : decode cX7_wordStart 14 = .ok (.if_icmp .ge 18, 3) := by decide +kernel
theorem dX7_wordStart_17 : decode cX7_wordStart 17 = .ok (.aload_n 0, 1) := by decide +kernel
theorem dX7_wordStart_18 : decode cX7_wordStart 18 = .ok (.iload_n 3, 1) := by decide +kernel
theorem dX7_wordStart_19 : decode cX7_wordStart 19 = .ok (.baload, 1) := by decide +kernel
theorem dX7_wordStart_20 : decode cX7_wordStart 20 = .ok (.invokestatic 32, 3) := by decide +kernel
theorem dX7_wordStart_23 : decode cX7_wordStart 23 = .ok (.ifCond .ne 9, 3) := by decide +kernel
theorem dX7_wordStart_26 : decode cX7_wordStart 26 = .ok (.iinc 3 1, 3) := by decide +kernel
theorem dX7_wordStart_29 : decode cX7_wordStart 29 = .ok (.goto (-27), 3) := by decide +kernel
theorem dX7_wordStart_32 : decode cX7_wordStart 32 = .ok (.iload_n 3, 1) := by decide +kernel
theorem dX7_wordStart_33 : decode cX7_wordStart 33 = .ok (.ireturn, 1) := by decide +kernel
theorem dX7_isWord_0 : decode cX7_isWord 0 = .ok (.iload_n 1, 1) := by decide +kernel
theorem dX7_isWord_1 : decode cX7_isWord 1 = .ok (.ifCond .le 17, 3) := by decide +kernel
theorem dX7_isWord_4 : decode cX7_isWord 4 = .ok (.aload_n 0, 1) := by decide +kernel
theorem dX7_isWord_5 : decode cX7_isWord 5 = .ok (.iconst 0, 1) := by decide +kernel
theorem dX7_isWord_6 : decode cX7_isWord 6 = .ok (.iload_n 1, 1) := by decide +kernel
theorem dX7_isWord_7 : decode cX7_isWord 7 = .ok (.invokestatic 42, 3) := by decide +kernel
theorem dX7_isWord_10 : decode cX7_isWord 10 = .ok (.iload_n 1, 1) := by decide +kernel
theorem dX7_isWord_11 : decode cX7_isWord 11 = .ok (.if_icmp .ne 7, 3) := by decide +kernel
theorem dX7_isWord_14 : decode cX7_isWord 14 = .ok (.iconst 1, 1) := by decide +kernel
theorem dX7_isWord_15 : decode cX7_isWord 15 = .ok (.goto 4, 3) := by decide +kernel
theorem dX7_isWord_18 : decode cX7_isWord 18 = .ok (.iconst 0, 1) := by decide +kernel
theorem dX7_isWord_19 : decode cX7_isWord 19 = .ok (.ireturn, 1) := by decide +kernel
theorem dX7_termOf_0 : decode cX7_termOf 0 = .ok (.iload_n 3, 1) := by decide +kernel
theorem dX7_termOf_1 : decode cX7_termOf 1 = .ok (.bipush 12, 2) := by decide +kernel
theorem dX7_termOf_3 : decode cX7_termOf 3 = .ok (.invokestatic 46, 3) := by decide +kernel
theorem dX7_termOf_6 : decode cX7_termOf 6 = .ok (.istore 4, 2) := by decide +kernel
theorem dX7_termOf_8 : decode cX7_termOf 8 = .ok (.iload_n 2, 1) := by decide +kernel
theorem dX7_termOf_9 : decode cX7_termOf 9 = .ok (.iload 4, 2) := by decide +kernel
theorem dX7_termOf_11 : decode cX7_termOf 11 = .ok (.iadd, 1) := by decide +kernel
theorem dX7_termOf_12 : decode cX7_termOf 12 = .ok (.iconst 1, 1) := by decide +kernel
theorem dX7_termOf_13 : decode cX7_termOf 13 = .ok (.isub, 1) := by decide +kernel
theorem dX7_termOf_14 : decode cX7_termOf 14 = .ok (.istore 5, 2) := by decide +kernel
theorem dX7_termOf_16 : decode cX7_termOf 16 = .ok (.aload_n 0, 1) := by decide +kernel
theorem dX7_termOf_17 : decode cX7_termOf 17 = .ok (.getfield 9, 3) := by decide +kernel
theorem dX7_termOf_20 : decode cX7_termOf 20 = .ok (.ifCond .eq 32, 3) := by decide +kernel
theorem dX7_termOf_23 : decode cX7_termOf 23 = .ok (.iload 4, 2) := by decide +kernel
theorem dX7_termOf_25 : decode cX7_termOf 25 = .ok (.iconst 4, 1) := by decide +kernel
theorem dX7_termOf_26 : decode cX7_termOf 26 = .ok (.if_icmp .lt 26, 3) := by decide +kernel
theorem dX7_termOf_29 : decode cX7_termOf 29 = .ok (.aload_n 1, 1) := by decide +kernel
theorem dX7_termOf_30 : decode cX7_termOf 30 = .ok (.iload 5, 2) := by decide +kernel
theorem dX7_termOf_32 : decode cX7_termOf 32 = .ok (.invokestatic 52, 3) := by decide +kernel
theorem dX7_termOf_35 : decode cX7_termOf 35 = .ok (.ifCond .eq 17, 3) := by decide +kernel
theorem dX7_termOf_38 : decode cX7_termOf 38 = .ok (.aload_n 1, 1) := by decide +kernel
theorem dX7_termOf_39 : decode cX7_termOf 39 = .ok (.iload 5, 2) := by decide +kernel
theorem dX7_termOf_41 : decode cX7_termOf 41 = .ok (.iconst 1, 1) := by decide +kernel
theorem dX7_termOf_42 : decode cX7_termOf 42 = .ok (.isub, 1) := by decide +kernel
theorem dX7_termOf_43 : decode cX7_termOf 43 = .ok (.invokestatic 52, 3) := by decide +kernel
theorem dX7_termOf_46 : decode cX7_termOf 46 = .ok (.ifCond .ne 6, 3) := by decide +kernel
theorem dX7_termOf_49 : decode cX7_termOf 49 = .ok (.iinc 4 (-1), 3) := by decide +kernel
theorem dX7_termOf_52 : decode cX7_termOf 52 = .ok (.aload_n 1, 1) := by decide +kernel
theorem dX7_termOf_53 : decode cX7_termOf 53 = .ok (.iload_n 2, 1) := by decide +kernel
theorem dX7_termOf_54 : decode cX7_termOf 54 = .ok (.iload 4, 2) := by decide +kernel
theorem dX7_termOf_56 : decode cX7_termOf 56 = .ok (.invokestatic 56, 3) := by decide +kernel
theorem dX7_termOf_59 : decode cX7_termOf 59 = .ok (.iload 4, 2) := by decide +kernel
theorem dX7_termOf_61 : decode cX7_termOf 61 = .ok (.invokestatic 38, 3) := by decide +kernel
theorem dX7_termOf_64 : decode cX7_termOf 64 = .ok (.lstore 6, 2) := by decide +kernel
theorem dX7_termOf_66 : decode cX7_termOf 66 = .ok (.aload_n 0, 1) := by decide +kernel
theorem dX7_termOf_67 : decode cX7_termOf 67 = .ok (.getfield 13, 3) := by decide +kernel
theorem dX7_termOf_70 : decode cX7_termOf 70 = .ok (.ifCond .eq 16, 3) := by decide +kernel
theorem dX7_termOf_73 : decode cX7_termOf 73 = .ok (.aload_n 0, 1) := by decide +kernel
theorem dX7_termOf_74 : decode cX7_termOf 74 = .ok (.lload 6, 2) := by decide +kernel
theorem dX7_termOf_76 : decode cX7_termOf 76 = .ok (.invokevirtual 60, 3) := by decide +kernel
theorem dX7_termOf_79 : decode cX7_termOf 79 = .ok (.ifCond .eq 7, 3) := by decide +kernel
theorem dX7_termOf_82 : decode cX7_termOf 82 = .ok (.lconst 0, 1) := by decide +kernel
theorem dX7_termOf_83 : decode cX7_termOf 83 = .ok (.goto 5, 3) := by decide +kernel
theorem dX7_termOf_86 : decode cX7_termOf 86 = .ok (.lload 6, 2) := by decide +kernel
theorem dX7_termOf_88 : decode cX7_termOf 88 = .ok (.lreturn, 1) := by decide +kernel
theorem dX7_leastBeginning_0 : decode cX7_leastBeginning 0 = .ok (.iload_n 2, 1) := by decide +kernel
theorem dX7_leastBeginning_1 : decode cX7_leastBeginning 1 = .ok (.bipush 12, 2) := by decide +kernel
theorem dX7_leastBeginning_3 : decode cX7_leastBeginning 3 = .ok (.invokestatic 46, 3) := by decide +kernel
theorem dX7_leastBeginning_6 : decode cX7_leastBeginning 6 = .ok (.istore_n 3, 1) := by decide +kernel
theorem dX7_leastBeginning_7 : decode cX7_leastBeginning 7 = .ok (.aload_n 0, 1) := by decide +kernel
theorem dX7_leastBeginning_8 : decode cX7_leastBeginning 8 = .ok (.iload_n 1, 1) := by decide +kernel
theorem dX7_leastBeginning_9 : decode cX7_leastBeginning 9 = .ok (.iload_n 3, 1) := by decide +kernel
theorem dX7_leastBeginning_10 : decode cX7_leastBeginning 10 = .ok (.invokestatic 56, 3) := by decide +kernel
theorem dX7_leastBeginning_13 : decode cX7_leastBeginning 13 = .ok (.iload_n 3, 1) := by decide +kernel
theorem dX7_leastBeginning_14 : decode cX7_leastBeginning 14 = .ok (.invokestatic 38, 3) := by decide +kernel
theorem dX7_leastBeginning_17 : decode cX7_leastBeginning 17 = .ok (.lreturn, 1) := by decide +kernel
theorem dX7_greatestBeginning_0 : decode cX7_greatestBeginning 0 = .ok (.iload_n 2, 1) := by decide +kernel
theorem dX7_greatestBeginning_1 : decode cX7_greatestBeginning 1 = .ok (.bipush 12, 2) := by decide +kernel
theorem dX7_greatestBeginning_3 : decode cX7_greatestBeginning 3 = .ok (.invokestatic 46, 3) := by decide +kernel
theorem dX7_greatestBeginning_6 : decode cX7_greatestBeginning 6 = .ok (.istore_n 3, 1) := by decide +kernel
theorem dX7_greatestBeginning_7 : decode cX7_greatestBeginning 7 = .ok (.aload_n 0, 1) := by decide +kernel
theorem dX7_greatestBeginning_8 : decode cX7_greatestBeginning 8 = .ok (.iload_n 1, 1) := by decide +kernel
theorem dX7_greatestBeginning_9 : decode cX7_greatestBeginning 9 = .ok (.iload_n 3, 1) := by decide +kernel
theorem dX7_greatestBeginning_10 : decode cX7_greatestBeginning 10 = .ok (.invokestatic 56, 3) := by decide +kernel
theorem dX7_greatestBeginning_13 : decode cX7_greatestBeginning 13 = .ok (.lconst 1, 1) := by decide +kernel
theorem dX7_greatestBeginning_14 : decode cX7_greatestBeginning 14 = .ok (.ladd, 1) := by decide +kernel
theorem dX7_greatestBeginning_15 : decode cX7_greatestBeginning 15 = .ok (.iload_n 3, 1) := by decide +kernel
theorem dX7_greatestBeginning_16 : decode cX7_greatestBeginning 16 = .ok (.invokestatic 38, 3) := by decide +kernel
theorem dX7_greatestBeginning_19 : decode cX7_greatestBeginning 19 = .ok (.lconst 1, 1) := by decide +kernel
theorem dX7_greatestBeginning_20 : decode cX7_greatestBeginning 20 = .ok (.lsub, 1) := by decide +kernel
theorem dX7_greatestBeginning_21 : decode cX7_greatestBeginning 21 = .ok (.lreturn, 1) := by decide +kernel
theorem dX7_isS_0 : decode cX7_isS 0 = .ok (.iload_n 1, 1) := by decide +kernel
theorem dX7_isS_1 : decode cX7_isS 1 = .ok (.ifCond .lt 24, 3) := by decide +kernel
theorem dX7_isS_4 : decode cX7_isS 4 = .ok (.iload_n 1, 1) := by decide +kernel
theorem dX7_isS_5 : decode cX7_isS 5 = .ok (.aload_n 0, 1) := by decide +kernel
theorem dX7_isS_6 : decode cX7_isS 6 = .ok (.arraylength, 1) := by decide +kernel
theorem dX7_isS_7 : decode cX7_isS 7 = .ok (.if_icmp .ge 18, 3) := by decide +kernel
theorem dX7_isS_10 : decode cX7_isS 10 = .ok (.aload_n 0, 1) := by decide +kernel
theorem dX7_isS_11 : decode cX7_isS 11 = .ok (.iload_n 1, 1) := by decide +kernel
theorem dX7_isS_12 : decode cX7_isS 12 = .ok (.baload, 1) := by decide +kernel
theorem dX7_isS_13 : decode cX7_isS 13 = .ok (.invokestatic 32, 3) := by decide +kernel
theorem dX7_isS_16 : decode cX7_isS 16 = .ok (.bipush 29, 2) := by decide +kernel
theorem dX7_isS_18 : decode cX7_isS 18 = .ok (.if_icmp .ne 7, 3) := by decide +kernel
theorem dX7_isS_21 : decode cX7_isS 21 = .ok (.iconst 1, 1) := by decide +kernel
theorem dX7_isS_22 : decode cX7_isS 22 = .ok (.goto 4, 3) := by decide +kernel
theorem dX7_isS_25 : decode cX7_isS 25 = .ok (.iconst 0, 1) := by decide +kernel
theorem dX7_isS_26 : decode cX7_isS 26 = .ok (.ireturn, 1) := by decide +kernel
theorem dX7_signsOf_0 : decode cX7_signsOf 0 = .ok (.lconst 0, 1) := by decide +kernel
theorem dX7_signsOf_1 : decode cX7_signsOf 1 = .ok (.lstore_n 3, 1) := by decide +kernel
theorem dX7_signsOf_2 : decode cX7_signsOf 2 = .ok (.iload_n 1, 1) := by decide +kernel
theorem dX7_signsOf_3 : decode cX7_signsOf 3 = .ok (.istore 5, 2) := by decide +kernel
theorem dX7_signsOf_5 : decode cX7_signsOf 5 = .ok (.iload 5, 2) := by decide +kernel
theorem dX7_signsOf_7 : decode cX7_signsOf 7 = .ok (.ifCond .lt 39, 3) := by decide +kernel
theorem dX7_signsOf_10 : decode cX7_signsOf 10 = .ok (.iload 5, 2) := by decide +kernel
theorem dX7_signsOf_12 : decode cX7_signsOf 12 = .ok (.iload_n 1, 1) := by decide +kernel
theorem dX7_signsOf_13 : decode cX7_signsOf 13 = .ok (.iload_n 2, 1) := by decide +kernel
theorem dX7_signsOf_14 : decode cX7_signsOf 14 = .ok (.iadd, 1) := by decide +kernel
theorem dX7_signsOf_15 : decode cX7_signsOf 15 = .ok (.if_icmp .ge 31, 3) := by decide +kernel
theorem dX7_signsOf_18 : decode cX7_signsOf 18 = .ok (.iload 5, 2) := by decide +kernel
theorem dX7_signsOf_20 : decode cX7_signsOf 20 = .ok (.aload_n 0, 1) := by decide +kernel
theorem dX7_signsOf_21 : decode cX7_signsOf 21 = .ok (.arraylength, 1) := by decide +kernel
theorem dX7_signsOf_22 : decode cX7_signsOf 22 = .ok (.if_icmp .ge 24, 3) := by decide +kernel
theorem dX7_signsOf_25 : decode cX7_signsOf 25 = .ok (.lload_n 3, 1) := by decide +kernel
theorem dX7_signsOf_26 : decode cX7_signsOf 26 = .ok (.ldc2_w 36, 3) := by decide +kernel
theorem dX7_signsOf_29 : decode cX7_signsOf 29 = .ok (.lmul, 1) := by decide +kernel
theorem dX7_signsOf_30 : decode cX7_signsOf 30 = .ok (.aload_n 0, 1) := by decide +kernel
theorem dX7_signsOf_31 : decode cX7_signsOf 31 = .ok (.iload 5, 2) := by decide +kernel
theorem dX7_signsOf_33 : decode cX7_signsOf 33 = .ok (.baload, 1) := by decide +kernel
theorem dX7_signsOf_34 : decode cX7_signsOf 34 = .ok (.invokestatic 32, 3) := by decide +kernel
theorem dX7_signsOf_37 : decode cX7_signsOf 37 = .ok (.i2l, 1) := by decide +kernel
theorem dX7_signsOf_38 : decode cX7_signsOf 38 = .ok (.ladd, 1) := by decide +kernel
theorem dX7_signsOf_39 : decode cX7_signsOf 39 = .ok (.lstore_n 3, 1) := by decide +kernel
theorem dX7_signsOf_40 : decode cX7_signsOf 40 = .ok (.iinc 5 1, 3) := by decide +kernel
theorem dX7_signsOf_43 : decode cX7_signsOf 43 = .ok (.goto (-38), 3) := by decide +kernel
theorem dX7_signsOf_46 : decode cX7_signsOf 46 = .ok (.lload_n 3, 1) := by decide +kernel
theorem dX7_signsOf_47 : decode cX7_signsOf 47 = .ok (.lreturn, 1) := by decide +kernel
theorem dX7_padded_0 : decode cX7_padded 0 = .ok (.lload_n 0, 1) := by decide +kernel
theorem dX7_padded_1 : decode cX7_padded 1 = .ok (.lstore_n 3, 1) := by decide +kernel
theorem dX7_padded_2 : decode cX7_padded 2 = .ok (.iload_n 2, 1) := by decide +kernel
theorem dX7_padded_3 : decode cX7_padded 3 = .ok (.istore 5, 2) := by decide +kernel
theorem dX7_padded_5 : decode cX7_padded 5 = .ok (.iload 5, 2) := by decide +kernel
theorem dX7_padded_7 : decode cX7_padded 7 = .ok (.bipush 12, 2) := by decide +kernel
theorem dX7_padded_9 : decode cX7_padded 9 = .ok (.if_icmp .ge 15, 3) := by decide +kernel
theorem dX7_padded_12 : decode cX7_padded 12 = .ok (.lload_n 3, 1) := by decide +kernel
theorem dX7_padded_13 : decode cX7_padded 13 = .ok (.ldc2_w 36, 3) := by decide +kernel
theorem dX7_padded_16 : decode cX7_padded 16 = .ok (.lmul, 1) := by decide +kernel
theorem dX7_padded_17 : decode cX7_padded 17 = .ok (.lstore_n 3, 1) := by decide +kernel
theorem dX7_padded_18 : decode cX7_padded 18 = .ok (.iinc 5 1, 3) := by decide +kernel
theorem dX7_padded_21 : decode cX7_padded 21 = .ok (.goto (-16), 3) := by decide +kernel
theorem dX7_padded_24 : decode cX7_padded 24 = .ok (.lload_n 3, 1) := by decide +kernel
theorem dX7_padded_25 : decode cX7_padded 25 = .ok (.lreturn, 1) := by decide +kernel
theorem dX7_isStop_0 : decode cX7_isStop 0 = .ok (.iconst 0, 1) := by decide +kernel
theorem dX7_isStop_1 : decode cX7_isStop 1 = .ok (.istore_n 3, 1) := by decide +kernel
theorem dX7_isStop_2 : decode cX7_isStop 2 = .ok (.iload_n 3, 1) := by decide +kernel
theorem dX7_isStop_3 : decode cX7_isStop 3 = .ok (.bipush 11, 2) := by decide +kernel
theorem dX7_isStop_5 : decode cX7_isStop 5 = .ok (.if_icmp .ge 22, 3) := by decide +kernel
theorem dX7_isStop_8 : decode cX7_isStop 8 = .ok (.aload_n 0, 1) := by decide +kernel
theorem dX7_isStop_9 : decode cX7_isStop 9 = .ok (.getfield 16, 3) := by decide +kernel
theorem dX7_isStop_12 : decode cX7_isStop 12 = .ok (.iload_n 3, 1) := by decide +kernel
theorem dX7_isStop_13 : decode cX7_isStop 13 = .ok (.laload, 1) := by decide +kernel
theorem dX7_isStop_14 : decode cX7_isStop 14 = .ok (.lload_n 1, 1) := by decide +kernel
theorem dX7_isStop_15 : decode cX7_isStop 15 = .ok (.lcmp, 1) := by decide +kernel
theorem dX7_isStop_16 : decode cX7_isStop 16 = .ok (.ifCond .ne 5, 3) := by decide +kernel
theorem dX7_isStop_19 : decode cX7_isStop 19 = .ok (.iconst 1, 1) := by decide +kernel
theorem dX7_isStop_20 : decode cX7_isStop 20 = .ok (.ireturn, 1) := by decide +kernel
theorem dX7_isStop_21 : decode cX7_isStop 21 = .ok (.iinc 3 1, 3) := by decide +kernel
theorem dX7_isStop_24 : decode cX7_isStop 24 = .ok (.goto (-22), 3) := by decide +kernel
theorem dX7_isStop_27 : decode cX7_isStop 27 = .ok (.iconst 0, 1) := by decide +kernel
theorem dX7_isStop_28 : decode cX7_isStop 28 = .ok (.ireturn, 1) := by decide +kernel
theorem dX8_init_0 : decode cX8_init 0 = .ok (.aload_n 0, 1) := by decide +kernel
theorem dX8_init_1 : decode cX8_init 1 = .ok (.invokespecial 3, 3) := by decide +kernel
theorem dX8_init_4 : decode cX8_init 4 = .ok (.aload_n 1, 1) := by decide +kernel
theorem dX8_init_5 : decode cX8_init 5 = .ok (.iload_n 2, 1) := by decide +kernel
theorem dX8_init_6 : decode cX8_init 6 = .ok (.iload_n 3, 1) := by decide +kernel
theorem dX8_init_7 : decode cX8_init 7 = .ok (.invokestatic 9, 3) := by decide +kernel
theorem dX8_init_10 : decode cX8_init 10 = .ok (.istore 5, 2) := by decide +kernel
theorem dX8_init_12 : decode cX8_init 12 = .ok (.aload_n 0, 1) := by decide +kernel
theorem dX8_init_13 : decode cX8_init 13 = .ok (.iload 5, 2) := by decide +kernel
theorem dX8_init_15 : decode cX8_init 15 = .ok (.newarray .int, 2) := by decide +kernel
theorem dX8_init_17 : decode cX8_init 17 = .ok (.putfield 15, 3) := by decide +kernel
theorem dX8_init_20 : decode cX8_init 20 = .ok (.aload_n 0, 1) := by decide +kernel
theorem dX8_init_21 : decode cX8_init 21 = .ok (.iload 5, 2) := by decide +kernel
theorem dX8_init_23 : decode cX8_init 23 = .ok (.newarray .int, 2) := by decide +kernel
theorem dX8_init_25 : decode cX8_init 25 = .ok (.putfield 19, 3) := by decide +kernel
theorem dX8_init_28 : decode cX8_init 28 = .ok (.aload_n 0, 1) := by decide +kernel
theorem dX8_init_29 : decode cX8_init 29 = .ok (.iload 5, 2) := by decide +kernel
theorem dX8_init_31 : decode cX8_init 31 = .ok (.newarray .long, 2) := by decide +kernel
theorem dX8_init_33 : decode cX8_init 33 = .ok (.putfield 22, 3) := by decide +kernel
theorem dX8_init_36 : decode cX8_init 36 = .ok (.iload_n 2, 1) := by decide +kernel
theorem dX8_init_37 : decode cX8_init 37 = .ok (.istore 6, 2) := by decide +kernel
theorem dX8_init_39 : decode cX8_init 39 = .ok (.iconst 0, 1) := by decide +kernel
theorem dX8_init_40 : decode cX8_init 40 = .ok (.istore 7, 2) := by decide +kernel
theorem dX8_init_42 : decode cX8_init 42 = .ok (.iload 7, 2) := by decide +kernel
theorem dX8_init_44 : decode cX8_init 44 = .ok (.iload 5, 2) := by decide +kernel
theorem dX8_init_46 : decode cX8_init 46 = .ok (.if_icmp .ge 70, 3) := by decide +kernel
theorem dX8_init_49 : decode cX8_init 49 = .ok (.aload_n 1, 1) := by decide +kernel
theorem dX8_init_50 : decode cX8_init 50 = .ok (.iload 6, 2) := by decide +kernel
theorem dX8_init_52 : decode cX8_init 52 = .ok (.iload_n 3, 1) := by decide +kernel
theorem dX8_init_53 : decode cX8_init 53 = .ok (.invokestatic 26, 3) := by decide +kernel
theorem dX8_init_56 : decode cX8_init 56 = .ok (.istore 8, 2) := by decide +kernel
theorem dX8_init_58 : decode cX8_init 58 = .ok (.aload_n 1, 1) := by decide +kernel
theorem dX8_init_59 : decode cX8_init 59 = .ok (.iload 8, 2) := by decide +kernel
theorem dX8_init_61 : decode cX8_init 61 = .ok (.iload_n 3, 1) := by decide +kernel
theorem dX8_init_62 : decode cX8_init 62 = .ok (.invokestatic 31, 3) := by decide +kernel
theorem dX8_init_65 : decode cX8_init 65 = .ok (.istore 6, 2) := by decide +kernel
theorem dX8_init_67 : decode cX8_init 67 = .ok (.aload_n 0, 1) := by decide +kernel
theorem dX8_init_68 : decode cX8_init 68 = .ok (.getfield 15, 3) := by decide +kernel
theorem dX8_init_71 : decode cX8_init 71 = .ok (.iload 7, 2) := by decide +kernel
theorem dX8_init_73 : decode cX8_init 73 = .ok (.iload 8, 2) := by decide +kernel
theorem dX8_init_75 : decode cX8_init 75 = .ok (.iload_n 2, 1) := by decide +kernel
theorem dX8_init_76 : decode cX8_init 76 = .ok (.isub, 1) := by decide +kernel
theorem dX8_init_77 : decode cX8_init 77 = .ok (.iastore, 1) := by decide +kernel
theorem dX8_init_78 : decode cX8_init 78 = .ok (.aload_n 0, 1) := by decide +kernel
theorem dX8_init_79 : decode cX8_init 79 = .ok (.getfield 19, 3) := by decide +kernel
theorem dX8_init_82 : decode cX8_init 82 = .ok (.iload 7, 2) := by decide +kernel
theorem dX8_init_84 : decode cX8_init 84 = .ok (.iload 6, 2) := by decide +kernel
theorem dX8_init_86 : decode cX8_init 86 = .ok (.iload 8, 2) := by decide +kernel
theorem dX8_init_88 : decode cX8_init 88 = .ok (.isub, 1) := by decide +kernel
theorem dX8_init_89 : decode cX8_init 89 = .ok (.iastore, 1) := by decide +kernel
theorem dX8_init_90 : decode cX8_init 90 = .ok (.aload_n 0, 1) := by decide +kernel
theorem dX8_init_91 : decode cX8_init 91 = .ok (.getfield 22, 3) := by decide +kernel
theorem dX8_init_94 : decode cX8_init 94 = .ok (.iload 7, 2) := by decide +kernel
theorem dX8_init_96 : decode cX8_init 96 = .ok (.aload 4, 2) := by decide +kernel
theorem dX8_init_98 : decode cX8_init 98 = .ok (.aload_n 1, 1) := by decide +kernel
theorem dX8_init_99 : decode cX8_init 99 = .ok (.iload 8, 2) := by decide +kernel
theorem dX8_init_101 : decode cX8_init 101 = .ok (.iload 6, 2) := by decide +kernel
theorem dX8_init_103 : decode cX8_init 103 = .ok (.iload 8, 2) := by decide +kernel
theorem dX8_init_105 : decode cX8_init 105 = .ok (.isub, 1) := by decide +kernel
theorem dX8_init_106 : decode cX8_init 106 = .ok (.invokevirtual 34, 3) := by decide +kernel
theorem dX8_init_109 : decode cX8_init 109 = .ok (.lastore, 1) := by decide +kernel
theorem dX8_init_110 : decode cX8_init 110 = .ok (.iinc 7 1, 3) := by decide +kernel
theorem dX8_init_113 : decode cX8_init 113 = .ok (.goto (-71), 3) := by decide +kernel
theorem dX8_init_116 : decode cX8_init 116 = .ok (.aload_n 0, 1) := by decide +kernel
theorem dX8_init_117 : decode cX8_init 117 = .ok (.new 38, 3) := by decide +kernel
theorem dX8_init_120 : decode cX8_init 120 = .ok (.dup, 1) := by decide +kernel
theorem dX8_init_121 : decode cX8_init 121 = .ok (.aload_n 0, 1) := by decide +kernel
theorem dX8_init_122 : decode cX8_init 122 = .ok (.getfield 22, 3) := by decide +kernel
theorem dX8_init_125 : decode cX8_init 125 = .ok (.invokevirtual 40, 3) := by decide +kernel
theorem dX8_init_128 : decode cX8_init 128 = .ok (.checkcast 41, 3) := by decide +kernel
theorem dX8_init_131 : decode cX8_init 131 = .ok (.invokespecial 45, 3) := by decide +kernel
theorem dX8_init_134 : decode cX8_init 134 = .ok (.putfield 48, 3) := by decide +kernel
theorem dX8_init_137 : decode cX8_init 137 = .ok (.return_, 1) := by decide +kernel
theorem dX8_countTokens_0 : decode cX8_countTokens 0 = .ok (.iconst 0, 1) := by decide +kernel
theorem dX8_countTokens_1 : decode cX8_countTokens 1 = .ok (.istore_n 3, 1) := by decide +kernel
theorem dX8_countTokens_2 : decode cX8_countTokens 2 = .ok (.aload_n 0, 1) := by decide +kernel
theorem dX8_countTokens_3 : decode cX8_countTokens 3 = .ok (.iload_n 1, 1) := by decide +kernel
theorem dX8_countTokens_4 : decode cX8_countTokens 4 = .ok (.iload_n 2, 1) := by decide +kernel
theorem dX8_countTokens_5 : decode cX8_countTokens 5 = .ok (.invokestatic 26, 3) := by decide +kernel
theorem dX8_countTokens_8 : decode cX8_countTokens 8 = .ok (.istore 4, 2) := by decide +kernel
theorem dX8_countTokens_10 : decode cX8_countTokens 10 = .ok (.iload_n 1, 1) := by decide +kernel
theorem dX8_countTokens_11 : decode cX8_countTokens 11 = .ok (.istore 5, 2) := by decide +kernel
theorem dX8_countTokens_13 : decode cX8_countTokens 13 = .ok (.iload 5, 2) := by decide +kernel
theorem dX8_countTokens_15 : decode cX8_countTokens 15 = .ok (.iload_n 2, 1) := by decide +kernel
theorem dX8_countTokens_16 : decode cX8_countTokens 16 = .ok (.if_icmp .ge 32, 3) := by decide +kernel
theorem dX8_countTokens_19 : decode cX8_countTokens 19 = .ok (.iload 4, 2) := by decide +kernel
theorem dX8_countTokens_21 : decode cX8_countTokens 21 = .ok (.iload_n 2, 1) := by decide +kernel
theorem dX8_countTokens_22 : decode cX8_countTokens 22 = .ok (.if_icmp .ge 26, 3) := by decide +kernel
theorem dX8_countTokens_25 : decode cX8_countTokens 25 = .ok (.iinc 3 1, 3) := by decide +kernel
theorem dX8_countTokens_28 : decode cX8_countTokens 28 = .ok (.aload_n 0, 1) := by decide +kernel
theorem dX8_countTokens_29 : decode cX8_countTokens 29 = .ok (.aload_n 0, 1) := by decide +kernel
theorem dX8_countTokens_30 : decode cX8_countTokens 30 = .ok (.iload 4, 2) := by decide +kernel
theorem dX8_countTokens_32 : decode cX8_countTokens 32 = .ok (.iload_n 2, 1) := by decide +kernel
theorem dX8_countTokens_33 : decode cX8_countTokens 33 = .ok (.invokestatic 31, 3) := by decide +kernel
theorem dX8_countTokens_36 : decode cX8_countTokens 36 = .ok (.iload_n 2, 1) := by decide +kernel
theorem dX8_countTokens_37 : decode cX8_countTokens 37 = .ok (.invokestatic 26, 3) := by decide +kernel
theorem dX8_countTokens_40 : decode cX8_countTokens 40 = .ok (.istore 4, 2) := by decide +kernel
theorem dX8_countTokens_42 : decode cX8_countTokens 42 = .ok (.iinc 5 1, 3) := by decide +kernel
theorem dX8_countTokens_45 : decode cX8_countTokens 45 = .ok (.goto (-32), 3) := by decide +kernel
theorem dX8_countTokens_48 : decode cX8_countTokens 48 = .ok (.iload_n 3, 1) := by decide +kernel
theorem dX8_countTokens_49 : decode cX8_countTokens 49 = .ok (.ireturn, 1) := by decide +kernel
theorem dX8_tokens_0 : decode cX8_tokens 0 = .ok (.aload_n 0, 1) := by decide +kernel
theorem dX8_tokens_1 : decode cX8_tokens 1 = .ok (.getfield 22, 3) := by decide +kernel
theorem dX8_tokens_4 : decode cX8_tokens 4 = .ok (.arraylength, 1) := by decide +kernel
theorem dX8_tokens_5 : decode cX8_tokens 5 = .ok (.ireturn, 1) := by decide +kernel
theorem dX8_startAt_0 : decode cX8_startAt 0 = .ok (.iload_n 1, 1) := by decide +kernel
theorem dX8_startAt_1 : decode cX8_startAt 1 = .ok (.ifCond .lt 21, 3) := by decide +kernel
theorem dX8_startAt_4 : decode cX8_startAt 4 = .ok (.iload_n 1, 1) := by decide +kernel
theorem dX8_startAt_5 : decode cX8_startAt 5 = .ok (.aload_n 0, 1) := by decide +kernel
theorem dX8_startAt_6 : decode cX8_startAt 6 = .ok (.getfield 15, 3) := by decide +kernel
theorem dX8_startAt_9 : decode cX8_startAt 9 = .ok (.arraylength, 1) := by decide +kernel
theorem dX8_startAt_10 : decode cX8_startAt 10 = .ok (.if_icmp .ge 12, 3) := by decide +kernel
theorem dX8_startAt_13 : decode cX8_startAt 13 = .ok (.aload_n 0, 1) := by decide +kernel
theorem dX8_startAt_14 : decode cX8_startAt 14 = .ok (.getfield 15, 3) := by decide +kernel
theorem dX8_startAt_17 : decode cX8_startAt 17 = .ok (.iload_n 1, 1) := by decide +kernel
theorem dX8_startAt_18 : decode cX8_startAt 18 = .ok (.iaload, 1) := by decide +kernel
theorem dX8_startAt_19 : decode cX8_startAt 19 = .ok (.goto 4, 3) := by decide +kernel
theorem dX8_startAt_22 : decode cX8_startAt 22 = .ok (.iconst (-1), 1) := by decide +kernel
theorem dX8_startAt_23 : decode cX8_startAt 23 = .ok (.ireturn, 1) := by decide +kernel
theorem dX8_lengthAt_0 : decode cX8_lengthAt 0 = .ok (.iload_n 1, 1) := by decide +kernel
theorem dX8_lengthAt_1 : decode cX8_lengthAt 1 = .ok (.ifCond .lt 21, 3) := by decide +kernel
theorem dX8_lengthAt_4 : decode cX8_lengthAt 4 = .ok (.iload_n 1, 1) := by decide +kernel
theorem dX8_lengthAt_5 : decode cX8_lengthAt 5 = .ok (.aload_n 0, 1) := by decide +kernel
theorem dX8_lengthAt_6 : decode cX8_lengthAt 6 = .ok (.getfield 19, 3) := by decide +kernel
theorem dX8_lengthAt_9 : decode cX8_lengthAt 9 = .ok (.arraylength, 1) := by decide +kernel
theorem dX8_lengthAt_10 : decode cX8_lengthAt 10 = .ok (.if_icmp .ge 12, 3) := by decide +kernel
theorem dX8_lengthAt_13 : decode cX8_lengthAt 13 = .ok (.aload_n 0, 1) := by decide +kernel
theorem dX8_lengthAt_14 : decode cX8_lengthAt 14 = .ok (.getfield 19, 3) := by decide +kernel
theorem dX8_lengthAt_17 : decode cX8_lengthAt 17 = .ok (.iload_n 1, 1) := by decide +kernel
theorem dX8_lengthAt_18 : decode cX8_lengthAt 18 = .ok (.iaload, 1) := by decide +kernel
theorem dX8_lengthAt_19 : decode cX8_lengthAt 19 = .ok (.goto 4, 3) := by decide +kernel
theorem dX8_lengthAt_22 : decode cX8_lengthAt 22 = .ok (.iconst (-1), 1) := by decide +kernel
theorem dX8_lengthAt_23 : decode cX8_lengthAt 23 = .ok (.ireturn, 1) := by decide +kernel
theorem dX8_termAt_0 : decode cX8_termAt 0 = .ok (.iload_n 1, 1) := by decide +kernel
theorem dX8_termAt_1 : decode cX8_termAt 1 = .ok (.ifCond .lt 21, 3) := by decide +kernel
theorem dX8_termAt_4 : decode cX8_termAt 4 = .ok (.iload_n 1, 1) := by decide +kernel
theorem dX8_termAt_5 : decode cX8_termAt 5 = .ok (.aload_n 0, 1) := by decide +kernel
theorem dX8_termAt_6 : decode cX8_termAt 6 = .ok (.getfield 22, 3) := by decide +kernel
theorem dX8_termAt_9 : decode cX8_termAt 9 = .ok (.arraylength, 1) := by decide +kernel
theorem dX8_termAt_10 : decode cX8_termAt 10 = .ok (.if_icmp .ge 12, 3) := by decide +kernel
theorem dX8_termAt_13 : decode cX8_termAt 13 = .ok (.aload_n 0, 1) := by decide +kernel
theorem dX8_termAt_14 : decode cX8_termAt 14 = .ok (.getfield 22, 3) := by decide +kernel
theorem dX8_termAt_17 : decode cX8_termAt 17 = .ok (.iload_n 1, 1) := by decide +kernel
theorem dX8_termAt_18 : decode cX8_termAt 18 = .ok (.laload, 1) := by decide +kernel
theorem dX8_termAt_19 : decode cX8_termAt 19 = .ok (.goto 4, 3) := by decide +kernel
theorem dX8_termAt_22 : decode cX8_termAt 22 = .ok (.lconst 0, 1) := by decide +kernel
theorem dX8_termAt_23 : decode cX8_termAt 23 = .ok (.lreturn, 1) := by decide +kernel
theorem dX8_positionOf_0 : decode cX8_positionOf 0 = .ok (.iload_n 3, 1) := by decide +kernel
theorem dX8_positionOf_1 : decode cX8_positionOf 1 = .ok (.ifCond .ge 7, 3) := by decide +kernel
theorem dX8_positionOf_4 : decode cX8_positionOf 4 = .ok (.iconst 0, 1) := by decide +kernel
theorem dX8_positionOf_5 : decode cX8_positionOf 5 = .ok (.goto 4, 3) := by decide +kernel
theorem dX8_positionOf_8 : decode cX8_positionOf 8 = .ok (.iload_n 3, 1) := by decide +kernel
theorem dX8_positionOf_9 : decode cX8_positionOf 9 = .ok (.istore 5, 2) := by decide +kernel
theorem dX8_positionOf_11 : decode cX8_positionOf 11 = .ok (.iload 5, 2) := by decide +kernel
theorem dX8_positionOf_13 : decode cX8_positionOf 13 = .ok (.iload 4, 2) := by decide +kernel
theorem dX8_positionOf_15 : decode cX8_positionOf 15 = .ok (.if_icmp .gt 34, 3) := by decide +kernel
theorem dX8_positionOf_18 : decode cX8_positionOf 18 = .ok (.iload 5, 2) := by decide +kernel
theorem dX8_positionOf_20 : decode cX8_positionOf 20 = .ok (.aload_n 0, 1) := by decide +kernel
theorem dX8_positionOf_21 : decode cX8_positionOf 21 = .ok (.getfield 22, 3) := by decide +kernel
theorem dX8_positionOf_24 : decode cX8_positionOf 24 = .ok (.arraylength, 1) := by decide +kernel
theorem dX8_positionOf_25 : decode cX8_positionOf 25 = .ok (.if_icmp .ge 24, 3) := by decide +kernel
theorem dX8_positionOf_28 : decode cX8_positionOf 28 = .ok (.aload_n 0, 1) := by decide +kernel
theorem dX8_positionOf_29 : decode cX8_positionOf 29 = .ok (.getfield 22, 3) := by decide +kernel
theorem dX8_positionOf_32 : decode cX8_positionOf 32 = .ok (.iload 5, 2) := by decide +kernel
theorem dX8_positionOf_34 : decode cX8_positionOf 34 = .ok (.laload, 1) := by decide +kernel
theorem dX8_positionOf_35 : decode cX8_positionOf 35 = .ok (.lload_n 1, 1) := by decide +kernel
theorem dX8_positionOf_36 : decode cX8_positionOf 36 = .ok (.lcmp, 1) := by decide +kernel
theorem dX8_positionOf_37 : decode cX8_positionOf 37 = .ok (.ifCond .ne 6, 3) := by decide +kernel
theorem dX8_positionOf_40 : decode cX8_positionOf 40 = .ok (.iload 5, 2) := by decide +kernel
theorem dX8_positionOf_42 : decode cX8_positionOf 42 = .ok (.ireturn, 1) := by decide +kernel
theorem dX8_positionOf_43 : decode cX8_positionOf 43 = .ok (.iinc 5 1, 3) := by decide +kernel
theorem dX8_positionOf_46 : decode cX8_positionOf 46 = .ok (.goto (-35), 3) := by decide +kernel
theorem dX8_positionOf_49 : decode cX8_positionOf 49 = .ok (.iconst (-1), 1) := by decide +kernel
theorem dX8_positionOf_50 : decode cX8_positionOf 50 = .ok (.ireturn, 1) := by decide +kernel
theorem dX9_init_0 : decode cX9_init 0 = .ok (.aload_n 0, 1) := by decide +kernel
theorem dX9_init_1 : decode cX9_init 1 = .ok (.invokespecial 3, 3) := by decide +kernel
theorem dX9_init_4 : decode cX9_init 4 = .ok (.aload_n 0, 1) := by decide +kernel
theorem dX9_init_5 : decode cX9_init 5 = .ok (.bipush 16, 2) := by decide +kernel
theorem dX9_init_7 : decode cX9_init 7 = .ok (.anewarray 9, 3) := by decide +kernel
theorem dX9_init_10 : decode cX9_init 10 = .ok (.putfield 11, 3) := by decide +kernel
theorem dX9_init_13 : decode cX9_init 13 = .ok (.aload_n 0, 1) := by decide +kernel
theorem dX9_init_14 : decode cX9_init 14 = .ok (.sipush 400, 3) := by decide +kernel
theorem dX9_init_17 : decode cX9_init 17 = .ok (.anewarray 17, 3) := by decide +kernel
theorem dX9_init_20 : decode cX9_init 20 = .ok (.putfield 19, 3) := by decide +kernel
theorem dX9_init_23 : decode cX9_init 23 = .ok (.aload_n 0, 1) := by decide +kernel
theorem dX9_init_24 : decode cX9_init 24 = .ok (.sipush 400, 3) := by decide +kernel
theorem dX9_init_27 : decode cX9_init 27 = .ok (.newarray .boolean, 2) := by decide +kernel
theorem dX9_init_29 : decode cX9_init 29 = .ok (.putfield 23, 3) := by decide +kernel
theorem dX9_init_32 : decode cX9_init 32 = .ok (.return_, 1) := by decide +kernel
theorem dX9_take_0 : decode cX9_take 0 = .ok (.aload_n 0, 1) := by decide +kernel
theorem dX9_take_1 : decode cX9_take 1 = .ok (.iconst 1, 1) := by decide +kernel
theorem dX9_take_2 : decode cX9_take 2 = .ok (.putfield 27, 3) := by decide +kernel
theorem dX9_take_5 : decode cX9_take 5 = .ok (.aload_n 0, 1) := by decide +kernel
theorem dX9_take_6 : decode cX9_take 6 = .ok (.iconst 0, 1) := by decide +kernel
theorem dX9_take_7 : decode cX9_take 7 = .ok (.putfield 31, 3) := by decide +kernel
theorem dX9_take_10 : decode cX9_take 10 = .ok (.aload_n 0, 1) := by decide +kernel
theorem dX9_take_11 : decode cX9_take 11 = .ok (.iconst 0, 1) := by decide +kernel
theorem dX9_take_12 : decode cX9_take 12 = .ok (.putfield 35, 3) := by decide +kernel
theorem dX9_take_15 : decode cX9_take 15 = .ok (.aload_n 0, 1) := by decide +kernel
theorem dX9_take_16 : decode cX9_take 16 = .ok (.iconst 0, 1) := by decide +kernel
theorem dX9_take_17 : decode cX9_take 17 = .ok (.putfield 38, 3) := by decide +kernel
theorem dX9_take_20 : decode cX9_take 20 = .ok (.iconst 0, 1) := by decide +kernel
theorem dX9_take_21 : decode cX9_take 21 = .ok (.istore_n 3, 1) := by decide +kernel
theorem dX9_take_22 : decode cX9_take 22 = .ok (.iload_n 3, 1) := by decide +kernel
theorem dX9_take_23 : decode cX9_take 23 = .ok (.iload_n 2, 1) := by decide +kernel
theorem dX9_take_24 : decode cX9_take 24 = .ok (.if_icmp .ge 61, 3) := by decide +kernel
theorem dX9_take_27 : decode cX9_take 27 = .ok (.iload_n 3, 1) := by decide +kernel
theorem dX9_take_28 : decode cX9_take 28 = .ok (.aload_n 1, 1) := by decide +kernel
theorem dX9_take_29 : decode cX9_take 29 = .ok (.arraylength, 1) := by decide +kernel
theorem dX9_take_30 : decode cX9_take 30 = .ok (.if_icmp .ge 55, 3) := by decide +kernel
theorem dX9_take_33 : decode cX9_take 33 = .ok (.iload_n 3, 1) := by decide +kernel
theorem dX9_take_34 : decode cX9_take 34 = .ok (.bipush 16, 2) := by decide +kernel
theorem dX9_take_36 : decode cX9_take 36 = .ok (.if_icmp .ge 49, 3) := by decide +kernel
theorem dX9_take_39 : decode cX9_take 39 = .ok (.aload_n 1, 1) := by decide +kernel
theorem dX9_take_40 : decode cX9_take 40 = .ok (.iload_n 3, 1) := by decide +kernel
theorem dX9_take_41 : decode cX9_take 41 = .ok (.aaload, 1) := by decide +kernel
theorem dX9_take_42 : decode cX9_take 42 = .ok (.astore 4, 2) := by decide +kernel
theorem dX9_take_44 : decode cX9_take 44 = .ok (.aload 4, 2) := by decide +kernel
theorem dX9_take_46 : decode cX9_take 46 = .ok (.ifnull 33, 3) := by decide +kernel
theorem dX9_take_49 : decode cX9_take 49 = .ok (.aload_n 0, 1) := by decide +kernel
theorem dX9_take_50 : decode cX9_take 50 = .ok (.getfield 11, 3) := by decide +kernel
theorem dX9_take_53 : decode cX9_take 53 = .ok (.aload_n 0, 1) := by decide +kernel
theorem dX9_take_54 : decode cX9_take 54 = .ok (.getfield 31, 3) := by decide +kernel
theorem dX9_take_57 : decode cX9_take 57 = .ok (.aload 4, 2) := by decide +kernel
theorem dX9_take_59 : decode cX9_take 59 = .ok (.aastore, 1) := by decide +kernel
theorem dX9_take_60 : decode cX9_take 60 = .ok (.aload_n 0, 1) := by decide +kernel
theorem dX9_take_61 : decode cX9_take 61 = .ok (.dup, 1) := by decide +kernel
theorem dX9_take_62 : decode cX9_take 62 = .ok (.getfield 31, 3) := by decide +kernel
theorem dX9_take_65 : decode cX9_take 65 = .ok (.iconst 1, 1) := by decide +kernel
theorem dX9_take_66 : decode cX9_take 66 = .ok (.iadd, 1) := by decide +kernel
theorem dX9_take_67 : decode cX9_take 67 = .ok (.putfield 31, 3) := by decide +kernel
theorem dX9_take_70 : decode cX9_take 70 = .ok (.aload_n 0, 1) := by decide +kernel
theorem dX9_take_71 : decode cX9_take 71 = .ok (.aload 4, 2) := by decide +kernel
theorem dX9_take_73 : decode cX9_take 73 = .ok (.getfield 41, 3) := by decide +kernel
theorem dX9_take_76 : decode cX9_take 76 = .ok (.invokevirtual 42, 3) := by decide +kernel
theorem dX9_take_79 : decode cX9_take 79 = .ok (.iinc 3 1, 3) := by decide +kernel
theorem dX9_take_82 : decode cX9_take 82 = .ok (.goto (-60), 3) := by decide +kernel
theorem dX9_take_85 : decode cX9_take 85 = .ok (.return_, 1) := by decide +kernel
theorem dX9_takeDocuments_0 : decode cX9_takeDocuments 0 = .ok (.iconst 0, 1) := by decide +kernel
theorem dX9_takeDocuments_1 : decode cX9_takeDocuments 1 = .ok (.istore_n 2, 1) := by decide +kernel
theorem dX9_takeDocuments_2 : decode cX9_takeDocuments 2 = .ok (.iload_n 2, 1) := by decide +kernel
theorem dX9_takeDocuments_3 : decode cX9_takeDocuments 3 = .ok (.aload_n 1, 1) := by decide +kernel
theorem dX9_takeDocuments_4 : decode cX9_takeDocuments 4 = .ok (.arraylength, 1) := by decide +kernel
theorem dX9_takeDocuments_5 : decode cX9_takeDocuments 5 = .ok (.if_icmp .ge 77, 3) := by decide +kernel
theorem dX9_takeDocuments_8 : decode cX9_takeDocuments 8 = .ok (.aload_n 0, 1) := by decide +kernel
theorem dX9_takeDocuments_9 : decode cX9_takeDocuments 9 = .ok (.getfield 35, 3) := by decide +kernel
theorem dX9_takeDocuments_12 : decode cX9_takeDocuments 12 = .ok (.sipush 400, 3) := by decide +kernel
theorem dX9_takeDocuments_15 : decode cX9_takeDocuments 15 = .ok (.if_icmp .ge 67, 3) := by decide +kernel
theorem dX9_takeDocuments_18 : decode cX9_takeDocuments 18 = .ok (.aload_n 1, 1) := by decide +kernel
theorem dX9_takeDocuments_19 : decode cX9_takeDocuments 19 = .ok (.iload_n 2, 1) := by decide +kernel
theorem dX9_takeDocuments_20 : decode cX9_takeDocuments 20 = .ok (.aaload, 1) := by decide +kernel
theorem dX9_takeDocuments_21 : decode cX9_takeDocuments 21 = .ok (.astore_n 3, 1) := by decide +kernel
theorem dX9_takeDocuments_22 : decode cX9_takeDocuments 22 = .ok (.aload_n 3, 1) := by decide +kernel
theorem dX9_takeDocuments_23 : decode cX9_takeDocuments 23 = .ok (.ifnull 53, 3) := by decide +kernel
theorem dX9_takeDocuments_26 : decode cX9_takeDocuments 26 = .ok (.aload_n 0, 1) := by decide +kernel
theorem dX9_takeDocuments_27 : decode cX9_takeDocuments 27 = .ok (.getfield 19, 3) := by decide +kernel
theorem dX9_takeDocuments_30 : decode cX9_takeDocuments 30 = .ok (.aload_n 0, 1) := by decide +kernel
theorem dX9_takeDocuments_31 : decode cX9_takeDocuments 31 = .ok (.getfield 35, 3) := by decide +kernel
theorem dX9_takeDocuments_34 : decode cX9_takeDocuments 34 = .ok (.aload_n 3, 1) := by decide +kernel
theorem dX9_takeDocuments_35 : decode cX9_takeDocuments 35 = .ok (.aastore, 1) := by decide +kernel
theorem dX9_takeDocuments_36 : decode cX9_takeDocuments 36 = .ok (.aload_n 0, 1) := by decide +kernel
theorem dX9_takeDocuments_37 : decode cX9_takeDocuments 37 = .ok (.getfield 23, 3) := by decide +kernel
theorem dX9_takeDocuments_40 : decode cX9_takeDocuments 40 = .ok (.aload_n 0, 1) := by decide +kernel
theorem dX9_takeDocuments_41 : decode cX9_takeDocuments 41 = .ok (.getfield 35, 3) := by decide +kernel
theorem dX9_takeDocuments_44 : decode cX9_takeDocuments 44 = .ok (.aload_n 3, 1) := by decide +kernel
theorem dX9_takeDocuments_45 : decode cX9_takeDocuments 45 = .ok (.getfield 46, 3) := by decide +kernel
theorem dX9_takeDocuments_48 : decode cX9_takeDocuments 48 = .ok (.bastore, 1) := by decide +kernel
theorem dX9_takeDocuments_49 : decode cX9_takeDocuments 49 = .ok (.aload_n 0, 1) := by decide +kernel
theorem dX9_takeDocuments_50 : decode cX9_takeDocuments 50 = .ok (.dup, 1) := by decide +kernel
theorem dX9_takeDocuments_51 : decode cX9_takeDocuments 51 = .ok (.getfield 35, 3) := by decide +kernel
theorem dX9_takeDocuments_54 : decode cX9_takeDocuments 54 = .ok (.iconst 1, 1) := by decide +kernel
theorem dX9_takeDocuments_55 : decode cX9_takeDocuments 55 = .ok (.iadd, 1) := by decide +kernel
theorem dX9_takeDocuments_56 : decode cX9_takeDocuments 56 = .ok (.putfield 35, 3) := by decide +kernel
theorem dX9_takeDocuments_59 : decode cX9_takeDocuments 59 = .ok (.aload_n 3, 1) := by decide +kernel
theorem dX9_takeDocuments_60 : decode cX9_takeDocuments 60 = .ok (.getfield 46, 3) := by decide +kernel
theorem dX9_takeDocuments_63 : decode cX9_takeDocuments 63 = .ok (.ifCond .ne 13, 3) := by decide +kernel
theorem dX9_takeDocuments_66 : decode cX9_takeDocuments 66 = .ok (.aload_n 0, 1) := by decide +kernel
theorem dX9_takeDocuments_67 : decode cX9_takeDocuments 67 = .ok (.dup, 1) := by decide +kernel
theorem dX9_takeDocuments_68 : decode cX9_takeDocuments 68 = .ok (.getfield 38, 3) := by decide +kernel
theorem dX9_takeDocuments_71 : decode cX9_takeDocuments 71 = .ok (.iconst 1, 1) := by decide +kernel
theorem dX9_takeDocuments_72 : decode cX9_takeDocuments 72 = .ok (.iadd, 1) := by decide +kernel
theorem dX9_takeDocuments_73 : decode cX9_takeDocuments 73 = .ok (.putfield 38, 3) := by decide +kernel
theorem dX9_takeDocuments_76 : decode cX9_takeDocuments 76 = .ok (.iinc 2 1, 3) := by decide +kernel
theorem dX9_takeDocuments_79 : decode cX9_takeDocuments 79 = .ok (.goto (-77), 3) := by decide +kernel
theorem dX9_takeDocuments_82 : decode cX9_takeDocuments 82 = .ok (.return_, 1) := by decide +kernel
theorem dX9_liveAt_0 : decode cX9_liveAt 0 = .ok (.iload_n 1, 1) := by decide +kernel
theorem dX9_liveAt_1 : decode cX9_liveAt 1 = .ok (.ifCond .lt 29, 3) := by decide +kernel
theorem dX9_liveAt_4 : decode cX9_liveAt 4 = .ok (.iload_n 1, 1) := by decide +kernel
theorem dX9_liveAt_5 : decode cX9_liveAt 5 = .ok (.aload_n 0, 1) := by decide +kernel
theorem dX9_liveAt_6 : decode cX9_liveAt 6 = .ok (.getfield 35, 3) := by decide +kernel
theorem dX9_liveAt_9 : decode cX9_liveAt 9 = .ok (.if_icmp .ge 21, 3) := by decide +kernel
theorem dX9_liveAt_12 : decode cX9_liveAt 12 = .ok (.aload_n 0, 1) := by decide +kernel
theorem dX9_liveAt_13 : decode cX9_liveAt 13 = .ok (.getfield 23, 3) := by decide +kernel
theorem dX9_liveAt_16 : decode cX9_liveAt 16 = .ok (.iload_n 1, 1) := by decide +kernel
theorem dX9_liveAt_17 : decode cX9_liveAt 17 = .ok (.baload, 1) := by decide +kernel
theorem dX9_liveAt_18 : decode cX9_liveAt 18 = .ok (.ifCond .ne 12, 3) := by decide +kernel
theorem dX9_liveAt_21 : decode cX9_liveAt 21 = .ok (.aload_n 0, 1) := by decide +kernel
theorem dX9_liveAt_22 : decode cX9_liveAt 22 = .ok (.getfield 19, 3) := by decide +kernel
theorem dX9_liveAt_25 : decode cX9_liveAt 25 = .ok (.iload_n 1, 1) := by decide +kernel
theorem dX9_liveAt_26 : decode cX9_liveAt 26 = .ok (.aaload, 1) := by decide +kernel
theorem dX9_liveAt_27 : decode cX9_liveAt 27 = .ok (.goto 4, 3) := by decide +kernel
theorem dX9_liveAt_30 : decode cX9_liveAt 30 = .ok (.aconst_null, 1) := by decide +kernel
theorem dX9_liveAt_31 : decode cX9_liveAt 31 = .ok (.areturn, 1) := by decide +kernel
theorem dX9_termsOf_0 : decode cX9_termsOf 0 = .ok (.iload_n 1, 1) := by decide +kernel
theorem dX9_termsOf_1 : decode cX9_termsOf 1 = .ok (.ifCond .lt 20, 3) := by decide +kernel
theorem dX9_termsOf_4 : decode cX9_termsOf 4 = .ok (.iload_n 1, 1) := by decide +kernel
theorem dX9_termsOf_5 : decode cX9_termsOf 5 = .ok (.aload_n 0, 1) := by decide +kernel
theorem dX9_termsOf_6 : decode cX9_termsOf 6 = .ok (.getfield 31, 3) := by decide +kernel
theorem dX9_termsOf_9 : decode cX9_termsOf 9 = .ok (.if_icmp .ge 12, 3) := by decide +kernel
theorem dX9_termsOf_12 : decode cX9_termsOf 12 = .ok (.aload_n 0, 1) := by decide +kernel
theorem dX9_termsOf_13 : decode cX9_termsOf 13 = .ok (.getfield 11, 3) := by decide +kernel
theorem dX9_termsOf_16 : decode cX9_termsOf 16 = .ok (.iload_n 1, 1) := by decide +kernel
theorem dX9_termsOf_17 : decode cX9_termsOf 17 = .ok (.aaload, 1) := by decide +kernel
theorem dX9_termsOf_18 : decode cX9_termsOf 18 = .ok (.ifnonnull 5, 3) := by decide +kernel
theorem dX9_termsOf_21 : decode cX9_termsOf 21 = .ok (.aconst_null, 1) := by decide +kernel
theorem dX9_termsOf_22 : decode cX9_termsOf 22 = .ok (.areturn, 1) := by decide +kernel
theorem dX9_termsOf_23 : decode cX9_termsOf 23 = .ok (.aload_n 0, 1) := by decide +kernel
theorem dX9_termsOf_24 : decode cX9_termsOf 24 = .ok (.getfield 11, 3) := by decide +kernel
theorem dX9_termsOf_27 : decode cX9_termsOf 27 = .ok (.iload_n 1, 1) := by decide +kernel
theorem dX9_termsOf_28 : decode cX9_termsOf 28 = .ok (.aaload, 1) := by decide +kernel
theorem dX9_termsOf_29 : decode cX9_termsOf 29 = .ok (.iload_n 2, 1) := by decide +kernel
theorem dX9_termsOf_30 : decode cX9_termsOf 30 = .ok (.invokevirtual 49, 3) := by decide +kernel
theorem dX9_termsOf_33 : decode cX9_termsOf 33 = .ok (.areturn, 1) := by decide +kernel
theorem dX9_holders_0 : decode cX9_holders 0 = .ok (.iconst 0, 1) := by decide +kernel
theorem dX9_holders_1 : decode cX9_holders 1 = .ok (.istore 4, 2) := by decide +kernel
theorem dX9_holders_3 : decode cX9_holders 3 = .ok (.iconst 0, 1) := by decide +kernel
theorem dX9_holders_4 : decode cX9_holders 4 = .ok (.istore 5, 2) := by decide +kernel
theorem dX9_holders_6 : decode cX9_holders 6 = .ok (.iload 5, 2) := by decide +kernel
theorem dX9_holders_8 : decode cX9_holders 8 = .ok (.aload_n 0, 1) := by decide +kernel
theorem dX9_holders_9 : decode cX9_holders 9 = .ok (.getfield 31, 3) := by decide +kernel
theorem dX9_holders_12 : decode cX9_holders 12 = .ok (.if_icmp .ge 34, 3) := by decide +kernel
theorem dX9_holders_15 : decode cX9_holders 15 = .ok (.aload_n 0, 1) := by decide +kernel
theorem dX9_holders_16 : decode cX9_holders 16 = .ok (.iload 5, 2) := by decide +kernel
theorem dX9_holders_18 : decode cX9_holders 18 = .ok (.iload_n 1, 1) := by decide +kernel
theorem dX9_holders_19 : decode cX9_holders 19 = .ok (.invokevirtual 53, 3) := by decide +kernel
theorem dX9_holders_22 : decode cX9_holders 22 = .ok (.astore 6, 2) := by decide +kernel
theorem dX9_holders_24 : decode cX9_holders 24 = .ok (.aload 6, 2) := by decide +kernel
theorem dX9_holders_26 : decode cX9_holders 26 = .ok (.ifnull 14, 3) := by decide +kernel
theorem dX9_holders_29 : decode cX9_holders 29 = .ok (.iload 4, 2) := by decide +kernel
theorem dX9_holders_31 : decode cX9_holders 31 = .ok (.aload 6, 2) := by decide +kernel
theorem dX9_holders_33 : decode cX9_holders 33 = .ok (.lload_n 2, 1) := by decide +kernel
theorem dX9_holders_34 : decode cX9_holders 34 = .ok (.invokevirtual 56, 3) := by decide +kernel
theorem dX9_holders_37 : decode cX9_holders 37 = .ok (.iadd, 1) := by decide +kernel
theorem dX9_holders_38 : decode cX9_holders 38 = .ok (.istore 4, 2) := by decide +kernel
theorem dX9_holders_40 : decode cX9_holders 40 = .ok (.iinc 5 1, 3) := by decide +kernel
theorem dX9_holders_43 : decode cX9_holders 43 = .ok (.goto (-37), 3) := by decide +kernel
theorem dX9_holders_46 : decode cX9_holders 46 = .ok (.iload 4, 2) := by decide +kernel
theorem dX9_holders_48 : decode cX9_holders 48 = .ok (.ireturn, 1) := by decide +kernel
theorem dX9_rareness_0 : decode cX9_rareness 0 = .ok (.aload_n 0, 1) := by decide +kernel
theorem dX9_rareness_1 : decode cX9_rareness 1 = .ok (.iload_n 1, 1) := by decide +kernel
theorem dX9_rareness_2 : decode cX9_rareness 2 = .ok (.lload_n 2, 1) := by decide +kernel
theorem dX9_rareness_3 : decode cX9_rareness 3 = .ok (.invokevirtual 62, 3) := by decide +kernel
theorem dX9_rareness_6 : decode cX9_rareness 6 = .ok (.istore 4, 2) := by decide +kernel
theorem dX9_rareness_8 : decode cX9_rareness 8 = .ok (.iload 4, 2) := by decide +kernel
theorem dX9_rareness_10 : decode cX9_rareness 10 = .ok (.iconst 1, 1) := by decide +kernel
theorem dX9_rareness_11 : decode cX9_rareness 11 = .ok (.if_icmp .ge 5, 3) := by decide +kernel
theorem dX9_rareness_14 : decode cX9_rareness 14 = .ok (.iconst 0, 1) := by decide +kernel
theorem dX9_rareness_15 : decode cX9_rareness 15 = .ok (.ireturn, 1) := by decide +kernel
theorem dX9_rareness_16 : decode cX9_rareness 16 = .ok (.iconst 0, 1) := by decide +kernel
theorem dX9_rareness_17 : decode cX9_rareness 17 = .ok (.istore 5, 2) := by decide +kernel
theorem dX9_rareness_19 : decode cX9_rareness 19 = .ok (.iload 5, 2) := by decide +kernel
theorem dX9_rareness_21 : decode cX9_rareness 21 = .ok (.bipush 30, 2) := by decide +kernel
theorem dX9_rareness_23 : decode cX9_rareness 23 = .ok (.if_icmp .ge 23, 3) := by decide +kernel
theorem dX9_rareness_26 : decode cX9_rareness 26 = .ok (.aload_n 0, 1) := by decide +kernel
theorem dX9_rareness_27 : decode cX9_rareness 27 = .ok (.getfield 35, 3) := by decide +kernel
theorem dX9_rareness_30 : decode cX9_rareness 30 = .ok (.iload 5, 2) := by decide +kernel
theorem dX9_rareness_32 : decode cX9_rareness 32 = .ok (.iconst 1, 1) := by decide +kernel
theorem dX9_rareness_33 : decode cX9_rareness 33 = .ok (.iadd, 1) := by decide +kernel
theorem dX9_rareness_34 : decode cX9_rareness 34 = .ok (.ishr, 1) := by decide +kernel
theorem dX9_rareness_35 : decode cX9_rareness 35 = .ok (.iload 4, 2) := by decide +kernel
theorem dX9_rareness_37 : decode cX9_rareness 37 = .ok (.if_icmp .lt 9, 3) := by decide +kernel
theorem dX9_rareness_40 : decode cX9_rareness 40 = .ok (.iinc 5 1, 3) := by decide +kernel
theorem dX9_rareness_43 : decode cX9_rareness 43 = .ok (.goto (-24), 3) := by decide +kernel
theorem dX9_rareness_46 : decode cX9_rareness 46 = .ok (.iconst 1, 1) := by decide +kernel
theorem dX9_rareness_47 : decode cX9_rareness 47 = .ok (.iload 5, 2) := by decide +kernel
theorem dX9_rareness_49 : decode cX9_rareness 49 = .ok (.iadd, 1) := by decide +kernel
theorem dX9_rareness_50 : decode cX9_rareness 50 = .ok (.ireturn, 1) := by decide +kernel
