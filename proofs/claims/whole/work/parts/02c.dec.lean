/-! decode rows (the claim's printed text) -/
theorem dX12_isToken_11 : decode cX12_isToken 11 = .ok (.iaload, 1) := by decide +kernel
theorem dX12_isToken_12 : decode cX12_isToken 12 = .ok (.if_icmp .ne 16, 3) := by decide +kernel
theorem dX12_isToken_15 : decode cX12_isToken 15 = .ok (.aload_n 0, 1) := by decide +kernel
theorem dX12_isToken_16 : decode cX12_isToken 16 = .ok (.getfield 37, 3) := by decide +kernel
theorem dX12_isToken_19 : decode cX12_isToken 19 = .ok (.iload_n 1, 1) := by decide +kernel
theorem dX12_isToken_20 : decode cX12_isToken 20 = .ok (.iaload, 1) := by decide +kernel
theorem dX12_isToken_21 : decode cX12_isToken 21 = .ok (.ifCond .le 7, 3) := by decide +kernel
theorem dX12_isToken_24 : decode cX12_isToken 24 = .ok (.iconst 1, 1) := by decide +kernel
theorem dX12_isToken_25 : decode cX12_isToken 25 = .ok (.goto 4, 3) := by decide +kernel
theorem dX12_isToken_28 : decode cX12_isToken 28 = .ok (.iconst 0, 1) := by decide +kernel
theorem dX12_isToken_29 : decode cX12_isToken 29 = .ok (.istore_n 3, 1) := by decide +kernel
theorem dX12_isToken_30 : decode cX12_isToken 30 = .ok (.iconst 0, 1) := by decide +kernel
theorem dX12_isToken_31 : decode cX12_isToken 31 = .ok (.istore 4, 2) := by decide +kernel
theorem dX12_isToken_33 : decode cX12_isToken 33 = .ok (.iload 4, 2) := by decide +kernel
theorem dX12_isToken_35 : decode cX12_isToken 35 = .ok (.aload_n 0, 1) := by decide +kernel
theorem dX12_isToken_36 : decode cX12_isToken 36 = .ok (.getfield 118, 3) := by decide +kernel
theorem dX12_isToken_39 : decode cX12_isToken 39 = .ok (.iload_n 2, 1) := by decide +kernel
theorem dX12_isToken_40 : decode cX12_isToken 40 = .ok (.iaload, 1) := by decide +kernel
theorem dX12_isToken_41 : decode cX12_isToken 41 = .ok (.if_icmp .ge 46, 3) := by decide +kernel
theorem dX12_isToken_44 : decode cX12_isToken 44 = .ok (.iload_n 3, 1) := by decide +kernel
theorem dX12_isToken_45 : decode cX12_isToken 45 = .ok (.ifCond .eq 42, 3) := by decide +kernel
theorem dX12_isToken_48 : decode cX12_isToken 48 = .ok (.aload_n 0, 1) := by decide +kernel
theorem dX12_isToken_49 : decode cX12_isToken 49 = .ok (.getfield 41, 3) := by decide +kernel
theorem dX12_isToken_52 : decode cX12_isToken 52 = .ok (.bipush 12, 2) := by decide +kernel
theorem dX12_isToken_54 : decode cX12_isToken 54 = .ok (.iload_n 1, 1) := by decide +kernel
theorem dX12_isToken_55 : decode cX12_isToken 55 = .ok (.imul, 1) := by decide +kernel
theorem dX12_isToken_56 : decode cX12_isToken 56 = .ok (.iload 4, 2) := by decide +kernel
theorem dX12_isToken_58 : decode cX12_isToken 58 = .ok (.iadd, 1) := by decide +kernel
theorem dX12_isToken_59 : decode cX12_isToken 59 = .ok (.iaload, 1) := by decide +kernel
theorem dX12_isToken_60 : decode cX12_isToken 60 = .ok (.aload_n 0, 1) := by decide +kernel
theorem dX12_isToken_61 : decode cX12_isToken 61 = .ok (.getfield 121, 3) := by decide +kernel
theorem dX12_isToken_64 : decode cX12_isToken 64 = .ok (.bipush 12, 2) := by decide +kernel
theorem dX12_isToken_66 : decode cX12_isToken 66 = .ok (.iload_n 2, 1) := by decide +kernel
theorem dX12_isToken_67 : decode cX12_isToken 67 = .ok (.imul, 1) := by decide +kernel
theorem dX12_isToken_68 : decode cX12_isToken 68 = .ok (.iload 4, 2) := by decide +kernel
theorem dX12_isToken_70 : decode cX12_isToken 70 = .ok (.iadd, 1) := by decide +kernel
theorem dX12_isToken_71 : decode cX12_isToken 71 = .ok (.iaload, 1) := by decide +kernel
theorem dX12_isToken_72 : decode cX12_isToken 72 = .ok (.if_icmp .ne 7, 3) := by decide +kernel
theorem dX12_isToken_75 : decode cX12_isToken 75 = .ok (.iconst 1, 1) := by decide +kernel
theorem dX12_isToken_76 : decode cX12_isToken 76 = .ok (.goto 4, 3) := by decide +kernel
theorem dX12_isToken_79 : decode cX12_isToken 79 = .ok (.iconst 0, 1) := by decide +kernel
theorem dX12_isToken_80 : decode cX12_isToken 80 = .ok (.istore_n 3, 1) := by decide +kernel
theorem dX12_isToken_81 : decode cX12_isToken 81 = .ok (.iinc 4 1, 3) := by decide +kernel
theorem dX12_isToken_84 : decode cX12_isToken 84 = .ok (.goto (-51), 3) := by decide +kernel
theorem dX12_isToken_87 : decode cX12_isToken 87 = .ok (.iload_n 3, 1) := by decide +kernel
theorem dX12_isToken_88 : decode cX12_isToken 88 = .ok (.ireturn, 1) := by decide +kernel
theorem dX12_begins_0 : decode cX12_begins 0 = .ok (.aload_n 0, 1) := by decide +kernel
theorem dX12_begins_1 : decode cX12_begins 1 = .ok (.getfield 37, 3) := by decide +kernel
theorem dX12_begins_4 : decode cX12_begins 4 = .ok (.iload_n 1, 1) := by decide +kernel
theorem dX12_begins_5 : decode cX12_begins 5 = .ok (.iaload, 1) := by decide +kernel
theorem dX12_begins_6 : decode cX12_begins 6 = .ok (.aload_n 0, 1) := by decide +kernel
theorem dX12_begins_7 : decode cX12_begins 7 = .ok (.getfield 118, 3) := by decide +kernel
theorem dX12_begins_10 : decode cX12_begins 10 = .ok (.iload_n 2, 1) := by decide +kernel
theorem dX12_begins_11 : decode cX12_begins 11 = .ok (.iaload, 1) := by decide +kernel
theorem dX12_begins_12 : decode cX12_begins 12 = .ok (.if_icmp .lt 16, 3) := by decide +kernel
theorem dX12_begins_15 : decode cX12_begins 15 = .ok (.aload_n 0, 1) := by decide +kernel
theorem dX12_begins_16 : decode cX12_begins 16 = .ok (.getfield 37, 3) := by decide +kernel
theorem dX12_begins_19 : decode cX12_begins 19 = .ok (.iload_n 1, 1) := by decide +kernel
theorem dX12_begins_20 : decode cX12_begins 20 = .ok (.iaload, 1) := by decide +kernel
theorem dX12_begins_21 : decode cX12_begins 21 = .ok (.ifCond .le 7, 3) := by decide +kernel
theorem dX12_begins_24 : decode cX12_begins 24 = .ok (.iconst 1, 1) := by decide +kernel
theorem dX12_begins_25 : decode cX12_begins 25 = .ok (.goto 4, 3) := by decide +kernel
theorem dX12_begins_28 : decode cX12_begins 28 = .ok (.iconst 0, 1) := by decide +kernel
theorem dX12_begins_29 : decode cX12_begins 29 = .ok (.istore_n 3, 1) := by decide +kernel
theorem dX12_begins_30 : decode cX12_begins 30 = .ok (.iconst 0, 1) := by decide +kernel
theorem dX12_begins_31 : decode cX12_begins 31 = .ok (.istore 4, 2) := by decide +kernel
theorem dX12_begins_33 : decode cX12_begins 33 = .ok (.iload 4, 2) := by decide +kernel
theorem dX12_begins_35 : decode cX12_begins 35 = .ok (.aload_n 0, 1) := by decide +kernel
theorem dX12_begins_36 : decode cX12_begins 36 = .ok (.getfield 118, 3) := by decide +kernel
theorem dX12_begins_39 : decode cX12_begins 39 = .ok (.iload_n 2, 1) := by decide +kernel
theorem dX12_begins_40 : decode cX12_begins 40 = .ok (.iaload, 1) := by decide +kernel
theorem dX12_begins_41 : decode cX12_begins 41 = .ok (.if_icmp .ge 46, 3) := by decide +kernel
theorem dX12_begins_44 : decode cX12_begins 44 = .ok (.iload_n 3, 1) := by decide +kernel
theorem dX12_begins_45 : decode cX12_begins 45 = .ok (.ifCond .eq 42, 3) := by decide +kernel
theorem dX12_begins_48 : decode cX12_begins 48 = .ok (.aload_n 0, 1) := by decide +kernel
theorem dX12_begins_49 : decode cX12_begins 49 = .ok (.getfield 41, 3) := by decide +kernel
theorem dX12_begins_52 : decode cX12_begins 52 = .ok (.bipush 12, 2) := by decide +kernel
theorem dX12_begins_54 : decode cX12_begins 54 = .ok (.iload_n 1, 1) := by decide +kernel
theorem dX12_begins_55 : decode cX12_begins 55 = .ok (.imul, 1) := by decide +kernel
theorem dX12_begins_56 : decode cX12_begins 56 = .ok (.iload 4, 2) := by decide +kernel
theorem dX12_begins_58 : decode cX12_begins 58 = .ok (.iadd, 1) := by decide +kernel
theorem dX12_begins_59 : decode cX12_begins 59 = .ok (.iaload, 1) := by decide +kernel
theorem dX12_begins_60 : decode cX12_begins 60 = .ok (.aload_n 0, 1) := by decide +kernel
theorem dX12_begins_61 : decode cX12_begins 61 = .ok (.getfield 121, 3) := by decide +kernel
theorem dX12_begins_64 : decode cX12_begins 64 = .ok (.bipush 12, 2) := by decide +kernel
theorem dX12_begins_66 : decode cX12_begins 66 = .ok (.iload_n 2, 1) := by decide +kernel
theorem dX12_begins_67 : decode cX12_begins 67 = .ok (.imul, 1) := by decide +kernel
theorem dX12_begins_68 : decode cX12_begins 68 = .ok (.iload 4, 2) := by decide +kernel
theorem dX12_begins_70 : decode cX12_begins 70 = .ok (.iadd, 1) := by decide +kernel
theorem dX12_begins_71 : decode cX12_begins 71 = .ok (.iaload, 1) := by decide +kernel
theorem dX12_begins_72 : decode cX12_begins 72 = .ok (.if_icmp .ne 7, 3) := by decide +kernel
theorem dX12_begins_75 : decode cX12_begins 75 = .ok (.iconst 1, 1) := by decide +kernel
theorem dX12_begins_76 : decode cX12_begins 76 = .ok (.goto 4, 3) := by decide +kernel
theorem dX12_begins_79 : decode cX12_begins 79 = .ok (.iconst 0, 1) := by decide +kernel
theorem dX12_begins_80 : decode cX12_begins 80 = .ok (.istore_n 3, 1) := by decide +kernel
theorem dX12_begins_81 : decode cX12_begins 81 = .ok (.iinc 4 1, 3) := by decide +kernel
theorem dX12_begins_84 : decode cX12_begins 84 = .ok (.goto (-51), 3) := by decide +kernel
theorem dX12_begins_87 : decode cX12_begins 87 = .ok (.iload_n 3, 1) := by decide +kernel
theorem dX12_begins_88 : decode cX12_begins 88 = .ok (.ireturn, 1) := by decide +kernel
theorem dX12_tf_0 : decode cX12_tf 0 = .ok (.iconst 0, 1) := by decide +kernel
theorem dX12_tf_1 : decode cX12_tf 1 = .ok (.istore 4, 2) := by decide +kernel
theorem dX12_tf_3 : decode cX12_tf 3 = .ok (.iconst 0, 1) := by decide +kernel
theorem dX12_tf_4 : decode cX12_tf 4 = .ok (.istore 5, 2) := by decide +kernel
theorem dX12_tf_6 : decode cX12_tf 6 = .ok (.iload 5, 2) := by decide +kernel
theorem dX12_tf_8 : decode cX12_tf 8 = .ok (.aload_n 0, 1) := by decide +kernel
theorem dX12_tf_9 : decode cX12_tf 9 = .ok (.getfield 27, 3) := by decide +kernel
theorem dX12_tf_12 : decode cX12_tf 12 = .ok (.iconst 2, 1) := by decide +kernel
theorem dX12_tf_13 : decode cX12_tf 13 = .ok (.iload_n 1, 1) := by decide +kernel
theorem dX12_tf_14 : decode cX12_tf 14 = .ok (.imul, 1) := by decide +kernel
theorem dX12_tf_15 : decode cX12_tf 15 = .ok (.iload_n 2, 1) := by decide +kernel
theorem dX12_tf_16 : decode cX12_tf 16 = .ok (.iadd, 1) := by decide +kernel
theorem dX12_tf_17 : decode cX12_tf 17 = .ok (.iaload, 1) := by decide +kernel
theorem dX12_tf_18 : decode cX12_tf 18 = .ok (.if_icmp .ge 35, 3) := by decide +kernel
theorem dX12_tf_21 : decode cX12_tf 21 = .ok (.iload 4, 2) := by decide +kernel
theorem dX12_tf_23 : decode cX12_tf 23 = .ok (.aload_n 0, 1) := by decide +kernel
theorem dX12_tf_24 : decode cX12_tf 24 = .ok (.iload_n 1, 1) := by decide +kernel
theorem dX12_tf_25 : decode cX12_tf 25 = .ok (.iload_n 2, 1) := by decide +kernel
theorem dX12_tf_26 : decode cX12_tf 26 = .ok (.invokestatic 189, 3) := by decide +kernel
theorem dX12_tf_29 : decode cX12_tf 29 = .ok (.iload 5, 2) := by decide +kernel
theorem dX12_tf_31 : decode cX12_tf 31 = .ok (.iadd, 1) := by decide +kernel
theorem dX12_tf_32 : decode cX12_tf 32 = .ok (.iload_n 3, 1) := by decide +kernel
theorem dX12_tf_33 : decode cX12_tf 33 = .ok (.invokevirtual 323, 3) := by decide +kernel
theorem dX12_tf_36 : decode cX12_tf 36 = .ok (.ifCond .eq 7, 3) := by decide +kernel
theorem dX12_tf_39 : decode cX12_tf 39 = .ok (.iconst 1, 1) := by decide +kernel
theorem dX12_tf_40 : decode cX12_tf 40 = .ok (.goto 4, 3) := by decide +kernel
theorem dX12_tf_43 : decode cX12_tf 43 = .ok (.iconst 0, 1) := by decide +kernel
theorem dX12_tf_44 : decode cX12_tf 44 = .ok (.iadd, 1) := by decide +kernel
theorem dX12_tf_45 : decode cX12_tf 45 = .ok (.istore 4, 2) := by decide +kernel
theorem dX12_tf_47 : decode cX12_tf 47 = .ok (.iinc 5 1, 3) := by decide +kernel
theorem dX12_tf_50 : decode cX12_tf 50 = .ok (.goto (-44), 3) := by decide +kernel
theorem dX12_tf_53 : decode cX12_tf 53 = .ok (.iload 4, 2) := by decide +kernel
theorem dX12_tf_55 : decode cX12_tf 55 = .ok (.ireturn, 1) := by decide +kernel
theorem dX12_df_0 : decode cX12_df 0 = .ok (.iconst 0, 1) := by decide +kernel
theorem dX12_df_1 : decode cX12_df 1 = .ok (.istore 4, 2) := by decide +kernel
theorem dX12_df_3 : decode cX12_df 3 = .ok (.iconst 0, 1) := by decide +kernel
theorem dX12_df_4 : decode cX12_df 4 = .ok (.istore 5, 2) := by decide +kernel
theorem dX12_df_6 : decode cX12_df 6 = .ok (.iload 5, 2) := by decide +kernel
theorem dX12_df_8 : decode cX12_df 8 = .ok (.aload_n 0, 1) := by decide +kernel
theorem dX12_df_9 : decode cX12_df 9 = .ok (.getfield 63, 3) := by decide +kernel
theorem dX12_df_12 : decode cX12_df 12 = .ok (.iload_n 1, 1) := by decide +kernel
theorem dX12_df_13 : decode cX12_df 13 = .ok (.iaload, 1) := by decide +kernel
theorem dX12_df_14 : decode cX12_df 14 = .ok (.if_icmp .ge 41, 3) := by decide +kernel
theorem dX12_df_17 : decode cX12_df 17 = .ok (.iload 4, 2) := by decide +kernel
theorem dX12_df_19 : decode cX12_df 19 = .ok (.aload_n 0, 1) := by decide +kernel
theorem dX12_df_20 : decode cX12_df 20 = .ok (.aload_n 0, 1) := by decide +kernel
theorem dX12_df_21 : decode cX12_df 21 = .ok (.getfield 66, 3) := by decide +kernel
theorem dX12_df_24 : decode cX12_df 24 = .ok (.sipush 400, 3) := by decide +kernel
theorem dX12_df_27 : decode cX12_df 27 = .ok (.iload_n 1, 1) := by decide +kernel
theorem dX12_df_28 : decode cX12_df 28 = .ok (.imul, 1) := by decide +kernel
theorem dX12_df_29 : decode cX12_df 29 = .ok (.iload 5, 2) := by decide +kernel
theorem dX12_df_31 : decode cX12_df 31 = .ok (.iadd, 1) := by decide +kernel
theorem dX12_df_32 : decode cX12_df 32 = .ok (.iaload, 1) := by decide +kernel
theorem dX12_df_33 : decode cX12_df 33 = .ok (.iload_n 2, 1) := by decide +kernel
theorem dX12_df_34 : decode cX12_df 34 = .ok (.iload_n 3, 1) := by decide +kernel
theorem dX12_df_35 : decode cX12_df 35 = .ok (.invokevirtual 327, 3) := by decide +kernel
theorem dX12_df_38 : decode cX12_df 38 = .ok (.ifCond .le 7, 3) := by decide +kernel
theorem dX12_df_41 : decode cX12_df 41 = .ok (.iconst 1, 1) := by decide +kernel
theorem dX12_df_42 : decode cX12_df 42 = .ok (.goto 4, 3) := by decide +kernel
theorem dX12_df_45 : decode cX12_df 45 = .ok (.iconst 0, 1) := by decide +kernel
theorem dX12_df_46 : decode cX12_df 46 = .ok (.iadd, 1) := by decide +kernel
theorem dX12_df_47 : decode cX12_df 47 = .ok (.istore 4, 2) := by decide +kernel
theorem dX12_df_49 : decode cX12_df 49 = .ok (.iinc 5 1, 3) := by decide +kernel
theorem dX12_df_52 : decode cX12_df 52 = .ok (.goto (-46), 3) := by decide +kernel
theorem dX12_df_55 : decode cX12_df 55 = .ok (.iload 4, 2) := by decide +kernel
theorem dX12_df_57 : decode cX12_df 57 = .ok (.ireturn, 1) := by decide +kernel
theorem dX12_rare_0 : decode cX12_rare 0 = .ok (.aload_n 0, 1) := by decide +kernel
theorem dX12_rare_1 : decode cX12_rare 1 = .ok (.aload_n 0, 1) := by decide +kernel
theorem dX12_rare_2 : decode cX12_rare 2 = .ok (.getfield 331, 3) := by decide +kernel
theorem dX12_rare_5 : decode cX12_rare 5 = .ok (.iload_n 1, 1) := by decide +kernel
theorem dX12_rare_6 : decode cX12_rare 6 = .ok (.iload_n 2, 1) := by decide +kernel
theorem dX12_rare_7 : decode cX12_rare 7 = .ok (.invokevirtual 334, 3) := by decide +kernel
theorem dX12_rare_10 : decode cX12_rare 10 = .ok (.istore_n 3, 1) := by decide +kernel
theorem dX12_rare_11 : decode cX12_rare 11 = .ok (.iconst 0, 1) := by decide +kernel
theorem dX12_rare_12 : decode cX12_rare 12 = .ok (.istore 4, 2) := by decide +kernel
theorem dX12_rare_14 : decode cX12_rare 14 = .ok (.aload_n 0, 1) := by decide +kernel
theorem dX12_rare_15 : decode cX12_rare 15 = .ok (.getfield 63, 3) := by decide +kernel
theorem dX12_rare_18 : decode cX12_rare 18 = .ok (.aload_n 0, 1) := by decide +kernel
theorem dX12_rare_19 : decode cX12_rare 19 = .ok (.getfield 331, 3) := by decide +kernel
theorem dX12_rare_22 : decode cX12_rare 22 = .ok (.iaload, 1) := by decide +kernel
theorem dX12_rare_23 : decode cX12_rare 23 = .ok (.iload 4, 2) := by decide +kernel
theorem dX12_rare_25 : decode cX12_rare 25 = .ok (.iconst 1, 1) := by decide +kernel
theorem dX12_rare_26 : decode cX12_rare 26 = .ok (.iadd, 1) := by decide +kernel
theorem dX12_rare_27 : decode cX12_rare 27 = .ok (.ishr, 1) := by decide +kernel
theorem dX12_rare_28 : decode cX12_rare 28 = .ok (.iload_n 3, 1) := by decide +kernel
theorem dX12_rare_29 : decode cX12_rare 29 = .ok (.if_icmp .lt 9, 3) := by decide +kernel
theorem dX12_rare_32 : decode cX12_rare 32 = .ok (.iinc 4 1, 3) := by decide +kernel
theorem dX12_rare_35 : decode cX12_rare 35 = .ok (.goto (-21), 3) := by decide +kernel
theorem dX12_rare_38 : decode cX12_rare 38 = .ok (.iconst 1, 1) := by decide +kernel
theorem dX12_rare_39 : decode cX12_rare 39 = .ok (.iload 4, 2) := by decide +kernel
theorem dX12_rare_41 : decode cX12_rare 41 = .ok (.iadd, 1) := by decide +kernel
theorem dX12_rare_42 : decode cX12_rare 42 = .ok (.ireturn, 1) := by decide +kernel
theorem dX12_least_0 : decode cX12_least 0 = .ok (.lload_n 0, 1) := by decide +kernel
theorem dX12_least_1 : decode cX12_least 1 = .ok (.ldc2_w 337, 3) := by decide +kernel
theorem dX12_least_4 : decode cX12_least 4 = .ok (.lcmp, 1) := by decide +kernel
theorem dX12_least_5 : decode cX12_least 5 = .ok (.ifCond .le 9, 3) := by decide +kernel
theorem dX12_least_8 : decode cX12_least 8 = .ok (.ldc_w 339, 3) := by decide +kernel
theorem dX12_least_11 : decode cX12_least 11 = .ok (.goto 5, 3) := by decide +kernel
theorem dX12_least_14 : decode cX12_least 14 = .ok (.lload_n 0, 1) := by decide +kernel
theorem dX12_least_15 : decode cX12_least 15 = .ok (.l2i, 1) := by decide +kernel
theorem dX12_least_16 : decode cX12_least 16 = .ok (.ireturn, 1) := by decide +kernel
theorem dX12_score_0 : decode cX12_score 0 = .ok (.ldc2_w 340, 3) := by decide +kernel
theorem dX12_score_3 : decode cX12_score 3 = .ok (.iload_n 3, 1) := by decide +kernel
theorem dX12_score_4 : decode cX12_score 4 = .ok (.i2l, 1) := by decide +kernel
theorem dX12_score_5 : decode cX12_score 5 = .ok (.lmul, 1) := by decide +kernel
theorem dX12_score_6 : decode cX12_score 6 = .ok (.invokestatic 342, 3) := by decide +kernel
theorem dX12_score_9 : decode cX12_score 9 = .ok (.i2l, 1) := by decide +kernel
theorem dX12_score_10 : decode cX12_score 10 = .ok (.iload 4, 2) := by decide +kernel
theorem dX12_score_12 : decode cX12_score 12 = .ok (.i2l, 1) := by decide +kernel
theorem dX12_score_13 : decode cX12_score 13 = .ok (.lmul, 1) := by decide +kernel
theorem dX12_score_14 : decode cX12_score 14 = .ok (.invokestatic 342, 3) := by decide +kernel
theorem dX12_score_17 : decode cX12_score 17 = .ok (.i2l, 1) := by decide +kernel
theorem dX12_score_18 : decode cX12_score 18 = .ok (.iload_n 2, 1) := by decide +kernel
theorem dX12_score_19 : decode cX12_score 19 = .ok (.ifCond .ne 9, 3) := by decide +kernel
theorem dX12_score_22 : decode cX12_score 22 = .ok (.ldc2_w 345, 3) := by decide +kernel
theorem dX12_score_25 : decode cX12_score 25 = .ok (.goto 4, 3) := by decide +kernel
theorem dX12_score_28 : decode cX12_score 28 = .ok (.lconst 1, 1) := by decide +kernel
theorem dX12_score_29 : decode cX12_score 29 = .ok (.lmul, 1) := by decide +kernel
theorem dX12_score_30 : decode cX12_score 30 = .ok (.invokestatic 342, 3) := by decide +kernel
theorem dX12_score_33 : decode cX12_score 33 = .ok (.i2l, 1) := by decide +kernel
theorem dX12_score_34 : decode cX12_score 34 = .ok (.lstore 5, 2) := by decide +kernel
theorem dX12_score_36 : decode cX12_score 36 = .ok (.lload 5, 2) := by decide +kernel
theorem dX12_score_38 : decode cX12_score 38 = .ok (.bipush 8, 2) := by decide +kernel
theorem dX12_score_40 : decode cX12_score 40 = .ok (.aload_n 0, 1) := by decide +kernel
theorem dX12_score_41 : decode cX12_score 41 = .ok (.getfield 27, 3) := by decide +kernel
theorem dX12_score_44 : decode cX12_score 44 = .ok (.iconst 2, 1) := by decide +kernel
theorem dX12_score_45 : decode cX12_score 45 = .ok (.iload_n 1, 1) := by decide +kernel
theorem dX12_score_46 : decode cX12_score 46 = .ok (.imul, 1) := by decide +kernel
theorem dX12_score_47 : decode cX12_score 47 = .ok (.iload_n 2, 1) := by decide +kernel
theorem dX12_score_48 : decode cX12_score 48 = .ok (.iadd, 1) := by decide +kernel
theorem dX12_score_49 : decode cX12_score 49 = .ok (.iaload, 1) := by decide +kernel
theorem dX12_score_50 : decode cX12_score 50 = .ok (.iadd, 1) := by decide +kernel
theorem dX12_score_51 : decode cX12_score 51 = .ok (.i2l, 1) := by decide +kernel
theorem dX12_score_52 : decode cX12_score 52 = .ok (.ldiv, 1) := by decide +kernel
theorem dX12_score_53 : decode cX12_score 53 = .ok (.l2i, 1) := by decide +kernel
theorem dX12_score_54 : decode cX12_score 54 = .ok (.ireturn, 1) := by decide +kernel
theorem dX12_come_0 : decode cX12_come 0 = .ok (.aload_n 0, 1) := by decide +kernel
theorem dX12_come_1 : decode cX12_come 1 = .ok (.iconst 1, 1) := by decide +kernel
theorem dX12_come_2 : decode cX12_come 2 = .ok (.putfield 347, 3) := by decide +kernel
theorem dX12_come_5 : decode cX12_come 5 = .ok (.aload_n 0, 1) := by decide +kernel
theorem dX12_come_6 : decode cX12_come 6 = .ok (.aload_n 0, 1) := by decide +kernel
theorem dX12_come_7 : decode cX12_come 7 = .ok (.getfield 350, 3) := by decide +kernel
theorem dX12_come_10 : decode cX12_come 10 = .ok (.iload_n 1, 1) := by decide +kernel
theorem dX12_come_11 : decode cX12_come 11 = .ok (.i2l, 1) := by decide +kernel
theorem dX12_come_12 : decode cX12_come 12 = .ok (.ladd, 1) := by decide +kernel
theorem dX12_come_13 : decode cX12_come 13 = .ok (.invokestatic 342, 3) := by decide +kernel
theorem dX12_come_16 : decode cX12_come 16 = .ok (.i2l, 1) := by decide +kernel
theorem dX12_come_17 : decode cX12_come 17 = .ok (.putfield 350, 3) := by decide +kernel
theorem dX12_come_20 : decode cX12_come 20 = .ok (.return_, 1) := by decide +kernel
theorem dX12_matchWord_0 : decode cX12_matchWord 0 = .ok (.aload_n 0, 1) := by decide +kernel
theorem dX12_matchWord_1 : decode cX12_matchWord 1 = .ok (.getfield 112, 3) := by decide +kernel
theorem dX12_matchWord_4 : decode cX12_matchWord 4 = .ok (.iload_n 2, 1) := by decide +kernel
theorem dX12_matchWord_5 : decode cX12_matchWord 5 = .ok (.iaload, 1) := by decide +kernel
theorem dX12_matchWord_6 : decode cX12_matchWord 6 = .ok (.istore_n 3, 1) := by decide +kernel
theorem dX12_matchWord_7 : decode cX12_matchWord 7 = .ok (.aload_n 0, 1) := by decide +kernel
theorem dX12_matchWord_8 : decode cX12_matchWord 8 = .ok (.getfield 118, 3) := by decide +kernel
theorem dX12_matchWord_11 : decode cX12_matchWord 11 = .ok (.iload_n 3, 1) := by decide +kernel
theorem dX12_matchWord_12 : decode cX12_matchWord 12 = .ok (.iaload, 1) := by decide +kernel
theorem dX12_matchWord_13 : decode cX12_matchWord 13 = .ok (.ifCond .ne 9, 3) := by decide +kernel
theorem dX12_matchWord_16 : decode cX12_matchWord 16 = .ok (.aload_n 0, 1) := by decide +kernel
theorem dX12_matchWord_17 : decode cX12_matchWord 17 = .ok (.iconst 1, 1) := by decide +kernel
theorem dX12_matchWord_18 : decode cX12_matchWord 18 = .ok (.putfield 347, 3) := by decide +kernel
theorem dX12_matchWord_21 : decode cX12_matchWord 21 = .ok (.return_, 1) := by decide +kernel
theorem dX12_matchWord_22 : decode cX12_matchWord 22 = .ok (.iconst 0, 1) := by decide +kernel
theorem dX12_matchWord_23 : decode cX12_matchWord 23 = .ok (.istore 4, 2) := by decide +kernel
theorem dX12_matchWord_25 : decode cX12_matchWord 25 = .ok (.iload 4, 2) := by decide +kernel
theorem dX12_matchWord_27 : decode cX12_matchWord 27 = .ok (.iconst 2, 1) := by decide +kernel
theorem dX12_matchWord_28 : decode cX12_matchWord 28 = .ok (.if_icmp .ge 68, 3) := by decide +kernel
theorem dX12_matchWord_31 : decode cX12_matchWord 31 = .ok (.aload_n 0, 1) := by decide +kernel
theorem dX12_matchWord_32 : decode cX12_matchWord 32 = .ok (.getfield 109, 3) := by decide +kernel
theorem dX12_matchWord_35 : decode cX12_matchWord 35 = .ok (.iload_n 2, 1) := by decide +kernel
theorem dX12_matchWord_36 : decode cX12_matchWord 36 = .ok (.iaload, 1) := by decide +kernel
theorem dX12_matchWord_37 : decode cX12_matchWord 37 = .ok (.iconst (-1), 1) := by decide +kernel
theorem dX12_matchWord_38 : decode cX12_matchWord 38 = .ok (.if_icmp .eq 17, 3) := by decide +kernel
theorem dX12_matchWord_41 : decode cX12_matchWord 41 = .ok (.aload_n 0, 1) := by decide +kernel
theorem dX12_matchWord_42 : decode cX12_matchWord 42 = .ok (.getfield 109, 3) := by decide +kernel
theorem dX12_matchWord_45 : decode cX12_matchWord 45 = .ok (.iload_n 2, 1) := by decide +kernel
theorem dX12_matchWord_46 : decode cX12_matchWord 46 = .ok (.iaload, 1) := by decide +kernel
theorem dX12_matchWord_47 : decode cX12_matchWord 47 = .ok (.iload 4, 2) := by decide +kernel
theorem dX12_matchWord_49 : decode cX12_matchWord 49 = .ok (.if_icmp .eq 6, 3) := by decide +kernel
theorem dX12_matchWord_52 : decode cX12_matchWord 52 = .ok (.goto 38, 3) := by decide +kernel
theorem dX12_matchWord_55 : decode cX12_matchWord 55 = .ok (.aload_n 0, 1) := by decide +kernel
theorem dX12_matchWord_56 : decode cX12_matchWord 56 = .ok (.iload_n 1, 1) := by decide +kernel
theorem dX12_matchWord_57 : decode cX12_matchWord 57 = .ok (.iload 4, 2) := by decide +kernel
theorem dX12_matchWord_59 : decode cX12_matchWord 59 = .ok (.iload_n 3, 1) := by decide +kernel
theorem dX12_matchWord_60 : decode cX12_matchWord 60 = .ok (.invokevirtual 327, 3) := by decide +kernel
theorem dX12_matchWord_63 : decode cX12_matchWord 63 = .ok (.istore 5, 2) := by decide +kernel
theorem dX12_matchWord_65 : decode cX12_matchWord 65 = .ok (.iload 5, 2) := by decide +kernel
theorem dX12_matchWord_67 : decode cX12_matchWord 67 = .ok (.ifCond .le 23, 3) := by decide +kernel
theorem dX12_matchWord_70 : decode cX12_matchWord 70 = .ok (.aload_n 0, 1) := by decide +kernel
theorem dX12_matchWord_71 : decode cX12_matchWord 71 = .ok (.aload_n 0, 1) := by decide +kernel
theorem dX12_matchWord_72 : decode cX12_matchWord 72 = .ok (.iload_n 1, 1) := by decide +kernel
theorem dX12_matchWord_73 : decode cX12_matchWord 73 = .ok (.iload 4, 2) := by decide +kernel
theorem dX12_matchWord_75 : decode cX12_matchWord 75 = .ok (.iload 5, 2) := by decide +kernel
theorem dX12_matchWord_77 : decode cX12_matchWord 77 = .ok (.aload_n 0, 1) := by decide +kernel
theorem dX12_matchWord_78 : decode cX12_matchWord 78 = .ok (.iload 4, 2) := by decide +kernel
theorem dX12_matchWord_80 : decode cX12_matchWord 80 = .ok (.iload_n 3, 1) := by decide +kernel
theorem dX12_matchWord_81 : decode cX12_matchWord 81 = .ok (.invokevirtual 354, 3) := by decide +kernel
theorem dX12_matchWord_84 : decode cX12_matchWord 84 = .ok (.invokevirtual 357, 3) := by decide +kernel
theorem dX12_matchWord_87 : decode cX12_matchWord 87 = .ok (.invokevirtual 361, 3) := by decide +kernel
theorem dX12_matchWord_90 : decode cX12_matchWord 90 = .ok (.iinc 4 1, 3) := by decide +kernel
theorem dX12_matchWord_93 : decode cX12_matchWord 93 = .ok (.goto (-68), 3) := by decide +kernel
theorem dX12_matchWord_96 : decode cX12_matchWord 96 = .ok (.return_, 1) := by decide +kernel
theorem dX12_matchStarts_0 : decode cX12_matchStarts 0 = .ok (.iconst 0, 1) := by decide +kernel
theorem dX12_matchStarts_1 : decode cX12_matchStarts 1 = .ok (.istore_n 3, 1) := by decide +kernel
theorem dX12_matchStarts_2 : decode cX12_matchStarts 2 = .ok (.iload_n 3, 1) := by decide +kernel
theorem dX12_matchStarts_3 : decode cX12_matchStarts 3 = .ok (.iconst 2, 1) := by decide +kernel
theorem dX12_matchStarts_4 : decode cX12_matchStarts 4 = .ok (.if_icmp .ge 112, 3) := by decide +kernel
theorem dX12_matchStarts_7 : decode cX12_matchStarts 7 = .ok (.aload_n 0, 1) := by decide +kernel
theorem dX12_matchStarts_8 : decode cX12_matchStarts 8 = .ok (.getfield 109, 3) := by decide +kernel
theorem dX12_matchStarts_11 : decode cX12_matchStarts 11 = .ok (.iload_n 2, 1) := by decide +kernel
theorem dX12_matchStarts_12 : decode cX12_matchStarts 12 = .ok (.iaload, 1) := by decide +kernel
theorem dX12_matchStarts_13 : decode cX12_matchStarts 13 = .ok (.iconst (-1), 1) := by decide +kernel
theorem dX12_matchStarts_14 : decode cX12_matchStarts 14 = .ok (.if_icmp .eq 16, 3) := by decide +kernel
theorem dX12_matchStarts_17 : decode cX12_matchStarts 17 = .ok (.aload_n 0, 1) := by decide +kernel
theorem dX12_matchStarts_18 : decode cX12_matchStarts 18 = .ok (.getfield 109, 3) := by decide +kernel
theorem dX12_matchStarts_21 : decode cX12_matchStarts 21 = .ok (.iload_n 2, 1) := by decide +kernel
theorem dX12_matchStarts_22 : decode cX12_matchStarts 22 = .ok (.iaload, 1) := by decide +kernel
theorem dX12_matchStarts_23 : decode cX12_matchStarts 23 = .ok (.iload_n 3, 1) := by decide +kernel
theorem dX12_matchStarts_24 : decode cX12_matchStarts 24 = .ok (.if_icmp .eq 6, 3) := by decide +kernel
theorem dX12_matchStarts_27 : decode cX12_matchStarts 27 = .ok (.goto 83, 3) := by decide +kernel
theorem dX12_matchStarts_30 : decode cX12_matchStarts 30 = .ok (.iconst 0, 1) := by decide +kernel
theorem dX12_matchStarts_31 : decode cX12_matchStarts 31 = .ok (.istore 4, 2) := by decide +kernel
theorem dX12_matchStarts_33 : decode cX12_matchStarts 33 = .ok (.iconst 0, 1) := by decide +kernel
theorem dX12_matchStarts_34 : decode cX12_matchStarts 34 = .ok (.istore 5, 2) := by decide +kernel
theorem dX12_matchStarts_36 : decode cX12_matchStarts 36 = .ok (.iload 5, 2) := by decide +kernel
theorem dX12_matchStarts_38 : decode cX12_matchStarts 38 = .ok (.aload_n 0, 1) := by decide +kernel
theorem dX12_matchStarts_39 : decode cX12_matchStarts 39 = .ok (.getfield 27, 3) := by decide +kernel
theorem dX12_matchStarts_42 : decode cX12_matchStarts 42 = .ok (.iconst 2, 1) := by decide +kernel
theorem dX12_matchStarts_43 : decode cX12_matchStarts 43 = .ok (.iload_n 1, 1) := by decide +kernel
theorem dX12_matchStarts_44 : decode cX12_matchStarts 44 = .ok (.imul, 1) := by decide +kernel
theorem dX12_matchStarts_45 : decode cX12_matchStarts 45 = .ok (.iload_n 3, 1) := by decide +kernel
theorem dX12_matchStarts_46 : decode cX12_matchStarts 46 = .ok (.iadd, 1) := by decide +kernel
theorem dX12_matchStarts_47 : decode cX12_matchStarts 47 = .ok (.iaload, 1) := by decide +kernel
theorem dX12_matchStarts_48 : decode cX12_matchStarts 48 = .ok (.if_icmp .ge 42, 3) := by decide +kernel
theorem dX12_matchStarts_51 : decode cX12_matchStarts 51 = .ok (.iload 4, 2) := by decide +kernel
theorem dX12_matchStarts_53 : decode cX12_matchStarts 53 = .ok (.ifCond .ne 24, 3) := by decide +kernel
theorem dX12_matchStarts_56 : decode cX12_matchStarts 56 = .ok (.aload_n 0, 1) := by decide +kernel
theorem dX12_matchStarts_57 : decode cX12_matchStarts 57 = .ok (.iload_n 1, 1) := by decide +kernel
theorem dX12_matchStarts_58 : decode cX12_matchStarts 58 = .ok (.iload_n 3, 1) := by decide +kernel
theorem dX12_matchStarts_59 : decode cX12_matchStarts 59 = .ok (.invokestatic 189, 3) := by decide +kernel
theorem dX12_matchStarts_62 : decode cX12_matchStarts 62 = .ok (.iload 5, 2) := by decide +kernel
theorem dX12_matchStarts_64 : decode cX12_matchStarts 64 = .ok (.iadd, 1) := by decide +kernel
theorem dX12_matchStarts_65 : decode cX12_matchStarts 65 = .ok (.aload_n 0, 1) := by decide +kernel
theorem dX12_matchStarts_66 : decode cX12_matchStarts 66 = .ok (.getfield 112, 3) := by decide +kernel
theorem dX12_matchStarts_69 : decode cX12_matchStarts 69 = .ok (.iload_n 2, 1) := by decide +kernel
theorem dX12_matchStarts_70 : decode cX12_matchStarts 70 = .ok (.iaload, 1) := by decide +kernel
theorem dX12_matchStarts_71 : decode cX12_matchStarts 71 = .ok (.invokevirtual 364, 3) := by decide +kernel
theorem dX12_matchStarts_74 : decode cX12_matchStarts 74 = .ok (.ifCond .eq 7, 3) := by decide +kernel
theorem dX12_matchStarts_77 : decode cX12_matchStarts 77 = .ok (.iconst 1, 1) := by decide +kernel
theorem dX12_matchStarts_78 : decode cX12_matchStarts 78 = .ok (.goto 4, 3) := by decide +kernel
theorem dX12_matchStarts_81 : decode cX12_matchStarts 81 = .ok (.iconst 0, 1) := by decide +kernel
theorem dX12_matchStarts_82 : decode cX12_matchStarts 82 = .ok (.istore 4, 2) := by decide +kernel
theorem dX12_matchStarts_84 : decode cX12_matchStarts 84 = .ok (.iinc 5 1, 3) := by decide +kernel
theorem dX12_matchStarts_87 : decode cX12_matchStarts 87 = .ok (.goto (-51), 3) := by decide +kernel
theorem dX12_matchStarts_90 : decode cX12_matchStarts 90 = .ok (.iload 4, 2) := by decide +kernel
theorem dX12_matchStarts_92 : decode cX12_matchStarts 92 = .ok (.ifCond .eq 18, 3) := by decide +kernel
theorem dX12_matchStarts_95 : decode cX12_matchStarts 95 = .ok (.aload_n 0, 1) := by decide +kernel
theorem dX12_matchStarts_96 : decode cX12_matchStarts 96 = .ok (.iload_n 3, 1) := by decide +kernel
theorem dX12_matchStarts_97 : decode cX12_matchStarts 97 = .ok (.ifCond .ne 8, 3) := by decide +kernel
theorem dX12_matchStarts_100 : decode cX12_matchStarts 100 = .ok (.bipush 48, 2) := by decide +kernel
theorem dX12_matchStarts_102 : decode cX12_matchStarts 102 = .ok (.goto 5, 3) := by decide +kernel
theorem dX12_matchStarts_105 : decode cX12_matchStarts 105 = .ok (.bipush 16, 2) := by decide +kernel
theorem dX12_matchStarts_107 : decode cX12_matchStarts 107 = .ok (.invokevirtual 361, 3) := by decide +kernel
theorem dX12_matchStarts_110 : decode cX12_matchStarts 110 = .ok (.iinc 3 1, 3) := by decide +kernel
theorem dX12_matchStarts_113 : decode cX12_matchStarts 113 = .ok (.goto (-111), 3) := by decide +kernel
theorem dX12_matchStarts_116 : decode cX12_matchStarts 116 = .ok (.return_, 1) := by decide +kernel
theorem dX12_matchPhrase_0 : decode cX12_matchPhrase 0 = .ok (.aload_n 0, 1) := by decide +kernel
theorem dX12_matchPhrase_1 : decode cX12_matchPhrase 1 = .ok (.getfield 115, 3) := by decide +kernel
theorem dX12_matchPhrase_4 : decode cX12_matchPhrase 4 = .ok (.iload_n 2, 1) := by decide +kernel
theorem dX12_matchPhrase_5 : decode cX12_matchPhrase 5 = .ok (.iaload, 1) := by decide +kernel
theorem dX12_matchPhrase_6 : decode cX12_matchPhrase 6 = .ok (.bipush 16, 2) := by decide +kernel
theorem dX12_matchPhrase_8 : decode cX12_matchPhrase 8 = .ok (.irem, 1) := by decide +kernel
theorem dX12_matchPhrase_9 : decode cX12_matchPhrase 9 = .ok (.istore_n 3, 1) := by decide +kernel
theorem dX12_matchPhrase_10 : decode cX12_matchPhrase 10 = .ok (.aload_n 0, 1) := by decide +kernel
theorem dX12_matchPhrase_11 : decode cX12_matchPhrase 11 = .ok (.getfield 115, 3) := by decide +kernel
theorem dX12_matchPhrase_14 : decode cX12_matchPhrase 14 = .ok (.iload_n 2, 1) := by decide +kernel
theorem dX12_matchPhrase_15 : decode cX12_matchPhrase 15 = .ok (.iaload, 1) := by decide +kernel
theorem dX12_matchPhrase_16 : decode cX12_matchPhrase 16 = .ok (.bipush 16, 2) := by decide +kernel
theorem dX12_matchPhrase_18 : decode cX12_matchPhrase 18 = .ok (.idiv, 1) := by decide +kernel
theorem dX12_matchPhrase_19 : decode cX12_matchPhrase 19 = .ok (.istore 4, 2) := by decide +kernel
theorem dX12_matchPhrase_21 : decode cX12_matchPhrase 21 = .ok (.iconst (-1), 1) := by decide +kernel
theorem dX12_matchPhrase_22 : decode cX12_matchPhrase 22 = .ok (.istore 5, 2) := by decide +kernel
theorem dX12_matchPhrase_24 : decode cX12_matchPhrase 24 = .ok (.iconst (-1), 1) := by decide +kernel
theorem dX12_matchPhrase_25 : decode cX12_matchPhrase 25 = .ok (.istore 6, 2) := by decide +kernel
theorem dX12_matchPhrase_27 : decode cX12_matchPhrase 27 = .ok (.iconst 0, 1) := by decide +kernel
theorem dX12_matchPhrase_28 : decode cX12_matchPhrase 28 = .ok (.istore 7, 2) := by decide +kernel
theorem dX12_matchPhrase_30 : decode cX12_matchPhrase 30 = .ok (.iload 7, 2) := by decide +kernel
theorem dX12_matchPhrase_32 : decode cX12_matchPhrase 32 = .ok (.iload_n 3, 1) := by decide +kernel
theorem dX12_matchPhrase_33 : decode cX12_matchPhrase 33 = .ok (.if_icmp .ge 62, 3) := by decide +kernel
theorem dX12_matchPhrase_36 : decode cX12_matchPhrase 36 = .ok (.aload_n 0, 1) := by decide +kernel
theorem dX12_matchPhrase_37 : decode cX12_matchPhrase 37 = .ok (.getfield 118, 3) := by decide +kernel
theorem dX12_matchPhrase_40 : decode cX12_matchPhrase 40 = .ok (.aload_n 0, 1) := by decide +kernel
theorem dX12_matchPhrase_41 : decode cX12_matchPhrase 41 = .ok (.getfield 112, 3) := by decide +kernel
theorem dX12_matchPhrase_44 : decode cX12_matchPhrase 44 = .ok (.iload_n 2, 1) := by decide +kernel
theorem dX12_matchPhrase_45 : decode cX12_matchPhrase 45 = .ok (.iaload, 1) := by decide +kernel
theorem dX12_matchPhrase_46 : decode cX12_matchPhrase 46 = .ok (.iload 7, 2) := by decide +kernel
theorem dX12_matchPhrase_48 : decode cX12_matchPhrase 48 = .ok (.iadd, 1) := by decide +kernel
theorem dX12_matchPhrase_49 : decode cX12_matchPhrase 49 = .ok (.iaload, 1) := by decide +kernel
theorem dX12_matchPhrase_50 : decode cX12_matchPhrase 50 = .ok (.ifCond .ne 6, 3) := by decide +kernel
theorem dX12_matchPhrase_53 : decode cX12_matchPhrase 53 = .ok (.goto 36, 3) := by decide +kernel
theorem dX12_matchPhrase_56 : decode cX12_matchPhrase 56 = .ok (.iload 5, 2) := by decide +kernel
theorem dX12_matchPhrase_58 : decode cX12_matchPhrase 58 = .ok (.iconst (-1), 1) := by decide +kernel
theorem dX12_matchPhrase_59 : decode cX12_matchPhrase 59 = .ok (.if_icmp .ne 15, 3) := by decide +kernel
theorem dX12_matchPhrase_62 : decode cX12_matchPhrase 62 = .ok (.aload_n 0, 1) := by decide +kernel
theorem dX12_matchPhrase_63 : decode cX12_matchPhrase 63 = .ok (.getfield 112, 3) := by decide +kernel
theorem dX12_matchPhrase_66 : decode cX12_matchPhrase 66 = .ok (.iload_n 2, 1) := by decide +kernel
theorem dX12_matchPhrase_67 : decode cX12_matchPhrase 67 = .ok (.iaload, 1) := by decide +kernel
theorem dX12_matchPhrase_68 : decode cX12_matchPhrase 68 = .ok (.iload 7, 2) := by decide +kernel
theorem dX12_matchPhrase_70 : decode cX12_matchPhrase 70 = .ok (.iadd, 1) := by decide +kernel
theorem dX12_matchPhrase_71 : decode cX12_matchPhrase 71 = .ok (.goto 5, 3) := by decide +kernel
theorem dX12_matchPhrase_74 : decode cX12_matchPhrase 74 = .ok (.iload 5, 2) := by decide +kernel
theorem dX12_matchPhrase_76 : decode cX12_matchPhrase 76 = .ok (.istore 5, 2) := by decide +kernel
theorem dX12_matchPhrase_78 : decode cX12_matchPhrase 78 = .ok (.aload_n 0, 1) := by decide +kernel
theorem dX12_matchPhrase_79 : decode cX12_matchPhrase 79 = .ok (.getfield 112, 3) := by decide +kernel
theorem dX12_matchPhrase_82 : decode cX12_matchPhrase 82 = .ok (.iload_n 2, 1) := by decide +kernel
theorem dX12_matchPhrase_83 : decode cX12_matchPhrase 83 = .ok (.iaload, 1) := by decide +kernel
theorem dX12_matchPhrase_84 : decode cX12_matchPhrase 84 = .ok (.iload 7, 2) := by decide +kernel
theorem dX12_matchPhrase_86 : decode cX12_matchPhrase 86 = .ok (.iadd, 1) := by decide +kernel
theorem dX12_matchPhrase_87 : decode cX12_matchPhrase 87 = .ok (.istore 6, 2) := by decide +kernel
theorem dX12_matchPhrase_89 : decode cX12_matchPhrase 89 = .ok (.iinc 7 1, 3) := by decide +kernel
theorem dX12_matchPhrase_92 : decode cX12_matchPhrase 92 = .ok (.goto (-62), 3) := by decide +kernel
theorem dX12_matchPhrase_95 : decode cX12_matchPhrase 95 = .ok (.iload 5, 2) := by decide +kernel
theorem dX12_matchPhrase_97 : decode cX12_matchPhrase 97 = .ok (.iconst (-1), 1) := by decide +kernel
theorem dX12_matchPhrase_98 : decode cX12_matchPhrase 98 = .ok (.if_icmp .ne 9, 3) := by decide +kernel
theorem dX12_matchPhrase_101 : decode cX12_matchPhrase 101 = .ok (.aload_n 0, 1) := by decide +kernel
theorem dX12_matchPhrase_102 : decode cX12_matchPhrase 102 = .ok (.iconst 1, 1) := by decide +kernel
theorem dX12_matchPhrase_103 : decode cX12_matchPhrase 103 = .ok (.putfield 347, 3) := by decide +kernel
theorem dX12_matchPhrase_106 : decode cX12_matchPhrase 106 = .ok (.return_, 1) := by decide +kernel
theorem dX12_matchPhrase_107 : decode cX12_matchPhrase 107 = .ok (.iconst 0, 1) := by decide +kernel
theorem dX12_matchPhrase_108 : decode cX12_matchPhrase 108 = .ok (.istore 7, 2) := by decide +kernel
theorem dX12_matchPhrase_110 : decode cX12_matchPhrase 110 = .ok (.iload 7, 2) := by decide +kernel
theorem dX12_matchPhrase_112 : decode cX12_matchPhrase 112 = .ok (.iconst 2, 1) := by decide +kernel
theorem dX12_matchPhrase_113 : decode cX12_matchPhrase 113 = .ok (.if_icmp .ge 177, 3) := by decide +kernel
theorem dX12_matchPhrase_116 : decode cX12_matchPhrase 116 = .ok (.aload_n 0, 1) := by decide +kernel
theorem dX12_matchPhrase_117 : decode cX12_matchPhrase 117 = .ok (.getfield 109, 3) := by decide +kernel
theorem dX12_matchPhrase_120 : decode cX12_matchPhrase 120 = .ok (.iload_n 2, 1) := by decide +kernel
theorem dX12_matchPhrase_121 : decode cX12_matchPhrase 121 = .ok (.iaload, 1) := by decide +kernel
theorem dX12_matchPhrase_122 : decode cX12_matchPhrase 122 = .ok (.iconst (-1), 1) := by decide +kernel
theorem dX12_matchPhrase_123 : decode cX12_matchPhrase 123 = .ok (.if_icmp .eq 17, 3) := by decide +kernel
theorem dX12_matchPhrase_126 : decode cX12_matchPhrase 126 = .ok (.aload_n 0, 1) := by decide +kernel
theorem dX12_matchPhrase_127 : decode cX12_matchPhrase 127 = .ok (.getfield 109, 3) := by decide +kernel
theorem dX12_matchPhrase_130 : decode cX12_matchPhrase 130 = .ok (.iload_n 2, 1) := by decide +kernel
theorem dX12_matchPhrase_131 : decode cX12_matchPhrase 131 = .ok (.iaload, 1) := by decide +kernel
theorem dX12_matchPhrase_132 : decode cX12_matchPhrase 132 = .ok (.iload 7, 2) := by decide +kernel
theorem dX12_matchPhrase_134 : decode cX12_matchPhrase 134 = .ok (.if_icmp .eq 6, 3) := by decide +kernel
theorem dX12_matchPhrase_137 : decode cX12_matchPhrase 137 = .ok (.goto 147, 3) := by decide +kernel
theorem dX12_matchPhrase_140 : decode cX12_matchPhrase 140 = .ok (.iconst 0, 1) := by decide +kernel
theorem dX12_matchPhrase_141 : decode cX12_matchPhrase 141 = .ok (.istore 8, 2) := by decide +kernel
theorem dX12_matchPhrase_143 : decode cX12_matchPhrase 143 = .ok (.iconst 0, 1) := by decide +kernel
theorem dX12_matchPhrase_144 : decode cX12_matchPhrase 144 = .ok (.istore 9, 2) := by decide +kernel
theorem dX12_matchPhrase_146 : decode cX12_matchPhrase 146 = .ok (.iload 9, 2) := by decide +kernel
theorem dX12_matchPhrase_148 : decode cX12_matchPhrase 148 = .ok (.aload_n 0, 1) := by decide +kernel
theorem dX12_matchPhrase_149 : decode cX12_matchPhrase 149 = .ok (.getfield 27, 3) := by decide +kernel
theorem dX12_matchPhrase_152 : decode cX12_matchPhrase 152 = .ok (.iconst 2, 1) := by decide +kernel
theorem dX12_matchPhrase_153 : decode cX12_matchPhrase 153 = .ok (.iload_n 1, 1) := by decide +kernel
theorem dX12_matchPhrase_154 : decode cX12_matchPhrase 154 = .ok (.imul, 1) := by decide +kernel
theorem dX12_matchPhrase_155 : decode cX12_matchPhrase 155 = .ok (.iload 7, 2) := by decide +kernel
theorem dX12_matchPhrase_157 : decode cX12_matchPhrase 157 = .ok (.iadd, 1) := by decide +kernel
theorem dX12_matchPhrase_158 : decode cX12_matchPhrase 158 = .ok (.iaload, 1) := by decide +kernel
theorem dX12_matchPhrase_159 : decode cX12_matchPhrase 159 = .ok (.if_icmp .ge 55, 3) := by decide +kernel
theorem dX12_matchPhrase_162 : decode cX12_matchPhrase 162 = .ok (.iload 8, 2) := by decide +kernel
theorem dX12_matchPhrase_164 : decode cX12_matchPhrase 164 = .ok (.aload_n 0, 1) := by decide +kernel
theorem dX12_matchPhrase_165 : decode cX12_matchPhrase 165 = .ok (.iload_n 1, 1) := by decide +kernel
theorem dX12_matchPhrase_166 : decode cX12_matchPhrase 166 = .ok (.iload 7, 2) := by decide +kernel
theorem dX12_matchPhrase_168 : decode cX12_matchPhrase 168 = .ok (.invokestatic 189, 3) := by decide +kernel
theorem dX12_matchPhrase_171 : decode cX12_matchPhrase 171 = .ok (.iload 9, 2) := by decide +kernel
theorem dX12_matchPhrase_173 : decode cX12_matchPhrase 173 = .ok (.iadd, 1) := by decide +kernel
theorem dX12_matchPhrase_174 : decode cX12_matchPhrase 174 = .ok (.iload 5, 2) := by decide +kernel
theorem dX12_matchPhrase_176 : decode cX12_matchPhrase 176 = .ok (.invokevirtual 323, 3) := by decide +kernel
theorem dX12_matchPhrase_179 : decode cX12_matchPhrase 179 = .ok (.ifCond .eq 25, 3) := by decide +kernel
theorem dX12_matchPhrase_182 : decode cX12_matchPhrase 182 = .ok (.aload_n 0, 1) := by decide +kernel
theorem dX12_matchPhrase_183 : decode cX12_matchPhrase 183 = .ok (.iload_n 1, 1) := by decide +kernel
theorem dX12_matchPhrase_184 : decode cX12_matchPhrase 184 = .ok (.iload 7, 2) := by decide +kernel
theorem dX12_matchPhrase_186 : decode cX12_matchPhrase 186 = .ok (.iload 9, 2) := by decide +kernel
theorem dX12_matchPhrase_188 : decode cX12_matchPhrase 188 = .ok (.iload 5, 2) := by decide +kernel
theorem dX12_matchPhrase_190 : decode cX12_matchPhrase 190 = .ok (.iload 6, 2) := by decide +kernel
theorem dX12_matchPhrase_192 : decode cX12_matchPhrase 192 = .ok (.iload 4, 2) := by decide +kernel
theorem dX12_matchPhrase_194 : decode cX12_matchPhrase 194 = .ok (.invokevirtual 367, 3) := by decide +kernel
theorem dX12_matchPhrase_197 : decode cX12_matchPhrase 197 = .ok (.ifCond .eq 7, 3) := by decide +kernel
theorem dX12_matchPhrase_200 : decode cX12_matchPhrase 200 = .ok (.iconst 1, 1) := by decide +kernel
theorem dX12_matchPhrase_201 : decode cX12_matchPhrase 201 = .ok (.goto 4, 3) := by decide +kernel
theorem dX12_matchPhrase_204 : decode cX12_matchPhrase 204 = .ok (.iconst 0, 1) := by decide +kernel
theorem dX12_matchPhrase_205 : decode cX12_matchPhrase 205 = .ok (.iadd, 1) := by decide +kernel
theorem dX12_matchPhrase_206 : decode cX12_matchPhrase 206 = .ok (.istore 8, 2) := by decide +kernel
theorem dX12_matchPhrase_208 : decode cX12_matchPhrase 208 = .ok (.iinc 9 1, 3) := by decide +kernel
theorem dX12_matchPhrase_211 : decode cX12_matchPhrase 211 = .ok (.goto (-65), 3) := by decide +kernel
theorem dX12_matchPhrase_214 : decode cX12_matchPhrase 214 = .ok (.iload 8, 2) := by decide +kernel
theorem dX12_matchPhrase_216 : decode cX12_matchPhrase 216 = .ok (.ifCond .ne 6, 3) := by decide +kernel
theorem dX12_matchPhrase_219 : decode cX12_matchPhrase 219 = .ok (.goto 65, 3) := by decide +kernel
theorem dX12_matchPhrase_222 : decode cX12_matchPhrase 222 = .ok (.lconst 0, 1) := by decide +kernel
theorem dX12_matchPhrase_223 : decode cX12_matchPhrase 223 = .ok (.lstore 9, 2) := by decide +kernel
theorem dX12_matchPhrase_225 : decode cX12_matchPhrase 225 = .ok (.iload 5, 2) := by decide +kernel
theorem dX12_matchPhrase_227 : decode cX12_matchPhrase 227 = .ok (.istore 11, 2) := by decide +kernel
theorem dX12_matchPhrase_229 : decode cX12_matchPhrase 229 = .ok (.iload 11, 2) := by decide +kernel
theorem dX12_matchPhrase_231 : decode cX12_matchPhrase 231 = .ok (.iload 6, 2) := by decide +kernel
theorem dX12_matchPhrase_233 : decode cX12_matchPhrase 233 = .ok (.if_icmp .gt 33, 3) := by decide +kernel
theorem dX12_matchPhrase_236 : decode cX12_matchPhrase 236 = .ok (.aload_n 0, 1) := by decide +kernel
theorem dX12_matchPhrase_237 : decode cX12_matchPhrase 237 = .ok (.getfield 118, 3) := by decide +kernel
theorem dX12_matchPhrase_240 : decode cX12_matchPhrase 240 = .ok (.iload 11, 2) := by decide +kernel
theorem dX12_matchPhrase_242 : decode cX12_matchPhrase 242 = .ok (.iaload, 1) := by decide +kernel
theorem dX12_matchPhrase_243 : decode cX12_matchPhrase 243 = .ok (.ifCond .le 17, 3) := by decide +kernel
theorem dX12_matchPhrase_246 : decode cX12_matchPhrase 246 = .ok (.lload 9, 2) := by decide +kernel
theorem dX12_matchPhrase_248 : decode cX12_matchPhrase 248 = .ok (.aload_n 0, 1) := by decide +kernel
theorem dX12_matchPhrase_249 : decode cX12_matchPhrase 249 = .ok (.iload 7, 2) := by decide +kernel
theorem dX12_matchPhrase_251 : decode cX12_matchPhrase 251 = .ok (.iload 11, 2) := by decide +kernel
theorem dX12_matchPhrase_253 : decode cX12_matchPhrase 253 = .ok (.invokevirtual 354, 3) := by decide +kernel
theorem dX12_matchPhrase_256 : decode cX12_matchPhrase 256 = .ok (.i2l, 1) := by decide +kernel
theorem dX12_matchPhrase_257 : decode cX12_matchPhrase 257 = .ok (.ladd, 1) := by decide +kernel
theorem dX12_matchPhrase_258 : decode cX12_matchPhrase 258 = .ok (.lstore 9, 2) := by decide +kernel
theorem dX12_matchPhrase_260 : decode cX12_matchPhrase 260 = .ok (.iinc 11 1, 3) := by decide +kernel
theorem dX12_matchPhrase_263 : decode cX12_matchPhrase 263 = .ok (.goto (-34), 3) := by decide +kernel
theorem dX12_matchPhrase_266 : decode cX12_matchPhrase 266 = .ok (.aload_n 0, 1) := by decide +kernel
theorem dX12_matchPhrase_267 : decode cX12_matchPhrase 267 = .ok (.aload_n 0, 1) := by decide +kernel
theorem dX12_matchPhrase_268 : decode cX12_matchPhrase 268 = .ok (.iload_n 1, 1) := by decide +kernel
theorem dX12_matchPhrase_269 : decode cX12_matchPhrase 269 = .ok (.iload 7, 2) := by decide +kernel
theorem dX12_matchPhrase_271 : decode cX12_matchPhrase 271 = .ok (.iload 8, 2) := by decide +kernel
theorem dX12_matchPhrase_273 : decode cX12_matchPhrase 273 = .ok (.lload 9, 2) := by decide +kernel
theorem dX12_matchPhrase_275 : decode cX12_matchPhrase 275 = .ok (.invokestatic 342, 3) := by decide +kernel
theorem dX12_matchPhrase_278 : decode cX12_matchPhrase 278 = .ok (.invokevirtual 357, 3) := by decide +kernel
theorem dX12_matchPhrase_281 : decode cX12_matchPhrase 281 = .ok (.invokevirtual 361, 3) := by decide +kernel
theorem dX12_matchPhrase_284 : decode cX12_matchPhrase 284 = .ok (.iinc 7 1, 3) := by decide +kernel
theorem dX12_matchPhrase_287 : decode cX12_matchPhrase 287 = .ok (.goto (-177), 3) := by decide +kernel
theorem dX12_matchPhrase_290 : decode cX12_matchPhrase 290 = .ok (.return_, 1) := by decide +kernel
theorem dX12_goesOn_0 : decode cX12_goesOn 0 = .ok (.iload_n 3, 1) := by decide +kernel
theorem dX12_goesOn_1 : decode cX12_goesOn 1 = .ok (.istore 7, 2) := by decide +kernel
theorem dX12_goesOn_3 : decode cX12_goesOn 3 = .ok (.aload_n 0, 1) := by decide +kernel
theorem dX12_goesOn_4 : decode cX12_goesOn 4 = .ok (.getfield 124, 3) := by decide +kernel
theorem dX12_goesOn_7 : decode cX12_goesOn 7 = .ok (.iload 4, 2) := by decide +kernel
theorem dX12_goesOn_9 : decode cX12_goesOn 9 = .ok (.iaload, 1) := by decide +kernel
theorem dX12_goesOn_10 : decode cX12_goesOn 10 = .ok (.istore 8, 2) := by decide +kernel
theorem dX12_goesOn_12 : decode cX12_goesOn 12 = .ok (.iload 4, 2) := by decide +kernel
theorem dX12_goesOn_14 : decode cX12_goesOn 14 = .ok (.iconst 1, 1) := by decide +kernel
theorem dX12_goesOn_15 : decode cX12_goesOn 15 = .ok (.iadd, 1) := by decide +kernel
theorem dX12_goesOn_16 : decode cX12_goesOn 16 = .ok (.istore 9, 2) := by decide +kernel
theorem dX12_goesOn_18 : decode cX12_goesOn 18 = .ok (.iload 9, 2) := by decide +kernel
theorem dX12_goesOn_20 : decode cX12_goesOn 20 = .ok (.iload 5, 2) := by decide +kernel
theorem dX12_goesOn_22 : decode cX12_goesOn 22 = .ok (.if_icmp .gt 101, 3) := by decide +kernel
theorem dX12_goesOn_25 : decode cX12_goesOn 25 = .ok (.aload_n 0, 1) := by decide +kernel
theorem dX12_goesOn_26 : decode cX12_goesOn 26 = .ok (.getfield 118, 3) := by decide +kernel
theorem dX12_goesOn_29 : decode cX12_goesOn 29 = .ok (.iload 9, 2) := by decide +kernel
theorem dX12_goesOn_31 : decode cX12_goesOn 31 = .ok (.iaload, 1) := by decide +kernel
theorem dX12_goesOn_32 : decode cX12_goesOn 32 = .ok (.ifCond .ne 6, 3) := by decide +kernel
theorem dX12_goesOn_35 : decode cX12_goesOn 35 = .ok (.goto 82, 3) := by decide +kernel
theorem dX12_goesOn_38 : decode cX12_goesOn 38 = .ok (.iload 7, 2) := by decide +kernel
theorem dX12_goesOn_40 : decode cX12_goesOn 40 = .ok (.aload_n 0, 1) := by decide +kernel
theorem dX12_goesOn_41 : decode cX12_goesOn 41 = .ok (.getfield 124, 3) := by decide +kernel
theorem dX12_goesOn_44 : decode cX12_goesOn 44 = .ok (.iload 9, 2) := by decide +kernel
theorem dX12_goesOn_46 : decode cX12_goesOn 46 = .ok (.iaload, 1) := by decide +kernel
theorem dX12_goesOn_47 : decode cX12_goesOn 47 = .ok (.iload 8, 2) := by decide +kernel
theorem dX12_goesOn_49 : decode cX12_goesOn 49 = .ok (.isub, 1) := by decide +kernel
theorem dX12_goesOn_50 : decode cX12_goesOn 50 = .ok (.iadd, 1) := by decide +kernel
theorem dX12_goesOn_51 : decode cX12_goesOn 51 = .ok (.istore 7, 2) := by decide +kernel
theorem dX12_goesOn_53 : decode cX12_goesOn 53 = .ok (.aload_n 0, 1) := by decide +kernel
theorem dX12_goesOn_54 : decode cX12_goesOn 54 = .ok (.getfield 124, 3) := by decide +kernel
theorem dX12_goesOn_57 : decode cX12_goesOn 57 = .ok (.iload 9, 2) := by decide +kernel
theorem dX12_goesOn_59 : decode cX12_goesOn 59 = .ok (.iaload, 1) := by decide +kernel
theorem dX12_goesOn_60 : decode cX12_goesOn 60 = .ok (.istore 8, 2) := by decide +kernel
theorem dX12_goesOn_62 : decode cX12_goesOn 62 = .ok (.iload 7, 2) := by decide +kernel
theorem dX12_goesOn_64 : decode cX12_goesOn 64 = .ok (.aload_n 0, 1) := by decide +kernel
theorem dX12_goesOn_65 : decode cX12_goesOn 65 = .ok (.getfield 27, 3) := by decide +kernel
theorem dX12_goesOn_68 : decode cX12_goesOn 68 = .ok (.iconst 2, 1) := by decide +kernel
theorem dX12_goesOn_69 : decode cX12_goesOn 69 = .ok (.iload_n 1, 1) := by decide +kernel
theorem dX12_goesOn_70 : decode cX12_goesOn 70 = .ok (.imul, 1) := by decide +kernel
theorem dX12_goesOn_71 : decode cX12_goesOn 71 = .ok (.iload_n 2, 1) := by decide +kernel
theorem dX12_goesOn_72 : decode cX12_goesOn 72 = .ok (.iadd, 1) := by decide +kernel
theorem dX12_goesOn_73 : decode cX12_goesOn 73 = .ok (.iaload, 1) := by decide +kernel
theorem dX12_goesOn_74 : decode cX12_goesOn 74 = .ok (.if_icmp .ge 26, 3) := by decide +kernel
theorem dX12_goesOn_77 : decode cX12_goesOn 77 = .ok (.aload_n 0, 1) := by decide +kernel
theorem dX12_goesOn_78 : decode cX12_goesOn 78 = .ok (.iload_n 1, 1) := by decide +kernel
theorem dX12_goesOn_79 : decode cX12_goesOn 79 = .ok (.iload_n 2, 1) := by decide +kernel
theorem dX12_goesOn_80 : decode cX12_goesOn 80 = .ok (.invokestatic 189, 3) := by decide +kernel
theorem dX12_goesOn_83 : decode cX12_goesOn 83 = .ok (.iload 7, 2) := by decide +kernel
theorem dX12_goesOn_85 : decode cX12_goesOn 85 = .ok (.iadd, 1) := by decide +kernel
theorem dX12_goesOn_86 : decode cX12_goesOn 86 = .ok (.iload 9, 2) := by decide +kernel
theorem dX12_goesOn_88 : decode cX12_goesOn 88 = .ok (.invokevirtual 323, 3) := by decide +kernel
theorem dX12_goesOn_91 : decode cX12_goesOn 91 = .ok (.ifCond .ne 9, 3) := by decide +kernel
theorem dX12_goesOn_94 : decode cX12_goesOn 94 = .ok (.iinc 7 1, 3) := by decide +kernel
theorem dX12_goesOn_97 : decode cX12_goesOn 97 = .ok (.goto (-35), 3) := by decide +kernel
theorem dX12_goesOn_100 : decode cX12_goesOn 100 = .ok (.iload 7, 2) := by decide +kernel
theorem dX12_goesOn_102 : decode cX12_goesOn 102 = .ok (.aload_n 0, 1) := by decide +kernel
theorem dX12_goesOn_103 : decode cX12_goesOn 103 = .ok (.getfield 27, 3) := by decide +kernel
theorem dX12_goesOn_106 : decode cX12_goesOn 106 = .ok (.iconst 2, 1) := by decide +kernel
theorem dX12_goesOn_107 : decode cX12_goesOn 107 = .ok (.iload_n 1, 1) := by decide +kernel
theorem dX12_goesOn_108 : decode cX12_goesOn 108 = .ok (.imul, 1) := by decide +kernel
theorem dX12_goesOn_109 : decode cX12_goesOn 109 = .ok (.iload_n 2, 1) := by decide +kernel
theorem dX12_goesOn_110 : decode cX12_goesOn 110 = .ok (.iadd, 1) := by decide +kernel
theorem dX12_goesOn_111 : decode cX12_goesOn 111 = .ok (.iaload, 1) := by decide +kernel
theorem dX12_goesOn_112 : decode cX12_goesOn 112 = .ok (.if_icmp .lt 5, 3) := by decide +kernel
theorem dX12_goesOn_115 : decode cX12_goesOn 115 = .ok (.iconst 0, 1) := by decide +kernel
theorem dX12_goesOn_116 : decode cX12_goesOn 116 = .ok (.ireturn, 1) := by decide +kernel
theorem dX12_goesOn_117 : decode cX12_goesOn 117 = .ok (.iinc 9 1, 3) := by decide +kernel
theorem dX12_goesOn_120 : decode cX12_goesOn 120 = .ok (.goto (-102), 3) := by decide +kernel
theorem dX12_goesOn_123 : decode cX12_goesOn 123 = .ok (.iload 7, 2) := by decide +kernel
theorem dX12_goesOn_125 : decode cX12_goesOn 125 = .ok (.iload_n 3, 1) := by decide +kernel
theorem dX12_goesOn_126 : decode cX12_goesOn 126 = .ok (.isub, 1) := by decide +kernel
theorem dX12_goesOn_127 : decode cX12_goesOn 127 = .ok (.iload 8, 2) := by decide +kernel
theorem dX12_goesOn_129 : decode cX12_goesOn 129 = .ok (.aload_n 0, 1) := by decide +kernel
theorem dX12_goesOn_130 : decode cX12_goesOn 130 = .ok (.getfield 124, 3) := by decide +kernel
theorem dX12_goesOn_133 : decode cX12_goesOn 133 = .ok (.iload 4, 2) := by decide +kernel
theorem dX12_goesOn_135 : decode cX12_goesOn 135 = .ok (.iaload, 1) := by decide +kernel
theorem dX12_goesOn_136 : decode cX12_goesOn 136 = .ok (.isub, 1) := by decide +kernel
theorem dX12_goesOn_137 : decode cX12_goesOn 137 = .ok (.iload 6, 2) := by decide +kernel
theorem dX12_goesOn_139 : decode cX12_goesOn 139 = .ok (.iadd, 1) := by decide +kernel
theorem dX12_goesOn_140 : decode cX12_goesOn 140 = .ok (.if_icmp .gt 7, 3) := by decide +kernel
theorem dX12_goesOn_143 : decode cX12_goesOn 143 = .ok (.iconst 1, 1) := by decide +kernel
theorem dX12_goesOn_144 : decode cX12_goesOn 144 = .ok (.goto 4, 3) := by decide +kernel
theorem dX12_goesOn_147 : decode cX12_goesOn 147 = .ok (.iconst 0, 1) := by decide +kernel
theorem dX12_goesOn_148 : decode cX12_goesOn 148 = .ok (.ireturn, 1) := by decide +kernel
theorem dX12_put__0 : decode cX12_put_ 0 = .ok (.aload_n 0, 1) := by decide +kernel
theorem dX12_put__1 : decode cX12_put_ 1 = .ok (.getfield 145, 3) := by decide +kernel
theorem dX12_put__4 : decode cX12_put_ 4 = .ok (.aload_n 0, 1) := by decide +kernel
theorem dX12_put__5 : decode cX12_put_ 5 = .ok (.getfield 371, 3) := by decide +kernel
theorem dX12_put__8 : decode cX12_put_ 8 = .ok (.iload_n 1, 1) := by decide +kernel
theorem dX12_put__9 : decode cX12_put_ 9 = .ok (.bastore, 1) := by decide +kernel
theorem dX12_put__10 : decode cX12_put_ 10 = .ok (.aload_n 0, 1) := by decide +kernel
theorem dX12_put__11 : decode cX12_put_ 11 = .ok (.getfield 148, 3) := by decide +kernel
theorem dX12_put__14 : decode cX12_put_ 14 = .ok (.aload_n 0, 1) := by decide +kernel
theorem dX12_put__15 : decode cX12_put_ 15 = .ok (.getfield 371, 3) := by decide +kernel
theorem dX12_put__18 : decode cX12_put_ 18 = .ok (.iload_n 1, 1) := by decide +kernel
theorem dX12_put__19 : decode cX12_put_ 19 = .ok (.ifCond .eq 7, 3) := by decide +kernel
theorem dX12_put__22 : decode cX12_put_ 22 = .ok (.iload_n 2, 1) := by decide +kernel
theorem dX12_put__23 : decode cX12_put_ 23 = .ok (.goto 4, 3) := by decide +kernel
theorem dX12_put__26 : decode cX12_put_ 26 = .ok (.iconst 0, 1) := by decide +kernel
theorem dX12_put__27 : decode cX12_put_ 27 = .ok (.iastore, 1) := by decide +kernel
theorem dX12_put__28 : decode cX12_put_ 28 = .ok (.aload_n 0, 1) := by decide +kernel
theorem dX12_put__29 : decode cX12_put_ 29 = .ok (.dup, 1) := by decide +kernel
theorem dX12_put__30 : decode cX12_put_ 30 = .ok (.getfield 371, 3) := by decide +kernel
theorem dX12_put__33 : decode cX12_put_ 33 = .ok (.iconst 1, 1) := by decide +kernel
theorem dX12_put__34 : decode cX12_put_ 34 = .ok (.iadd, 1) := by decide +kernel
theorem dX12_put__35 : decode cX12_put_ 35 = .ok (.putfield 371, 3) := by decide +kernel
theorem dX12_put__38 : decode cX12_put_ 38 = .ok (.return_, 1) := by decide +kernel
theorem dX12_work_0 : decode cX12_work 0 = .ok (.aload_n 0, 1) := by decide +kernel
theorem dX12_work_1 : decode cX12_work 1 = .ok (.iconst 0, 1) := by decide +kernel
theorem dX12_work_2 : decode cX12_work 2 = .ok (.putfield 347, 3) := by decide +kernel
theorem dX12_work_5 : decode cX12_work 5 = .ok (.aload_n 0, 1) := by decide +kernel
theorem dX12_work_6 : decode cX12_work 6 = .ok (.lconst 0, 1) := by decide +kernel
theorem dX12_work_7 : decode cX12_work 7 = .ok (.putfield 350, 3) := by decide +kernel
theorem dX12_work_10 : decode cX12_work 10 = .ok (.aload_n 0, 1) := by decide +kernel
theorem dX12_work_11 : decode cX12_work 11 = .ok (.getfield 106, 3) := by decide +kernel
theorem dX12_work_14 : decode cX12_work 14 = .ok (.iload_n 2, 1) := by decide +kernel
theorem dX12_work_15 : decode cX12_work 15 = .ok (.iaload, 1) := by decide +kernel
theorem dX12_work_16 : decode cX12_work 16 = .ok (.iconst 1, 1) := by decide +kernel
theorem dX12_work_17 : decode cX12_work 17 = .ok (.if_icmp .ne 9, 3) := by decide +kernel
theorem dX12_work_20 : decode cX12_work 20 = .ok (.aload_n 0, 1) := by decide +kernel
theorem dX12_work_21 : decode cX12_work 21 = .ok (.iload_n 1, 1) := by decide +kernel
theorem dX12_work_22 : decode cX12_work 22 = .ok (.iload_n 2, 1) := by decide +kernel
theorem dX12_work_23 : decode cX12_work 23 = .ok (.invokevirtual 374, 3) := by decide +kernel
theorem dX12_work_26 : decode cX12_work 26 = .ok (.aload_n 0, 1) := by decide +kernel
theorem dX12_work_27 : decode cX12_work 27 = .ok (.getfield 106, 3) := by decide +kernel
theorem dX12_work_30 : decode cX12_work 30 = .ok (.iload_n 2, 1) := by decide +kernel
theorem dX12_work_31 : decode cX12_work 31 = .ok (.iaload, 1) := by decide +kernel
theorem dX12_work_32 : decode cX12_work 32 = .ok (.iconst 2, 1) := by decide +kernel
theorem dX12_work_33 : decode cX12_work 33 = .ok (.if_icmp .ne 9, 3) := by decide +kernel
theorem dX12_work_36 : decode cX12_work 36 = .ok (.aload_n 0, 1) := by decide +kernel
theorem dX12_work_37 : decode cX12_work 37 = .ok (.iload_n 1, 1) := by decide +kernel
theorem dX12_work_38 : decode cX12_work 38 = .ok (.iload_n 2, 1) := by decide +kernel
theorem dX12_work_39 : decode cX12_work 39 = .ok (.invokevirtual 377, 3) := by decide +kernel
theorem dX12_work_42 : decode cX12_work 42 = .ok (.aload_n 0, 1) := by decide +kernel
theorem dX12_work_43 : decode cX12_work 43 = .ok (.getfield 106, 3) := by decide +kernel
theorem dX12_work_46 : decode cX12_work 46 = .ok (.iload_n 2, 1) := by decide +kernel
theorem dX12_work_47 : decode cX12_work 47 = .ok (.iaload, 1) := by decide +kernel
theorem dX12_work_48 : decode cX12_work 48 = .ok (.iconst 3, 1) := by decide +kernel
theorem dX12_work_49 : decode cX12_work 49 = .ok (.if_icmp .ne 9, 3) := by decide +kernel
theorem dX12_work_52 : decode cX12_work 52 = .ok (.aload_n 0, 1) := by decide +kernel
theorem dX12_work_53 : decode cX12_work 53 = .ok (.iload_n 1, 1) := by decide +kernel
theorem dX12_work_54 : decode cX12_work 54 = .ok (.iload_n 2, 1) := by decide +kernel
theorem dX12_work_55 : decode cX12_work 55 = .ok (.invokevirtual 380, 3) := by decide +kernel
theorem dX12_work_58 : decode cX12_work 58 = .ok (.aload_n 0, 1) := by decide +kernel
theorem dX12_work_59 : decode cX12_work 59 = .ok (.getfield 106, 3) := by decide +kernel
theorem dX12_work_62 : decode cX12_work 62 = .ok (.iload_n 2, 1) := by decide +kernel
theorem dX12_work_63 : decode cX12_work 63 = .ok (.iaload, 1) := by decide +kernel
theorem dX12_work_64 : decode cX12_work 64 = .ok (.iconst 4, 1) := by decide +kernel
theorem dX12_work_65 : decode cX12_work 65 = .ok (.if_icmp .ne 46, 3) := by decide +kernel
theorem dX12_work_68 : decode cX12_work 68 = .ok (.aload_n 0, 1) := by decide +kernel
theorem dX12_work_69 : decode cX12_work 69 = .ok (.aload_n 0, 1) := by decide +kernel
theorem dX12_work_70 : decode cX12_work 70 = .ok (.getfield 109, 3) := by decide +kernel
theorem dX12_work_73 : decode cX12_work 73 = .ok (.iload_n 2, 1) := by decide +kernel
theorem dX12_work_74 : decode cX12_work 74 = .ok (.iaload, 1) := by decide +kernel
theorem dX12_work_75 : decode cX12_work 75 = .ok (.ifCond .ne 12, 3) := by decide +kernel
theorem dX12_work_78 : decode cX12_work 78 = .ok (.aload_n 0, 1) := by decide +kernel
theorem dX12_work_79 : decode cX12_work 79 = .ok (.getfield 17, 3) := by decide +kernel
theorem dX12_work_82 : decode cX12_work 82 = .ok (.iload_n 1, 1) := by decide +kernel
theorem dX12_work_83 : decode cX12_work 83 = .ok (.iaload, 1) := by decide +kernel
theorem dX12_work_84 : decode cX12_work 84 = .ok (.goto 9, 3) := by decide +kernel
theorem dX12_work_87 : decode cX12_work 87 = .ok (.aload_n 0, 1) := by decide +kernel
theorem dX12_work_88 : decode cX12_work 88 = .ok (.getfield 20, 3) := by decide +kernel
theorem dX12_work_91 : decode cX12_work 91 = .ok (.iload_n 1, 1) := by decide +kernel
theorem dX12_work_92 : decode cX12_work 92 = .ok (.iaload, 1) := by decide +kernel
theorem dX12_work_93 : decode cX12_work 93 = .ok (.aload_n 0, 1) := by decide +kernel
theorem dX12_work_94 : decode cX12_work 94 = .ok (.getfield 112, 3) := by decide +kernel
theorem dX12_work_97 : decode cX12_work 97 = .ok (.iload_n 2, 1) := by decide +kernel
theorem dX12_work_98 : decode cX12_work 98 = .ok (.iaload, 1) := by decide +kernel
theorem dX12_work_99 : decode cX12_work 99 = .ok (.aload_n 0, 1) := by decide +kernel
theorem dX12_work_100 : decode cX12_work 100 = .ok (.getfield 115, 3) := by decide +kernel
theorem dX12_work_103 : decode cX12_work 103 = .ok (.iload_n 2, 1) := by decide +kernel
theorem dX12_work_104 : decode cX12_work 104 = .ok (.iaload, 1) := by decide +kernel
theorem dX12_work_105 : decode cX12_work 105 = .ok (.invokestatic 164, 3) := by decide +kernel
theorem dX12_work_108 : decode cX12_work 108 = .ok (.putfield 347, 3) := by decide +kernel
theorem dX12_work_111 : decode cX12_work 111 = .ok (.aload_n 0, 1) := by decide +kernel
theorem dX12_work_112 : decode cX12_work 112 = .ok (.getfield 106, 3) := by decide +kernel
theorem dX12_work_115 : decode cX12_work 115 = .ok (.iload_n 2, 1) := by decide +kernel
theorem dX12_work_116 : decode cX12_work 116 = .ok (.iaload, 1) := by decide +kernel
theorem dX12_work_117 : decode cX12_work 117 = .ok (.iconst 4, 1) := by decide +kernel
theorem dX12_work_118 : decode cX12_work 118 = .ok (.if_icmp .gt 17, 3) := by decide +kernel
theorem dX12_work_121 : decode cX12_work 121 = .ok (.aload_n 0, 1) := by decide +kernel
theorem dX12_work_122 : decode cX12_work 122 = .ok (.aload_n 0, 1) := by decide +kernel
theorem dX12_work_123 : decode cX12_work 123 = .ok (.getfield 347, 3) := by decide +kernel
theorem dX12_work_126 : decode cX12_work 126 = .ok (.aload_n 0, 1) := by decide +kernel
theorem dX12_work_127 : decode cX12_work 127 = .ok (.getfield 350, 3) := by decide +kernel
theorem dX12_work_130 : decode cX12_work 130 = .ok (.l2i, 1) := by decide +kernel
theorem dX12_work_131 : decode cX12_work 131 = .ok (.invokevirtual 383, 3) := by decide +kernel
theorem dX12_work_134 : decode cX12_work 134 = .ok (.return_, 1) := by decide +kernel
theorem dX12_work_135 : decode cX12_work 135 = .ok (.aload_n 0, 1) := by decide +kernel
theorem dX12_work_136 : decode cX12_work 136 = .ok (.getfield 106, 3) := by decide +kernel
theorem dX12_work_139 : decode cX12_work 139 = .ok (.iload_n 2, 1) := by decide +kernel
theorem dX12_work_140 : decode cX12_work 140 = .ok (.iaload, 1) := by decide +kernel
theorem dX12_work_141 : decode cX12_work 141 = .ok (.iconst 5, 1) := by decide +kernel
theorem dX12_work_142 : decode cX12_work 142 = .ok (.if_icmp .eq 14, 3) := by decide +kernel
theorem dX12_work_145 : decode cX12_work 145 = .ok (.aload_n 0, 1) := by decide +kernel
theorem dX12_work_146 : decode cX12_work 146 = .ok (.getfield 106, 3) := by decide +kernel
theorem dX12_work_149 : decode cX12_work 149 = .ok (.iload_n 2, 1) := by decide +kernel
theorem dX12_work_150 : decode cX12_work 150 = .ok (.iaload, 1) := by decide +kernel
theorem dX12_work_151 : decode cX12_work 151 = .ok (.bipush 6, 2) := by decide +kernel
theorem dX12_work_153 : decode cX12_work 153 = .ok (.if_icmp .ne 7, 3) := by decide +kernel
theorem dX12_work_156 : decode cX12_work 156 = .ok (.iconst 1, 1) := by decide +kernel
theorem dX12_work_157 : decode cX12_work 157 = .ok (.goto 9, 3) := by decide +kernel
theorem dX12_work_160 : decode cX12_work 160 = .ok (.aload_n 0, 1) := by decide +kernel
theorem dX12_work_161 : decode cX12_work 161 = .ok (.getfield 112, 3) := by decide +kernel
theorem dX12_work_164 : decode cX12_work 164 = .ok (.iload_n 2, 1) := by decide +kernel
theorem dX12_work_165 : decode cX12_work 165 = .ok (.iaload, 1) := by decide +kernel
theorem dX12_work_166 : decode cX12_work 166 = .ok (.istore_n 3, 1) := by decide +kernel
theorem dX12_work_167 : decode cX12_work 167 = .ok (.aload_n 0, 1) := by decide +kernel
theorem dX12_work_168 : decode cX12_work 168 = .ok (.dup, 1) := by decide +kernel
theorem dX12_work_169 : decode cX12_work 169 = .ok (.getfield 371, 3) := by decide +kernel
theorem dX12_work_172 : decode cX12_work 172 = .ok (.iload_n 3, 1) := by decide +kernel
theorem dX12_work_173 : decode cX12_work 173 = .ok (.isub, 1) := by decide +kernel
theorem dX12_work_174 : decode cX12_work 174 = .ok (.putfield 371, 3) := by decide +kernel
theorem dX12_work_177 : decode cX12_work 177 = .ok (.aload_n 0, 1) := by decide +kernel
theorem dX12_work_178 : decode cX12_work 178 = .ok (.getfield 106, 3) := by decide +kernel
theorem dX12_work_181 : decode cX12_work 181 = .ok (.iload_n 2, 1) := by decide +kernel
theorem dX12_work_182 : decode cX12_work 182 = .ok (.iaload, 1) := by decide +kernel
theorem dX12_work_183 : decode cX12_work 183 = .ok (.iconst 5, 1) := by decide +kernel
theorem dX12_work_184 : decode cX12_work 184 = .ok (.if_icmp .ne 26, 3) := by decide +kernel
theorem dX12_work_187 : decode cX12_work 187 = .ok (.aload_n 0, 1) := by decide +kernel
theorem dX12_work_188 : decode cX12_work 188 = .ok (.aload_n 0, 1) := by decide +kernel
theorem dX12_work_189 : decode cX12_work 189 = .ok (.getfield 145, 3) := by decide +kernel
theorem dX12_work_192 : decode cX12_work 192 = .ok (.aload_n 0, 1) := by decide +kernel
theorem dX12_work_193 : decode cX12_work 193 = .ok (.getfield 371, 3) := by decide +kernel
theorem dX12_work_196 : decode cX12_work 196 = .ok (.baload, 1) := by decide +kernel
theorem dX12_work_197 : decode cX12_work 197 = .ok (.ifCond .ne 7, 3) := by decide +kernel
theorem dX12_work_200 : decode cX12_work 200 = .ok (.iconst 1, 1) := by decide +kernel
theorem dX12_work_201 : decode cX12_work 201 = .ok (.goto 4, 3) := by decide +kernel
theorem dX12_work_204 : decode cX12_work 204 = .ok (.iconst 0, 1) := by decide +kernel
theorem dX12_work_205 : decode cX12_work 205 = .ok (.iconst 0, 1) := by decide +kernel
theorem dX12_work_206 : decode cX12_work 206 = .ok (.invokevirtual 383, 3) := by decide +kernel
theorem dX12_work_209 : decode cX12_work 209 = .ok (.return_, 1) := by decide +kernel
theorem dX12_work_210 : decode cX12_work 210 = .ok (.aload_n 0, 1) := by decide +kernel
theorem dX12_work_211 : decode cX12_work 211 = .ok (.getfield 106, 3) := by decide +kernel
theorem dX12_work_214 : decode cX12_work 214 = .ok (.iload_n 2, 1) := by decide +kernel
theorem dX12_work_215 : decode cX12_work 215 = .ok (.iaload, 1) := by decide +kernel
theorem dX12_work_216 : decode cX12_work 216 = .ok (.bipush 6, 2) := by decide +kernel
theorem dX12_work_218 : decode cX12_work 218 = .ok (.if_icmp .ne 38, 3) := by decide +kernel
theorem dX12_work_221 : decode cX12_work 221 = .ok (.aload_n 0, 1) := by decide +kernel
theorem dX12_work_222 : decode cX12_work 222 = .ok (.aload_n 0, 1) := by decide +kernel
theorem dX12_work_223 : decode cX12_work 223 = .ok (.getfield 145, 3) := by decide +kernel
theorem dX12_work_226 : decode cX12_work 226 = .ok (.aload_n 0, 1) := by decide +kernel
theorem dX12_work_227 : decode cX12_work 227 = .ok (.getfield 371, 3) := by decide +kernel
theorem dX12_work_230 : decode cX12_work 230 = .ok (.baload, 1) := by decide +kernel
theorem dX12_work_231 : decode cX12_work 231 = .ok (.aload_n 0, 1) := by decide +kernel
theorem dX12_work_232 : decode cX12_work 232 = .ok (.getfield 148, 3) := by decide +kernel
theorem dX12_work_235 : decode cX12_work 235 = .ok (.aload_n 0, 1) := by decide +kernel
theorem dX12_work_236 : decode cX12_work 236 = .ok (.getfield 371, 3) := by decide +kernel
theorem dX12_work_239 : decode cX12_work 239 = .ok (.iaload, 1) := by decide +kernel
theorem dX12_work_240 : decode cX12_work 240 = .ok (.i2l, 1) := by decide +kernel
theorem dX12_work_241 : decode cX12_work 241 = .ok (.aload_n 0, 1) := by decide +kernel
theorem dX12_work_242 : decode cX12_work 242 = .ok (.getfield 112, 3) := by decide +kernel
theorem dX12_work_245 : decode cX12_work 245 = .ok (.iload_n 2, 1) := by decide +kernel
theorem dX12_work_246 : decode cX12_work 246 = .ok (.iaload, 1) := by decide +kernel
theorem dX12_work_247 : decode cX12_work 247 = .ok (.i2l, 1) := by decide +kernel
theorem dX12_work_248 : decode cX12_work 248 = .ok (.lmul, 1) := by decide +kernel
theorem dX12_work_249 : decode cX12_work 249 = .ok (.invokestatic 342, 3) := by decide +kernel
theorem dX12_work_252 : decode cX12_work 252 = .ok (.invokevirtual 383, 3) := by decide +kernel
theorem dX12_work_255 : decode cX12_work 255 = .ok (.return_, 1) := by decide +kernel
theorem dX12_work_256 : decode cX12_work 256 = .ok (.aload_n 0, 1) := by decide +kernel
theorem dX12_work_257 : decode cX12_work 257 = .ok (.getfield 106, 3) := by decide +kernel
theorem dX12_work_260 : decode cX12_work 260 = .ok (.iload_n 2, 1) := by decide +kernel
theorem dX12_work_261 : decode cX12_work 261 = .ok (.iaload, 1) := by decide +kernel
theorem dX12_work_262 : decode cX12_work 262 = .ok (.bipush 7, 2) := by decide +kernel
theorem dX12_work_264 : decode cX12_work 264 = .ok (.if_icmp .ne 7, 3) := by decide +kernel
theorem dX12_work_267 : decode cX12_work 267 = .ok (.iconst 1, 1) := by decide +kernel
theorem dX12_work_268 : decode cX12_work 268 = .ok (.goto 4, 3) := by decide +kernel
theorem dX12_work_271 : decode cX12_work 271 = .ok (.iconst 0, 1) := by decide +kernel
theorem dX12_work_272 : decode cX12_work 272 = .ok (.istore 4, 2) := by decide +kernel
theorem dX12_work_274 : decode cX12_work 274 = .ok (.lconst 0, 1) := by decide +kernel
theorem dX12_work_275 : decode cX12_work 275 = .ok (.lstore 5, 2) := by decide +kernel
theorem dX12_work_277 : decode cX12_work 277 = .ok (.aload_n 0, 1) := by decide +kernel
theorem dX12_work_278 : decode cX12_work 278 = .ok (.getfield 371, 3) := by decide +kernel
theorem dX12_work_281 : decode cX12_work 281 = .ok (.istore 7, 2) := by decide +kernel
theorem dX12_work_283 : decode cX12_work 283 = .ok (.iload 7, 2) := by decide +kernel
theorem dX12_work_285 : decode cX12_work 285 = .ok (.aload_n 0, 1) := by decide +kernel
theorem dX12_work_286 : decode cX12_work 286 = .ok (.getfield 371, 3) := by decide +kernel
theorem dX12_work_289 : decode cX12_work 289 = .ok (.iload_n 3, 1) := by decide +kernel
theorem dX12_work_290 : decode cX12_work 290 = .ok (.iadd, 1) := by decide +kernel
theorem dX12_work_291 : decode cX12_work 291 = .ok (.if_icmp .ge 82, 3) := by decide +kernel
theorem dX12_work_294 : decode cX12_work 294 = .ok (.aload_n 0, 1) := by decide +kernel
theorem dX12_work_295 : decode cX12_work 295 = .ok (.getfield 106, 3) := by decide +kernel
theorem dX12_work_298 : decode cX12_work 298 = .ok (.iload_n 2, 1) := by decide +kernel
theorem dX12_work_299 : decode cX12_work 299 = .ok (.iaload, 1) := by decide +kernel
theorem dX12_work_300 : decode cX12_work 300 = .ok (.bipush 7, 2) := by decide +kernel
theorem dX12_work_302 : decode cX12_work 302 = .ok (.if_icmp .ne 26, 3) := by decide +kernel
theorem dX12_work_305 : decode cX12_work 305 = .ok (.iload 4, 2) := by decide +kernel
theorem dX12_work_307 : decode cX12_work 307 = .ok (.ifCond .eq 17, 3) := by decide +kernel
theorem dX12_work_310 : decode cX12_work 310 = .ok (.aload_n 0, 1) := by decide +kernel
theorem dX12_work_311 : decode cX12_work 311 = .ok (.getfield 145, 3) := by decide +kernel
theorem dX12_work_314 : decode cX12_work 314 = .ok (.iload 7, 2) := by decide +kernel
theorem dX12_work_316 : decode cX12_work 316 = .ok (.baload, 1) := by decide +kernel
theorem dX12_work_317 : decode cX12_work 317 = .ok (.ifCond .eq 7, 3) := by decide +kernel
theorem dX12_work_320 : decode cX12_work 320 = .ok (.iconst 1, 1) := by decide +kernel
theorem dX12_work_321 : decode cX12_work 321 = .ok (.goto 27, 3) := by decide +kernel
theorem dX12_work_324 : decode cX12_work 324 = .ok (.iconst 0, 1) := by decide +kernel
theorem dX12_work_325 : decode cX12_work 325 = .ok (.goto 23, 3) := by decide +kernel
theorem dX12_work_328 : decode cX12_work 328 = .ok (.iload 4, 2) := by decide +kernel
theorem dX12_work_330 : decode cX12_work 330 = .ok (.ifCond .ne 13, 3) := by decide +kernel
theorem dX12_work_333 : decode cX12_work 333 = .ok (.aload_n 0, 1) := by decide +kernel
theorem dX12_work_334 : decode cX12_work 334 = .ok (.getfield 145, 3) := by decide +kernel
theorem dX12_work_337 : decode cX12_work 337 = .ok (.iload 7, 2) := by decide +kernel
theorem dX12_work_339 : decode cX12_work 339 = .ok (.baload, 1) := by decide +kernel
theorem dX12_work_340 : decode cX12_work 340 = .ok (.ifCond .eq 7, 3) := by decide +kernel
theorem dX12_work_343 : decode cX12_work 343 = .ok (.iconst 1, 1) := by decide +kernel
theorem dX12_work_344 : decode cX12_work 344 = .ok (.goto 4, 3) := by decide +kernel
theorem dX12_work_347 : decode cX12_work 347 = .ok (.iconst 0, 1) := by decide +kernel
theorem dX12_work_348 : decode cX12_work 348 = .ok (.istore 4, 2) := by decide +kernel
theorem dX12_work_350 : decode cX12_work 350 = .ok (.lload 5, 2) := by decide +kernel
theorem dX12_work_352 : decode cX12_work 352 = .ok (.aload_n 0, 1) := by decide +kernel
theorem dX12_work_353 : decode cX12_work 353 = .ok (.getfield 148, 3) := by decide +kernel
theorem dX12_work_356 : decode cX12_work 356 = .ok (.iload 7, 2) := by decide +kernel
theorem dX12_work_358 : decode cX12_work 358 = .ok (.iaload, 1) := by decide +kernel
theorem dX12_work_359 : decode cX12_work 359 = .ok (.i2l, 1) := by decide +kernel
theorem dX12_work_360 : decode cX12_work 360 = .ok (.ladd, 1) := by decide +kernel
theorem dX12_work_361 : decode cX12_work 361 = .ok (.invokestatic 342, 3) := by decide +kernel
theorem dX12_work_364 : decode cX12_work 364 = .ok (.i2l, 1) := by decide +kernel
theorem dX12_work_365 : decode cX12_work 365 = .ok (.lstore 5, 2) := by decide +kernel
theorem dX12_work_367 : decode cX12_work 367 = .ok (.iinc 7 1, 3) := by decide +kernel
theorem dX12_work_370 : decode cX12_work 370 = .ok (.goto (-87), 3) := by decide +kernel
theorem dX12_work_373 : decode cX12_work 373 = .ok (.aload_n 0, 1) := by decide +kernel
theorem dX12_work_374 : decode cX12_work 374 = .ok (.iload 4, 2) := by decide +kernel
theorem dX12_work_376 : decode cX12_work 376 = .ok (.lload 5, 2) := by decide +kernel
theorem dX12_work_378 : decode cX12_work 378 = .ok (.l2i, 1) := by decide +kernel
theorem dX12_work_379 : decode cX12_work 379 = .ok (.invokevirtual 383, 3) := by decide +kernel
theorem dX12_work_382 : decode cX12_work 382 = .ok (.return_, 1) := by decide +kernel
theorem dX12_search_0 : decode cX12_search 0 = .ok (.aload_n 0, 1) := by decide +kernel
theorem dX12_search_1 : decode cX12_search 1 = .ok (.getfield 168, 3) := by decide +kernel
theorem dX12_search_4 : decode cX12_search 4 = .ok (.istore_n 2, 1) := by decide +kernel
theorem dX12_search_5 : decode cX12_search 5 = .ok (.aload_n 0, 1) := by decide +kernel
theorem dX12_search_6 : decode cX12_search 6 = .ok (.iconst 0, 1) := by decide +kernel
theorem dX12_search_7 : decode cX12_search 7 = .ok (.putfield 168, 3) := by decide +kernel
theorem dX12_search_10 : decode cX12_search 10 = .ok (.aload_n 0, 1) := by decide +kernel
theorem dX12_search_11 : decode cX12_search 11 = .ok (.iload_n 1, 1) := by decide +kernel
theorem dX12_search_12 : decode cX12_search 12 = .ok (.invokevirtual 236, 3) := by decide +kernel
theorem dX12_search_15 : decode cX12_search 15 = .ok (.ifCond .ne 6, 3) := by decide +kernel
theorem dX12_search_18 : decode cX12_search 18 = .ok (.bipush (-2), 2) := by decide +kernel
theorem dX12_search_20 : decode cX12_search 20 = .ok (.ireturn, 1) := by decide +kernel
theorem dX12_search_21 : decode cX12_search 21 = .ok (.aload_n 0, 1) := by decide +kernel
theorem dX12_search_22 : decode cX12_search 22 = .ok (.getfield 295, 3) := by decide +kernel
theorem dX12_search_25 : decode cX12_search 25 = .ok (.istore_n 3, 1) := by decide +kernel
theorem dX12_search_26 : decode cX12_search 26 = .ok (.aload_n 0, 1) := by decide +kernel
theorem dX12_search_27 : decode cX12_search 27 = .ok (.iload_n 2, 1) := by decide +kernel
theorem dX12_search_28 : decode cX12_search 28 = .ok (.putfield 242, 3) := by decide +kernel
theorem dX12_search_31 : decode cX12_search 31 = .ok (.aload_n 0, 1) := by decide +kernel
theorem dX12_search_32 : decode cX12_search 32 = .ok (.iconst 0, 1) := by decide +kernel
theorem dX12_search_33 : decode cX12_search 33 = .ok (.putfield 239, 3) := by decide +kernel
theorem dX12_search_36 : decode cX12_search 36 = .ok (.aload_n 0, 1) := by decide +kernel
theorem dX12_search_37 : decode cX12_search 37 = .ok (.iconst (-1), 1) := by decide +kernel
theorem dX12_search_38 : decode cX12_search 38 = .ok (.putfield 254, 3) := by decide +kernel
theorem dX12_search_41 : decode cX12_search 41 = .ok (.aload_n 0, 1) := by decide +kernel
theorem dX12_search_42 : decode cX12_search 42 = .ok (.invokevirtual 386, 3) := by decide +kernel
theorem dX12_search_45 : decode cX12_search 45 = .ok (.aload_n 0, 1) := by decide +kernel
theorem dX12_search_46 : decode cX12_search 46 = .ok (.getfield 254, 3) := by decide +kernel
theorem dX12_search_49 : decode cX12_search 49 = .ok (.iconst (-1), 1) := by decide +kernel
theorem dX12_search_50 : decode cX12_search 50 = .ok (.if_icmp .eq 16, 3) := by decide +kernel
theorem dX12_search_53 : decode cX12_search 53 = .ok (.aload_n 0, 1) := by decide +kernel
theorem dX12_search_54 : decode cX12_search 54 = .ok (.iload_n 3, 1) := by decide +kernel
theorem dX12_search_55 : decode cX12_search 55 = .ok (.putfield 295, 3) := by decide +kernel
theorem dX12_search_58 : decode cX12_search 58 = .ok (.bipush (-10), 2) := by decide +kernel
theorem dX12_search_60 : decode cX12_search 60 = .ok (.aload_n 0, 1) := by decide +kernel
theorem dX12_search_61 : decode cX12_search 61 = .ok (.getfield 254, 3) := by decide +kernel
theorem dX12_search_64 : decode cX12_search 64 = .ok (.isub, 1) := by decide +kernel
theorem dX12_search_65 : decode cX12_search 65 = .ok (.ireturn, 1) := by decide +kernel
theorem dX12_search_66 : decode cX12_search 66 = .ok (.iconst 0, 1) := by decide +kernel
theorem dX12_search_67 : decode cX12_search 67 = .ok (.istore 4, 2) := by decide +kernel
theorem dX12_search_69 : decode cX12_search 69 = .ok (.iload 4, 2) := by decide +kernel
theorem dX12_search_71 : decode cX12_search 71 = .ok (.aload_n 0, 1) := by decide +kernel
theorem dX12_search_72 : decode cX12_search 72 = .ok (.getfield 295, 3) := by decide +kernel
theorem dX12_search_75 : decode cX12_search 75 = .ok (.if_icmp .ge 108, 3) := by decide +kernel
theorem dX12_search_78 : decode cX12_search 78 = .ok (.aload_n 0, 1) := by decide +kernel
theorem dX12_search_79 : decode cX12_search 79 = .ok (.getfield 82, 3) := by decide +kernel
theorem dX12_search_82 : decode cX12_search 82 = .ok (.iload 4, 2) := by decide +kernel
theorem dX12_search_84 : decode cX12_search 84 = .ok (.aload_n 0, 1) := by decide +kernel
theorem dX12_search_85 : decode cX12_search 85 = .ok (.getfield 136, 3) := by decide +kernel
theorem dX12_search_88 : decode cX12_search 88 = .ok (.iload 4, 2) := by decide +kernel
theorem dX12_search_90 : decode cX12_search 90 = .ok (.iaload, 1) := by decide +kernel
theorem dX12_search_91 : decode cX12_search 91 = .ok (.iastore, 1) := by decide +kernel
theorem dX12_search_92 : decode cX12_search 92 = .ok (.aload_n 0, 1) := by decide +kernel
theorem dX12_search_93 : decode cX12_search 93 = .ok (.getfield 85, 3) := by decide +kernel
theorem dX12_search_96 : decode cX12_search 96 = .ok (.iload 4, 2) := by decide +kernel
theorem dX12_search_98 : decode cX12_search 98 = .ok (.aload_n 0, 1) := by decide +kernel
theorem dX12_search_99 : decode cX12_search 99 = .ok (.getfield 139, 3) := by decide +kernel
theorem dX12_search_102 : decode cX12_search 102 = .ok (.iload 4, 2) := by decide +kernel
theorem dX12_search_104 : decode cX12_search 104 = .ok (.iaload, 1) := by decide +kernel
theorem dX12_search_105 : decode cX12_search 105 = .ok (.iastore, 1) := by decide +kernel
theorem dX12_search_106 : decode cX12_search 106 = .ok (.aload_n 0, 1) := by decide +kernel
theorem dX12_search_107 : decode cX12_search 107 = .ok (.getfield 88, 3) := by decide +kernel
theorem dX12_search_110 : decode cX12_search 110 = .ok (.iload 4, 2) := by decide +kernel
theorem dX12_search_112 : decode cX12_search 112 = .ok (.aload_n 0, 1) := by decide +kernel
theorem dX12_search_113 : decode cX12_search 113 = .ok (.getfield 118, 3) := by decide +kernel
theorem dX12_search_116 : decode cX12_search 116 = .ok (.aload_n 0, 1) := by decide +kernel
theorem dX12_search_117 : decode cX12_search 117 = .ok (.getfield 142, 3) := by decide +kernel
theorem dX12_search_120 : decode cX12_search 120 = .ok (.iload 4, 2) := by decide +kernel
theorem dX12_search_122 : decode cX12_search 122 = .ok (.iaload, 1) := by decide +kernel
theorem dX12_search_123 : decode cX12_search 123 = .ok (.iaload, 1) := by decide +kernel
theorem dX12_search_124 : decode cX12_search 124 = .ok (.iastore, 1) := by decide +kernel
theorem dX12_search_125 : decode cX12_search 125 = .ok (.iconst 0, 1) := by decide +kernel
theorem dX12_search_126 : decode cX12_search 126 = .ok (.istore 5, 2) := by decide +kernel
theorem dX12_search_128 : decode cX12_search 128 = .ok (.iload 5, 2) := by decide +kernel
theorem dX12_search_130 : decode cX12_search 130 = .ok (.aload_n 0, 1) := by decide +kernel
theorem dX12_search_131 : decode cX12_search 131 = .ok (.getfield 88, 3) := by decide +kernel
theorem dX12_search_134 : decode cX12_search 134 = .ok (.iload 4, 2) := by decide +kernel
theorem dX12_search_136 : decode cX12_search 136 = .ok (.iaload, 1) := by decide +kernel
theorem dX12_search_137 : decode cX12_search 137 = .ok (.if_icmp .ge 40, 3) := by decide +kernel
theorem dX12_search_140 : decode cX12_search 140 = .ok (.aload_n 0, 1) := by decide +kernel
theorem dX12_search_141 : decode cX12_search 141 = .ok (.getfield 91, 3) := by decide +kernel
theorem dX12_search_144 : decode cX12_search 144 = .ok (.bipush 12, 2) := by decide +kernel
theorem dX12_search_146 : decode cX12_search 146 = .ok (.iload 4, 2) := by decide +kernel
theorem dX12_search_148 : decode cX12_search 148 = .ok (.imul, 1) := by decide +kernel
theorem dX12_search_149 : decode cX12_search 149 = .ok (.iload 5, 2) := by decide +kernel
theorem dX12_search_151 : decode cX12_search 151 = .ok (.iadd, 1) := by decide +kernel
theorem dX12_search_152 : decode cX12_search 152 = .ok (.aload_n 0, 1) := by decide +kernel
theorem dX12_search_153 : decode cX12_search 153 = .ok (.getfield 121, 3) := by decide +kernel
theorem dX12_search_156 : decode cX12_search 156 = .ok (.bipush 12, 2) := by decide +kernel
theorem dX12_search_158 : decode cX12_search 158 = .ok (.aload_n 0, 1) := by decide +kernel
theorem dX12_search_159 : decode cX12_search 159 = .ok (.getfield 142, 3) := by decide +kernel
theorem dX12_search_162 : decode cX12_search 162 = .ok (.iload 4, 2) := by decide +kernel
theorem dX12_search_164 : decode cX12_search 164 = .ok (.iaload, 1) := by decide +kernel
theorem dX12_search_165 : decode cX12_search 165 = .ok (.imul, 1) := by decide +kernel
theorem dX12_search_166 : decode cX12_search 166 = .ok (.iload 5, 2) := by decide +kernel
theorem dX12_search_168 : decode cX12_search 168 = .ok (.iadd, 1) := by decide +kernel
theorem dX12_search_169 : decode cX12_search 169 = .ok (.iaload, 1) := by decide +kernel
theorem dX12_search_170 : decode cX12_search 170 = .ok (.iastore, 1) := by decide +kernel
theorem dX12_search_171 : decode cX12_search 171 = .ok (.iinc 5 1, 3) := by decide +kernel
theorem dX12_search_174 : decode cX12_search 174 = .ok (.goto (-46), 3) := by decide +kernel
theorem dX12_search_177 : decode cX12_search 177 = .ok (.iinc 4 1, 3) := by decide +kernel
theorem dX12_search_180 : decode cX12_search 180 = .ok (.goto (-111), 3) := by decide +kernel
theorem dX12_search_183 : decode cX12_search 183 = .ok (.aload_n 0, 1) := by decide +kernel
theorem dX12_search_184 : decode cX12_search 184 = .ok (.iload_n 1, 1) := by decide +kernel
theorem dX12_search_185 : decode cX12_search 185 = .ok (.putfield 331, 3) := by decide +kernel
theorem dX12_search_188 : decode cX12_search 188 = .ok (.aload_n 0, 1) := by decide +kernel
theorem dX12_search_189 : decode cX12_search 189 = .ok (.iload_n 1, 1) := by decide +kernel
theorem dX12_search_190 : decode cX12_search 190 = .ok (.putfield 72, 3) := by decide +kernel
theorem dX12_search_193 : decode cX12_search 193 = .ok (.aload_n 0, 1) := by decide +kernel
theorem dX12_search_194 : decode cX12_search 194 = .ok (.iconst 0, 1) := by decide +kernel
theorem dX12_search_195 : decode cX12_search 195 = .ok (.putfield 389, 3) := by decide +kernel
theorem dX12_search_198 : decode cX12_search 198 = .ok (.iconst 0, 1) := by decide +kernel
theorem dX12_search_199 : decode cX12_search 199 = .ok (.istore 4, 2) := by decide +kernel
theorem dX12_search_201 : decode cX12_search 201 = .ok (.iload 4, 2) := by decide +kernel
theorem dX12_search_203 : decode cX12_search 203 = .ok (.aload_n 0, 1) := by decide +kernel
theorem dX12_search_204 : decode cX12_search 204 = .ok (.getfield 63, 3) := by decide +kernel
theorem dX12_search_207 : decode cX12_search 207 = .ok (.aload_n 0, 1) := by decide +kernel
theorem dX12_search_208 : decode cX12_search 208 = .ok (.getfield 331, 3) := by decide +kernel
theorem dX12_search_211 : decode cX12_search 211 = .ok (.iaload, 1) := by decide +kernel
theorem dX12_search_212 : decode cX12_search 212 = .ok (.if_icmp .ge 101, 3) := by decide +kernel
theorem dX12_search_215 : decode cX12_search 215 = .ok (.aload_n 0, 1) := by decide +kernel
theorem dX12_search_216 : decode cX12_search 216 = .ok (.getfield 69, 3) := by decide +kernel
theorem dX12_search_219 : decode cX12_search 219 = .ok (.sipush 400, 3) := by decide +kernel
theorem dX12_search_222 : decode cX12_search 222 = .ok (.aload_n 0, 1) := by decide +kernel
theorem dX12_search_223 : decode cX12_search 223 = .ok (.getfield 331, 3) := by decide +kernel
theorem dX12_search_226 : decode cX12_search 226 = .ok (.imul, 1) := by decide +kernel
theorem dX12_search_227 : decode cX12_search 227 = .ok (.iload 4, 2) := by decide +kernel
theorem dX12_search_229 : decode cX12_search 229 = .ok (.iadd, 1) := by decide +kernel
theorem dX12_search_230 : decode cX12_search 230 = .ok (.baload, 1) := by decide +kernel
theorem dX12_search_231 : decode cX12_search 231 = .ok (.ifCond .eq 6, 3) := by decide +kernel
theorem dX12_search_234 : decode cX12_search 234 = .ok (.goto 73, 3) := by decide +kernel
theorem dX12_search_237 : decode cX12_search 237 = .ok (.aload_n 0, 1) := by decide +kernel
theorem dX12_search_238 : decode cX12_search 238 = .ok (.getfield 66, 3) := by decide +kernel
theorem dX12_search_241 : decode cX12_search 241 = .ok (.sipush 400, 3) := by decide +kernel
theorem dX12_search_244 : decode cX12_search 244 = .ok (.aload_n 0, 1) := by decide +kernel
theorem dX12_search_245 : decode cX12_search 245 = .ok (.getfield 331, 3) := by decide +kernel
theorem dX12_search_248 : decode cX12_search 248 = .ok (.imul, 1) := by decide +kernel
theorem dX12_search_249 : decode cX12_search 249 = .ok (.iload 4, 2) := by decide +kernel
theorem dX12_search_251 : decode cX12_search 251 = .ok (.iadd, 1) := by decide +kernel
theorem dX12_search_252 : decode cX12_search 252 = .ok (.iaload, 1) := by decide +kernel
theorem dX12_search_253 : decode cX12_search 253 = .ok (.istore 5, 2) := by decide +kernel
theorem dX12_search_255 : decode cX12_search 255 = .ok (.aload_n 0, 1) := by decide +kernel
theorem dX12_search_256 : decode cX12_search 256 = .ok (.iconst 0, 1) := by decide +kernel
theorem dX12_search_257 : decode cX12_search 257 = .ok (.putfield 371, 3) := by decide +kernel
theorem dX12_search_260 : decode cX12_search 260 = .ok (.iconst 0, 1) := by decide +kernel
theorem dX12_search_261 : decode cX12_search 261 = .ok (.istore 6, 2) := by decide +kernel
theorem dX12_search_263 : decode cX12_search 263 = .ok (.iload 6, 2) := by decide +kernel
theorem dX12_search_265 : decode cX12_search 265 = .ok (.aload_n 0, 1) := by decide +kernel
theorem dX12_search_266 : decode cX12_search 266 = .ok (.getfield 257, 3) := by decide +kernel
theorem dX12_search_269 : decode cX12_search 269 = .ok (.if_icmp .ge 17, 3) := by decide +kernel
theorem dX12_search_272 : decode cX12_search 272 = .ok (.aload_n 0, 1) := by decide +kernel
theorem dX12_search_273 : decode cX12_search 273 = .ok (.iload 5, 2) := by decide +kernel
theorem dX12_search_275 : decode cX12_search 275 = .ok (.iload 6, 2) := by decide +kernel
theorem dX12_search_277 : decode cX12_search 277 = .ok (.invokevirtual 392, 3) := by decide +kernel
theorem dX12_search_280 : decode cX12_search 280 = .ok (.iinc 6 1, 3) := by decide +kernel
theorem dX12_search_283 : decode cX12_search 283 = .ok (.goto (-20), 3) := by decide +kernel
theorem dX12_search_286 : decode cX12_search 286 = .ok (.aload_n 0, 1) := by decide +kernel
theorem dX12_search_287 : decode cX12_search 287 = .ok (.getfield 145, 3) := by decide +kernel
theorem dX12_search_290 : decode cX12_search 290 = .ok (.iconst 0, 1) := by decide +kernel
theorem dX12_search_291 : decode cX12_search 291 = .ok (.baload, 1) := by decide +kernel
theorem dX12_search_292 : decode cX12_search 292 = .ok (.ifCond .eq 15, 3) := by decide +kernel
theorem dX12_search_295 : decode cX12_search 295 = .ok (.aload_n 0, 1) := by decide +kernel
theorem dX12_search_296 : decode cX12_search 296 = .ok (.iload 5, 2) := by decide +kernel
theorem dX12_search_298 : decode cX12_search 298 = .ok (.aload_n 0, 1) := by decide +kernel
theorem dX12_search_299 : decode cX12_search 299 = .ok (.getfield 148, 3) := by decide +kernel
theorem dX12_search_302 : decode cX12_search 302 = .ok (.iconst 0, 1) := by decide +kernel
theorem dX12_search_303 : decode cX12_search 303 = .ok (.iaload, 1) := by decide +kernel
theorem dX12_search_304 : decode cX12_search 304 = .ok (.invokevirtual 395, 3) := by decide +kernel
theorem dX12_search_307 : decode cX12_search 307 = .ok (.iinc 4 1, 3) := by decide +kernel
theorem dX12_search_310 : decode cX12_search 310 = .ok (.goto (-109), 3) := by decide +kernel
theorem dX12_search_313 : decode cX12_search 313 = .ok (.aload_n 0, 1) := by decide +kernel
theorem dX12_search_314 : decode cX12_search 314 = .ok (.getfield 389, 3) := by decide +kernel
theorem dX12_search_317 : decode cX12_search 317 = .ok (.ireturn, 1) := by decide +kernel
theorem dX12_isBefore_0 : decode cX12_isBefore 0 = .ok (.iload_n 2, 1) := by decide +kernel
theorem dX12_isBefore_1 : decode cX12_isBefore 1 = .ok (.aload_n 0, 1) := by decide +kernel
theorem dX12_isBefore_2 : decode cX12_isBefore 2 = .ok (.getfield 79, 3) := by decide +kernel
theorem dX12_isBefore_5 : decode cX12_isBefore 5 = .ok (.iload_n 3, 1) := by decide +kernel
theorem dX12_isBefore_6 : decode cX12_isBefore 6 = .ok (.iaload, 1) := by decide +kernel
theorem dX12_isBefore_7 : decode cX12_isBefore 7 = .ok (.if_icmp .eq 19, 3) := by decide +kernel
theorem dX12_isBefore_10 : decode cX12_isBefore 10 = .ok (.iload_n 2, 1) := by decide +kernel
theorem dX12_isBefore_11 : decode cX12_isBefore 11 = .ok (.aload_n 0, 1) := by decide +kernel
theorem dX12_isBefore_12 : decode cX12_isBefore 12 = .ok (.getfield 79, 3) := by decide +kernel
theorem dX12_isBefore_15 : decode cX12_isBefore 15 = .ok (.iload_n 3, 1) := by decide +kernel
theorem dX12_isBefore_16 : decode cX12_isBefore 16 = .ok (.iaload, 1) := by decide +kernel
theorem dX12_isBefore_17 : decode cX12_isBefore 17 = .ok (.if_icmp .le 7, 3) := by decide +kernel
theorem dX12_isBefore_20 : decode cX12_isBefore 20 = .ok (.iconst 1, 1) := by decide +kernel
theorem dX12_isBefore_21 : decode cX12_isBefore 21 = .ok (.goto 4, 3) := by decide +kernel
theorem dX12_isBefore_24 : decode cX12_isBefore 24 = .ok (.iconst 0, 1) := by decide +kernel
theorem dX12_isBefore_25 : decode cX12_isBefore 25 = .ok (.ireturn, 1) := by decide +kernel
theorem dX12_isBefore_26 : decode cX12_isBefore 26 = .ok (.aload_n 0, 1) := by decide +kernel
theorem dX12_isBefore_27 : decode cX12_isBefore 27 = .ok (.getfield 13, 3) := by decide +kernel
theorem dX12_isBefore_30 : decode cX12_isBefore 30 = .ok (.iload_n 1, 1) := by decide +kernel
theorem dX12_isBefore_31 : decode cX12_isBefore 31 = .ok (.laload, 1) := by decide +kernel
theorem dX12_isBefore_32 : decode cX12_isBefore 32 = .ok (.aload_n 0, 1) := by decide +kernel
theorem dX12_isBefore_33 : decode cX12_isBefore 33 = .ok (.getfield 13, 3) := by decide +kernel
theorem dX12_isBefore_36 : decode cX12_isBefore 36 = .ok (.aload_n 0, 1) := by decide +kernel
theorem dX12_isBefore_37 : decode cX12_isBefore 37 = .ok (.getfield 76, 3) := by decide +kernel
theorem dX12_isBefore_40 : decode cX12_isBefore 40 = .ok (.iload_n 3, 1) := by decide +kernel
theorem dX12_isBefore_41 : decode cX12_isBefore 41 = .ok (.iaload, 1) := by decide +kernel
theorem dX12_isBefore_42 : decode cX12_isBefore 42 = .ok (.laload, 1) := by decide +kernel
theorem dX12_isBefore_43 : decode cX12_isBefore 43 = .ok (.lcmp, 1) := by decide +kernel
theorem dX12_isBefore_44 : decode cX12_isBefore 44 = .ok (.ifCond .eq 32, 3) := by decide +kernel
theorem dX12_isBefore_47 : decode cX12_isBefore 47 = .ok (.aload_n 0, 1) := by decide +kernel
theorem dX12_isBefore_48 : decode cX12_isBefore 48 = .ok (.getfield 13, 3) := by decide +kernel
theorem dX12_isBefore_51 : decode cX12_isBefore 51 = .ok (.iload_n 1, 1) := by decide +kernel
theorem dX12_isBefore_52 : decode cX12_isBefore 52 = .ok (.laload, 1) := by decide +kernel
theorem dX12_isBefore_53 : decode cX12_isBefore 53 = .ok (.aload_n 0, 1) := by decide +kernel
theorem dX12_isBefore_54 : decode cX12_isBefore 54 = .ok (.getfield 13, 3) := by decide +kernel
theorem dX12_isBefore_57 : decode cX12_isBefore 57 = .ok (.aload_n 0, 1) := by decide +kernel
theorem dX12_isBefore_58 : decode cX12_isBefore 58 = .ok (.getfield 76, 3) := by decide +kernel
theorem dX12_isBefore_61 : decode cX12_isBefore 61 = .ok (.iload_n 3, 1) := by decide +kernel
theorem dX12_isBefore_62 : decode cX12_isBefore 62 = .ok (.iaload, 1) := by decide +kernel
theorem dX12_isBefore_63 : decode cX12_isBefore 63 = .ok (.laload, 1) := by decide +kernel
theorem dX12_isBefore_64 : decode cX12_isBefore 64 = .ok (.lcmp, 1) := by decide +kernel
theorem dX12_isBefore_65 : decode cX12_isBefore 65 = .ok (.ifCond .ge 7, 3) := by decide +kernel
theorem dX12_isBefore_68 : decode cX12_isBefore 68 = .ok (.iconst 1, 1) := by decide +kernel
theorem dX12_isBefore_69 : decode cX12_isBefore 69 = .ok (.goto 22, 3) := by decide +kernel
theorem dX12_isBefore_72 : decode cX12_isBefore 72 = .ok (.iconst 0, 1) := by decide +kernel
theorem dX12_isBefore_73 : decode cX12_isBefore 73 = .ok (.goto 18, 3) := by decide +kernel
theorem dX12_isBefore_76 : decode cX12_isBefore 76 = .ok (.iload_n 1, 1) := by decide +kernel
theorem dX12_isBefore_77 : decode cX12_isBefore 77 = .ok (.aload_n 0, 1) := by decide +kernel
theorem dX12_isBefore_78 : decode cX12_isBefore 78 = .ok (.getfield 76, 3) := by decide +kernel
theorem dX12_isBefore_81 : decode cX12_isBefore 81 = .ok (.iload_n 3, 1) := by decide +kernel
theorem dX12_isBefore_82 : decode cX12_isBefore 82 = .ok (.iaload, 1) := by decide +kernel
theorem dX12_isBefore_83 : decode cX12_isBefore 83 = .ok (.if_icmp .ge 7, 3) := by decide +kernel
theorem dX12_isBefore_86 : decode cX12_isBefore 86 = .ok (.iconst 1, 1) := by decide +kernel
theorem dX12_isBefore_87 : decode cX12_isBefore 87 = .ok (.goto 4, 3) := by decide +kernel
theorem dX12_isBefore_90 : decode cX12_isBefore 90 = .ok (.iconst 0, 1) := by decide +kernel
theorem dX12_isBefore_91 : decode cX12_isBefore 91 = .ok (.ireturn, 1) := by decide +kernel
theorem dX12_insert_0 : decode cX12_insert 0 = .ok (.aload_n 0, 1) := by decide +kernel
theorem dX12_insert_1 : decode cX12_insert 1 = .ok (.getfield 389, 3) := by decide +kernel
theorem dX12_insert_4 : decode cX12_insert 4 = .ok (.istore_n 3, 1) := by decide +kernel
theorem dX12_insert_5 : decode cX12_insert 5 = .ok (.iload_n 3, 1) := by decide +kernel
theorem dX12_insert_6 : decode cX12_insert 6 = .ok (.ifCond .le 49, 3) := by decide +kernel
theorem dX12_insert_9 : decode cX12_insert 9 = .ok (.aload_n 0, 1) := by decide +kernel
theorem dX12_insert_10 : decode cX12_insert 10 = .ok (.iload_n 1, 1) := by decide +kernel
theorem dX12_insert_11 : decode cX12_insert 11 = .ok (.iload_n 2, 1) := by decide +kernel
theorem dX12_insert_12 : decode cX12_insert 12 = .ok (.iload_n 3, 1) := by decide +kernel
theorem dX12_insert_13 : decode cX12_insert 13 = .ok (.iconst 1, 1) := by decide +kernel
theorem dX12_insert_14 : decode cX12_insert 14 = .ok (.isub, 1) := by decide +kernel
theorem dX12_insert_15 : decode cX12_insert 15 = .ok (.invokevirtual 398, 3) := by decide +kernel
theorem dX12_insert_18 : decode cX12_insert 18 = .ok (.ifCond .eq 37, 3) := by decide +kernel
theorem dX12_insert_21 : decode cX12_insert 21 = .ok (.aload_n 0, 1) := by decide +kernel
theorem dX12_insert_22 : decode cX12_insert 22 = .ok (.getfield 76, 3) := by decide +kernel
theorem dX12_insert_25 : decode cX12_insert 25 = .ok (.iload_n 3, 1) := by decide +kernel
theorem dX12_insert_26 : decode cX12_insert 26 = .ok (.aload_n 0, 1) := by decide +kernel
theorem dX12_insert_27 : decode cX12_insert 27 = .ok (.getfield 76, 3) := by decide +kernel
theorem dX12_insert_30 : decode cX12_insert 30 = .ok (.iload_n 3, 1) := by decide +kernel
theorem dX12_insert_31 : decode cX12_insert 31 = .ok (.iconst 1, 1) := by decide +kernel
theorem dX12_insert_32 : decode cX12_insert 32 = .ok (.isub, 1) := by decide +kernel
theorem dX12_insert_33 : decode cX12_insert 33 = .ok (.iaload, 1) := by decide +kernel
theorem dX12_insert_34 : decode cX12_insert 34 = .ok (.iastore, 1) := by decide +kernel
theorem dX12_insert_35 : decode cX12_insert 35 = .ok (.aload_n 0, 1) := by decide +kernel
theorem dX12_insert_36 : decode cX12_insert 36 = .ok (.getfield 79, 3) := by decide +kernel
theorem dX12_insert_39 : decode cX12_insert 39 = .ok (.iload_n 3, 1) := by decide +kernel
theorem dX12_insert_40 : decode cX12_insert 40 = .ok (.aload_n 0, 1) := by decide +kernel
theorem dX12_insert_41 : decode cX12_insert 41 = .ok (.getfield 79, 3) := by decide +kernel
theorem dX12_insert_44 : decode cX12_insert 44 = .ok (.iload_n 3, 1) := by decide +kernel
theorem dX12_insert_45 : decode cX12_insert 45 = .ok (.iconst 1, 1) := by decide +kernel
theorem dX12_insert_46 : decode cX12_insert 46 = .ok (.isub, 1) := by decide +kernel
theorem dX12_insert_47 : decode cX12_insert 47 = .ok (.iaload, 1) := by decide +kernel
theorem dX12_insert_48 : decode cX12_insert 48 = .ok (.iastore, 1) := by decide +kernel
theorem dX12_insert_49 : decode cX12_insert 49 = .ok (.iinc 3 (-1), 3) := by decide +kernel
theorem dX12_insert_52 : decode cX12_insert 52 = .ok (.goto (-47), 3) := by decide +kernel
theorem dX12_insert_55 : decode cX12_insert 55 = .ok (.aload_n 0, 1) := by decide +kernel
theorem dX12_insert_56 : decode cX12_insert 56 = .ok (.getfield 76, 3) := by decide +kernel
theorem dX12_insert_59 : decode cX12_insert 59 = .ok (.iload_n 3, 1) := by decide +kernel
theorem dX12_insert_60 : decode cX12_insert 60 = .ok (.iload_n 1, 1) := by decide +kernel
theorem dX12_insert_61 : decode cX12_insert 61 = .ok (.iastore, 1) := by decide +kernel
theorem dX12_insert_62 : decode cX12_insert 62 = .ok (.aload_n 0, 1) := by decide +kernel
theorem dX12_insert_63 : decode cX12_insert 63 = .ok (.getfield 79, 3) := by decide +kernel
theorem dX12_insert_66 : decode cX12_insert 66 = .ok (.iload_n 3, 1) := by decide +kernel
theorem dX12_insert_67 : decode cX12_insert 67 = .ok (.iload_n 2, 1) := by decide +kernel
theorem dX12_insert_68 : decode cX12_insert 68 = .ok (.iastore, 1) := by decide +kernel
theorem dX12_insert_69 : decode cX12_insert 69 = .ok (.aload_n 0, 1) := by decide +kernel
theorem dX12_insert_70 : decode cX12_insert 70 = .ok (.dup, 1) := by decide +kernel
theorem dX12_insert_71 : decode cX12_insert 71 = .ok (.getfield 389, 3) := by decide +kernel
theorem dX12_insert_74 : decode cX12_insert 74 = .ok (.iconst 1, 1) := by decide +kernel
theorem dX12_insert_75 : decode cX12_insert 75 = .ok (.iadd, 1) := by decide +kernel
theorem dX12_insert_76 : decode cX12_insert 76 = .ok (.putfield 389, 3) := by decide +kernel
theorem dX12_insert_79 : decode cX12_insert 79 = .ok (.return_, 1) := by decide +kernel
theorem dX12_key_0 : decode cX12_key 0 = .ok (.iload_n 1, 1) := by decide +kernel
theorem dX12_key_1 : decode cX12_key 1 = .ok (.iconst 0, 1) := by decide +kernel
theorem dX12_key_2 : decode cX12_key 2 = .ok (.aload_n 0, 1) := by decide +kernel
theorem dX12_key_3 : decode cX12_key 3 = .ok (.getfield 389, 3) := by decide +kernel
theorem dX12_key_6 : decode cX12_key 6 = .ok (.iconst 1, 1) := by decide +kernel
theorem dX12_key_7 : decode cX12_key 7 = .ok (.isub, 1) := by decide +kernel
theorem dX12_key_8 : decode cX12_key 8 = .ok (.invokestatic 164, 3) := by decide +kernel
theorem dX12_key_11 : decode cX12_key 11 = .ok (.ifCond .eq 17, 3) := by decide +kernel
theorem dX12_key_14 : decode cX12_key 14 = .ok (.aload_n 0, 1) := by decide +kernel
theorem dX12_key_15 : decode cX12_key 15 = .ok (.getfield 13, 3) := by decide +kernel
theorem dX12_key_18 : decode cX12_key 18 = .ok (.aload_n 0, 1) := by decide +kernel
theorem dX12_key_19 : decode cX12_key 19 = .ok (.getfield 76, 3) := by decide +kernel
theorem dX12_key_22 : decode cX12_key 22 = .ok (.iload_n 1, 1) := by decide +kernel
theorem dX12_key_23 : decode cX12_key 23 = .ok (.iaload, 1) := by decide +kernel
theorem dX12_key_24 : decode cX12_key 24 = .ok (.laload, 1) := by decide +kernel
theorem dX12_key_25 : decode cX12_key 25 = .ok (.goto 4, 3) := by decide +kernel
theorem dX12_key_28 : decode cX12_key 28 = .ok (.lconst 0, 1) := by decide +kernel
theorem dX12_key_29 : decode cX12_key 29 = .ok (.lreturn, 1) := by decide +kernel
theorem dX12_hit_0 : decode cX12_hit 0 = .ok (.iload_n 2, 1) := by decide +kernel
theorem dX12_hit_1 : decode cX12_hit 1 = .ok (.iconst 0, 1) := by decide +kernel
theorem dX12_hit_2 : decode cX12_hit 2 = .ok (.iconst 5, 1) := by decide +kernel
theorem dX12_hit_3 : decode cX12_hit 3 = .ok (.invokestatic 164, 3) := by decide +kernel
theorem dX12_hit_6 : decode cX12_hit 6 = .ok (.ifCond .ne 6, 3) := by decide +kernel
theorem dX12_hit_9 : decode cX12_hit 9 = .ok (.bipush (-2), 2) := by decide +kernel
theorem dX12_hit_11 : decode cX12_hit 11 = .ok (.ireturn, 1) := by decide +kernel
theorem dX12_hit_12 : decode cX12_hit 12 = .ok (.iload_n 1, 1) := by decide +kernel
theorem dX12_hit_13 : decode cX12_hit 13 = .ok (.iconst 0, 1) := by decide +kernel
theorem dX12_hit_14 : decode cX12_hit 14 = .ok (.aload_n 0, 1) := by decide +kernel
theorem dX12_hit_15 : decode cX12_hit 15 = .ok (.getfield 389, 3) := by decide +kernel
theorem dX12_hit_18 : decode cX12_hit 18 = .ok (.iconst 1, 1) := by decide +kernel
theorem dX12_hit_19 : decode cX12_hit 19 = .ok (.isub, 1) := by decide +kernel
theorem dX12_hit_20 : decode cX12_hit 20 = .ok (.invokestatic 164, 3) := by decide +kernel
theorem dX12_hit_23 : decode cX12_hit 23 = .ok (.ifCond .ne 5, 3) := by decide +kernel
theorem dX12_hit_26 : decode cX12_hit 26 = .ok (.iconst (-1), 1) := by decide +kernel
theorem dX12_hit_27 : decode cX12_hit 27 = .ok (.ireturn, 1) := by decide +kernel
theorem dX12_hit_28 : decode cX12_hit 28 = .ok (.aload_n 0, 1) := by decide +kernel
theorem dX12_hit_29 : decode cX12_hit 29 = .ok (.getfield 76, 3) := by decide +kernel
theorem dX12_hit_32 : decode cX12_hit 32 = .ok (.iload_n 1, 1) := by decide +kernel
theorem dX12_hit_33 : decode cX12_hit 33 = .ok (.iaload, 1) := by decide +kernel
theorem dX12_hit_34 : decode cX12_hit 34 = .ok (.istore_n 3, 1) := by decide +kernel
theorem dX12_hit_35 : decode cX12_hit 35 = .ok (.iload_n 2, 1) := by decide +kernel
theorem dX12_hit_36 : decode cX12_hit 36 = .ok (.ifCond .ne 12, 3) := by decide +kernel
theorem dX12_hit_39 : decode cX12_hit 39 = .ok (.aload_n 0, 1) := by decide +kernel
theorem dX12_hit_40 : decode cX12_hit 40 = .ok (.getfield 79, 3) := by decide +kernel
theorem dX12_hit_43 : decode cX12_hit 43 = .ok (.iload_n 1, 1) := by decide +kernel
theorem dX12_hit_44 : decode cX12_hit 44 = .ok (.iaload, 1) := by decide +kernel
theorem dX12_hit_45 : decode cX12_hit 45 = .ok (.goto 52, 3) := by decide +kernel
theorem dX12_hit_48 : decode cX12_hit 48 = .ok (.iload_n 2, 1) := by decide +kernel
theorem dX12_hit_49 : decode cX12_hit 49 = .ok (.iconst 1, 1) := by decide +kernel
theorem dX12_hit_50 : decode cX12_hit 50 = .ok (.if_icmp .ne 12, 3) := by decide +kernel
theorem dX12_hit_53 : decode cX12_hit 53 = .ok (.aload_n 0, 1) := by decide +kernel
theorem dX12_hit_54 : decode cX12_hit 54 = .ok (.getfield 17, 3) := by decide +kernel
theorem dX12_hit_57 : decode cX12_hit 57 = .ok (.iload_n 3, 1) := by decide +kernel
theorem dX12_hit_58 : decode cX12_hit 58 = .ok (.iaload, 1) := by decide +kernel
theorem dX12_hit_59 : decode cX12_hit 59 = .ok (.goto 38, 3) := by decide +kernel
theorem dX12_hit_62 : decode cX12_hit 62 = .ok (.iload_n 2, 1) := by decide +kernel
theorem dX12_hit_63 : decode cX12_hit 63 = .ok (.iconst 2, 1) := by decide +kernel
theorem dX12_hit_64 : decode cX12_hit 64 = .ok (.if_icmp .ne 12, 3) := by decide +kernel
theorem dX12_hit_67 : decode cX12_hit 67 = .ok (.aload_n 0, 1) := by decide +kernel
theorem dX12_hit_68 : decode cX12_hit 68 = .ok (.getfield 20, 3) := by decide +kernel
theorem dX12_hit_71 : decode cX12_hit 71 = .ok (.iload_n 3, 1) := by decide +kernel
theorem dX12_hit_72 : decode cX12_hit 72 = .ok (.iaload, 1) := by decide +kernel
theorem dX12_hit_73 : decode cX12_hit 73 = .ok (.goto 24, 3) := by decide +kernel
theorem dX12_hit_76 : decode cX12_hit 76 = .ok (.iload_n 2, 1) := by decide +kernel
theorem dX12_hit_77 : decode cX12_hit 77 = .ok (.iconst 5, 1) := by decide +kernel
theorem dX12_hit_78 : decode cX12_hit 78 = .ok (.if_icmp .ne 7, 3) := by decide +kernel
theorem dX12_hit_81 : decode cX12_hit 81 = .ok (.iload_n 3, 1) := by decide +kernel
theorem dX12_hit_82 : decode cX12_hit 82 = .ok (.goto 15, 3) := by decide +kernel
theorem dX12_hit_85 : decode cX12_hit 85 = .ok (.aload_n 0, 1) := by decide +kernel
theorem dX12_hit_86 : decode cX12_hit 86 = .ok (.getfield 27, 3) := by decide +kernel
theorem dX12_hit_89 : decode cX12_hit 89 = .ok (.iconst 2, 1) := by decide +kernel
theorem dX12_hit_90 : decode cX12_hit 90 = .ok (.iload_n 3, 1) := by decide +kernel
theorem dX12_hit_91 : decode cX12_hit 91 = .ok (.imul, 1) := by decide +kernel
theorem dX12_hit_92 : decode cX12_hit 92 = .ok (.iload_n 2, 1) := by decide +kernel
theorem dX12_hit_93 : decode cX12_hit 93 = .ok (.iadd, 1) := by decide +kernel
theorem dX12_hit_94 : decode cX12_hit 94 = .ok (.iconst 3, 1) := by decide +kernel
theorem dX12_hit_95 : decode cX12_hit 95 = .ok (.isub, 1) := by decide +kernel
theorem dX12_hit_96 : decode cX12_hit 96 = .ok (.iaload, 1) := by decide +kernel
theorem dX12_hit_97 : decode cX12_hit 97 = .ok (.ireturn, 1) := by decide +kernel
theorem dX12_bucket_0 : decode cX12_bucket 0 = .ok (.iload_n 1, 1) := by decide +kernel
theorem dX12_bucket_1 : decode cX12_bucket 1 = .ok (.iconst 0, 1) := by decide +kernel
theorem dX12_bucket_2 : decode cX12_bucket 2 = .ok (.iconst 1, 1) := by decide +kernel
theorem dX12_bucket_3 : decode cX12_bucket 3 = .ok (.invokestatic 164, 3) := by decide +kernel
theorem dX12_bucket_6 : decode cX12_bucket 6 = .ok (.ifCond .eq 8, 3) := by decide +kernel
theorem dX12_bucket_9 : decode cX12_bucket 9 = .ok (.iload_n 3, 1) := by decide +kernel
theorem dX12_bucket_10 : decode cX12_bucket 10 = .ok (.iconst 1, 1) := by decide +kernel
theorem dX12_bucket_11 : decode cX12_bucket 11 = .ok (.if_icmp .ge 6, 3) := by decide +kernel
theorem dX12_bucket_14 : decode cX12_bucket 14 = .ok (.bipush (-2), 2) := by decide +kernel
theorem dX12_bucket_16 : decode cX12_bucket 16 = .ok (.ireturn, 1) := by decide +kernel
theorem dX12_bucket_17 : decode cX12_bucket 17 = .ok (.iconst 0, 1) := by decide +kernel
theorem dX12_bucket_18 : decode cX12_bucket 18 = .ok (.istore 4, 2) := by decide +kernel
theorem dX12_bucket_20 : decode cX12_bucket 20 = .ok (.iconst 0, 1) := by decide +kernel
theorem dX12_bucket_21 : decode cX12_bucket 21 = .ok (.istore 5, 2) := by decide +kernel
theorem dX12_bucket_23 : decode cX12_bucket 23 = .ok (.iload 5, 2) := by decide +kernel
theorem dX12_bucket_25 : decode cX12_bucket 25 = .ok (.aload_n 0, 1) := by decide +kernel
theorem dX12_bucket_26 : decode cX12_bucket 26 = .ok (.getfield 389, 3) := by decide +kernel
theorem dX12_bucket_29 : decode cX12_bucket 29 = .ok (.if_icmp .ge 73, 3) := by decide +kernel
theorem dX12_bucket_32 : decode cX12_bucket 32 = .ok (.iload_n 1, 1) := by decide +kernel
theorem dX12_bucket_33 : decode cX12_bucket 33 = .ok (.ifCond .ne 19, 3) := by decide +kernel
theorem dX12_bucket_36 : decode cX12_bucket 36 = .ok (.aload_n 0, 1) := by decide +kernel
theorem dX12_bucket_37 : decode cX12_bucket 37 = .ok (.getfield 17, 3) := by decide +kernel
theorem dX12_bucket_40 : decode cX12_bucket 40 = .ok (.aload_n 0, 1) := by decide +kernel
theorem dX12_bucket_41 : decode cX12_bucket 41 = .ok (.getfield 76, 3) := by decide +kernel
theorem dX12_bucket_44 : decode cX12_bucket 44 = .ok (.iload 5, 2) := by decide +kernel
theorem dX12_bucket_46 : decode cX12_bucket 46 = .ok (.iaload, 1) := by decide +kernel
theorem dX12_bucket_47 : decode cX12_bucket 47 = .ok (.iaload, 1) := by decide +kernel
theorem dX12_bucket_48 : decode cX12_bucket 48 = .ok (.i2l, 1) := by decide +kernel
theorem dX12_bucket_49 : decode cX12_bucket 49 = .ok (.goto 16, 3) := by decide +kernel
theorem dX12_bucket_52 : decode cX12_bucket 52 = .ok (.aload_n 0, 1) := by decide +kernel
theorem dX12_bucket_53 : decode cX12_bucket 53 = .ok (.getfield 20, 3) := by decide +kernel
theorem dX12_bucket_56 : decode cX12_bucket 56 = .ok (.aload_n 0, 1) := by decide +kernel
theorem dX12_bucket_57 : decode cX12_bucket 57 = .ok (.getfield 76, 3) := by decide +kernel
theorem dX12_bucket_60 : decode cX12_bucket 60 = .ok (.iload 5, 2) := by decide +kernel
theorem dX12_bucket_62 : decode cX12_bucket 62 = .ok (.iaload, 1) := by decide +kernel
theorem dX12_bucket_63 : decode cX12_bucket 63 = .ok (.iaload, 1) := by decide +kernel
theorem dX12_bucket_64 : decode cX12_bucket 64 = .ok (.i2l, 1) := by decide +kernel
theorem dX12_bucket_65 : decode cX12_bucket 65 = .ok (.lstore 6, 2) := by decide +kernel
theorem dX12_bucket_67 : decode cX12_bucket 67 = .ok (.iload 4, 2) := by decide +kernel
theorem dX12_bucket_69 : decode cX12_bucket 69 = .ok (.lload 6, 2) := by decide +kernel
theorem dX12_bucket_71 : decode cX12_bucket 71 = .ok (.iload_n 2, 1) := by decide +kernel
theorem dX12_bucket_72 : decode cX12_bucket 72 = .ok (.i2l, 1) := by decide +kernel
theorem dX12_bucket_73 : decode cX12_bucket 73 = .ok (.lcmp, 1) := by decide +kernel
theorem dX12_bucket_74 : decode cX12_bucket 74 = .ok (.ifCond .lt 18, 3) := by decide +kernel
theorem dX12_bucket_77 : decode cX12_bucket 77 = .ok (.lload 6, 2) := by decide +kernel
theorem dX12_bucket_79 : decode cX12_bucket 79 = .ok (.iload_n 2, 1) := by decide +kernel
theorem dX12_bucket_80 : decode cX12_bucket 80 = .ok (.i2l, 1) := by decide +kernel
theorem dX12_bucket_81 : decode cX12_bucket 81 = .ok (.iload_n 3, 1) := by decide +kernel
theorem dX12_bucket_82 : decode cX12_bucket 82 = .ok (.i2l, 1) := by decide +kernel
theorem dX12_bucket_83 : decode cX12_bucket 83 = .ok (.ladd, 1) := by decide +kernel
theorem dX12_bucket_84 : decode cX12_bucket 84 = .ok (.lcmp, 1) := by decide +kernel
theorem dX12_bucket_85 : decode cX12_bucket 85 = .ok (.ifCond .ge 7, 3) := by decide +kernel
theorem dX12_bucket_88 : decode cX12_bucket 88 = .ok (.iconst 1, 1) := by decide +kernel
theorem dX12_bucket_89 : decode cX12_bucket 89 = .ok (.goto 4, 3) := by decide +kernel
theorem dX12_bucket_92 : decode cX12_bucket 92 = .ok (.iconst 0, 1) := by decide +kernel
theorem dX12_bucket_93 : decode cX12_bucket 93 = .ok (.iadd, 1) := by decide +kernel
theorem dX12_bucket_94 : decode cX12_bucket 94 = .ok (.istore 4, 2) := by decide +kernel
theorem dX12_bucket_96 : decode cX12_bucket 96 = .ok (.iinc 5 1, 3) := by decide +kernel
theorem dX12_bucket_99 : decode cX12_bucket 99 = .ok (.goto (-76), 3) := by decide +kernel
theorem dX12_bucket_102 : decode cX12_bucket 102 = .ok (.iload 4, 2) := by decide +kernel
theorem dX12_bucket_104 : decode cX12_bucket 104 = .ok (.ireturn, 1) := by decide +kernel
theorem dX12_over_0 : decode cX12_over 0 = .ok (.iload_n 1, 1) := by decide +kernel
theorem dX12_over_1 : decode cX12_over 1 = .ok (.iconst 0, 1) := by decide +kernel
theorem dX12_over_2 : decode cX12_over 2 = .ok (.iconst 1, 1) := by decide +kernel
theorem dX12_over_3 : decode cX12_over 3 = .ok (.invokestatic 164, 3) := by decide +kernel
theorem dX12_over_6 : decode cX12_over 6 = .ok (.ifCond .eq 12, 3) := by decide +kernel
theorem dX12_over_9 : decode cX12_over 9 = .ok (.iload_n 2, 1) := by decide +kernel
theorem dX12_over_10 : decode cX12_over 10 = .ok (.iconst 0, 1) := by decide +kernel
theorem dX12_over_11 : decode cX12_over 11 = .ok (.iconst 2, 1) := by decide +kernel
theorem dX12_over_12 : decode cX12_over 12 = .ok (.invokestatic 164, 3) := by decide +kernel
theorem dX12_over_15 : decode cX12_over 15 = .ok (.ifCond .ne 7, 3) := by decide +kernel
theorem dX12_over_18 : decode cX12_over 18 = .ok (.ldc2_w 401, 3) := by decide +kernel
theorem dX12_over_21 : decode cX12_over 21 = .ok (.lreturn, 1) := by decide +kernel
theorem dX12_over_22 : decode cX12_over 22 = .ok (.lconst 0, 1) := by decide +kernel
theorem dX12_over_23 : decode cX12_over 23 = .ok (.lstore_n 3, 1) := by decide +kernel
theorem dX12_over_24 : decode cX12_over 24 = .ok (.iconst 0, 1) := by decide +kernel
theorem dX12_over_25 : decode cX12_over 25 = .ok (.istore 5, 2) := by decide +kernel
theorem dX12_over_27 : decode cX12_over 27 = .ok (.iload 5, 2) := by decide +kernel
theorem dX12_over_29 : decode cX12_over 29 = .ok (.aload_n 0, 1) := by decide +kernel
theorem dX12_over_30 : decode cX12_over 30 = .ok (.getfield 389, 3) := by decide +kernel
theorem dX12_over_33 : decode cX12_over 33 = .ok (.if_icmp .ge 89, 3) := by decide +kernel
theorem dX12_over_36 : decode cX12_over 36 = .ok (.iload_n 1, 1) := by decide +kernel
theorem dX12_over_37 : decode cX12_over 37 = .ok (.ifCond .ne 19, 3) := by decide +kernel
theorem dX12_over_40 : decode cX12_over 40 = .ok (.aload_n 0, 1) := by decide +kernel
theorem dX12_over_41 : decode cX12_over 41 = .ok (.getfield 17, 3) := by decide +kernel
theorem dX12_over_44 : decode cX12_over 44 = .ok (.aload_n 0, 1) := by decide +kernel
theorem dX12_over_45 : decode cX12_over 45 = .ok (.getfield 76, 3) := by decide +kernel
theorem dX12_over_48 : decode cX12_over 48 = .ok (.iload 5, 2) := by decide +kernel
theorem dX12_over_50 : decode cX12_over 50 = .ok (.iaload, 1) := by decide +kernel
theorem dX12_over_51 : decode cX12_over 51 = .ok (.iaload, 1) := by decide +kernel
theorem dX12_over_52 : decode cX12_over 52 = .ok (.i2l, 1) := by decide +kernel
theorem dX12_over_53 : decode cX12_over 53 = .ok (.goto 16, 3) := by decide +kernel
theorem dX12_over_56 : decode cX12_over 56 = .ok (.aload_n 0, 1) := by decide +kernel
theorem dX12_over_57 : decode cX12_over 57 = .ok (.getfield 20, 3) := by decide +kernel
theorem dX12_over_60 : decode cX12_over 60 = .ok (.aload_n 0, 1) := by decide +kernel
theorem dX12_over_61 : decode cX12_over 61 = .ok (.getfield 76, 3) := by decide +kernel
theorem dX12_over_64 : decode cX12_over 64 = .ok (.iload 5, 2) := by decide +kernel
theorem dX12_over_66 : decode cX12_over 66 = .ok (.iaload, 1) := by decide +kernel
theorem dX12_over_67 : decode cX12_over 67 = .ok (.iaload, 1) := by decide +kernel
theorem dX12_over_68 : decode cX12_over 68 = .ok (.i2l, 1) := by decide +kernel
theorem dX12_over_69 : decode cX12_over 69 = .ok (.lstore 6, 2) := by decide +kernel
theorem dX12_over_71 : decode cX12_over 71 = .ok (.iload_n 2, 1) := by decide +kernel
theorem dX12_over_72 : decode cX12_over 72 = .ok (.ifCond .ne 10, 3) := by decide +kernel
theorem dX12_over_75 : decode cX12_over 75 = .ok (.lload_n 3, 1) := by decide +kernel
theorem dX12_over_76 : decode cX12_over 76 = .ok (.lload 6, 2) := by decide +kernel
theorem dX12_over_78 : decode cX12_over 78 = .ok (.ladd, 1) := by decide +kernel
theorem dX12_over_79 : decode cX12_over 79 = .ok (.goto 36, 3) := by decide +kernel
theorem dX12_over_82 : decode cX12_over 82 = .ok (.iload 5, 2) := by decide +kernel
theorem dX12_over_84 : decode cX12_over 84 = .ok (.ifCond .eq 25, 3) := by decide +kernel
theorem dX12_over_87 : decode cX12_over 87 = .ok (.iload_n 2, 1) := by decide +kernel
theorem dX12_over_88 : decode cX12_over 88 = .ok (.iconst 1, 1) := by decide +kernel
theorem dX12_over_89 : decode cX12_over 89 = .ok (.if_icmp .ne 13, 3) := by decide +kernel
theorem dX12_over_92 : decode cX12_over 92 = .ok (.lload 6, 2) := by decide +kernel
theorem dX12_over_94 : decode cX12_over 94 = .ok (.lload_n 3, 1) := by decide +kernel
theorem dX12_over_95 : decode cX12_over 95 = .ok (.lcmp, 1) := by decide +kernel
theorem dX12_over_96 : decode cX12_over 96 = .ok (.ifCond .ge 18, 3) := by decide +kernel
theorem dX12_over_99 : decode cX12_over 99 = .ok (.goto 10, 3) := by decide +kernel
theorem dX12_over_102 : decode cX12_over 102 = .ok (.lload 6, 2) := by decide +kernel
theorem dX12_over_104 : decode cX12_over 104 = .ok (.lload_n 3, 1) := by decide +kernel
theorem dX12_over_105 : decode cX12_over 105 = .ok (.lcmp, 1) := by decide +kernel
theorem dX12_over_106 : decode cX12_over 106 = .ok (.ifCond .le 8, 3) := by decide +kernel
theorem dX12_over_109 : decode cX12_over 109 = .ok (.lload 6, 2) := by decide +kernel
theorem dX12_over_111 : decode cX12_over 111 = .ok (.goto 4, 3) := by decide +kernel
theorem dX12_over_114 : decode cX12_over 114 = .ok (.lload_n 3, 1) := by decide +kernel
theorem dX12_over_115 : decode cX12_over 115 = .ok (.lstore_n 3, 1) := by decide +kernel
theorem dX12_over_116 : decode cX12_over 116 = .ok (.iinc 5 1, 3) := by decide +kernel
theorem dX12_over_119 : decode cX12_over 119 = .ok (.goto (-92), 3) := by decide +kernel
theorem dX12_over_122 : decode cX12_over 122 = .ok (.lload_n 3, 1) := by decide +kernel
theorem dX12_over_123 : decode cX12_over 123 = .ok (.lreturn, 1) := by decide +kernel
theorem dX12_isMarked_0 : decode cX12_isMarked 0 = .ok (.iconst 0, 1) := by decide +kernel
theorem dX12_isMarked_1 : decode cX12_isMarked 1 = .ok (.istore_n 3, 1) := by decide +kernel
theorem dX12_isMarked_2 : decode cX12_isMarked 2 = .ok (.iload_n 3, 1) := by decide +kernel
theorem dX12_isMarked_3 : decode cX12_isMarked 3 = .ok (.aload_n 0, 1) := by decide +kernel
theorem dX12_isMarked_4 : decode cX12_isMarked 4 = .ok (.getfield 295, 3) := by decide +kernel
theorem dX12_isMarked_7 : decode cX12_isMarked 7 = .ok (.if_icmp .ge 157, 3) := by decide +kernel
theorem dX12_isMarked_10 : decode cX12_isMarked 10 = .ok (.aload_n 0, 1) := by decide +kernel
theorem dX12_isMarked_11 : decode cX12_isMarked 11 = .ok (.getfield 85, 3) := by decide +kernel
theorem dX12_isMarked_14 : decode cX12_isMarked 14 = .ok (.iload_n 3, 1) := by decide +kernel
theorem dX12_isMarked_15 : decode cX12_isMarked 15 = .ok (.iaload, 1) := by decide +kernel
theorem dX12_isMarked_16 : decode cX12_isMarked 16 = .ok (.iconst (-1), 1) := by decide +kernel
theorem dX12_isMarked_17 : decode cX12_isMarked 17 = .ok (.if_icmp .eq 16, 3) := by decide +kernel
theorem dX12_isMarked_20 : decode cX12_isMarked 20 = .ok (.aload_n 0, 1) := by decide +kernel
theorem dX12_isMarked_21 : decode cX12_isMarked 21 = .ok (.getfield 85, 3) := by decide +kernel
theorem dX12_isMarked_24 : decode cX12_isMarked 24 = .ok (.iload_n 3, 1) := by decide +kernel
theorem dX12_isMarked_25 : decode cX12_isMarked 25 = .ok (.iaload, 1) := by decide +kernel
theorem dX12_isMarked_26 : decode cX12_isMarked 26 = .ok (.iload_n 2, 1) := by decide +kernel
theorem dX12_isMarked_27 : decode cX12_isMarked 27 = .ok (.if_icmp .eq 6, 3) := by decide +kernel
theorem dX12_isMarked_30 : decode cX12_isMarked 30 = .ok (.goto 128, 3) := by decide +kernel
theorem dX12_isMarked_33 : decode cX12_isMarked 33 = .ok (.aload_n 0, 1) := by decide +kernel
theorem dX12_isMarked_34 : decode cX12_isMarked 34 = .ok (.getfield 37, 3) := by decide +kernel
theorem dX12_isMarked_37 : decode cX12_isMarked 37 = .ok (.iload_n 1, 1) := by decide +kernel
theorem dX12_isMarked_38 : decode cX12_isMarked 38 = .ok (.iaload, 1) := by decide +kernel
theorem dX12_isMarked_39 : decode cX12_isMarked 39 = .ok (.ifCond .le 50, 3) := by decide +kernel
theorem dX12_isMarked_42 : decode cX12_isMarked 42 = .ok (.aload_n 0, 1) := by decide +kernel
theorem dX12_isMarked_43 : decode cX12_isMarked 43 = .ok (.getfield 82, 3) := by decide +kernel
theorem dX12_isMarked_46 : decode cX12_isMarked 46 = .ok (.iload_n 3, 1) := by decide +kernel
theorem dX12_isMarked_47 : decode cX12_isMarked 47 = .ok (.iaload, 1) := by decide +kernel
theorem dX12_isMarked_48 : decode cX12_isMarked 48 = .ok (.iconst 2, 1) := by decide +kernel
theorem dX12_isMarked_49 : decode cX12_isMarked 49 = .ok (.if_icmp .ne 21, 3) := by decide +kernel
theorem dX12_isMarked_52 : decode cX12_isMarked 52 = .ok (.aload_n 0, 1) := by decide +kernel
theorem dX12_isMarked_53 : decode cX12_isMarked 53 = .ok (.getfield 37, 3) := by decide +kernel
theorem dX12_isMarked_56 : decode cX12_isMarked 56 = .ok (.iload_n 1, 1) := by decide +kernel
theorem dX12_isMarked_57 : decode cX12_isMarked 57 = .ok (.iaload, 1) := by decide +kernel
theorem dX12_isMarked_58 : decode cX12_isMarked 58 = .ok (.aload_n 0, 1) := by decide +kernel
theorem dX12_isMarked_59 : decode cX12_isMarked 59 = .ok (.getfield 88, 3) := by decide +kernel
theorem dX12_isMarked_62 : decode cX12_isMarked 62 = .ok (.iload_n 3, 1) := by decide +kernel
theorem dX12_isMarked_63 : decode cX12_isMarked 63 = .ok (.iaload, 1) := by decide +kernel
theorem dX12_isMarked_64 : decode cX12_isMarked 64 = .ok (.if_icmp .lt 25, 3) := by decide +kernel
theorem dX12_isMarked_67 : decode cX12_isMarked 67 = .ok (.goto 18, 3) := by decide +kernel
theorem dX12_isMarked_70 : decode cX12_isMarked 70 = .ok (.aload_n 0, 1) := by decide +kernel
theorem dX12_isMarked_71 : decode cX12_isMarked 71 = .ok (.getfield 37, 3) := by decide +kernel
theorem dX12_isMarked_74 : decode cX12_isMarked 74 = .ok (.iload_n 1, 1) := by decide +kernel
theorem dX12_isMarked_75 : decode cX12_isMarked 75 = .ok (.iaload, 1) := by decide +kernel
theorem dX12_isMarked_76 : decode cX12_isMarked 76 = .ok (.aload_n 0, 1) := by decide +kernel
theorem dX12_isMarked_77 : decode cX12_isMarked 77 = .ok (.getfield 88, 3) := by decide +kernel
theorem dX12_isMarked_80 : decode cX12_isMarked 80 = .ok (.iload_n 3, 1) := by decide +kernel
theorem dX12_isMarked_81 : decode cX12_isMarked 81 = .ok (.iaload, 1) := by decide +kernel
theorem dX12_isMarked_82 : decode cX12_isMarked 82 = .ok (.if_icmp .ne 7, 3) := by decide +kernel
theorem dX12_isMarked_85 : decode cX12_isMarked 85 = .ok (.iconst 1, 1) := by decide +kernel
theorem dX12_isMarked_86 : decode cX12_isMarked 86 = .ok (.goto 4, 3) := by decide +kernel
theorem dX12_isMarked_89 : decode cX12_isMarked 89 = .ok (.iconst 0, 1) := by decide +kernel
theorem dX12_isMarked_90 : decode cX12_isMarked 90 = .ok (.istore 4, 2) := by decide +kernel
theorem dX12_isMarked_92 : decode cX12_isMarked 92 = .ok (.iconst 0, 1) := by decide +kernel
theorem dX12_isMarked_93 : decode cX12_isMarked 93 = .ok (.istore 5, 2) := by decide +kernel
theorem dX12_isMarked_95 : decode cX12_isMarked 95 = .ok (.iload 5, 2) := by decide +kernel
theorem dX12_isMarked_97 : decode cX12_isMarked 97 = .ok (.aload_n 0, 1) := by decide +kernel
theorem dX12_isMarked_98 : decode cX12_isMarked 98 = .ok (.getfield 88, 3) := by decide +kernel
theorem dX12_isMarked_101 : decode cX12_isMarked 101 = .ok (.iload_n 3, 1) := by decide +kernel
theorem dX12_isMarked_102 : decode cX12_isMarked 102 = .ok (.iaload, 1) := by decide +kernel
theorem dX12_isMarked_103 : decode cX12_isMarked 103 = .ok (.if_icmp .ge 48, 3) := by decide +kernel
theorem dX12_isMarked_106 : decode cX12_isMarked 106 = .ok (.iload 4, 2) := by decide +kernel
theorem dX12_isMarked_108 : decode cX12_isMarked 108 = .ok (.ifCond .eq 43, 3) := by decide +kernel
theorem dX12_isMarked_111 : decode cX12_isMarked 111 = .ok (.aload_n 0, 1) := by decide +kernel
theorem dX12_isMarked_112 : decode cX12_isMarked 112 = .ok (.getfield 41, 3) := by decide +kernel
theorem dX12_isMarked_115 : decode cX12_isMarked 115 = .ok (.bipush 12, 2) := by decide +kernel
theorem dX12_isMarked_117 : decode cX12_isMarked 117 = .ok (.iload_n 1, 1) := by decide +kernel
theorem dX12_isMarked_118 : decode cX12_isMarked 118 = .ok (.imul, 1) := by decide +kernel
theorem dX12_isMarked_119 : decode cX12_isMarked 119 = .ok (.iload 5, 2) := by decide +kernel
theorem dX12_isMarked_121 : decode cX12_isMarked 121 = .ok (.iadd, 1) := by decide +kernel
theorem dX12_isMarked_122 : decode cX12_isMarked 122 = .ok (.iaload, 1) := by decide +kernel
theorem dX12_isMarked_123 : decode cX12_isMarked 123 = .ok (.aload_n 0, 1) := by decide +kernel
theorem dX12_isMarked_124 : decode cX12_isMarked 124 = .ok (.getfield 91, 3) := by decide +kernel
theorem dX12_isMarked_127 : decode cX12_isMarked 127 = .ok (.bipush 12, 2) := by decide +kernel
theorem dX12_isMarked_129 : decode cX12_isMarked 129 = .ok (.iload_n 3, 1) := by decide +kernel
theorem dX12_isMarked_130 : decode cX12_isMarked 130 = .ok (.imul, 1) := by decide +kernel
theorem dX12_isMarked_131 : decode cX12_isMarked 131 = .ok (.iload 5, 2) := by decide +kernel
theorem dX12_isMarked_133 : decode cX12_isMarked 133 = .ok (.iadd, 1) := by decide +kernel
theorem dX12_isMarked_134 : decode cX12_isMarked 134 = .ok (.iaload, 1) := by decide +kernel
theorem dX12_isMarked_135 : decode cX12_isMarked 135 = .ok (.if_icmp .ne 7, 3) := by decide +kernel
theorem dX12_isMarked_138 : decode cX12_isMarked 138 = .ok (.iconst 1, 1) := by decide +kernel
theorem dX12_isMarked_139 : decode cX12_isMarked 139 = .ok (.goto 4, 3) := by decide +kernel
theorem dX12_isMarked_142 : decode cX12_isMarked 142 = .ok (.iconst 0, 1) := by decide +kernel
theorem dX12_isMarked_143 : decode cX12_isMarked 143 = .ok (.istore 4, 2) := by decide +kernel
theorem dX12_isMarked_145 : decode cX12_isMarked 145 = .ok (.iinc 5 1, 3) := by decide +kernel
theorem dX12_isMarked_148 : decode cX12_isMarked 148 = .ok (.goto (-53), 3) := by decide +kernel
theorem dX12_isMarked_151 : decode cX12_isMarked 151 = .ok (.iload 4, 2) := by decide +kernel
theorem dX12_isMarked_153 : decode cX12_isMarked 153 = .ok (.ifCond .eq 5, 3) := by decide +kernel
theorem dX12_isMarked_156 : decode cX12_isMarked 156 = .ok (.iconst 1, 1) := by decide +kernel
theorem dX12_isMarked_157 : decode cX12_isMarked 157 = .ok (.ireturn, 1) := by decide +kernel
theorem dX12_isMarked_158 : decode cX12_isMarked 158 = .ok (.iinc 3 1, 3) := by decide +kernel
theorem dX12_isMarked_161 : decode cX12_isMarked 161 = .ok (.goto (-159), 3) := by decide +kernel
theorem dX12_isMarked_164 : decode cX12_isMarked 164 = .ok (.iconst 0, 1) := by decide +kernel
theorem dX12_isMarked_165 : decode cX12_isMarked 165 = .ok (.ireturn, 1) := by decide +kernel
theorem dX12_mark__0 : decode cX12_mark_ 0 = .ok (.iload_n 2, 1) := by decide +kernel
theorem dX12_mark__1 : decode cX12_mark_ 1 = .ok (.iconst 0, 1) := by decide +kernel
theorem dX12_mark__2 : decode cX12_mark_ 2 = .ok (.iconst 1, 1) := by decide +kernel
theorem dX12_mark__3 : decode cX12_mark_ 3 = .ok (.invokestatic 164, 3) := by decide +kernel
theorem dX12_mark__6 : decode cX12_mark_ 6 = .ok (.ifCond .ne 6, 3) := by decide +kernel
theorem dX12_mark__9 : decode cX12_mark_ 9 = .ok (.bipush (-2), 2) := by decide +kernel
theorem dX12_mark__11 : decode cX12_mark_ 11 = .ok (.ireturn, 1) := by decide +kernel
theorem dX12_mark__12 : decode cX12_mark_ 12 = .ok (.iload_n 1, 1) := by decide +kernel
theorem dX12_mark__13 : decode cX12_mark_ 13 = .ok (.iconst 0, 1) := by decide +kernel
theorem dX12_mark__14 : decode cX12_mark_ 14 = .ok (.aload_n 0, 1) := by decide +kernel
theorem dX12_mark__15 : decode cX12_mark_ 15 = .ok (.getfield 389, 3) := by decide +kernel
theorem dX12_mark__18 : decode cX12_mark_ 18 = .ok (.iconst 1, 1) := by decide +kernel
theorem dX12_mark__19 : decode cX12_mark_ 19 = .ok (.isub, 1) := by decide +kernel
theorem dX12_mark__20 : decode cX12_mark_ 20 = .ok (.invokestatic 164, 3) := by decide +kernel
theorem dX12_mark__23 : decode cX12_mark_ 23 = .ok (.ifCond .ne 5, 3) := by decide +kernel
theorem dX12_mark__26 : decode cX12_mark_ 26 = .ok (.iconst (-1), 1) := by decide +kernel
theorem dX12_mark__27 : decode cX12_mark_ 27 = .ok (.ireturn, 1) := by decide +kernel
theorem dX12_mark__28 : decode cX12_mark_ 28 = .ok (.aload_n 0, 1) := by decide +kernel
theorem dX12_mark__29 : decode cX12_mark_ 29 = .ok (.getfield 76, 3) := by decide +kernel
theorem dX12_mark__32 : decode cX12_mark_ 32 = .ok (.iload_n 1, 1) := by decide +kernel
theorem dX12_mark__33 : decode cX12_mark_ 33 = .ok (.iaload, 1) := by decide +kernel
theorem dX12_mark__34 : decode cX12_mark_ 34 = .ok (.istore 4, 2) := by decide +kernel
theorem dX12_mark__36 : decode cX12_mark_ 36 = .ok (.iconst 0, 1) := by decide +kernel
theorem dX12_mark__37 : decode cX12_mark_ 37 = .ok (.istore 5, 2) := by decide +kernel
theorem dX12_mark__39 : decode cX12_mark_ 39 = .ok (.iload 5, 2) := by decide +kernel
theorem dX12_mark__41 : decode cX12_mark_ 41 = .ok (.aload_n 0, 1) := by decide +kernel
theorem dX12_mark__42 : decode cX12_mark_ 42 = .ok (.getfield 27, 3) := by decide +kernel
theorem dX12_mark__45 : decode cX12_mark_ 45 = .ok (.iconst 2, 1) := by decide +kernel
theorem dX12_mark__46 : decode cX12_mark_ 46 = .ok (.iload 4, 2) := by decide +kernel
theorem dX12_mark__48 : decode cX12_mark_ 48 = .ok (.imul, 1) := by decide +kernel
theorem dX12_mark__49 : decode cX12_mark_ 49 = .ok (.iload_n 2, 1) := by decide +kernel
theorem dX12_mark__50 : decode cX12_mark_ 50 = .ok (.iadd, 1) := by decide +kernel
theorem dX12_mark__51 : decode cX12_mark_ 51 = .ok (.iaload, 1) := by decide +kernel
theorem dX12_mark__52 : decode cX12_mark_ 52 = .ok (.if_icmp .ge 52, 3) := by decide +kernel
theorem dX12_mark__55 : decode cX12_mark_ 55 = .ok (.iload 4, 2) := by decide +kernel
theorem dX12_mark__57 : decode cX12_mark_ 57 = .ok (.iload_n 2, 1) := by decide +kernel
theorem dX12_mark__58 : decode cX12_mark_ 58 = .ok (.invokestatic 189, 3) := by decide +kernel
theorem dX12_mark__61 : decode cX12_mark_ 61 = .ok (.iload 5, 2) := by decide +kernel
theorem dX12_mark__63 : decode cX12_mark_ 63 = .ok (.iadd, 1) := by decide +kernel
theorem dX12_mark__64 : decode cX12_mark_ 64 = .ok (.istore 6, 2) := by decide +kernel
theorem dX12_mark__66 : decode cX12_mark_ 66 = .ok (.aload_n 0, 1) := by decide +kernel
theorem dX12_mark__67 : decode cX12_mark_ 67 = .ok (.iload 6, 2) := by decide +kernel
theorem dX12_mark__69 : decode cX12_mark_ 69 = .ok (.iload_n 2, 1) := by decide +kernel
theorem dX12_mark__70 : decode cX12_mark_ 70 = .ok (.invokevirtual 403, 3) := by decide +kernel
theorem dX12_mark__73 : decode cX12_mark_ 73 = .ok (.ifCond .eq 25, 3) := by decide +kernel
theorem dX12_mark__76 : decode cX12_mark_ 76 = .ok (.iload_n 3, 1) := by decide +kernel
theorem dX12_mark__77 : decode cX12_mark_ 77 = .ok (.ifCond .eq 13, 3) := by decide +kernel
theorem dX12_mark__80 : decode cX12_mark_ 80 = .ok (.aload_n 0, 1) := by decide +kernel
theorem dX12_mark__81 : decode cX12_mark_ 81 = .ok (.getfield 34, 3) := by decide +kernel
theorem dX12_mark__84 : decode cX12_mark_ 84 = .ok (.iload 6, 2) := by decide +kernel
theorem dX12_mark__86 : decode cX12_mark_ 86 = .ok (.iaload, 1) := by decide +kernel
theorem dX12_mark__87 : decode cX12_mark_ 87 = .ok (.goto 10, 3) := by decide +kernel
theorem dX12_mark__90 : decode cX12_mark_ 90 = .ok (.aload_n 0, 1) := by decide +kernel
theorem dX12_mark__91 : decode cX12_mark_ 91 = .ok (.getfield 31, 3) := by decide +kernel
theorem dX12_mark__94 : decode cX12_mark_ 94 = .ok (.iload 6, 2) := by decide +kernel
theorem dX12_mark__96 : decode cX12_mark_ 96 = .ok (.iaload, 1) := by decide +kernel
theorem dX12_mark__97 : decode cX12_mark_ 97 = .ok (.ireturn, 1) := by decide +kernel
theorem dX12_mark__98 : decode cX12_mark_ 98 = .ok (.iinc 5 1, 3) := by decide +kernel
theorem dX12_mark__101 : decode cX12_mark_ 101 = .ok (.goto (-62), 3) := by decide +kernel
theorem dX12_mark__104 : decode cX12_mark_ 104 = .ok (.iconst (-1), 1) := by decide +kernel
theorem dX12_mark__105 : decode cX12_mark_ 105 = .ok (.ireturn, 1) := by decide +kernel
theorem dX12_isWord_0 : decode cX12_isWord 0 = .ok (.iload_n 1, 1) := by decide +kernel
theorem dX12_isWord_1 : decode cX12_isWord 1 = .ok (.ifCond .le 7, 3) := by decide +kernel
theorem dX12_isWord_4 : decode cX12_isWord 4 = .ok (.iconst 1, 1) := by decide +kernel
theorem dX12_isWord_5 : decode cX12_isWord 5 = .ok (.goto 4, 3) := by decide +kernel
theorem dX12_isWord_8 : decode cX12_isWord 8 = .ok (.iconst 0, 1) := by decide +kernel
theorem dX12_isWord_9 : decode cX12_isWord 9 = .ok (.istore_n 2, 1) := by decide +kernel
theorem dX12_isWord_10 : decode cX12_isWord 10 = .ok (.iconst 0, 1) := by decide +kernel
theorem dX12_isWord_11 : decode cX12_isWord 11 = .ok (.istore_n 3, 1) := by decide +kernel
theorem dX12_isWord_12 : decode cX12_isWord 12 = .ok (.iload_n 3, 1) := by decide +kernel
theorem dX12_isWord_13 : decode cX12_isWord 13 = .ok (.iload_n 1, 1) := by decide +kernel
theorem dX12_isWord_14 : decode cX12_isWord 14 = .ok (.if_icmp .ge 31, 3) := by decide +kernel
theorem dX12_isWord_17 : decode cX12_isWord 17 = .ok (.iload_n 2, 1) := by decide +kernel
theorem dX12_isWord_18 : decode cX12_isWord 18 = .ok (.ifCond .eq 19, 3) := by decide +kernel
theorem dX12_isWord_21 : decode cX12_isWord 21 = .ok (.aload_n 0, 1) := by decide +kernel
theorem dX12_isWord_22 : decode cX12_isWord 22 = .ok (.getfield 7, 3) := by decide +kernel
theorem dX12_isWord_25 : decode cX12_isWord 25 = .ok (.iload_n 3, 1) := by decide +kernel
theorem dX12_isWord_26 : decode cX12_isWord 26 = .ok (.iaload, 1) := by decide +kernel
theorem dX12_isWord_27 : decode cX12_isWord 27 = .ok (.invokestatic 185, 3) := by decide +kernel
theorem dX12_isWord_30 : decode cX12_isWord 30 = .ok (.ifCond .eq 7, 3) := by decide +kernel
theorem dX12_isWord_33 : decode cX12_isWord 33 = .ok (.iconst 1, 1) := by decide +kernel
theorem dX12_isWord_34 : decode cX12_isWord 34 = .ok (.goto 4, 3) := by decide +kernel
theorem dX12_isWord_37 : decode cX12_isWord 37 = .ok (.iconst 0, 1) := by decide +kernel
theorem dX12_isWord_38 : decode cX12_isWord 38 = .ok (.istore_n 2, 1) := by decide +kernel
theorem dX12_isWord_39 : decode cX12_isWord 39 = .ok (.iinc 3 1, 3) := by decide +kernel
theorem dX12_isWord_42 : decode cX12_isWord 42 = .ok (.goto (-30), 3) := by decide +kernel
theorem dX12_isWord_45 : decode cX12_isWord 45 = .ok (.iload_n 2, 1) := by decide +kernel
theorem dX12_isWord_46 : decode cX12_isWord 46 = .ok (.ireturn, 1) := by decide +kernel
theorem dX12_edits_0 : decode cX12_edits 0 = .ok (.iconst 0, 1) := by decide +kernel
theorem dX12_edits_1 : decode cX12_edits 1 = .ok (.istore_n 2, 1) := by decide +kernel
theorem dX12_edits_2 : decode cX12_edits 2 = .ok (.iload_n 2, 1) := by decide +kernel
theorem dX12_edits_3 : decode cX12_edits 3 = .ok (.aload_n 0, 1) := by decide +kernel
theorem dX12_edits_4 : decode cX12_edits 4 = .ok (.getfield 37, 3) := by decide +kernel
theorem dX12_edits_7 : decode cX12_edits 7 = .ok (.iload_n 1, 1) := by decide +kernel
theorem dX12_edits_8 : decode cX12_edits 8 = .ok (.iaload, 1) := by decide +kernel
theorem dX12_edits_9 : decode cX12_edits 9 = .ok (.if_icmp .gt 16, 3) := by decide +kernel
theorem dX12_edits_12 : decode cX12_edits 12 = .ok (.aload_n 0, 1) := by decide +kernel
theorem dX12_edits_13 : decode cX12_edits 13 = .ok (.getfield 154, 3) := by decide +kernel
theorem dX12_edits_16 : decode cX12_edits 16 = .ok (.iload_n 2, 1) := by decide +kernel
theorem dX12_edits_17 : decode cX12_edits 17 = .ok (.iload_n 2, 1) := by decide +kernel
theorem dX12_edits_18 : decode cX12_edits 18 = .ok (.iastore, 1) := by decide +kernel
theorem dX12_edits_19 : decode cX12_edits 19 = .ok (.iinc 2 1, 3) := by decide +kernel
theorem dX12_edits_22 : decode cX12_edits 22 = .ok (.goto (-20), 3) := by decide +kernel
theorem dX12_edits_25 : decode cX12_edits 25 = .ok (.iconst 1, 1) := by decide +kernel
theorem dX12_edits_26 : decode cX12_edits 26 = .ok (.istore_n 2, 1) := by decide +kernel
theorem dX12_edits_27 : decode cX12_edits 27 = .ok (.iload_n 2, 1) := by decide +kernel
theorem dX12_edits_28 : decode cX12_edits 28 = .ok (.aload_n 0, 1) := by decide +kernel
theorem dX12_edits_29 : decode cX12_edits 29 = .ok (.getfield 171, 3) := by decide +kernel
theorem dX12_edits_32 : decode cX12_edits 32 = .ok (.if_icmp .gt 162, 3) := by decide +kernel
theorem dX12_edits_35 : decode cX12_edits 35 = .ok (.aload_n 0, 1) := by decide +kernel
theorem dX12_edits_36 : decode cX12_edits 36 = .ok (.getfield 151, 3) := by decide +kernel
theorem dX12_edits_39 : decode cX12_edits 39 = .ok (.iconst 0, 1) := by decide +kernel
theorem dX12_edits_40 : decode cX12_edits 40 = .ok (.iload_n 2, 1) := by decide +kernel
theorem dX12_edits_41 : decode cX12_edits 41 = .ok (.iastore, 1) := by decide +kernel
theorem dX12_edits_42 : decode cX12_edits 42 = .ok (.iconst 1, 1) := by decide +kernel
theorem dX12_edits_43 : decode cX12_edits 43 = .ok (.istore_n 3, 1) := by decide +kernel
theorem dX12_edits_44 : decode cX12_edits 44 = .ok (.iload_n 3, 1) := by decide +kernel
theorem dX12_edits_45 : decode cX12_edits 45 = .ok (.aload_n 0, 1) := by decide +kernel
theorem dX12_edits_46 : decode cX12_edits 46 = .ok (.getfield 37, 3) := by decide +kernel
theorem dX12_edits_49 : decode cX12_edits 49 = .ok (.iload_n 1, 1) := by decide +kernel
theorem dX12_edits_50 : decode cX12_edits 50 = .ok (.iaload, 1) := by decide +kernel
theorem dX12_edits_51 : decode cX12_edits 51 = .ok (.if_icmp .gt 107, 3) := by decide +kernel
theorem dX12_edits_54 : decode cX12_edits 54 = .ok (.aload_n 0, 1) := by decide +kernel
theorem dX12_edits_55 : decode cX12_edits 55 = .ok (.getfield 154, 3) := by decide +kernel
theorem dX12_edits_58 : decode cX12_edits 58 = .ok (.iload_n 3, 1) := by decide +kernel
theorem dX12_edits_59 : decode cX12_edits 59 = .ok (.iconst 1, 1) := by decide +kernel
theorem dX12_edits_60 : decode cX12_edits 60 = .ok (.isub, 1) := by decide +kernel
theorem dX12_edits_61 : decode cX12_edits 61 = .ok (.iaload, 1) := by decide +kernel
theorem dX12_edits_62 : decode cX12_edits 62 = .ok (.aload_n 0, 1) := by decide +kernel
theorem dX12_edits_63 : decode cX12_edits 63 = .ok (.getfield 100, 3) := by decide +kernel
theorem dX12_edits_66 : decode cX12_edits 66 = .ok (.iload_n 2, 1) := by decide +kernel
theorem dX12_edits_67 : decode cX12_edits 67 = .ok (.iconst 1, 1) := by decide +kernel
theorem dX12_edits_68 : decode cX12_edits 68 = .ok (.isub, 1) := by decide +kernel
theorem dX12_edits_69 : decode cX12_edits 69 = .ok (.iaload, 1) := by decide +kernel
theorem dX12_edits_70 : decode cX12_edits 70 = .ok (.aload_n 0, 1) := by decide +kernel
theorem dX12_edits_71 : decode cX12_edits 71 = .ok (.getfield 41, 3) := by decide +kernel
theorem dX12_edits_74 : decode cX12_edits 74 = .ok (.bipush 12, 2) := by decide +kernel
theorem dX12_edits_76 : decode cX12_edits 76 = .ok (.iload_n 1, 1) := by decide +kernel
theorem dX12_edits_77 : decode cX12_edits 77 = .ok (.imul, 1) := by decide +kernel
theorem dX12_edits_78 : decode cX12_edits 78 = .ok (.iload_n 3, 1) := by decide +kernel
theorem dX12_edits_79 : decode cX12_edits 79 = .ok (.iadd, 1) := by decide +kernel
theorem dX12_edits_80 : decode cX12_edits 80 = .ok (.iconst 1, 1) := by decide +kernel
theorem dX12_edits_81 : decode cX12_edits 81 = .ok (.isub, 1) := by decide +kernel
theorem dX12_edits_82 : decode cX12_edits 82 = .ok (.iaload, 1) := by decide +kernel
theorem dX12_edits_83 : decode cX12_edits 83 = .ok (.if_icmp .ne 7, 3) := by decide +kernel
theorem dX12_edits_86 : decode cX12_edits 86 = .ok (.iconst 0, 1) := by decide +kernel
theorem dX12_edits_87 : decode cX12_edits 87 = .ok (.goto 4, 3) := by decide +kernel
theorem dX12_edits_90 : decode cX12_edits 90 = .ok (.iconst 1, 1) := by decide +kernel
theorem dX12_edits_91 : decode cX12_edits 91 = .ok (.iadd, 1) := by decide +kernel
theorem dX12_edits_92 : decode cX12_edits 92 = .ok (.istore 4, 2) := by decide +kernel
theorem dX12_edits_94 : decode cX12_edits 94 = .ok (.iconst 1, 1) := by decide +kernel
theorem dX12_edits_95 : decode cX12_edits 95 = .ok (.aload_n 0, 1) := by decide +kernel
theorem dX12_edits_96 : decode cX12_edits 96 = .ok (.getfield 154, 3) := by decide +kernel
theorem dX12_edits_99 : decode cX12_edits 99 = .ok (.iload_n 3, 1) := by decide +kernel
theorem dX12_edits_100 : decode cX12_edits 100 = .ok (.iaload, 1) := by decide +kernel
theorem dX12_edits_101 : decode cX12_edits 101 = .ok (.aload_n 0, 1) := by decide +kernel
theorem dX12_edits_102 : decode cX12_edits 102 = .ok (.getfield 151, 3) := by decide +kernel
theorem dX12_edits_105 : decode cX12_edits 105 = .ok (.iload_n 3, 1) := by decide +kernel
theorem dX12_edits_106 : decode cX12_edits 106 = .ok (.iconst 1, 1) := by decide +kernel
theorem dX12_edits_107 : decode cX12_edits 107 = .ok (.isub, 1) := by decide +kernel
theorem dX12_edits_108 : decode cX12_edits 108 = .ok (.iaload, 1) := by decide +kernel
theorem dX12_edits_109 : decode cX12_edits 109 = .ok (.if_icmp .ge 12, 3) := by decide +kernel
theorem dX12_edits_112 : decode cX12_edits 112 = .ok (.aload_n 0, 1) := by decide +kernel
theorem dX12_edits_113 : decode cX12_edits 113 = .ok (.getfield 154, 3) := by decide +kernel
theorem dX12_edits_116 : decode cX12_edits 116 = .ok (.iload_n 3, 1) := by decide +kernel
theorem dX12_edits_117 : decode cX12_edits 117 = .ok (.iaload, 1) := by decide +kernel
theorem dX12_edits_118 : decode cX12_edits 118 = .ok (.goto 11, 3) := by decide +kernel
theorem dX12_edits_121 : decode cX12_edits 121 = .ok (.aload_n 0, 1) := by decide +kernel
theorem dX12_edits_122 : decode cX12_edits 122 = .ok (.getfield 151, 3) := by decide +kernel
theorem dX12_edits_125 : decode cX12_edits 125 = .ok (.iload_n 3, 1) := by decide +kernel
theorem dX12_edits_126 : decode cX12_edits 126 = .ok (.iconst 1, 1) := by decide +kernel
theorem dX12_edits_127 : decode cX12_edits 127 = .ok (.isub, 1) := by decide +kernel
theorem dX12_edits_128 : decode cX12_edits 128 = .ok (.iaload, 1) := by decide +kernel
theorem dX12_edits_129 : decode cX12_edits 129 = .ok (.iadd, 1) := by decide +kernel
theorem dX12_edits_130 : decode cX12_edits 130 = .ok (.istore 5, 2) := by decide +kernel
theorem dX12_edits_132 : decode cX12_edits 132 = .ok (.aload_n 0, 1) := by decide +kernel
theorem dX12_edits_133 : decode cX12_edits 133 = .ok (.getfield 151, 3) := by decide +kernel
theorem dX12_edits_136 : decode cX12_edits 136 = .ok (.iload_n 3, 1) := by decide +kernel
theorem dX12_edits_137 : decode cX12_edits 137 = .ok (.iload 4, 2) := by decide +kernel
theorem dX12_edits_139 : decode cX12_edits 139 = .ok (.iload 5, 2) := by decide +kernel
theorem dX12_edits_141 : decode cX12_edits 141 = .ok (.if_icmp .ge 8, 3) := by decide +kernel
theorem dX12_edits_144 : decode cX12_edits 144 = .ok (.iload 4, 2) := by decide +kernel
theorem dX12_edits_146 : decode cX12_edits 146 = .ok (.goto 5, 3) := by decide +kernel
theorem dX12_edits_149 : decode cX12_edits 149 = .ok (.iload 5, 2) := by decide +kernel
theorem dX12_edits_151 : decode cX12_edits 151 = .ok (.iastore, 1) := by decide +kernel
theorem dX12_edits_152 : decode cX12_edits 152 = .ok (.iinc 3 1, 3) := by decide +kernel
theorem dX12_edits_155 : decode cX12_edits 155 = .ok (.goto (-111), 3) := by decide +kernel
theorem dX12_edits_158 : decode cX12_edits 158 = .ok (.iconst 0, 1) := by decide +kernel
theorem dX12_edits_159 : decode cX12_edits 159 = .ok (.istore_n 3, 1) := by decide +kernel
theorem dX12_edits_160 : decode cX12_edits 160 = .ok (.iload_n 3, 1) := by decide +kernel
theorem dX12_edits_161 : decode cX12_edits 161 = .ok (.aload_n 0, 1) := by decide +kernel
theorem dX12_edits_162 : decode cX12_edits 162 = .ok (.getfield 37, 3) := by decide +kernel
theorem dX12_edits_165 : decode cX12_edits 165 = .ok (.iload_n 1, 1) := by decide +kernel
theorem dX12_edits_166 : decode cX12_edits 166 = .ok (.iaload, 1) := by decide +kernel
theorem dX12_edits_167 : decode cX12_edits 167 = .ok (.if_icmp .gt 21, 3) := by decide +kernel
theorem dX12_edits_170 : decode cX12_edits 170 = .ok (.aload_n 0, 1) := by decide +kernel
theorem dX12_edits_171 : decode cX12_edits 171 = .ok (.getfield 154, 3) := by decide +kernel
theorem dX12_edits_174 : decode cX12_edits 174 = .ok (.iload_n 3, 1) := by decide +kernel
theorem dX12_edits_175 : decode cX12_edits 175 = .ok (.aload_n 0, 1) := by decide +kernel
theorem dX12_edits_176 : decode cX12_edits 176 = .ok (.getfield 151, 3) := by decide +kernel
theorem dX12_edits_179 : decode cX12_edits 179 = .ok (.iload_n 3, 1) := by decide +kernel
theorem dX12_edits_180 : decode cX12_edits 180 = .ok (.iaload, 1) := by decide +kernel
theorem dX12_edits_181 : decode cX12_edits 181 = .ok (.iastore, 1) := by decide +kernel
theorem dX12_edits_182 : decode cX12_edits 182 = .ok (.iinc 3 1, 3) := by decide +kernel
theorem dX12_edits_185 : decode cX12_edits 185 = .ok (.goto (-25), 3) := by decide +kernel
theorem dX12_edits_188 : decode cX12_edits 188 = .ok (.iinc 2 1, 3) := by decide +kernel
theorem dX12_edits_191 : decode cX12_edits 191 = .ok (.goto (-164), 3) := by decide +kernel
theorem dX12_edits_194 : decode cX12_edits 194 = .ok (.aload_n 0, 1) := by decide +kernel
theorem dX12_edits_195 : decode cX12_edits 195 = .ok (.getfield 154, 3) := by decide +kernel
theorem dX12_edits_198 : decode cX12_edits 198 = .ok (.aload_n 0, 1) := by decide +kernel
theorem dX12_edits_199 : decode cX12_edits 199 = .ok (.getfield 37, 3) := by decide +kernel
theorem dX12_edits_202 : decode cX12_edits 202 = .ok (.iload_n 1, 1) := by decide +kernel
theorem dX12_edits_203 : decode cX12_edits 203 = .ok (.iaload, 1) := by decide +kernel
theorem dX12_edits_204 : decode cX12_edits 204 = .ok (.iaload, 1) := by decide +kernel
theorem dX12_edits_205 : decode cX12_edits 205 = .ok (.ireturn, 1) := by decide +kernel
theorem dX12_areAlike_0 : decode cX12_areAlike 0 = .ok (.aload_n 0, 1) := by decide +kernel
theorem dX12_areAlike_1 : decode cX12_areAlike 1 = .ok (.getfield 37, 3) := by decide +kernel
theorem dX12_areAlike_4 : decode cX12_areAlike 4 = .ok (.iload_n 1, 1) := by decide +kernel
theorem dX12_areAlike_5 : decode cX12_areAlike 5 = .ok (.iaload, 1) := by decide +kernel
theorem dX12_areAlike_6 : decode cX12_areAlike 6 = .ok (.aload_n 0, 1) := by decide +kernel
theorem dX12_areAlike_7 : decode cX12_areAlike 7 = .ok (.getfield 37, 3) := by decide +kernel
theorem dX12_areAlike_10 : decode cX12_areAlike 10 = .ok (.iload_n 2, 1) := by decide +kernel
theorem dX12_areAlike_11 : decode cX12_areAlike 11 = .ok (.iaload, 1) := by decide +kernel
theorem dX12_areAlike_12 : decode cX12_areAlike 12 = .ok (.if_icmp .ne 7, 3) := by decide +kernel
theorem dX12_areAlike_15 : decode cX12_areAlike 15 = .ok (.iconst 1, 1) := by decide +kernel
theorem dX12_areAlike_16 : decode cX12_areAlike 16 = .ok (.goto 4, 3) := by decide +kernel
theorem dX12_areAlike_19 : decode cX12_areAlike 19 = .ok (.iconst 0, 1) := by decide +kernel
theorem dX12_areAlike_20 : decode cX12_areAlike 20 = .ok (.istore_n 3, 1) := by decide +kernel
theorem dX12_areAlike_21 : decode cX12_areAlike 21 = .ok (.iconst 0, 1) := by decide +kernel
theorem dX12_areAlike_22 : decode cX12_areAlike 22 = .ok (.istore 4, 2) := by decide +kernel
theorem dX12_areAlike_24 : decode cX12_areAlike 24 = .ok (.iload 4, 2) := by decide +kernel
theorem dX12_areAlike_26 : decode cX12_areAlike 26 = .ok (.aload_n 0, 1) := by decide +kernel
theorem dX12_areAlike_27 : decode cX12_areAlike 27 = .ok (.getfield 37, 3) := by decide +kernel
theorem dX12_areAlike_30 : decode cX12_areAlike 30 = .ok (.iload_n 1, 1) := by decide +kernel
theorem dX12_areAlike_31 : decode cX12_areAlike 31 = .ok (.iaload, 1) := by decide +kernel
theorem dX12_areAlike_32 : decode cX12_areAlike 32 = .ok (.if_icmp .ge 46, 3) := by decide +kernel
theorem dX12_areAlike_35 : decode cX12_areAlike 35 = .ok (.iload_n 3, 1) := by decide +kernel
theorem dX12_areAlike_36 : decode cX12_areAlike 36 = .ok (.ifCond .eq 42, 3) := by decide +kernel
theorem dX12_areAlike_39 : decode cX12_areAlike 39 = .ok (.aload_n 0, 1) := by decide +kernel
theorem dX12_areAlike_40 : decode cX12_areAlike 40 = .ok (.getfield 41, 3) := by decide +kernel
theorem dX12_areAlike_43 : decode cX12_areAlike 43 = .ok (.bipush 12, 2) := by decide +kernel
theorem dX12_areAlike_45 : decode cX12_areAlike 45 = .ok (.iload_n 1, 1) := by decide +kernel
theorem dX12_areAlike_46 : decode cX12_areAlike 46 = .ok (.imul, 1) := by decide +kernel
theorem dX12_areAlike_47 : decode cX12_areAlike 47 = .ok (.iload 4, 2) := by decide +kernel
theorem dX12_areAlike_49 : decode cX12_areAlike 49 = .ok (.iadd, 1) := by decide +kernel
theorem dX12_areAlike_50 : decode cX12_areAlike 50 = .ok (.iaload, 1) := by decide +kernel
theorem dX12_areAlike_51 : decode cX12_areAlike 51 = .ok (.aload_n 0, 1) := by decide +kernel
theorem dX12_areAlike_52 : decode cX12_areAlike 52 = .ok (.getfield 41, 3) := by decide +kernel
theorem dX12_areAlike_55 : decode cX12_areAlike 55 = .ok (.bipush 12, 2) := by decide +kernel
theorem dX12_areAlike_57 : decode cX12_areAlike 57 = .ok (.iload_n 2, 1) := by decide +kernel
theorem dX12_areAlike_58 : decode cX12_areAlike 58 = .ok (.imul, 1) := by decide +kernel
theorem dX12_areAlike_59 : decode cX12_areAlike 59 = .ok (.iload 4, 2) := by decide +kernel
theorem dX12_areAlike_61 : decode cX12_areAlike 61 = .ok (.iadd, 1) := by decide +kernel
theorem dX12_areAlike_62 : decode cX12_areAlike 62 = .ok (.iaload, 1) := by decide +kernel
theorem dX12_areAlike_63 : decode cX12_areAlike 63 = .ok (.if_icmp .ne 7, 3) := by decide +kernel
theorem dX12_areAlike_66 : decode cX12_areAlike 66 = .ok (.iconst 1, 1) := by decide +kernel
theorem dX12_areAlike_67 : decode cX12_areAlike 67 = .ok (.goto 4, 3) := by decide +kernel
theorem dX12_areAlike_70 : decode cX12_areAlike 70 = .ok (.iconst 0, 1) := by decide +kernel
theorem dX12_areAlike_71 : decode cX12_areAlike 71 = .ok (.istore_n 3, 1) := by decide +kernel
theorem dX12_areAlike_72 : decode cX12_areAlike 72 = .ok (.iinc 4 1, 3) := by decide +kernel
theorem dX12_areAlike_75 : decode cX12_areAlike 75 = .ok (.goto (-51), 3) := by decide +kernel
theorem dX12_areAlike_78 : decode cX12_areAlike 78 = .ok (.iload_n 3, 1) := by decide +kernel
theorem dX12_areAlike_79 : decode cX12_areAlike 79 = .ok (.ireturn, 1) := by decide +kernel
theorem dX12_isLess_0 : decode cX12_isLess 0 = .ok (.iconst 0, 1) := by decide +kernel
theorem dX12_isLess_1 : decode cX12_isLess 1 = .ok (.istore_n 3, 1) := by decide +kernel
theorem dX12_isLess_2 : decode cX12_isLess 2 = .ok (.iload_n 3, 1) := by decide +kernel
theorem dX12_isLess_3 : decode cX12_isLess 3 = .ok (.aload_n 0, 1) := by decide +kernel
theorem dX12_isLess_4 : decode cX12_isLess 4 = .ok (.getfield 37, 3) := by decide +kernel
theorem dX12_isLess_7 : decode cX12_isLess 7 = .ok (.iload_n 1, 1) := by decide +kernel
theorem dX12_isLess_8 : decode cX12_isLess 8 = .ok (.iaload, 1) := by decide +kernel
theorem dX12_isLess_9 : decode cX12_isLess 9 = .ok (.if_icmp .ge 44, 3) := by decide +kernel
theorem dX12_isLess_12 : decode cX12_isLess 12 = .ok (.iload_n 3, 1) := by decide +kernel
theorem dX12_isLess_13 : decode cX12_isLess 13 = .ok (.aload_n 0, 1) := by decide +kernel
theorem dX12_isLess_14 : decode cX12_isLess 14 = .ok (.getfield 37, 3) := by decide +kernel
theorem dX12_isLess_17 : decode cX12_isLess 17 = .ok (.iload_n 2, 1) := by decide +kernel
theorem dX12_isLess_18 : decode cX12_isLess 18 = .ok (.iaload, 1) := by decide +kernel
theorem dX12_isLess_19 : decode cX12_isLess 19 = .ok (.if_icmp .ge 34, 3) := by decide +kernel
theorem dX12_isLess_22 : decode cX12_isLess 22 = .ok (.aload_n 0, 1) := by decide +kernel
theorem dX12_isLess_23 : decode cX12_isLess 23 = .ok (.getfield 41, 3) := by decide +kernel
theorem dX12_isLess_26 : decode cX12_isLess 26 = .ok (.bipush 12, 2) := by decide +kernel
theorem dX12_isLess_28 : decode cX12_isLess 28 = .ok (.iload_n 1, 1) := by decide +kernel
theorem dX12_isLess_29 : decode cX12_isLess 29 = .ok (.imul, 1) := by decide +kernel
theorem dX12_isLess_30 : decode cX12_isLess 30 = .ok (.iload_n 3, 1) := by decide +kernel
theorem dX12_isLess_31 : decode cX12_isLess 31 = .ok (.iadd, 1) := by decide +kernel
theorem dX12_isLess_32 : decode cX12_isLess 32 = .ok (.iaload, 1) := by decide +kernel
theorem dX12_isLess_33 : decode cX12_isLess 33 = .ok (.aload_n 0, 1) := by decide +kernel
theorem dX12_isLess_34 : decode cX12_isLess 34 = .ok (.getfield 41, 3) := by decide +kernel
theorem dX12_isLess_37 : decode cX12_isLess 37 = .ok (.bipush 12, 2) := by decide +kernel
theorem dX12_isLess_39 : decode cX12_isLess 39 = .ok (.iload_n 2, 1) := by decide +kernel
theorem dX12_isLess_40 : decode cX12_isLess 40 = .ok (.imul, 1) := by decide +kernel
theorem dX12_isLess_41 : decode cX12_isLess 41 = .ok (.iload_n 3, 1) := by decide +kernel
theorem dX12_isLess_42 : decode cX12_isLess 42 = .ok (.iadd, 1) := by decide +kernel
theorem dX12_isLess_43 : decode cX12_isLess 43 = .ok (.iaload, 1) := by decide +kernel
theorem dX12_isLess_44 : decode cX12_isLess 44 = .ok (.if_icmp .ne 9, 3) := by decide +kernel
theorem dX12_isLess_47 : decode cX12_isLess 47 = .ok (.iinc 3 1, 3) := by decide +kernel
theorem dX12_isLess_50 : decode cX12_isLess 50 = .ok (.goto (-48), 3) := by decide +kernel
theorem dX12_isLess_53 : decode cX12_isLess 53 = .ok (.iload_n 3, 1) := by decide +kernel
theorem dX12_isLess_54 : decode cX12_isLess 54 = .ok (.aload_n 0, 1) := by decide +kernel
theorem dX12_isLess_55 : decode cX12_isLess 55 = .ok (.getfield 37, 3) := by decide +kernel
theorem dX12_isLess_58 : decode cX12_isLess 58 = .ok (.iload_n 2, 1) := by decide +kernel
theorem dX12_isLess_59 : decode cX12_isLess 59 = .ok (.iaload, 1) := by decide +kernel
theorem dX12_isLess_60 : decode cX12_isLess 60 = .ok (.if_icmp .ge 42, 3) := by decide +kernel
theorem dX12_isLess_63 : decode cX12_isLess 63 = .ok (.iload_n 3, 1) := by decide +kernel
theorem dX12_isLess_64 : decode cX12_isLess 64 = .ok (.aload_n 0, 1) := by decide +kernel
theorem dX12_isLess_65 : decode cX12_isLess 65 = .ok (.getfield 37, 3) := by decide +kernel
theorem dX12_isLess_68 : decode cX12_isLess 68 = .ok (.iload_n 1, 1) := by decide +kernel
theorem dX12_isLess_69 : decode cX12_isLess 69 = .ok (.iaload, 1) := by decide +kernel
theorem dX12_isLess_70 : decode cX12_isLess 70 = .ok (.if_icmp .eq 28, 3) := by decide +kernel
theorem dX12_isLess_73 : decode cX12_isLess 73 = .ok (.aload_n 0, 1) := by decide +kernel
theorem dX12_isLess_74 : decode cX12_isLess 74 = .ok (.getfield 41, 3) := by decide +kernel
theorem dX12_isLess_77 : decode cX12_isLess 77 = .ok (.bipush 12, 2) := by decide +kernel
theorem dX12_isLess_79 : decode cX12_isLess 79 = .ok (.iload_n 1, 1) := by decide +kernel
theorem dX12_isLess_80 : decode cX12_isLess 80 = .ok (.imul, 1) := by decide +kernel
theorem dX12_isLess_81 : decode cX12_isLess 81 = .ok (.iload_n 3, 1) := by decide +kernel
theorem dX12_isLess_82 : decode cX12_isLess 82 = .ok (.iadd, 1) := by decide +kernel
theorem dX12_isLess_83 : decode cX12_isLess 83 = .ok (.iaload, 1) := by decide +kernel
theorem dX12_isLess_84 : decode cX12_isLess 84 = .ok (.aload_n 0, 1) := by decide +kernel
theorem dX12_isLess_85 : decode cX12_isLess 85 = .ok (.getfield 41, 3) := by decide +kernel
theorem dX12_isLess_88 : decode cX12_isLess 88 = .ok (.bipush 12, 2) := by decide +kernel
theorem dX12_isLess_90 : decode cX12_isLess 90 = .ok (.iload_n 2, 1) := by decide +kernel
theorem dX12_isLess_91 : decode cX12_isLess 91 = .ok (.imul, 1) := by decide +kernel
theorem dX12_isLess_92 : decode cX12_isLess 92 = .ok (.iload_n 3, 1) := by decide +kernel
theorem dX12_isLess_93 : decode cX12_isLess 93 = .ok (.iadd, 1) := by decide +kernel
theorem dX12_isLess_94 : decode cX12_isLess 94 = .ok (.iaload, 1) := by decide +kernel
theorem dX12_isLess_95 : decode cX12_isLess 95 = .ok (.if_icmp .ge 7, 3) := by decide +kernel
theorem dX12_isLess_98 : decode cX12_isLess 98 = .ok (.iconst 1, 1) := by decide +kernel
theorem dX12_isLess_99 : decode cX12_isLess 99 = .ok (.goto 4, 3) := by decide +kernel
theorem dX12_isLess_102 : decode cX12_isLess 102 = .ok (.iconst 0, 1) := by decide +kernel
theorem dX12_isLess_103 : decode cX12_isLess 103 = .ok (.ireturn, 1) := by decide +kernel
theorem dX12_hasTerm_0 : decode cX12_hasTerm 0 = .ok (.iconst 0, 1) := by decide +kernel
theorem dX12_hasTerm_1 : decode cX12_hasTerm 1 = .ok (.istore 4, 2) := by decide +kernel
theorem dX12_hasTerm_3 : decode cX12_hasTerm 3 = .ok (.iload 4, 2) := by decide +kernel
theorem dX12_hasTerm_5 : decode cX12_hasTerm 5 = .ok (.aload_n 0, 1) := by decide +kernel
theorem dX12_hasTerm_6 : decode cX12_hasTerm 6 = .ok (.getfield 27, 3) := by decide +kernel
theorem dX12_hasTerm_9 : decode cX12_hasTerm 9 = .ok (.iconst 2, 1) := by decide +kernel
theorem dX12_hasTerm_10 : decode cX12_hasTerm 10 = .ok (.iload_n 1, 1) := by decide +kernel
theorem dX12_hasTerm_11 : decode cX12_hasTerm 11 = .ok (.imul, 1) := by decide +kernel
theorem dX12_hasTerm_12 : decode cX12_hasTerm 12 = .ok (.iload_n 2, 1) := by decide +kernel
theorem dX12_hasTerm_13 : decode cX12_hasTerm 13 = .ok (.iadd, 1) := by decide +kernel
theorem dX12_hasTerm_14 : decode cX12_hasTerm 14 = .ok (.iaload, 1) := by decide +kernel
theorem dX12_hasTerm_15 : decode cX12_hasTerm 15 = .ok (.if_icmp .ge 27, 3) := by decide +kernel
theorem dX12_hasTerm_18 : decode cX12_hasTerm 18 = .ok (.aload_n 0, 1) := by decide +kernel
theorem dX12_hasTerm_19 : decode cX12_hasTerm 19 = .ok (.iload_n 1, 1) := by decide +kernel
theorem dX12_hasTerm_20 : decode cX12_hasTerm 20 = .ok (.iload_n 2, 1) := by decide +kernel
theorem dX12_hasTerm_21 : decode cX12_hasTerm 21 = .ok (.invokestatic 189, 3) := by decide +kernel
theorem dX12_hasTerm_24 : decode cX12_hasTerm 24 = .ok (.iload 4, 2) := by decide +kernel
theorem dX12_hasTerm_26 : decode cX12_hasTerm 26 = .ok (.iadd, 1) := by decide +kernel
theorem dX12_hasTerm_27 : decode cX12_hasTerm 27 = .ok (.iload_n 3, 1) := by decide +kernel
theorem dX12_hasTerm_28 : decode cX12_hasTerm 28 = .ok (.invokevirtual 406, 3) := by decide +kernel
theorem dX12_hasTerm_31 : decode cX12_hasTerm 31 = .ok (.ifCond .eq 5, 3) := by decide +kernel
theorem dX12_hasTerm_34 : decode cX12_hasTerm 34 = .ok (.iconst 1, 1) := by decide +kernel
theorem dX12_hasTerm_35 : decode cX12_hasTerm 35 = .ok (.ireturn, 1) := by decide +kernel
theorem dX12_hasTerm_36 : decode cX12_hasTerm 36 = .ok (.iinc 4 1, 3) := by decide +kernel
theorem dX12_hasTerm_39 : decode cX12_hasTerm 39 = .ok (.goto (-36), 3) := by decide +kernel
theorem dX12_hasTerm_42 : decode cX12_hasTerm 42 = .ok (.iconst 0, 1) := by decide +kernel
theorem dX12_hasTerm_43 : decode cX12_hasTerm 43 = .ok (.ireturn, 1) := by decide +kernel
theorem dX12_dfOf_0 : decode cX12_dfOf 0 = .ok (.iconst 0, 1) := by decide +kernel
theorem dX12_dfOf_1 : decode cX12_dfOf 1 = .ok (.istore_n 3, 1) := by decide +kernel
theorem dX12_dfOf_2 : decode cX12_dfOf 2 = .ok (.iconst 0, 1) := by decide +kernel
theorem dX12_dfOf_3 : decode cX12_dfOf 3 = .ok (.istore 4, 2) := by decide +kernel
theorem dX12_dfOf_5 : decode cX12_dfOf 5 = .ok (.iload 4, 2) := by decide +kernel
theorem dX12_dfOf_7 : decode cX12_dfOf 7 = .ok (.aload_n 0, 1) := by decide +kernel
theorem dX12_dfOf_8 : decode cX12_dfOf 8 = .ok (.getfield 63, 3) := by decide +kernel
theorem dX12_dfOf_11 : decode cX12_dfOf 11 = .ok (.iload_n 1, 1) := by decide +kernel
theorem dX12_dfOf_12 : decode cX12_dfOf 12 = .ok (.iaload, 1) := by decide +kernel
theorem dX12_dfOf_13 : decode cX12_dfOf 13 = .ok (.if_icmp .ge 39, 3) := by decide +kernel
theorem dX12_dfOf_16 : decode cX12_dfOf 16 = .ok (.iload_n 3, 1) := by decide +kernel
theorem dX12_dfOf_17 : decode cX12_dfOf 17 = .ok (.aload_n 0, 1) := by decide +kernel
theorem dX12_dfOf_18 : decode cX12_dfOf 18 = .ok (.aload_n 0, 1) := by decide +kernel
theorem dX12_dfOf_19 : decode cX12_dfOf 19 = .ok (.getfield 66, 3) := by decide +kernel
theorem dX12_dfOf_22 : decode cX12_dfOf 22 = .ok (.sipush 400, 3) := by decide +kernel
theorem dX12_dfOf_25 : decode cX12_dfOf 25 = .ok (.iload_n 1, 1) := by decide +kernel
theorem dX12_dfOf_26 : decode cX12_dfOf 26 = .ok (.imul, 1) := by decide +kernel
theorem dX12_dfOf_27 : decode cX12_dfOf 27 = .ok (.iload 4, 2) := by decide +kernel
theorem dX12_dfOf_29 : decode cX12_dfOf 29 = .ok (.iadd, 1) := by decide +kernel
theorem dX12_dfOf_30 : decode cX12_dfOf 30 = .ok (.iaload, 1) := by decide +kernel
theorem dX12_dfOf_31 : decode cX12_dfOf 31 = .ok (.iconst 1, 1) := by decide +kernel
theorem dX12_dfOf_32 : decode cX12_dfOf 32 = .ok (.iload_n 2, 1) := by decide +kernel
theorem dX12_dfOf_33 : decode cX12_dfOf 33 = .ok (.invokevirtual 409, 3) := by decide +kernel
theorem dX12_dfOf_36 : decode cX12_dfOf 36 = .ok (.ifCond .eq 7, 3) := by decide +kernel
theorem dX12_dfOf_39 : decode cX12_dfOf 39 = .ok (.iconst 1, 1) := by decide +kernel
theorem dX12_dfOf_40 : decode cX12_dfOf 40 = .ok (.goto 4, 3) := by decide +kernel
theorem dX12_dfOf_43 : decode cX12_dfOf 43 = .ok (.iconst 0, 1) := by decide +kernel
theorem dX12_dfOf_44 : decode cX12_dfOf 44 = .ok (.iadd, 1) := by decide +kernel
theorem dX12_dfOf_45 : decode cX12_dfOf 45 = .ok (.istore_n 3, 1) := by decide +kernel
theorem dX12_dfOf_46 : decode cX12_dfOf 46 = .ok (.iinc 4 1, 3) := by decide +kernel
theorem dX12_dfOf_49 : decode cX12_dfOf 49 = .ok (.goto (-44), 3) := by decide +kernel
theorem dX12_dfOf_52 : decode cX12_dfOf 52 = .ok (.iload_n 3, 1) := by decide +kernel
theorem dX12_dfOf_53 : decode cX12_dfOf 53 = .ok (.ireturn, 1) := by decide +kernel
theorem dX12_near_0 : decode cX12_near 0 = .ok (.aload_n 0, 1) := by decide +kernel
theorem dX12_near_1 : decode cX12_near 1 = .ok (.getfield 168, 3) := by decide +kernel
theorem dX12_near_4 : decode cX12_near 4 = .ok (.istore_n 2, 1) := by decide +kernel
theorem dX12_near_5 : decode cX12_near 5 = .ok (.aload_n 0, 1) := by decide +kernel
theorem dX12_near_6 : decode cX12_near 6 = .ok (.iconst 0, 1) := by decide +kernel
theorem dX12_near_7 : decode cX12_near 7 = .ok (.putfield 168, 3) := by decide +kernel
theorem dX12_near_10 : decode cX12_near 10 = .ok (.aload_n 0, 1) := by decide +kernel
theorem dX12_near_11 : decode cX12_near 11 = .ok (.iload_n 1, 1) := by decide +kernel
theorem dX12_near_12 : decode cX12_near 12 = .ok (.invokevirtual 236, 3) := by decide +kernel
theorem dX12_near_15 : decode cX12_near 15 = .ok (.ifCond .eq 11, 3) := by decide +kernel
theorem dX12_near_18 : decode cX12_near 18 = .ok (.aload_n 0, 1) := by decide +kernel
theorem dX12_near_19 : decode cX12_near 19 = .ok (.iload_n 2, 1) := by decide +kernel
theorem dX12_near_20 : decode cX12_near 20 = .ok (.invokevirtual 412, 3) := by decide +kernel
theorem dX12_near_23 : decode cX12_near 23 = .ok (.ifCond .ne 6, 3) := by decide +kernel
theorem dX12_near_26 : decode cX12_near 26 = .ok (.bipush (-2), 2) := by decide +kernel
theorem dX12_near_28 : decode cX12_near 28 = .ok (.ireturn, 1) := by decide +kernel
theorem dX12_near_29 : decode cX12_near 29 = .ok (.aload_n 0, 1) := by decide +kernel
theorem dX12_near_30 : decode cX12_near 30 = .ok (.iconst 0, 1) := by decide +kernel
theorem dX12_near_31 : decode cX12_near 31 = .ok (.iload_n 2, 1) := by decide +kernel
theorem dX12_near_32 : decode cX12_near 32 = .ok (.invokevirtual 178, 3) := by decide +kernel
theorem dX12_near_35 : decode cX12_near 35 = .ok (.iconst (-1), 1) := by decide +kernel
theorem dX12_near_36 : decode cX12_near 36 = .ok (.istore_n 3, 1) := by decide +kernel
theorem dX12_near_37 : decode cX12_near 37 = .ok (.iconst 3, 1) := by decide +kernel
theorem dX12_near_38 : decode cX12_near 38 = .ok (.istore 4, 2) := by decide +kernel
theorem dX12_near_40 : decode cX12_near 40 = .ok (.iconst 0, 1) := by decide +kernel
theorem dX12_near_41 : decode cX12_near 41 = .ok (.istore 5, 2) := by decide +kernel
theorem dX12_near_43 : decode cX12_near 43 = .ok (.iconst 0, 1) := by decide +kernel
theorem dX12_near_44 : decode cX12_near 44 = .ok (.istore 6, 2) := by decide +kernel
theorem dX12_near_46 : decode cX12_near 46 = .ok (.iload 6, 2) := by decide +kernel
theorem dX12_near_48 : decode cX12_near 48 = .ok (.aload_n 0, 1) := by decide +kernel
theorem dX12_near_49 : decode cX12_near 49 = .ok (.getfield 63, 3) := by decide +kernel
theorem dX12_near_52 : decode cX12_near 52 = .ok (.iload_n 1, 1) := by decide +kernel
theorem dX12_near_53 : decode cX12_near 53 = .ok (.iaload, 1) := by decide +kernel
theorem dX12_near_54 : decode cX12_near 54 = .ok (.if_icmp .ge 166, 3) := by decide +kernel
theorem dX12_near_57 : decode cX12_near 57 = .ok (.aload_n 0, 1) := by decide +kernel
theorem dX12_near_58 : decode cX12_near 58 = .ok (.getfield 66, 3) := by decide +kernel
theorem dX12_near_61 : decode cX12_near 61 = .ok (.sipush 400, 3) := by decide +kernel
theorem dX12_near_64 : decode cX12_near 64 = .ok (.iload_n 1, 1) := by decide +kernel
theorem dX12_near_65 : decode cX12_near 65 = .ok (.imul, 1) := by decide +kernel
theorem dX12_near_66 : decode cX12_near 66 = .ok (.iload 6, 2) := by decide +kernel
theorem dX12_near_68 : decode cX12_near 68 = .ok (.iadd, 1) := by decide +kernel
theorem dX12_near_69 : decode cX12_near 69 = .ok (.iaload, 1) := by decide +kernel
theorem dX12_near_70 : decode cX12_near 70 = .ok (.istore 7, 2) := by decide +kernel
theorem dX12_near_72 : decode cX12_near 72 = .ok (.iconst 0, 1) := by decide +kernel
theorem dX12_near_73 : decode cX12_near 73 = .ok (.istore 8, 2) := by decide +kernel
theorem dX12_near_75 : decode cX12_near 75 = .ok (.iload 8, 2) := by decide +kernel
theorem dX12_near_77 : decode cX12_near 77 = .ok (.aload_n 0, 1) := by decide +kernel
theorem dX12_near_78 : decode cX12_near 78 = .ok (.getfield 27, 3) := by decide +kernel
theorem dX12_near_81 : decode cX12_near 81 = .ok (.iconst 2, 1) := by decide +kernel
theorem dX12_near_82 : decode cX12_near 82 = .ok (.iload 7, 2) := by decide +kernel
theorem dX12_near_84 : decode cX12_near 84 = .ok (.imul, 1) := by decide +kernel
theorem dX12_near_85 : decode cX12_near 85 = .ok (.iconst 1, 1) := by decide +kernel
theorem dX12_near_86 : decode cX12_near 86 = .ok (.iadd, 1) := by decide +kernel
theorem dX12_near_87 : decode cX12_near 87 = .ok (.iaload, 1) := by decide +kernel
theorem dX12_near_88 : decode cX12_near 88 = .ok (.if_icmp .ge 126, 3) := by decide +kernel
theorem dX12_near_91 : decode cX12_near 91 = .ok (.iload 7, 2) := by decide +kernel
theorem dX12_near_93 : decode cX12_near 93 = .ok (.iconst 1, 1) := by decide +kernel
theorem dX12_near_94 : decode cX12_near 94 = .ok (.invokestatic 189, 3) := by decide +kernel
theorem dX12_near_97 : decode cX12_near 97 = .ok (.iload 8, 2) := by decide +kernel
theorem dX12_near_99 : decode cX12_near 99 = .ok (.iadd, 1) := by decide +kernel
theorem dX12_near_100 : decode cX12_near 100 = .ok (.istore 9, 2) := by decide +kernel
theorem dX12_near_102 : decode cX12_near 102 = .ok (.aload_n 0, 1) := by decide +kernel
theorem dX12_near_103 : decode cX12_near 103 = .ok (.getfield 37, 3) := by decide +kernel
theorem dX12_near_106 : decode cX12_near 106 = .ok (.iload 9, 2) := by decide +kernel
theorem dX12_near_108 : decode cX12_near 108 = .ok (.iaload, 1) := by decide +kernel
theorem dX12_near_109 : decode cX12_near 109 = .ok (.ifCond .ne 6, 3) := by decide +kernel
theorem dX12_near_112 : decode cX12_near 112 = .ok (.goto 96, 3) := by decide +kernel
theorem dX12_near_115 : decode cX12_near 115 = .ok (.aload_n 0, 1) := by decide +kernel
theorem dX12_near_116 : decode cX12_near 116 = .ok (.iload 9, 2) := by decide +kernel
theorem dX12_near_118 : decode cX12_near 118 = .ok (.invokevirtual 415, 3) := by decide +kernel
theorem dX12_near_121 : decode cX12_near 121 = .ok (.istore 10, 2) := by decide +kernel
theorem dX12_near_123 : decode cX12_near 123 = .ok (.iload 10, 2) := by decide +kernel
theorem dX12_near_125 : decode cX12_near 125 = .ok (.iload 4, 2) := by decide +kernel
theorem dX12_near_127 : decode cX12_near 127 = .ok (.if_icmp .gt 81, 3) := by decide +kernel
theorem dX12_near_130 : decode cX12_near 130 = .ok (.iload 10, 2) := by decide +kernel
theorem dX12_near_132 : decode cX12_near 132 = .ok (.iconst 2, 1) := by decide +kernel
theorem dX12_near_133 : decode cX12_near 133 = .ok (.if_icmp .gt 75, 3) := by decide +kernel
theorem dX12_near_136 : decode cX12_near 136 = .ok (.iload_n 3, 1) := by decide +kernel
theorem dX12_near_137 : decode cX12_near 137 = .ok (.iconst (-1), 1) := by decide +kernel
theorem dX12_near_138 : decode cX12_near 138 = .ok (.if_icmp .eq 16, 3) := by decide +kernel
theorem dX12_near_141 : decode cX12_near 141 = .ok (.aload_n 0, 1) := by decide +kernel
theorem dX12_near_142 : decode cX12_near 142 = .ok (.iload 9, 2) := by decide +kernel
theorem dX12_near_144 : decode cX12_near 144 = .ok (.iload_n 3, 1) := by decide +kernel
theorem dX12_near_145 : decode cX12_near 145 = .ok (.invokevirtual 406, 3) := by decide +kernel
theorem dX12_near_148 : decode cX12_near 148 = .ok (.ifCond .eq 6, 3) := by decide +kernel
theorem dX12_near_151 : decode cX12_near 151 = .ok (.goto 57, 3) := by decide +kernel
theorem dX12_near_154 : decode cX12_near 154 = .ok (.aload_n 0, 1) := by decide +kernel
theorem dX12_near_155 : decode cX12_near 155 = .ok (.iload_n 1, 1) := by decide +kernel
theorem dX12_near_156 : decode cX12_near 156 = .ok (.iload 9, 2) := by decide +kernel
theorem dX12_near_158 : decode cX12_near 158 = .ok (.invokevirtual 418, 3) := by decide +kernel
theorem dX12_near_161 : decode cX12_near 161 = .ok (.istore 11, 2) := by decide +kernel
theorem dX12_near_163 : decode cX12_near 163 = .ok (.iload 10, 2) := by decide +kernel
theorem dX12_near_165 : decode cX12_near 165 = .ok (.iload 4, 2) := by decide +kernel
theorem dX12_near_167 : decode cX12_near 167 = .ok (.if_icmp .ne 30, 3) := by decide +kernel
theorem dX12_near_170 : decode cX12_near 170 = .ok (.iload 11, 2) := by decide +kernel
theorem dX12_near_172 : decode cX12_near 172 = .ok (.iload 5, 2) := by decide +kernel
theorem dX12_near_174 : decode cX12_near 174 = .ok (.if_icmp .lt 34, 3) := by decide +kernel
theorem dX12_near_177 : decode cX12_near 177 = .ok (.iload 11, 2) := by decide +kernel
theorem dX12_near_179 : decode cX12_near 179 = .ok (.iload 5, 2) := by decide +kernel
theorem dX12_near_181 : decode cX12_near 181 = .ok (.if_icmp .ne 16, 3) := by decide +kernel
theorem dX12_near_184 : decode cX12_near 184 = .ok (.aload_n 0, 1) := by decide +kernel
theorem dX12_near_185 : decode cX12_near 185 = .ok (.iload 9, 2) := by decide +kernel
theorem dX12_near_187 : decode cX12_near 187 = .ok (.iload_n 3, 1) := by decide +kernel
theorem dX12_near_188 : decode cX12_near 188 = .ok (.invokevirtual 421, 3) := by decide +kernel
theorem dX12_near_191 : decode cX12_near 191 = .ok (.ifCond .ne 6, 3) := by decide +kernel
theorem dX12_near_194 : decode cX12_near 194 = .ok (.goto 14, 3) := by decide +kernel
theorem dX12_near_197 : decode cX12_near 197 = .ok (.iload 9, 2) := by decide +kernel
theorem dX12_near_199 : decode cX12_near 199 = .ok (.istore_n 3, 1) := by decide +kernel
theorem dX12_near_200 : decode cX12_near 200 = .ok (.iload 10, 2) := by decide +kernel
theorem dX12_near_202 : decode cX12_near 202 = .ok (.istore 4, 2) := by decide +kernel
theorem dX12_near_204 : decode cX12_near 204 = .ok (.iload 11, 2) := by decide +kernel
theorem dX12_near_206 : decode cX12_near 206 = .ok (.istore 5, 2) := by decide +kernel
theorem dX12_near_208 : decode cX12_near 208 = .ok (.iinc 8 1, 3) := by decide +kernel
theorem dX12_near_211 : decode cX12_near 211 = .ok (.goto (-136), 3) := by decide +kernel
theorem dX12_near_214 : decode cX12_near 214 = .ok (.iinc 6 1, 3) := by decide +kernel
theorem dX12_near_217 : decode cX12_near 217 = .ok (.goto (-171), 3) := by decide +kernel
theorem dX12_near_220 : decode cX12_near 220 = .ok (.iload_n 3, 1) := by decide +kernel
theorem dX12_near_221 : decode cX12_near 221 = .ok (.iconst (-1), 1) := by decide +kernel
theorem dX12_near_222 : decode cX12_near 222 = .ok (.if_icmp .ne 5, 3) := by decide +kernel
theorem dX12_near_225 : decode cX12_near 225 = .ok (.iconst (-1), 1) := by decide +kernel
theorem dX12_near_226 : decode cX12_near 226 = .ok (.ireturn, 1) := by decide +kernel
theorem dX12_near_227 : decode cX12_near 227 = .ok (.aload_n 0, 1) := by decide +kernel
theorem dX12_near_228 : decode cX12_near 228 = .ok (.aload_n 0, 1) := by decide +kernel
theorem dX12_near_229 : decode cX12_near 229 = .ok (.getfield 37, 3) := by decide +kernel
theorem dX12_near_232 : decode cX12_near 232 = .ok (.iload_n 3, 1) := by decide +kernel
theorem dX12_near_233 : decode cX12_near 233 = .ok (.iaload, 1) := by decide +kernel
theorem dX12_near_234 : decode cX12_near 234 = .ok (.putfield 94, 3) := by decide +kernel
theorem dX12_near_237 : decode cX12_near 237 = .ok (.iconst 0, 1) := by decide +kernel
theorem dX12_near_238 : decode cX12_near 238 = .ok (.istore 6, 2) := by decide +kernel
theorem dX12_near_240 : decode cX12_near 240 = .ok (.iload 6, 2) := by decide +kernel
theorem dX12_near_242 : decode cX12_near 242 = .ok (.aload_n 0, 1) := by decide +kernel
theorem dX12_near_243 : decode cX12_near 243 = .ok (.getfield 94, 3) := by decide +kernel
theorem dX12_near_246 : decode cX12_near 246 = .ok (.if_icmp .ge 28, 3) := by decide +kernel
theorem dX12_near_249 : decode cX12_near 249 = .ok (.aload_n 0, 1) := by decide +kernel
theorem dX12_near_250 : decode cX12_near 250 = .ok (.getfield 97, 3) := by decide +kernel
theorem dX12_near_253 : decode cX12_near 253 = .ok (.iload 6, 2) := by decide +kernel
theorem dX12_near_255 : decode cX12_near 255 = .ok (.aload_n 0, 1) := by decide +kernel
theorem dX12_near_256 : decode cX12_near 256 = .ok (.getfield 41, 3) := by decide +kernel
theorem dX12_near_259 : decode cX12_near 259 = .ok (.bipush 12, 2) := by decide +kernel
theorem dX12_near_261 : decode cX12_near 261 = .ok (.iload_n 3, 1) := by decide +kernel
theorem dX12_near_262 : decode cX12_near 262 = .ok (.imul, 1) := by decide +kernel
theorem dX12_near_263 : decode cX12_near 263 = .ok (.iload 6, 2) := by decide +kernel
theorem dX12_near_265 : decode cX12_near 265 = .ok (.iadd, 1) := by decide +kernel
theorem dX12_near_266 : decode cX12_near 266 = .ok (.iaload, 1) := by decide +kernel
theorem dX12_near_267 : decode cX12_near 267 = .ok (.iastore, 1) := by decide +kernel
theorem dX12_near_268 : decode cX12_near 268 = .ok (.iinc 6 1, 3) := by decide +kernel
theorem dX12_near_271 : decode cX12_near 271 = .ok (.goto (-31), 3) := by decide +kernel
theorem dX12_near_274 : decode cX12_near 274 = .ok (.iload 4, 2) := by decide +kernel
theorem dX12_near_276 : decode cX12_near 276 = .ok (.ireturn, 1) := by decide +kernel
theorem dX12_nearByte_0 : decode cX12_nearByte 0 = .ok (.aload_n 0, 1) := by decide +kernel
theorem dX12_nearByte_1 : decode cX12_nearByte 1 = .ok (.getfield 94, 3) := by decide +kernel
theorem dX12_nearByte_4 : decode cX12_nearByte 4 = .ok (.iconst (-1), 1) := by decide +kernel
theorem dX12_nearByte_5 : decode cX12_nearByte 5 = .ok (.if_icmp .eq 17, 3) := by decide +kernel
theorem dX12_nearByte_8 : decode cX12_nearByte 8 = .ok (.iload_n 1, 1) := by decide +kernel
theorem dX12_nearByte_9 : decode cX12_nearByte 9 = .ok (.iconst (-1), 1) := by decide +kernel
theorem dX12_nearByte_10 : decode cX12_nearByte 10 = .ok (.aload_n 0, 1) := by decide +kernel
theorem dX12_nearByte_11 : decode cX12_nearByte 11 = .ok (.getfield 94, 3) := by decide +kernel
theorem dX12_nearByte_14 : decode cX12_nearByte 14 = .ok (.iconst 1, 1) := by decide +kernel
theorem dX12_nearByte_15 : decode cX12_nearByte 15 = .ok (.isub, 1) := by decide +kernel
theorem dX12_nearByte_16 : decode cX12_nearByte 16 = .ok (.invokestatic 164, 3) := by decide +kernel
theorem dX12_nearByte_19 : decode cX12_nearByte 19 = .ok (.ifCond .ne 5, 3) := by decide +kernel
theorem dX12_nearByte_22 : decode cX12_nearByte 22 = .ok (.iconst (-1), 1) := by decide +kernel
theorem dX12_nearByte_23 : decode cX12_nearByte 23 = .ok (.ireturn, 1) := by decide +kernel
theorem dX12_nearByte_24 : decode cX12_nearByte 24 = .ok (.iload_n 1, 1) := by decide +kernel
theorem dX12_nearByte_25 : decode cX12_nearByte 25 = .ok (.ifCond .ge 10, 3) := by decide +kernel
theorem dX12_nearByte_28 : decode cX12_nearByte 28 = .ok (.aload_n 0, 1) := by decide +kernel
theorem dX12_nearByte_29 : decode cX12_nearByte 29 = .ok (.getfield 94, 3) := by decide +kernel
theorem dX12_nearByte_32 : decode cX12_nearByte 32 = .ok (.goto 9, 3) := by decide +kernel
theorem dX12_nearByte_35 : decode cX12_nearByte 35 = .ok (.aload_n 0, 1) := by decide +kernel
theorem dX12_nearByte_36 : decode cX12_nearByte 36 = .ok (.getfield 97, 3) := by decide +kernel
theorem dX12_nearByte_39 : decode cX12_nearByte 39 = .ok (.iload_n 1, 1) := by decide +kernel
theorem dX12_nearByte_40 : decode cX12_nearByte 40 = .ok (.iaload, 1) := by decide +kernel
theorem dX12_nearByte_41 : decode cX12_nearByte 41 = .ok (.ireturn, 1) := by decide +kernel
theorem dX12_segment_0 : decode cX12_segment 0 = .ok (.iload_n 2, 1) := by decide +kernel
theorem dX12_segment_1 : decode cX12_segment 1 = .ok (.iconst 0, 1) := by decide +kernel
theorem dX12_segment_2 : decode cX12_segment 2 = .ok (.iconst 4, 1) := by decide +kernel
theorem dX12_segment_3 : decode cX12_segment 3 = .ok (.invokestatic 164, 3) := by decide +kernel
theorem dX12_segment_6 : decode cX12_segment 6 = .ok (.ifCond .ne 6, 3) := by decide +kernel
theorem dX12_segment_9 : decode cX12_segment 9 = .ok (.bipush (-2), 2) := by decide +kernel
theorem dX12_segment_11 : decode cX12_segment 11 = .ok (.ireturn, 1) := by decide +kernel
theorem dX12_segment_12 : decode cX12_segment 12 = .ok (.iload_n 1, 1) := by decide +kernel
theorem dX12_segment_13 : decode cX12_segment 13 = .ok (.iconst 0, 1) := by decide +kernel
theorem dX12_segment_14 : decode cX12_segment 14 = .ok (.aload_n 0, 1) := by decide +kernel
theorem dX12_segment_15 : decode cX12_segment 15 = .ok (.getfield 217, 3) := by decide +kernel
theorem dX12_segment_18 : decode cX12_segment 18 = .ok (.iconst 1, 1) := by decide +kernel
theorem dX12_segment_19 : decode cX12_segment 19 = .ok (.isub, 1) := by decide +kernel
theorem dX12_segment_20 : decode cX12_segment 20 = .ok (.invokestatic 164, 3) := by decide +kernel
theorem dX12_segment_23 : decode cX12_segment 23 = .ok (.ifCond .ne 5, 3) := by decide +kernel
theorem dX12_segment_26 : decode cX12_segment 26 = .ok (.iconst (-1), 1) := by decide +kernel
theorem dX12_segment_27 : decode cX12_segment 27 = .ok (.ireturn, 1) := by decide +kernel
theorem dX12_segment_28 : decode cX12_segment 28 = .ok (.iload_n 2, 1) := by decide +kernel
theorem dX12_segment_29 : decode cX12_segment 29 = .ok (.ifCond .ne 10, 3) := by decide +kernel
theorem dX12_segment_32 : decode cX12_segment 32 = .ok (.aload_n 0, 1) := by decide +kernel
theorem dX12_segment_33 : decode cX12_segment 33 = .ok (.getfield 47, 3) := by decide +kernel
theorem dX12_segment_36 : decode cX12_segment 36 = .ok (.iload_n 1, 1) := by decide +kernel
theorem dX12_segment_37 : decode cX12_segment 37 = .ok (.iaload, 1) := by decide +kernel
theorem dX12_segment_38 : decode cX12_segment 38 = .ok (.ireturn, 1) := by decide +kernel
theorem dX12_segment_39 : decode cX12_segment 39 = .ok (.iload_n 2, 1) := by decide +kernel
theorem dX12_segment_40 : decode cX12_segment 40 = .ok (.iconst 1, 1) := by decide +kernel
theorem dX12_segment_41 : decode cX12_segment 41 = .ok (.if_icmp .ne 10, 3) := by decide +kernel
theorem dX12_segment_44 : decode cX12_segment 44 = .ok (.aload_n 0, 1) := by decide +kernel
theorem dX12_segment_45 : decode cX12_segment 45 = .ok (.getfield 50, 3) := by decide +kernel
theorem dX12_segment_48 : decode cX12_segment 48 = .ok (.iload_n 1, 1) := by decide +kernel
theorem dX12_segment_49 : decode cX12_segment 49 = .ok (.iaload, 1) := by decide +kernel
theorem dX12_segment_50 : decode cX12_segment 50 = .ok (.ireturn, 1) := by decide +kernel
theorem dX12_segment_51 : decode cX12_segment 51 = .ok (.iload_n 2, 1) := by decide +kernel
theorem dX12_segment_52 : decode cX12_segment 52 = .ok (.iconst 2, 1) := by decide +kernel
theorem dX12_segment_53 : decode cX12_segment 53 = .ok (.if_icmp .le 12, 3) := by decide +kernel
theorem dX12_segment_56 : decode cX12_segment 56 = .ok (.aload_n 0, 1) := by decide +kernel
theorem dX12_segment_57 : decode cX12_segment 57 = .ok (.iload_n 1, 1) := by decide +kernel
theorem dX12_segment_58 : decode cX12_segment 58 = .ok (.iload_n 2, 1) := by decide +kernel
theorem dX12_segment_59 : decode cX12_segment 59 = .ok (.iconst 3, 1) := by decide +kernel
theorem dX12_segment_60 : decode cX12_segment 60 = .ok (.isub, 1) := by decide +kernel
theorem dX12_segment_61 : decode cX12_segment 61 = .ok (.invokevirtual 424, 3) := by decide +kernel
theorem dX12_segment_64 : decode cX12_segment 64 = .ok (.ireturn, 1) := by decide +kernel
theorem dX12_segment_65 : decode cX12_segment 65 = .ok (.iconst 0, 1) := by decide +kernel
theorem dX12_segment_66 : decode cX12_segment 66 = .ok (.istore_n 3, 1) := by decide +kernel
theorem dX12_segment_67 : decode cX12_segment 67 = .ok (.iconst 0, 1) := by decide +kernel
theorem dX12_segment_68 : decode cX12_segment 68 = .ok (.istore 4, 2) := by decide +kernel
theorem dX12_segment_70 : decode cX12_segment 70 = .ok (.iload 4, 2) := by decide +kernel
theorem dX12_segment_72 : decode cX12_segment 72 = .ok (.aload_n 0, 1) := by decide +kernel
theorem dX12_segment_73 : decode cX12_segment 73 = .ok (.getfield 50, 3) := by decide +kernel
theorem dX12_segment_76 : decode cX12_segment 76 = .ok (.iload_n 1, 1) := by decide +kernel
theorem dX12_segment_77 : decode cX12_segment 77 = .ok (.iaload, 1) := by decide +kernel
theorem dX12_segment_78 : decode cX12_segment 78 = .ok (.if_icmp .ge 38, 3) := by decide +kernel
theorem dX12_segment_81 : decode cX12_segment 81 = .ok (.iload_n 3, 1) := by decide +kernel
theorem dX12_segment_82 : decode cX12_segment 82 = .ok (.aload_n 0, 1) := by decide +kernel
theorem dX12_segment_83 : decode cX12_segment 83 = .ok (.getfield 23, 3) := by decide +kernel
theorem dX12_segment_86 : decode cX12_segment 86 = .ok (.aload_n 0, 1) := by decide +kernel
theorem dX12_segment_87 : decode cX12_segment 87 = .ok (.getfield 54, 3) := by decide +kernel
theorem dX12_segment_90 : decode cX12_segment 90 = .ok (.sipush 400, 3) := by decide +kernel
theorem dX12_segment_93 : decode cX12_segment 93 = .ok (.iload_n 1, 1) := by decide +kernel
theorem dX12_segment_94 : decode cX12_segment 94 = .ok (.imul, 1) := by decide +kernel
theorem dX12_segment_95 : decode cX12_segment 95 = .ok (.iload 4, 2) := by decide +kernel
theorem dX12_segment_97 : decode cX12_segment 97 = .ok (.iadd, 1) := by decide +kernel
theorem dX12_segment_98 : decode cX12_segment 98 = .ok (.iaload, 1) := by decide +kernel
theorem dX12_segment_99 : decode cX12_segment 99 = .ok (.baload, 1) := by decide +kernel
theorem dX12_segment_100 : decode cX12_segment 100 = .ok (.ifCond .eq 7, 3) := by decide +kernel
theorem dX12_segment_103 : decode cX12_segment 103 = .ok (.iconst 1, 1) := by decide +kernel
theorem dX12_segment_104 : decode cX12_segment 104 = .ok (.goto 4, 3) := by decide +kernel
theorem dX12_segment_107 : decode cX12_segment 107 = .ok (.iconst 0, 1) := by decide +kernel
theorem dX12_segment_108 : decode cX12_segment 108 = .ok (.iadd, 1) := by decide +kernel
theorem dX12_segment_109 : decode cX12_segment 109 = .ok (.istore_n 3, 1) := by decide +kernel
theorem dX12_segment_110 : decode cX12_segment 110 = .ok (.iinc 4 1, 3) := by decide +kernel
theorem dX12_segment_113 : decode cX12_segment 113 = .ok (.goto (-43), 3) := by decide +kernel
theorem dX12_segment_116 : decode cX12_segment 116 = .ok (.iload_n 3, 1) := by decide +kernel
theorem dX12_segment_117 : decode cX12_segment 117 = .ok (.ireturn, 1) := by decide +kernel
theorem dX12_differentTerms_0 : decode cX12_differentTerms 0 = .ok (.iconst 0, 1) := by decide +kernel
theorem dX12_differentTerms_1 : decode cX12_differentTerms 1 = .ok (.istore_n 3, 1) := by decide +kernel
theorem dX12_differentTerms_2 : decode cX12_differentTerms 2 = .ok (.iconst 0, 1) := by decide +kernel
theorem dX12_differentTerms_3 : decode cX12_differentTerms 3 = .ok (.istore 4, 2) := by decide +kernel
theorem dX12_differentTerms_5 : decode cX12_differentTerms 5 = .ok (.iload 4, 2) := by decide +kernel
theorem dX12_differentTerms_7 : decode cX12_differentTerms 7 = .ok (.aload_n 0, 1) := by decide +kernel
theorem dX12_differentTerms_8 : decode cX12_differentTerms 8 = .ok (.getfield 50, 3) := by decide +kernel
theorem dX12_differentTerms_11 : decode cX12_differentTerms 11 = .ok (.iload_n 1, 1) := by decide +kernel
theorem dX12_differentTerms_12 : decode cX12_differentTerms 12 = .ok (.iaload, 1) := by decide +kernel
theorem dX12_differentTerms_13 : decode cX12_differentTerms 13 = .ok (.if_icmp .ge 86, 3) := by decide +kernel
theorem dX12_differentTerms_16 : decode cX12_differentTerms 16 = .ok (.aload_n 0, 1) := by decide +kernel
theorem dX12_differentTerms_17 : decode cX12_differentTerms 17 = .ok (.getfield 54, 3) := by decide +kernel
theorem dX12_differentTerms_20 : decode cX12_differentTerms 20 = .ok (.sipush 400, 3) := by decide +kernel
theorem dX12_differentTerms_23 : decode cX12_differentTerms 23 = .ok (.iload_n 1, 1) := by decide +kernel
theorem dX12_differentTerms_24 : decode cX12_differentTerms 24 = .ok (.imul, 1) := by decide +kernel
theorem dX12_differentTerms_25 : decode cX12_differentTerms 25 = .ok (.iload 4, 2) := by decide +kernel
theorem dX12_differentTerms_27 : decode cX12_differentTerms 27 = .ok (.iadd, 1) := by decide +kernel
theorem dX12_differentTerms_28 : decode cX12_differentTerms 28 = .ok (.iaload, 1) := by decide +kernel
theorem dX12_differentTerms_29 : decode cX12_differentTerms 29 = .ok (.istore 5, 2) := by decide +kernel
theorem dX12_differentTerms_31 : decode cX12_differentTerms 31 = .ok (.iconst 0, 1) := by decide +kernel
theorem dX12_differentTerms_32 : decode cX12_differentTerms 32 = .ok (.istore 6, 2) := by decide +kernel
theorem dX12_differentTerms_34 : decode cX12_differentTerms 34 = .ok (.iload 6, 2) := by decide +kernel
theorem dX12_differentTerms_36 : decode cX12_differentTerms 36 = .ok (.aload_n 0, 1) := by decide +kernel
theorem dX12_differentTerms_37 : decode cX12_differentTerms 37 = .ok (.getfield 27, 3) := by decide +kernel
theorem dX12_differentTerms_40 : decode cX12_differentTerms 40 = .ok (.iconst 2, 1) := by decide +kernel
theorem dX12_differentTerms_41 : decode cX12_differentTerms 41 = .ok (.iload 5, 2) := by decide +kernel
theorem dX12_differentTerms_43 : decode cX12_differentTerms 43 = .ok (.imul, 1) := by decide +kernel
theorem dX12_differentTerms_44 : decode cX12_differentTerms 44 = .ok (.iload_n 2, 1) := by decide +kernel
theorem dX12_differentTerms_45 : decode cX12_differentTerms 45 = .ok (.iadd, 1) := by decide +kernel
theorem dX12_differentTerms_46 : decode cX12_differentTerms 46 = .ok (.iaload, 1) := by decide +kernel
theorem dX12_differentTerms_47 : decode cX12_differentTerms 47 = .ok (.if_icmp .ge 46, 3) := by decide +kernel
theorem dX12_differentTerms_50 : decode cX12_differentTerms 50 = .ok (.iload 5, 2) := by decide +kernel
theorem dX12_differentTerms_52 : decode cX12_differentTerms 52 = .ok (.iload_n 2, 1) := by decide +kernel
theorem dX12_differentTerms_53 : decode cX12_differentTerms 53 = .ok (.invokestatic 189, 3) := by decide +kernel
theorem dX12_differentTerms_56 : decode cX12_differentTerms 56 = .ok (.iload 6, 2) := by decide +kernel
theorem dX12_differentTerms_58 : decode cX12_differentTerms 58 = .ok (.iadd, 1) := by decide +kernel
theorem dX12_differentTerms_59 : decode cX12_differentTerms 59 = .ok (.istore 7, 2) := by decide +kernel
theorem dX12_differentTerms_61 : decode cX12_differentTerms 61 = .ok (.aload_n 0, 1) := by decide +kernel
theorem dX12_differentTerms_62 : decode cX12_differentTerms 62 = .ok (.getfield 37, 3) := by decide +kernel
theorem dX12_differentTerms_65 : decode cX12_differentTerms 65 = .ok (.iload 7, 2) := by decide +kernel
theorem dX12_differentTerms_67 : decode cX12_differentTerms 67 = .ok (.iaload, 1) := by decide +kernel
theorem dX12_differentTerms_68 : decode cX12_differentTerms 68 = .ok (.ifCond .le 19, 3) := by decide +kernel
theorem dX12_differentTerms_71 : decode cX12_differentTerms 71 = .ok (.aload_n 0, 1) := by decide +kernel
theorem dX12_differentTerms_72 : decode cX12_differentTerms 72 = .ok (.iload_n 1, 1) := by decide +kernel
theorem dX12_differentTerms_73 : decode cX12_differentTerms 73 = .ok (.iload_n 2, 1) := by decide +kernel
theorem dX12_differentTerms_74 : decode cX12_differentTerms 74 = .ok (.iload 4, 2) := by decide +kernel
theorem dX12_differentTerms_76 : decode cX12_differentTerms 76 = .ok (.iload 6, 2) := by decide +kernel
theorem dX12_differentTerms_78 : decode cX12_differentTerms 78 = .ok (.invokevirtual 427, 3) := by decide +kernel
theorem dX12_differentTerms_81 : decode cX12_differentTerms 81 = .ok (.ifCond .eq 6, 3) := by decide +kernel
theorem dX12_differentTerms_84 : decode cX12_differentTerms 84 = .ok (.iinc 3 1, 3) := by decide +kernel
theorem dX12_differentTerms_87 : decode cX12_differentTerms 87 = .ok (.iinc 6 1, 3) := by decide +kernel
theorem dX12_differentTerms_90 : decode cX12_differentTerms 90 = .ok (.goto (-56), 3) := by decide +kernel
theorem dX12_differentTerms_93 : decode cX12_differentTerms 93 = .ok (.iinc 4 1, 3) := by decide +kernel
theorem dX12_differentTerms_96 : decode cX12_differentTerms 96 = .ok (.goto (-91), 3) := by decide +kernel
theorem dX12_differentTerms_99 : decode cX12_differentTerms 99 = .ok (.iload_n 3, 1) := by decide +kernel
theorem dX12_differentTerms_100 : decode cX12_differentTerms 100 = .ok (.ireturn, 1) := by decide +kernel
theorem dX12_isFirst_0 : decode cX12_isFirst 0 = .ok (.aload_n 0, 1) := by decide +kernel
theorem dX12_isFirst_1 : decode cX12_isFirst 1 = .ok (.getfield 54, 3) := by decide +kernel
theorem dX12_isFirst_4 : decode cX12_isFirst 4 = .ok (.sipush 400, 3) := by decide +kernel
theorem dX12_isFirst_7 : decode cX12_isFirst 7 = .ok (.iload_n 1, 1) := by decide +kernel
theorem dX12_isFirst_8 : decode cX12_isFirst 8 = .ok (.imul, 1) := by decide +kernel
theorem dX12_isFirst_9 : decode cX12_isFirst 9 = .ok (.iload_n 3, 1) := by decide +kernel
theorem dX12_isFirst_10 : decode cX12_isFirst 10 = .ok (.iadd, 1) := by decide +kernel
theorem dX12_isFirst_11 : decode cX12_isFirst 11 = .ok (.iaload, 1) := by decide +kernel
theorem dX12_isFirst_12 : decode cX12_isFirst 12 = .ok (.iload_n 2, 1) := by decide +kernel
theorem dX12_isFirst_13 : decode cX12_isFirst 13 = .ok (.invokestatic 189, 3) := by decide +kernel
theorem dX12_isFirst_16 : decode cX12_isFirst 16 = .ok (.iload 4, 2) := by decide +kernel
theorem dX12_isFirst_18 : decode cX12_isFirst 18 = .ok (.iadd, 1) := by decide +kernel
theorem dX12_isFirst_19 : decode cX12_isFirst 19 = .ok (.istore 5, 2) := by decide +kernel
theorem dX12_isFirst_21 : decode cX12_isFirst 21 = .ok (.iconst 0, 1) := by decide +kernel
theorem dX12_isFirst_22 : decode cX12_isFirst 22 = .ok (.istore 6, 2) := by decide +kernel
theorem dX12_isFirst_24 : decode cX12_isFirst 24 = .ok (.iload 6, 2) := by decide +kernel
theorem dX12_isFirst_26 : decode cX12_isFirst 26 = .ok (.iload_n 3, 1) := by decide +kernel
theorem dX12_isFirst_27 : decode cX12_isFirst 27 = .ok (.if_icmp .ge 34, 3) := by decide +kernel
theorem dX12_isFirst_30 : decode cX12_isFirst 30 = .ok (.aload_n 0, 1) := by decide +kernel
theorem dX12_isFirst_31 : decode cX12_isFirst 31 = .ok (.aload_n 0, 1) := by decide +kernel
theorem dX12_isFirst_32 : decode cX12_isFirst 32 = .ok (.getfield 54, 3) := by decide +kernel
theorem dX12_isFirst_35 : decode cX12_isFirst 35 = .ok (.sipush 400, 3) := by decide +kernel
theorem dX12_isFirst_38 : decode cX12_isFirst 38 = .ok (.iload_n 1, 1) := by decide +kernel
theorem dX12_isFirst_39 : decode cX12_isFirst 39 = .ok (.imul, 1) := by decide +kernel
theorem dX12_isFirst_40 : decode cX12_isFirst 40 = .ok (.iload 6, 2) := by decide +kernel
theorem dX12_isFirst_42 : decode cX12_isFirst 42 = .ok (.iadd, 1) := by decide +kernel
theorem dX12_isFirst_43 : decode cX12_isFirst 43 = .ok (.iaload, 1) := by decide +kernel
theorem dX12_isFirst_44 : decode cX12_isFirst 44 = .ok (.iload_n 2, 1) := by decide +kernel
theorem dX12_isFirst_45 : decode cX12_isFirst 45 = .ok (.iload 5, 2) := by decide +kernel
theorem dX12_isFirst_47 : decode cX12_isFirst 47 = .ok (.invokevirtual 409, 3) := by decide +kernel
theorem dX12_isFirst_50 : decode cX12_isFirst 50 = .ok (.ifCond .eq 5, 3) := by decide +kernel
theorem dX12_isFirst_53 : decode cX12_isFirst 53 = .ok (.iconst 0, 1) := by decide +kernel
theorem dX12_isFirst_54 : decode cX12_isFirst 54 = .ok (.ireturn, 1) := by decide +kernel
theorem dX12_isFirst_55 : decode cX12_isFirst 55 = .ok (.iinc 6 1, 3) := by decide +kernel
theorem dX12_isFirst_58 : decode cX12_isFirst 58 = .ok (.goto (-34), 3) := by decide +kernel
theorem dX12_isFirst_61 : decode cX12_isFirst 61 = .ok (.aload_n 0, 1) := by decide +kernel
theorem dX12_isFirst_62 : decode cX12_isFirst 62 = .ok (.getfield 54, 3) := by decide +kernel
theorem dX12_isFirst_65 : decode cX12_isFirst 65 = .ok (.sipush 400, 3) := by decide +kernel
theorem dX12_isFirst_68 : decode cX12_isFirst 68 = .ok (.iload_n 1, 1) := by decide +kernel
theorem dX12_isFirst_69 : decode cX12_isFirst 69 = .ok (.imul, 1) := by decide +kernel
theorem dX12_isFirst_70 : decode cX12_isFirst 70 = .ok (.iload_n 3, 1) := by decide +kernel
theorem dX12_isFirst_71 : decode cX12_isFirst 71 = .ok (.iadd, 1) := by decide +kernel
theorem dX12_isFirst_72 : decode cX12_isFirst 72 = .ok (.iaload, 1) := by decide +kernel
theorem dX12_isFirst_73 : decode cX12_isFirst 73 = .ok (.istore 6, 2) := by decide +kernel
theorem dX12_isFirst_75 : decode cX12_isFirst 75 = .ok (.iconst 0, 1) := by decide +kernel
theorem dX12_isFirst_76 : decode cX12_isFirst 76 = .ok (.istore 7, 2) := by decide +kernel
theorem dX12_isFirst_78 : decode cX12_isFirst 78 = .ok (.iload 7, 2) := by decide +kernel
theorem dX12_isFirst_80 : decode cX12_isFirst 80 = .ok (.iload 4, 2) := by decide +kernel
theorem dX12_isFirst_82 : decode cX12_isFirst 82 = .ok (.if_icmp .ge 29, 3) := by decide +kernel
theorem dX12_isFirst_85 : decode cX12_isFirst 85 = .ok (.aload_n 0, 1) := by decide +kernel
theorem dX12_isFirst_86 : decode cX12_isFirst 86 = .ok (.iload 6, 2) := by decide +kernel
theorem dX12_isFirst_88 : decode cX12_isFirst 88 = .ok (.iload_n 2, 1) := by decide +kernel
theorem dX12_isFirst_89 : decode cX12_isFirst 89 = .ok (.invokestatic 189, 3) := by decide +kernel
theorem dX12_isFirst_92 : decode cX12_isFirst 92 = .ok (.iload 7, 2) := by decide +kernel
theorem dX12_isFirst_94 : decode cX12_isFirst 94 = .ok (.iadd, 1) := by decide +kernel
theorem dX12_isFirst_95 : decode cX12_isFirst 95 = .ok (.iload 5, 2) := by decide +kernel
theorem dX12_isFirst_97 : decode cX12_isFirst 97 = .ok (.invokevirtual 406, 3) := by decide +kernel
theorem dX12_isFirst_100 : decode cX12_isFirst 100 = .ok (.ifCond .eq 5, 3) := by decide +kernel
theorem dX12_isFirst_103 : decode cX12_isFirst 103 = .ok (.iconst 0, 1) := by decide +kernel
theorem dX12_isFirst_104 : decode cX12_isFirst 104 = .ok (.ireturn, 1) := by decide +kernel
theorem dX12_isFirst_105 : decode cX12_isFirst 105 = .ok (.iinc 7 1, 3) := by decide +kernel
theorem dX12_isFirst_108 : decode cX12_isFirst 108 = .ok (.goto (-30), 3) := by decide +kernel
theorem dX12_isFirst_111 : decode cX12_isFirst 111 = .ok (.iconst 1, 1) := by decide +kernel
theorem dX12_isFirst_112 : decode cX12_isFirst 112 = .ok (.ireturn, 1) := by decide +kernel
theorem dX12_view_0 : decode cX12_view 0 = .ok (.iload_n 2, 1) := by decide +kernel
theorem dX12_view_1 : decode cX12_view 1 = .ok (.iconst 0, 1) := by decide +kernel
theorem dX12_view_2 : decode cX12_view 2 = .ok (.iconst 2, 1) := by decide +kernel
theorem dX12_view_3 : decode cX12_view 3 = .ok (.invokestatic 164, 3) := by decide +kernel
theorem dX12_view_6 : decode cX12_view 6 = .ok (.ifCond .eq 11, 3) := by decide +kernel
theorem dX12_view_9 : decode cX12_view 9 = .ok (.aload_n 0, 1) := by decide +kernel
theorem dX12_view_10 : decode cX12_view 10 = .ok (.iload_n 1, 1) := by decide +kernel
theorem dX12_view_11 : decode cX12_view 11 = .ok (.invokevirtual 236, 3) := by decide +kernel
theorem dX12_view_14 : decode cX12_view 14 = .ok (.ifCond .ne 6, 3) := by decide +kernel
theorem dX12_view_17 : decode cX12_view 17 = .ok (.bipush (-2), 2) := by decide +kernel
theorem dX12_view_19 : decode cX12_view 19 = .ok (.ireturn, 1) := by decide +kernel
theorem dX12_view_20 : decode cX12_view 20 = .ok (.iload_n 2, 1) := by decide +kernel
theorem dX12_view_21 : decode cX12_view 21 = .ok (.ifCond .ne 10, 3) := by decide +kernel
theorem dX12_view_24 : decode cX12_view 24 = .ok (.aload_n 0, 1) := by decide +kernel
theorem dX12_view_25 : decode cX12_view 25 = .ok (.getfield 60, 3) := by decide +kernel
theorem dX12_view_28 : decode cX12_view 28 = .ok (.iload_n 1, 1) := by decide +kernel
theorem dX12_view_29 : decode cX12_view 29 = .ok (.iaload, 1) := by decide +kernel
theorem dX12_view_30 : decode cX12_view 30 = .ok (.ireturn, 1) := by decide +kernel
theorem dX12_view_31 : decode cX12_view 31 = .ok (.iload_n 2, 1) := by decide +kernel
theorem dX12_view_32 : decode cX12_view 32 = .ok (.iconst 1, 1) := by decide +kernel
theorem dX12_view_33 : decode cX12_view 33 = .ok (.if_icmp .ne 10, 3) := by decide +kernel
theorem dX12_view_36 : decode cX12_view 36 = .ok (.aload_n 0, 1) := by decide +kernel
theorem dX12_view_37 : decode cX12_view 37 = .ok (.getfield 63, 3) := by decide +kernel
theorem dX12_view_40 : decode cX12_view 40 = .ok (.iload_n 1, 1) := by decide +kernel
theorem dX12_view_41 : decode cX12_view 41 = .ok (.iaload, 1) := by decide +kernel
theorem dX12_view_42 : decode cX12_view 42 = .ok (.ireturn, 1) := by decide +kernel
theorem dX12_view_43 : decode cX12_view 43 = .ok (.iconst 0, 1) := by decide +kernel
theorem dX12_view_44 : decode cX12_view 44 = .ok (.istore_n 3, 1) := by decide +kernel
theorem dX12_view_45 : decode cX12_view 45 = .ok (.iconst 0, 1) := by decide +kernel
theorem dX12_view_46 : decode cX12_view 46 = .ok (.istore 4, 2) := by decide +kernel
theorem dX12_view_48 : decode cX12_view 48 = .ok (.iload 4, 2) := by decide +kernel
theorem dX12_view_50 : decode cX12_view 50 = .ok (.aload_n 0, 1) := by decide +kernel
theorem dX12_view_51 : decode cX12_view 51 = .ok (.getfield 63, 3) := by decide +kernel
theorem dX12_view_54 : decode cX12_view 54 = .ok (.iload_n 1, 1) := by decide +kernel
theorem dX12_view_55 : decode cX12_view 55 = .ok (.iaload, 1) := by decide +kernel
theorem dX12_view_56 : decode cX12_view 56 = .ok (.if_icmp .ge 33, 3) := by decide +kernel
theorem dX12_view_59 : decode cX12_view 59 = .ok (.iload_n 3, 1) := by decide +kernel
theorem dX12_view_60 : decode cX12_view 60 = .ok (.aload_n 0, 1) := by decide +kernel
theorem dX12_view_61 : decode cX12_view 61 = .ok (.getfield 69, 3) := by decide +kernel
theorem dX12_view_64 : decode cX12_view 64 = .ok (.sipush 400, 3) := by decide +kernel
theorem dX12_view_67 : decode cX12_view 67 = .ok (.iload_n 1, 1) := by decide +kernel
theorem dX12_view_68 : decode cX12_view 68 = .ok (.imul, 1) := by decide +kernel
theorem dX12_view_69 : decode cX12_view 69 = .ok (.iload 4, 2) := by decide +kernel
theorem dX12_view_71 : decode cX12_view 71 = .ok (.iadd, 1) := by decide +kernel
theorem dX12_view_72 : decode cX12_view 72 = .ok (.baload, 1) := by decide +kernel
theorem dX12_view_73 : decode cX12_view 73 = .ok (.ifCond .eq 7, 3) := by decide +kernel
theorem dX12_view_76 : decode cX12_view 76 = .ok (.iconst 0, 1) := by decide +kernel
theorem dX12_view_77 : decode cX12_view 77 = .ok (.goto 4, 3) := by decide +kernel
theorem dX12_view_80 : decode cX12_view 80 = .ok (.iconst 1, 1) := by decide +kernel
theorem dX12_view_81 : decode cX12_view 81 = .ok (.iadd, 1) := by decide +kernel
theorem dX12_view_82 : decode cX12_view 82 = .ok (.istore_n 3, 1) := by decide +kernel
theorem dX12_view_83 : decode cX12_view 83 = .ok (.iinc 4 1, 3) := by decide +kernel
theorem dX12_view_86 : decode cX12_view 86 = .ok (.goto (-38), 3) := by decide +kernel
theorem dX12_view_89 : decode cX12_view 89 = .ok (.iload_n 3, 1) := by decide +kernel
theorem dX12_view_90 : decode cX12_view 90 = .ok (.ireturn, 1) := by decide +kernel
theorem dX12_frequency_0 : decode cX12_frequency 0 = .ok (.aload_n 0, 1) := by decide +kernel
theorem dX12_frequency_1 : decode cX12_frequency 1 = .ok (.getfield 168, 3) := by decide +kernel
theorem dX12_frequency_4 : decode cX12_frequency 4 = .ok (.istore_n 3, 1) := by decide +kernel
theorem dX12_frequency_5 : decode cX12_frequency 5 = .ok (.aload_n 0, 1) := by decide +kernel
theorem dX12_frequency_6 : decode cX12_frequency 6 = .ok (.iconst 0, 1) := by decide +kernel
theorem dX12_frequency_7 : decode cX12_frequency 7 = .ok (.putfield 168, 3) := by decide +kernel
theorem dX12_frequency_10 : decode cX12_frequency 10 = .ok (.iload_n 2, 1) := by decide +kernel
theorem dX12_frequency_11 : decode cX12_frequency 11 = .ok (.iconst 0, 1) := by decide +kernel
theorem dX12_frequency_12 : decode cX12_frequency 12 = .ok (.iconst 1, 1) := by decide +kernel
theorem dX12_frequency_13 : decode cX12_frequency 13 = .ok (.invokestatic 164, 3) := by decide +kernel
theorem dX12_frequency_16 : decode cX12_frequency 16 = .ok (.ifCond .eq 19, 3) := by decide +kernel
theorem dX12_frequency_19 : decode cX12_frequency 19 = .ok (.aload_n 0, 1) := by decide +kernel
theorem dX12_frequency_20 : decode cX12_frequency 20 = .ok (.iload_n 1, 1) := by decide +kernel
theorem dX12_frequency_21 : decode cX12_frequency 21 = .ok (.invokevirtual 236, 3) := by decide +kernel
theorem dX12_frequency_24 : decode cX12_frequency 24 = .ok (.ifCond .eq 11, 3) := by decide +kernel
theorem dX12_frequency_27 : decode cX12_frequency 27 = .ok (.aload_n 0, 1) := by decide +kernel
theorem dX12_frequency_28 : decode cX12_frequency 28 = .ok (.iload_n 3, 1) := by decide +kernel
theorem dX12_frequency_29 : decode cX12_frequency 29 = .ok (.invokevirtual 412, 3) := by decide +kernel
theorem dX12_frequency_32 : decode cX12_frequency 32 = .ok (.ifCond .ne 6, 3) := by decide +kernel
theorem dX12_frequency_35 : decode cX12_frequency 35 = .ok (.bipush (-2), 2) := by decide +kernel
theorem dX12_frequency_37 : decode cX12_frequency 37 = .ok (.ireturn, 1) := by decide +kernel
theorem dX12_frequency_38 : decode cX12_frequency 38 = .ok (.aload_n 0, 1) := by decide +kernel
theorem dX12_frequency_39 : decode cX12_frequency 39 = .ok (.iconst 0, 1) := by decide +kernel
theorem dX12_frequency_40 : decode cX12_frequency 40 = .ok (.iload_n 3, 1) := by decide +kernel
theorem dX12_frequency_41 : decode cX12_frequency 41 = .ok (.invokevirtual 193, 3) := by decide +kernel
theorem dX12_frequency_44 : decode cX12_frequency 44 = .ok (.aload_n 0, 1) := by decide +kernel
theorem dX12_frequency_45 : decode cX12_frequency 45 = .ok (.getfield 171, 3) := by decide +kernel
theorem dX12_frequency_48 : decode cX12_frequency 48 = .ok (.ifCond .ne 5, 3) := by decide +kernel
theorem dX12_frequency_51 : decode cX12_frequency 51 = .ok (.iconst 0, 1) := by decide +kernel
theorem dX12_frequency_52 : decode cX12_frequency 52 = .ok (.ireturn, 1) := by decide +kernel
theorem dX12_frequency_53 : decode cX12_frequency 53 = .ok (.aload_n 0, 1) := by decide +kernel
theorem dX12_frequency_54 : decode cX12_frequency 54 = .ok (.getfield 118, 3) := by decide +kernel
theorem dX12_frequency_57 : decode cX12_frequency 57 = .ok (.iconst 0, 1) := by decide +kernel
theorem dX12_frequency_58 : decode cX12_frequency 58 = .ok (.aload_n 0, 1) := by decide +kernel
theorem dX12_frequency_59 : decode cX12_frequency 59 = .ok (.getfield 171, 3) := by decide +kernel
theorem dX12_frequency_62 : decode cX12_frequency 62 = .ok (.iastore, 1) := by decide +kernel
theorem dX12_frequency_63 : decode cX12_frequency 63 = .ok (.iconst 0, 1) := by decide +kernel
theorem dX12_frequency_64 : decode cX12_frequency 64 = .ok (.istore 4, 2) := by decide +kernel
theorem dX12_frequency_66 : decode cX12_frequency 66 = .ok (.iload 4, 2) := by decide +kernel
theorem dX12_frequency_68 : decode cX12_frequency 68 = .ok (.aload_n 0, 1) := by decide +kernel
theorem dX12_frequency_69 : decode cX12_frequency 69 = .ok (.getfield 171, 3) := by decide +kernel
theorem dX12_frequency_72 : decode cX12_frequency 72 = .ok (.if_icmp .ge 23, 3) := by decide +kernel
theorem dX12_frequency_75 : decode cX12_frequency 75 = .ok (.aload_n 0, 1) := by decide +kernel
theorem dX12_frequency_76 : decode cX12_frequency 76 = .ok (.getfield 121, 3) := by decide +kernel
theorem dX12_frequency_79 : decode cX12_frequency 79 = .ok (.iload 4, 2) := by decide +kernel
theorem dX12_frequency_81 : decode cX12_frequency 81 = .ok (.aload_n 0, 1) := by decide +kernel
theorem dX12_frequency_82 : decode cX12_frequency 82 = .ok (.getfield 100, 3) := by decide +kernel
theorem dX12_frequency_85 : decode cX12_frequency 85 = .ok (.iload 4, 2) := by decide +kernel
theorem dX12_frequency_87 : decode cX12_frequency 87 = .ok (.iaload, 1) := by decide +kernel
theorem dX12_frequency_88 : decode cX12_frequency 88 = .ok (.iastore, 1) := by decide +kernel
theorem dX12_frequency_89 : decode cX12_frequency 89 = .ok (.iinc 4 1, 3) := by decide +kernel
theorem dX12_frequency_92 : decode cX12_frequency 92 = .ok (.goto (-26), 3) := by decide +kernel
theorem dX12_frequency_95 : decode cX12_frequency 95 = .ok (.aload_n 0, 1) := by decide +kernel
theorem dX12_frequency_96 : decode cX12_frequency 96 = .ok (.iload_n 1, 1) := by decide +kernel
theorem dX12_frequency_97 : decode cX12_frequency 97 = .ok (.iload_n 2, 1) := by decide +kernel
theorem dX12_frequency_98 : decode cX12_frequency 98 = .ok (.iconst 0, 1) := by decide +kernel
theorem dX12_frequency_99 : decode cX12_frequency 99 = .ok (.invokevirtual 334, 3) := by decide +kernel
theorem dX12_frequency_102 : decode cX12_frequency 102 = .ok (.ireturn, 1) := by decide +kernel
theorem dX12_told_0 : decode cX12_told 0 = .ok (.iload_n 1, 1) := by decide +kernel
theorem dX12_told_1 : decode cX12_told 1 = .ok (.iconst 0, 1) := by decide +kernel
theorem dX12_told_2 : decode cX12_told 2 = .ok (.bipush 6, 2) := by decide +kernel
theorem dX12_told_4 : decode cX12_told 4 = .ok (.invokestatic 164, 3) := by decide +kernel
theorem dX12_told_7 : decode cX12_told 7 = .ok (.ifCond .ne 6, 3) := by decide +kernel
theorem dX12_told_10 : decode cX12_told 10 = .ok (.bipush (-2), 2) := by decide +kernel
theorem dX12_told_12 : decode cX12_told 12 = .ok (.ireturn, 1) := by decide +kernel
theorem dX12_told_13 : decode cX12_told 13 = .ok (.iload_n 1, 1) := by decide +kernel
theorem dX12_told_14 : decode cX12_told 14 = .ok (.ifCond .ne 8, 3) := by decide +kernel
theorem dX12_told_17 : decode cX12_told 17 = .ok (.aload_n 0, 1) := by decide +kernel
theorem dX12_told_18 : decode cX12_told 18 = .ok (.getfield 196, 3) := by decide +kernel
theorem dX12_told_21 : decode cX12_told 21 = .ok (.ireturn, 1) := by decide +kernel
theorem dX12_told_22 : decode cX12_told 22 = .ok (.iload_n 1, 1) := by decide +kernel
theorem dX12_told_23 : decode cX12_told 23 = .ok (.iconst 1, 1) := by decide +kernel
theorem dX12_told_24 : decode cX12_told 24 = .ok (.if_icmp .ne 8, 3) := by decide +kernel
theorem dX12_told_27 : decode cX12_told 27 = .ok (.aload_n 0, 1) := by decide +kernel
theorem dX12_told_28 : decode cX12_told 28 = .ok (.invokevirtual 210, 3) := by decide +kernel
theorem dX12_told_31 : decode cX12_told 31 = .ok (.ireturn, 1) := by decide +kernel
theorem dX12_told_32 : decode cX12_told 32 = .ok (.iload_n 1, 1) := by decide +kernel
theorem dX12_told_33 : decode cX12_told 33 = .ok (.iconst 2, 1) := by decide +kernel
theorem dX12_told_34 : decode cX12_told 34 = .ok (.if_icmp .ne 8, 3) := by decide +kernel
theorem dX12_told_37 : decode cX12_told 37 = .ok (.aload_n 0, 1) := by decide +kernel
theorem dX12_told_38 : decode cX12_told 38 = .ok (.getfield 217, 3) := by decide +kernel
theorem dX12_told_41 : decode cX12_told 41 = .ok (.ireturn, 1) := by decide +kernel
theorem dX12_told_42 : decode cX12_told 42 = .ok (.iload_n 1, 1) := by decide +kernel
theorem dX12_told_43 : decode cX12_told 43 = .ok (.iconst 4, 1) := by decide +kernel
theorem dX12_told_44 : decode cX12_told 44 = .ok (.if_icmp .ne 8, 3) := by decide +kernel
theorem dX12_told_47 : decode cX12_told 47 = .ok (.aload_n 0, 1) := by decide +kernel
theorem dX12_told_48 : decode cX12_told 48 = .ok (.getfield 389, 3) := by decide +kernel
theorem dX12_told_51 : decode cX12_told 51 = .ok (.ireturn, 1) := by decide +kernel
theorem dX12_told_52 : decode cX12_told 52 = .ok (.iload_n 1, 1) := by decide +kernel
theorem dX12_told_53 : decode cX12_told 53 = .ok (.iconst 5, 1) := by decide +kernel
theorem dX12_told_54 : decode cX12_told 54 = .ok (.if_icmp .ne 8, 3) := by decide +kernel
theorem dX12_told_57 : decode cX12_told 57 = .ok (.aload_n 0, 1) := by decide +kernel
theorem dX12_told_58 : decode cX12_told 58 = .ok (.getfield 72, 3) := by decide +kernel
theorem dX12_told_61 : decode cX12_told 61 = .ok (.ireturn, 1) := by decide +kernel
theorem dX12_told_62 : decode cX12_told 62 = .ok (.iload_n 1, 1) := by decide +kernel
theorem dX12_told_63 : decode cX12_told 63 = .ok (.bipush 6, 2) := by decide +kernel
theorem dX12_told_65 : decode cX12_told 65 = .ok (.if_icmp .ne 8, 3) := by decide +kernel
theorem dX12_told_68 : decode cX12_told 68 = .ok (.aload_n 0, 1) := by decide +kernel
theorem dX12_told_69 : decode cX12_told 69 = .ok (.getfield 230, 3) := by decide +kernel
theorem dX12_told_72 : decode cX12_told 72 = .ok (.ireturn, 1) := by decide +kernel
theorem dX12_told_73 : decode cX12_told 73 = .ok (.iconst 0, 1) := by decide +kernel
theorem dX12_told_74 : decode cX12_told 74 = .ok (.istore_n 2, 1) := by decide +kernel
theorem dX12_told_75 : decode cX12_told 75 = .ok (.iconst 0, 1) := by decide +kernel
theorem dX12_told_76 : decode cX12_told 76 = .ok (.istore_n 3, 1) := by decide +kernel
theorem dX12_told_77 : decode cX12_told 77 = .ok (.iload_n 3, 1) := by decide +kernel
theorem dX12_told_78 : decode cX12_told 78 = .ok (.iconst 4, 1) := by decide +kernel
theorem dX12_told_79 : decode cX12_told 79 = .ok (.if_icmp .ge 26, 3) := by decide +kernel
theorem dX12_told_82 : decode cX12_told 82 = .ok (.iload_n 2, 1) := by decide +kernel
theorem dX12_told_83 : decode cX12_told 83 = .ok (.aload_n 0, 1) := by decide +kernel
theorem dX12_told_84 : decode cX12_told 84 = .ok (.getfield 57, 3) := by decide +kernel
theorem dX12_told_87 : decode cX12_told 87 = .ok (.iload_n 3, 1) := by decide +kernel
theorem dX12_told_88 : decode cX12_told 88 = .ok (.baload, 1) := by decide +kernel
theorem dX12_told_89 : decode cX12_told 89 = .ok (.ifCond .eq 7, 3) := by decide +kernel
theorem dX12_told_92 : decode cX12_told 92 = .ok (.iconst 1, 1) := by decide +kernel
theorem dX12_told_93 : decode cX12_told 93 = .ok (.goto 4, 3) := by decide +kernel
theorem dX12_told_96 : decode cX12_told 96 = .ok (.iconst 0, 1) := by decide +kernel
theorem dX12_told_97 : decode cX12_told 97 = .ok (.iadd, 1) := by decide +kernel
theorem dX12_told_98 : decode cX12_told 98 = .ok (.istore_n 2, 1) := by decide +kernel
theorem dX12_told_99 : decode cX12_told 99 = .ok (.iinc 3 1, 3) := by decide +kernel
theorem dX12_told_102 : decode cX12_told 102 = .ok (.goto (-25), 3) := by decide +kernel
theorem dX12_told_105 : decode cX12_told 105 = .ok (.iload_n 2, 1) := by decide +kernel
theorem dX12_told_106 : decode cX12_told 106 = .ok (.ireturn, 1) := by decide +kernel
