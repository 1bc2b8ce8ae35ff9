theorem dX8_back_0 : decode cX8_back 0 = .ok (.iload_n 1, 1) := by decide +kernel
theorem dX8_back_1 : decode cX8_back 1 = .ok (.ifCond .lt 14, 3) := by decide +kernel
theorem dX8_back_4 : decode cX8_back 4 = .ok (.iload_n 1, 1) := by decide +kernel
theorem dX8_back_5 : decode cX8_back 5 = .ok (.aload_n 0, 1) := by decide +kernel
theorem dX8_back_6 : decode cX8_back 6 = .ok (.getfield 27, 3) := by decide +kernel
theorem dX8_back_9 : decode cX8_back 9 = .ok (.getfield 85, 3) := by decide +kernel
theorem dX8_back_12 : decode cX8_back 12 = .ok (.if_icmp .le 6, 3) := by decide +kernel
theorem dX8_back_15 : decode cX8_back 15 = .ok (.bipush (-2), 2) := by decide +kernel
theorem dX8_back_17 : decode cX8_back 17 = .ok (.ireturn, 1) := by decide +kernel
theorem dX8_back_18 : decode cX8_back 18 = .ok (.aload_n 0, 1) := by decide +kernel
theorem dX8_back_19 : decode cX8_back 19 = .ok (.getfield 27, 3) := by decide +kernel
theorem dX8_back_22 : decode cX8_back 22 = .ok (.iload_n 1, 1) := by decide +kernel
theorem dX8_back_23 : decode cX8_back 23 = .ok (.invokevirtual 88, 3) := by decide +kernel
theorem dX8_back_26 : decode cX8_back 26 = .ok (.aload_n 0, 1) := by decide +kernel
theorem dX8_back_27 : decode cX8_back 27 = .ok (.getfield 27, 3) := by decide +kernel
theorem dX8_back_30 : decode cX8_back 30 = .ok (.getfield 85, 3) := by decide +kernel
theorem dX8_back_33 : decode cX8_back 33 = .ok (.ireturn, 1) := by decide +kernel
theorem dX8_strengths_0 : decode cX8_strengths 0 = .ok (.aload_n 0, 1) := by decide +kernel
theorem dX8_strengths_1 : decode cX8_strengths 1 = .ok (.iload_n 1, 1) := by decide +kernel
theorem dX8_strengths_2 : decode cX8_strengths 2 = .ok (.iconst 1, 1) := by decide +kernel
theorem dX8_strengths_3 : decode cX8_strengths 3 = .ok (.bipush 10, 2) := by decide +kernel
theorem dX8_strengths_5 : decode cX8_strengths 5 = .ok (.invokevirtual 197, 3) := by decide +kernel
theorem dX8_strengths_8 : decode cX8_strengths 8 = .ok (.ireturn, 1) := by decide +kernel
theorem dX8_feints_0 : decode cX8_feints 0 = .ok (.aload_n 0, 1) := by decide +kernel
theorem dX8_feints_1 : decode cX8_feints 1 = .ok (.iload_n 1, 1) := by decide +kernel
theorem dX8_feints_2 : decode cX8_feints 2 = .ok (.iconst 2, 1) := by decide +kernel
theorem dX8_feints_3 : decode cX8_feints 3 = .ok (.bipush 10, 2) := by decide +kernel
theorem dX8_feints_5 : decode cX8_feints 5 = .ok (.invokevirtual 197, 3) := by decide +kernel
theorem dX8_feints_8 : decode cX8_feints 8 = .ok (.ireturn, 1) := by decide +kernel
theorem dX8_kinds_0 : decode cX8_kinds 0 = .ok (.aload_n 0, 1) := by decide +kernel
theorem dX8_kinds_1 : decode cX8_kinds 1 = .ok (.iload_n 1, 1) := by decide +kernel
theorem dX8_kinds_2 : decode cX8_kinds 2 = .ok (.iconst 0, 1) := by decide +kernel
theorem dX8_kinds_3 : decode cX8_kinds 3 = .ok (.iconst 3, 1) := by decide +kernel
theorem dX8_kinds_4 : decode cX8_kinds 4 = .ok (.invokevirtual 197, 3) := by decide +kernel
theorem dX8_kinds_7 : decode cX8_kinds 7 = .ok (.ireturn, 1) := by decide +kernel
theorem dX8_odds_0 : decode cX8_odds 0 = .ok (.aload_n 0, 1) := by decide +kernel
theorem dX8_odds_1 : decode cX8_odds 1 = .ok (.getfield 12, 3) := by decide +kernel
theorem dX8_odds_4 : decode cX8_odds 4 = .ok (.iload_n 1, 1) := by decide +kernel
theorem dX8_odds_5 : decode cX8_odds 5 = .ok (.iload_n 2, 1) := by decide +kernel
theorem dX8_odds_6 : decode cX8_odds 6 = .ok (.invokevirtual 119, 3) := by decide +kernel
theorem dX8_odds_9 : decode cX8_odds 9 = .ok (.ifCond .eq 12, 3) := by decide +kernel
theorem dX8_odds_12 : decode cX8_odds 12 = .ok (.iload_n 3, 1) := by decide +kernel
theorem dX8_odds_13 : decode cX8_odds 13 = .ok (.ifCond .lt 8, 3) := by decide +kernel
theorem dX8_odds_16 : decode cX8_odds 16 = .ok (.iload_n 3, 1) := by decide +kernel
theorem dX8_odds_17 : decode cX8_odds 17 = .ok (.iconst 1, 1) := by decide +kernel
theorem dX8_odds_18 : decode cX8_odds 18 = .ok (.if_icmp .le 7, 3) := by decide +kernel
theorem dX8_odds_21 : decode cX8_odds 21 = .ok (.ldc2_w 200, 3) := by decide +kernel
theorem dX8_odds_24 : decode cX8_odds 24 = .ok (.lreturn, 1) := by decide +kernel
theorem dX8_odds_25 : decode cX8_odds 25 = .ok (.aload_n 0, 1) := by decide +kernel
theorem dX8_odds_26 : decode cX8_odds 26 = .ok (.getfield 12, 3) := by decide +kernel
theorem dX8_odds_29 : decode cX8_odds 29 = .ok (.getfield 96, 3) := by decide +kernel
theorem dX8_odds_32 : decode cX8_odds 32 = .ok (.iload_n 1, 1) := by decide +kernel
theorem dX8_odds_33 : decode cX8_odds 33 = .ok (.aaload, 1) := by decide +kernel
theorem dX8_odds_34 : decode cX8_odds 34 = .ok (.astore 4, 2) := by decide +kernel
theorem dX8_odds_36 : decode cX8_odds 36 = .ok (.aload_n 0, 1) := by decide +kernel
theorem dX8_odds_37 : decode cX8_odds 37 = .ok (.getfield 12, 3) := by decide +kernel
theorem dX8_odds_40 : decode cX8_odds 40 = .ok (.getfield 96, 3) := by decide +kernel
theorem dX8_odds_43 : decode cX8_odds 43 = .ok (.iload_n 2, 1) := by decide +kernel
theorem dX8_odds_44 : decode cX8_odds 44 = .ok (.aaload, 1) := by decide +kernel
theorem dX8_odds_45 : decode cX8_odds 45 = .ok (.astore 5, 2) := by decide +kernel
theorem dX8_odds_47 : decode cX8_odds 47 = .ok (.aload 4, 2) := by decide +kernel
theorem dX8_odds_49 : decode cX8_odds 49 = .ok (.aload 5, 2) := by decide +kernel
theorem dX8_odds_51 : decode cX8_odds 51 = .ok (.invokestatic 202, 3) := by decide +kernel
theorem dX8_odds_54 : decode cX8_odds 54 = .ok (.istore 6, 2) := by decide +kernel
theorem dX8_odds_56 : decode cX8_odds 56 = .ok (.aload 4, 2) := by decide +kernel
theorem dX8_odds_58 : decode cX8_odds 58 = .ok (.invokevirtual 105, 3) := by decide +kernel
theorem dX8_odds_61 : decode cX8_odds 61 = .ok (.aload 4, 2) := by decide +kernel
theorem dX8_odds_63 : decode cX8_odds 63 = .ok (.invokevirtual 109, 3) := by decide +kernel
theorem dX8_odds_66 : decode cX8_odds 66 = .ok (.isub, 1) := by decide +kernel
theorem dX8_odds_67 : decode cX8_odds 67 = .ok (.iconst 1, 1) := by decide +kernel
theorem dX8_odds_68 : decode cX8_odds 68 = .ok (.iadd, 1) := by decide +kernel
theorem dX8_odds_69 : decode cX8_odds 69 = .ok (.aload 5, 2) := by decide +kernel
theorem dX8_odds_71 : decode cX8_odds 71 = .ok (.invokevirtual 105, 3) := by decide +kernel
theorem dX8_odds_74 : decode cX8_odds 74 = .ok (.aload 5, 2) := by decide +kernel
theorem dX8_odds_76 : decode cX8_odds 76 = .ok (.invokevirtual 109, 3) := by decide +kernel
theorem dX8_odds_79 : decode cX8_odds 79 = .ok (.isub, 1) := by decide +kernel
theorem dX8_odds_80 : decode cX8_odds 80 = .ok (.iconst 1, 1) := by decide +kernel
theorem dX8_odds_81 : decode cX8_odds 81 = .ok (.iadd, 1) := by decide +kernel
theorem dX8_odds_82 : decode cX8_odds 82 = .ok (.imul, 1) := by decide +kernel
theorem dX8_odds_83 : decode cX8_odds 83 = .ok (.istore 7, 2) := by decide +kernel
theorem dX8_odds_85 : decode cX8_odds 85 = .ok (.iload_n 3, 1) := by decide +kernel
theorem dX8_odds_86 : decode cX8_odds 86 = .ok (.ifCond .ne 8, 3) := by decide +kernel
theorem dX8_odds_89 : decode cX8_odds 89 = .ok (.iload 6, 2) := by decide +kernel
theorem dX8_odds_91 : decode cX8_odds 91 = .ok (.goto 5, 3) := by decide +kernel
theorem dX8_odds_94 : decode cX8_odds 94 = .ok (.iload 7, 2) := by decide +kernel
theorem dX8_odds_96 : decode cX8_odds 96 = .ok (.istore 8, 2) := by decide +kernel
theorem dX8_odds_98 : decode cX8_odds 98 = .ok (.iload 7, 2) := by decide +kernel
theorem dX8_odds_100 : decode cX8_odds 100 = .ok (.istore 9, 2) := by decide +kernel
theorem dX8_odds_102 : decode cX8_odds 102 = .ok (.iload 9, 2) := by decide +kernel
theorem dX8_odds_104 : decode cX8_odds 104 = .ok (.iconst 1, 1) := by decide +kernel
theorem dX8_odds_105 : decode cX8_odds 105 = .ok (.if_icmp .le 32, 3) := by decide +kernel
theorem dX8_odds_108 : decode cX8_odds 108 = .ok (.iload 6, 2) := by decide +kernel
theorem dX8_odds_110 : decode cX8_odds 110 = .ok (.iload 9, 2) := by decide +kernel
theorem dX8_odds_112 : decode cX8_odds 112 = .ok (.irem, 1) := by decide +kernel
theorem dX8_odds_113 : decode cX8_odds 113 = .ok (.ifCond .ne 18, 3) := by decide +kernel
theorem dX8_odds_116 : decode cX8_odds 116 = .ok (.iload 7, 2) := by decide +kernel
theorem dX8_odds_118 : decode cX8_odds 118 = .ok (.iload 9, 2) := by decide +kernel
theorem dX8_odds_120 : decode cX8_odds 120 = .ok (.irem, 1) := by decide +kernel
theorem dX8_odds_121 : decode cX8_odds 121 = .ok (.ifCond .ne 10, 3) := by decide +kernel
theorem dX8_odds_124 : decode cX8_odds 124 = .ok (.iload 8, 2) := by decide +kernel
theorem dX8_odds_126 : decode cX8_odds 126 = .ok (.iload 9, 2) := by decide +kernel
theorem dX8_odds_128 : decode cX8_odds 128 = .ok (.idiv, 1) := by decide +kernel
theorem dX8_odds_129 : decode cX8_odds 129 = .ok (.i2l, 1) := by decide +kernel
theorem dX8_odds_130 : decode cX8_odds 130 = .ok (.lreturn, 1) := by decide +kernel
theorem dX8_odds_131 : decode cX8_odds 131 = .ok (.iinc 9 (-1), 3) := by decide +kernel
theorem dX8_odds_134 : decode cX8_odds 134 = .ok (.goto (-32), 3) := by decide +kernel
theorem dX8_odds_137 : decode cX8_odds 137 = .ok (.iload 8, 2) := by decide +kernel
theorem dX8_odds_139 : decode cX8_odds 139 = .ok (.i2l, 1) := by decide +kernel
theorem dX8_odds_140 : decode cX8_odds 140 = .ok (.lreturn, 1) := by decide +kernel
theorem dX8_sheet_0 : decode cX8_sheet 0 = .ok (.aload_n 0, 1) := by decide +kernel
theorem dX8_sheet_1 : decode cX8_sheet 1 = .ok (.iconst 0, 1) := by decide +kernel
theorem dX8_sheet_2 : decode cX8_sheet 2 = .ok (.putfield 53, 3) := by decide +kernel
theorem dX8_sheet_5 : decode cX8_sheet 5 = .ok (.iload_n 1, 1) := by decide +kernel
theorem dX8_sheet_6 : decode cX8_sheet 6 = .ok (.invokestatic 57, 3) := by decide +kernel
theorem dX8_sheet_9 : decode cX8_sheet 9 = .ok (.ifCond .ne 5, 3) := by decide +kernel
theorem dX8_sheet_12 : decode cX8_sheet 12 = .ok (.iconst (-1), 1) := by decide +kernel
theorem dX8_sheet_13 : decode cX8_sheet 13 = .ok (.ireturn, 1) := by decide +kernel
theorem dX8_sheet_14 : decode cX8_sheet 14 = .ok (.iload_n 2, 1) := by decide +kernel
theorem dX8_sheet_15 : decode cX8_sheet 15 = .ok (.invokestatic 61, 3) := by decide +kernel
theorem dX8_sheet_18 : decode cX8_sheet 18 = .ok (.ifCond .eq 9, 3) := by decide +kernel
theorem dX8_sheet_21 : decode cX8_sheet 21 = .ok (.iload_n 3, 1) := by decide +kernel
theorem dX8_sheet_22 : decode cX8_sheet 22 = .ok (.bipush 60, 2) := by decide +kernel
theorem dX8_sheet_24 : decode cX8_sheet 24 = .ok (.if_icmp .le 6, 3) := by decide +kernel
theorem dX8_sheet_27 : decode cX8_sheet 27 = .ok (.bipush (-2), 2) := by decide +kernel
theorem dX8_sheet_29 : decode cX8_sheet 29 = .ok (.ireturn, 1) := by decide +kernel
theorem dX8_sheet_30 : decode cX8_sheet 30 = .ok (.iload_n 3, 1) := by decide +kernel
theorem dX8_sheet_31 : decode cX8_sheet 31 = .ok (.ifCond .ge 9, 3) := by decide +kernel
theorem dX8_sheet_34 : decode cX8_sheet 34 = .ok (.aload_n 0, 1) := by decide +kernel
theorem dX8_sheet_35 : decode cX8_sheet 35 = .ok (.iconst 4, 1) := by decide +kernel
theorem dX8_sheet_36 : decode cX8_sheet 36 = .ok (.invokevirtual 68, 3) := by decide +kernel
theorem dX8_sheet_39 : decode cX8_sheet 39 = .ok (.ireturn, 1) := by decide +kernel
theorem dX8_sheet_40 : decode cX8_sheet 40 = .ok (.aload_n 0, 1) := by decide +kernel
theorem dX8_sheet_41 : decode cX8_sheet 41 = .ok (.getfield 20, 3) := by decide +kernel
theorem dX8_sheet_44 : decode cX8_sheet 44 = .ok (.iload_n 1, 1) := by decide +kernel
theorem dX8_sheet_45 : decode cX8_sheet 45 = .ok (.aaload, 1) := by decide +kernel
theorem dX8_sheet_46 : decode cX8_sheet 46 = .ok (.iload_n 2, 1) := by decide +kernel
theorem dX8_sheet_47 : decode cX8_sheet 47 = .ok (.iload_n 3, 1) := by decide +kernel
theorem dX8_sheet_48 : decode cX8_sheet 48 = .ok (.invokevirtual 206, 3) := by decide +kernel
theorem dX8_sheet_51 : decode cX8_sheet 51 = .ok (.iconst 1, 1) := by decide +kernel
theorem dX8_sheet_52 : decode cX8_sheet 52 = .ok (.ireturn, 1) := by decide +kernel
theorem dX8_lose_0 : decode cX8_lose 0 = .ok (.iload_n 1, 1) := by decide +kernel
theorem dX8_lose_1 : decode cX8_lose 1 = .ok (.invokestatic 57, 3) := by decide +kernel
theorem dX8_lose_4 : decode cX8_lose 4 = .ok (.ifCond .ne 5, 3) := by decide +kernel
theorem dX8_lose_7 : decode cX8_lose 7 = .ok (.iconst (-1), 1) := by decide +kernel
theorem dX8_lose_8 : decode cX8_lose 8 = .ok (.ireturn, 1) := by decide +kernel
theorem dX8_lose_9 : decode cX8_lose 9 = .ok (.aload_n 0, 1) := by decide +kernel
theorem dX8_lose_10 : decode cX8_lose 10 = .ok (.getfield 20, 3) := by decide +kernel
theorem dX8_lose_13 : decode cX8_lose 13 = .ok (.iload_n 1, 1) := by decide +kernel
theorem dX8_lose_14 : decode cX8_lose 14 = .ok (.aaload, 1) := by decide +kernel
theorem dX8_lose_15 : decode cX8_lose 15 = .ok (.getfield 210, 3) := by decide +kernel
theorem dX8_lose_18 : decode cX8_lose 18 = .ok (.ifCond .eq 7, 3) := by decide +kernel
theorem dX8_lose_21 : decode cX8_lose 21 = .ok (.iconst 1, 1) := by decide +kernel
theorem dX8_lose_22 : decode cX8_lose 22 = .ok (.goto 4, 3) := by decide +kernel
theorem dX8_lose_25 : decode cX8_lose 25 = .ok (.iconst 0, 1) := by decide +kernel
theorem dX8_lose_26 : decode cX8_lose 26 = .ok (.istore_n 2, 1) := by decide +kernel
theorem dX8_lose_27 : decode cX8_lose 27 = .ok (.aload_n 0, 1) := by decide +kernel
theorem dX8_lose_28 : decode cX8_lose 28 = .ok (.getfield 20, 3) := by decide +kernel
theorem dX8_lose_31 : decode cX8_lose 31 = .ok (.iload_n 1, 1) := by decide +kernel
theorem dX8_lose_32 : decode cX8_lose 32 = .ok (.aaload, 1) := by decide +kernel
theorem dX8_lose_33 : decode cX8_lose 33 = .ok (.iconst 0, 1) := by decide +kernel
theorem dX8_lose_34 : decode cX8_lose 34 = .ok (.putfield 210, 3) := by decide +kernel
theorem dX8_lose_37 : decode cX8_lose 37 = .ok (.iload_n 2, 1) := by decide +kernel
theorem dX8_lose_38 : decode cX8_lose 38 = .ok (.ireturn, 1) := by decide +kernel
theorem dX8_put_0 : decode cX8_put 0 = .ok (.aload_n 0, 1) := by decide +kernel
theorem dX8_put_1 : decode cX8_put 1 = .ok (.iconst 0, 1) := by decide +kernel
theorem dX8_put_2 : decode cX8_put 2 = .ok (.putfield 53, 3) := by decide +kernel
theorem dX8_put_5 : decode cX8_put 5 = .ok (.iload_n 1, 1) := by decide +kernel
theorem dX8_put_6 : decode cX8_put 6 = .ok (.invokestatic 57, 3) := by decide +kernel
theorem dX8_put_9 : decode cX8_put 9 = .ok (.ifCond .ne 5, 3) := by decide +kernel
theorem dX8_put_12 : decode cX8_put 12 = .ok (.iconst (-1), 1) := by decide +kernel
theorem dX8_put_13 : decode cX8_put 13 = .ok (.ireturn, 1) := by decide +kernel
theorem dX8_put_14 : decode cX8_put 14 = .ok (.aload_n 0, 1) := by decide +kernel
theorem dX8_put_15 : decode cX8_put 15 = .ok (.getfield 20, 3) := by decide +kernel
theorem dX8_put_18 : decode cX8_put 18 = .ok (.iload_n 1, 1) := by decide +kernel
theorem dX8_put_19 : decode cX8_put 19 = .ok (.aaload, 1) := by decide +kernel
theorem dX8_put_20 : decode cX8_put 20 = .ok (.aload_n 0, 1) := by decide +kernel
theorem dX8_put_21 : decode cX8_put 21 = .ok (.getfield 20, 3) := by decide +kernel
theorem dX8_put_24 : decode cX8_put 24 = .ok (.iload_n 1, 1) := by decide +kernel
theorem dX8_put_25 : decode cX8_put 25 = .ok (.aaload, 1) := by decide +kernel
theorem dX8_put_26 : decode cX8_put 26 = .ok (.getfield 213, 3) := by decide +kernel
theorem dX8_put_29 : decode cX8_put 29 = .ok (.iload_n 2, 1) := by decide +kernel
theorem dX8_put_30 : decode cX8_put 30 = .ok (.iconst 1, 1) := by decide +kernel
theorem dX8_put_31 : decode cX8_put 31 = .ok (.invokevirtual 64, 3) := by decide +kernel
theorem dX8_put_34 : decode cX8_put 34 = .ok (.istore 4, 2) := by decide +kernel
theorem dX8_put_36 : decode cX8_put 36 = .ok (.iload 4, 2) := by decide +kernel
theorem dX8_put_38 : decode cX8_put 38 = .ok (.ifCond .eq 10, 3) := by decide +kernel
theorem dX8_put_41 : decode cX8_put 41 = .ok (.aload_n 0, 1) := by decide +kernel
theorem dX8_put_42 : decode cX8_put 42 = .ok (.iload 4, 2) := by decide +kernel
theorem dX8_put_44 : decode cX8_put 44 = .ok (.invokevirtual 68, 3) := by decide +kernel
theorem dX8_put_47 : decode cX8_put 47 = .ok (.ireturn, 1) := by decide +kernel
theorem dX8_put_48 : decode cX8_put 48 = .ok (.aload_n 0, 1) := by decide +kernel
theorem dX8_put_49 : decode cX8_put 49 = .ok (.getfield 20, 3) := by decide +kernel
theorem dX8_put_52 : decode cX8_put 52 = .ok (.iload_n 1, 1) := by decide +kernel
theorem dX8_put_53 : decode cX8_put 53 = .ok (.aaload, 1) := by decide +kernel
theorem dX8_put_54 : decode cX8_put 54 = .ok (.iload_n 2, 1) := by decide +kernel
theorem dX8_put_55 : decode cX8_put 55 = .ok (.iload_n 3, 1) := by decide +kernel
theorem dX8_put_56 : decode cX8_put 56 = .ok (.invokevirtual 216, 3) := by decide +kernel
theorem dX8_put_59 : decode cX8_put 59 = .ok (.iconst 1, 1) := by decide +kernel
theorem dX8_put_60 : decode cX8_put 60 = .ok (.ireturn, 1) := by decide +kernel
theorem dX8_cell_0 : decode cX8_cell 0 = .ok (.aload_n 0, 1) := by decide +kernel
theorem dX8_cell_1 : decode cX8_cell 1 = .ok (.iconst 0, 1) := by decide +kernel
theorem dX8_cell_2 : decode cX8_cell 2 = .ok (.putfield 53, 3) := by decide +kernel
theorem dX8_cell_5 : decode cX8_cell 5 = .ok (.iload_n 1, 1) := by decide +kernel
theorem dX8_cell_6 : decode cX8_cell 6 = .ok (.invokestatic 57, 3) := by decide +kernel
theorem dX8_cell_9 : decode cX8_cell 9 = .ok (.ifCond .eq 10, 3) := by decide +kernel
theorem dX8_cell_12 : decode cX8_cell 12 = .ok (.iload_n 3, 1) := by decide +kernel
theorem dX8_cell_13 : decode cX8_cell 13 = .ok (.invokestatic 61, 3) := by decide +kernel
theorem dX8_cell_16 : decode cX8_cell 16 = .ok (.ifCond .ne 7, 3) := by decide +kernel
theorem dX8_cell_19 : decode cX8_cell 19 = .ok (.ldc2_w 200, 3) := by decide +kernel
theorem dX8_cell_22 : decode cX8_cell 22 = .ok (.lreturn, 1) := by decide +kernel
theorem dX8_cell_23 : decode cX8_cell 23 = .ok (.aload_n 0, 1) := by decide +kernel
theorem dX8_cell_24 : decode cX8_cell 24 = .ok (.aload_n 0, 1) := by decide +kernel
theorem dX8_cell_25 : decode cX8_cell 25 = .ok (.getfield 20, 3) := by decide +kernel
theorem dX8_cell_28 : decode cX8_cell 28 = .ok (.iload_n 1, 1) := by decide +kernel
theorem dX8_cell_29 : decode cX8_cell 29 = .ok (.aaload, 1) := by decide +kernel
theorem dX8_cell_30 : decode cX8_cell 30 = .ok (.iload_n 3, 1) := by decide +kernel
theorem dX8_cell_31 : decode cX8_cell 31 = .ok (.iload_n 2, 1) := by decide +kernel
theorem dX8_cell_32 : decode cX8_cell 32 = .ok (.iconst 1, 1) := by decide +kernel
theorem dX8_cell_33 : decode cX8_cell 33 = .ok (.invokevirtual 64, 3) := by decide +kernel
theorem dX8_cell_36 : decode cX8_cell 36 = .ok (.putfield 53, 3) := by decide +kernel
theorem dX8_cell_39 : decode cX8_cell 39 = .ok (.aload_n 0, 1) := by decide +kernel
theorem dX8_cell_40 : decode cX8_cell 40 = .ok (.getfield 53, 3) := by decide +kernel
theorem dX8_cell_43 : decode cX8_cell 43 = .ok (.ifCond .eq 9, 3) := by decide +kernel
theorem dX8_cell_46 : decode cX8_cell 46 = .ok (.ldc2_w 200, 3) := by decide +kernel
theorem dX8_cell_49 : decode cX8_cell 49 = .ok (.goto 14, 3) := by decide +kernel
theorem dX8_cell_52 : decode cX8_cell 52 = .ok (.aload_n 0, 1) := by decide +kernel
theorem dX8_cell_53 : decode cX8_cell 53 = .ok (.getfield 20, 3) := by decide +kernel
theorem dX8_cell_56 : decode cX8_cell 56 = .ok (.iload_n 1, 1) := by decide +kernel
theorem dX8_cell_57 : decode cX8_cell 57 = .ok (.aaload, 1) := by decide +kernel
theorem dX8_cell_58 : decode cX8_cell 58 = .ok (.iload_n 2, 1) := by decide +kernel
theorem dX8_cell_59 : decode cX8_cell 59 = .ok (.invokevirtual 219, 3) := by decide +kernel
theorem dX8_cell_62 : decode cX8_cell 62 = .ok (.i2l, 1) := by decide +kernel
theorem dX8_cell_63 : decode cX8_cell 63 = .ok (.lreturn, 1) := by decide +kernel
theorem dX8_copy_0 : decode cX8_copy 0 = .ok (.aload_n 0, 1) := by decide +kernel
theorem dX8_copy_1 : decode cX8_copy 1 = .ok (.iconst 0, 1) := by decide +kernel
theorem dX8_copy_2 : decode cX8_copy 2 = .ok (.putfield 53, 3) := by decide +kernel
theorem dX8_copy_5 : decode cX8_copy 5 = .ok (.iload_n 1, 1) := by decide +kernel
theorem dX8_copy_6 : decode cX8_copy 6 = .ok (.invokestatic 57, 3) := by decide +kernel
theorem dX8_copy_9 : decode cX8_copy 9 = .ok (.ifCond .eq 10, 3) := by decide +kernel
theorem dX8_copy_12 : decode cX8_copy 12 = .ok (.iload_n 3, 1) := by decide +kernel
theorem dX8_copy_13 : decode cX8_copy 13 = .ok (.invokestatic 57, 3) := by decide +kernel
theorem dX8_copy_16 : decode cX8_copy 16 = .ok (.ifCond .ne 5, 3) := by decide +kernel
theorem dX8_copy_19 : decode cX8_copy 19 = .ok (.iconst (-1), 1) := by decide +kernel
theorem dX8_copy_20 : decode cX8_copy 20 = .ok (.ireturn, 1) := by decide +kernel
theorem dX8_copy_21 : decode cX8_copy 21 = .ok (.aload_n 0, 1) := by decide +kernel
theorem dX8_copy_22 : decode cX8_copy 22 = .ok (.getfield 20, 3) := by decide +kernel
theorem dX8_copy_25 : decode cX8_copy 25 = .ok (.iload_n 1, 1) := by decide +kernel
theorem dX8_copy_26 : decode cX8_copy 26 = .ok (.aaload, 1) := by decide +kernel
theorem dX8_copy_27 : decode cX8_copy 27 = .ok (.astore 6, 2) := by decide +kernel
theorem dX8_copy_29 : decode cX8_copy 29 = .ok (.aload_n 0, 1) := by decide +kernel
theorem dX8_copy_30 : decode cX8_copy 30 = .ok (.getfield 20, 3) := by decide +kernel
theorem dX8_copy_33 : decode cX8_copy 33 = .ok (.iload_n 3, 1) := by decide +kernel
theorem dX8_copy_34 : decode cX8_copy 34 = .ok (.aaload, 1) := by decide +kernel
theorem dX8_copy_35 : decode cX8_copy 35 = .ok (.astore 7, 2) := by decide +kernel
theorem dX8_copy_37 : decode cX8_copy 37 = .ok (.aload 6, 2) := by decide +kernel
theorem dX8_copy_39 : decode cX8_copy 39 = .ok (.getfield 210, 3) := by decide +kernel
theorem dX8_copy_42 : decode cX8_copy 42 = .ok (.ifCond .eq 11, 3) := by decide +kernel
theorem dX8_copy_45 : decode cX8_copy 45 = .ok (.aload 7, 2) := by decide +kernel
theorem dX8_copy_47 : decode cX8_copy 47 = .ok (.getfield 210, 3) := by decide +kernel
theorem dX8_copy_50 : decode cX8_copy 50 = .ok (.ifCond .ne 9, 3) := by decide +kernel
theorem dX8_copy_53 : decode cX8_copy 53 = .ok (.aload_n 0, 1) := by decide +kernel
theorem dX8_copy_54 : decode cX8_copy 54 = .ok (.iconst 1, 1) := by decide +kernel
theorem dX8_copy_55 : decode cX8_copy 55 = .ok (.invokevirtual 68, 3) := by decide +kernel
theorem dX8_copy_58 : decode cX8_copy 58 = .ok (.ireturn, 1) := by decide +kernel
theorem dX8_copy_59 : decode cX8_copy 59 = .ok (.aload 6, 2) := by decide +kernel
theorem dX8_copy_61 : decode cX8_copy 61 = .ok (.getfield 213, 3) := by decide +kernel
theorem dX8_copy_64 : decode cX8_copy 64 = .ok (.aload 7, 2) := by decide +kernel
theorem dX8_copy_66 : decode cX8_copy 66 = .ok (.getfield 213, 3) := by decide +kernel
theorem dX8_copy_69 : decode cX8_copy 69 = .ok (.if_icmp .eq 9, 3) := by decide +kernel
theorem dX8_copy_72 : decode cX8_copy 72 = .ok (.aload_n 0, 1) := by decide +kernel
theorem dX8_copy_73 : decode cX8_copy 73 = .ok (.iconst 2, 1) := by decide +kernel
theorem dX8_copy_74 : decode cX8_copy 74 = .ok (.invokevirtual 68, 3) := by decide +kernel
theorem dX8_copy_77 : decode cX8_copy 77 = .ok (.ireturn, 1) := by decide +kernel
theorem dX8_copy_78 : decode cX8_copy 78 = .ok (.aload 6, 2) := by decide +kernel
theorem dX8_copy_80 : decode cX8_copy 80 = .ok (.iload_n 2, 1) := by decide +kernel
theorem dX8_copy_81 : decode cX8_copy 81 = .ok (.iload 5, 2) := by decide +kernel
theorem dX8_copy_83 : decode cX8_copy 83 = .ok (.invokevirtual 222, 3) := by decide +kernel
theorem dX8_copy_86 : decode cX8_copy 86 = .ok (.ifCond .eq 15, 3) := by decide +kernel
theorem dX8_copy_89 : decode cX8_copy 89 = .ok (.aload 7, 2) := by decide +kernel
theorem dX8_copy_91 : decode cX8_copy 91 = .ok (.iload 4, 2) := by decide +kernel
theorem dX8_copy_93 : decode cX8_copy 93 = .ok (.iload 5, 2) := by decide +kernel
theorem dX8_copy_95 : decode cX8_copy 95 = .ok (.invokevirtual 222, 3) := by decide +kernel
theorem dX8_copy_98 : decode cX8_copy 98 = .ok (.ifCond .ne 9, 3) := by decide +kernel
theorem dX8_copy_101 : decode cX8_copy 101 = .ok (.aload_n 0, 1) := by decide +kernel
theorem dX8_copy_102 : decode cX8_copy 102 = .ok (.iconst 3, 1) := by decide +kernel
theorem dX8_copy_103 : decode cX8_copy 103 = .ok (.invokevirtual 68, 3) := by decide +kernel
theorem dX8_copy_106 : decode cX8_copy 106 = .ok (.ireturn, 1) := by decide +kernel
theorem dX8_copy_107 : decode cX8_copy 107 = .ok (.aload 6, 2) := by decide +kernel
theorem dX8_copy_109 : decode cX8_copy 109 = .ok (.getfield 225, 3) := by decide +kernel
theorem dX8_copy_112 : decode cX8_copy 112 = .ok (.iload_n 2, 1) := by decide +kernel
theorem dX8_copy_113 : decode cX8_copy 113 = .ok (.aload 7, 2) := by decide +kernel
theorem dX8_copy_115 : decode cX8_copy 115 = .ok (.getfield 225, 3) := by decide +kernel
theorem dX8_copy_118 : decode cX8_copy 118 = .ok (.iload 4, 2) := by decide +kernel
theorem dX8_copy_120 : decode cX8_copy 120 = .ok (.iload 5, 2) := by decide +kernel
theorem dX8_copy_122 : decode cX8_copy 122 = .ok (.invokestatic 229, 3) := by decide +kernel
theorem dX8_copy_125 : decode cX8_copy 125 = .ok (.iload 5, 2) := by decide +kernel
theorem dX8_copy_127 : decode cX8_copy 127 = .ok (.ireturn, 1) := by decide +kernel
theorem dX8_tell_0 : decode cX8_tell 0 = .ok (.aload_n 0, 1) := by decide +kernel
theorem dX8_tell_1 : decode cX8_tell 1 = .ok (.getfield 12, 3) := by decide +kernel
theorem dX8_tell_4 : decode cX8_tell 4 = .ok (.iload_n 1, 1) := by decide +kernel
theorem dX8_tell_5 : decode cX8_tell 5 = .ok (.invokevirtual 93, 3) := by decide +kernel
theorem dX8_tell_8 : decode cX8_tell 8 = .ok (.ifCond .ne 5, 3) := by decide +kernel
theorem dX8_tell_11 : decode cX8_tell 11 = .ok (.iconst (-1), 1) := by decide +kernel
theorem dX8_tell_12 : decode cX8_tell 12 = .ok (.ireturn, 1) := by decide +kernel
theorem dX8_tell_13 : decode cX8_tell 13 = .ok (.aload_n 0, 1) := by decide +kernel
theorem dX8_tell_14 : decode cX8_tell 14 = .ok (.getfield 12, 3) := by decide +kernel
theorem dX8_tell_17 : decode cX8_tell 17 = .ok (.getfield 96, 3) := by decide +kernel
theorem dX8_tell_20 : decode cX8_tell 20 = .ok (.iload_n 1, 1) := by decide +kernel
theorem dX8_tell_21 : decode cX8_tell 21 = .ok (.aaload, 1) := by decide +kernel
theorem dX8_tell_22 : decode cX8_tell 22 = .ok (.astore_n 2, 1) := by decide +kernel
theorem dX8_tell_23 : decode cX8_tell 23 = .ok (.aload_n 2, 1) := by decide +kernel
theorem dX8_tell_24 : decode cX8_tell 24 = .ok (.getfield 235, 3) := by decide +kernel
theorem dX8_tell_27 : decode cX8_tell 27 = .ok (.lookupswitch 37 #[(1, 31), (2, 25)], 25) := by decide +kernel
theorem dX8_tell_52 : decode cX8_tell 52 = .ok (.aload_n 0, 1) := by decide +kernel
theorem dX8_tell_53 : decode cX8_tell 53 = .ok (.aload_n 2, 1) := by decide +kernel
theorem dX8_tell_54 : decode cX8_tell 54 = .ok (.invokevirtual 238, 3) := by decide +kernel
theorem dX8_tell_57 : decode cX8_tell 57 = .ok (.ireturn, 1) := by decide +kernel
theorem dX8_tell_58 : decode cX8_tell 58 = .ok (.aload_n 0, 1) := by decide +kernel
theorem dX8_tell_59 : decode cX8_tell 59 = .ok (.aload_n 2, 1) := by decide +kernel
theorem dX8_tell_60 : decode cX8_tell 60 = .ok (.invokevirtual 242, 3) := by decide +kernel
theorem dX8_tell_63 : decode cX8_tell 63 = .ok (.ireturn, 1) := by decide +kernel
theorem dX8_tell_64 : decode cX8_tell 64 = .ok (.aload_n 0, 1) := by decide +kernel
theorem dX8_tell_65 : decode cX8_tell 65 = .ok (.aload_n 2, 1) := by decide +kernel
theorem dX8_tell_66 : decode cX8_tell 66 = .ok (.invokevirtual 245, 3) := by decide +kernel
theorem dX8_tell_69 : decode cX8_tell 69 = .ok (.ireturn, 1) := by decide +kernel
theorem dX8_wave_0 : decode cX8_wave 0 = .ok (.aload_n 0, 1) := by decide +kernel
theorem dX8_wave_1 : decode cX8_wave 1 = .ok (.getfield 12, 3) := by decide +kernel
theorem dX8_wave_4 : decode cX8_wave 4 = .ok (.iload_n 1, 1) := by decide +kernel
theorem dX8_wave_5 : decode cX8_wave 5 = .ok (.invokevirtual 93, 3) := by decide +kernel
theorem dX8_wave_8 : decode cX8_wave 8 = .ok (.ifCond .ne 5, 3) := by decide +kernel
theorem dX8_wave_11 : decode cX8_wave 11 = .ok (.iconst (-1), 1) := by decide +kernel
theorem dX8_wave_12 : decode cX8_wave 12 = .ok (.ireturn, 1) := by decide +kernel
theorem dX8_wave_13 : decode cX8_wave 13 = .ok (.aload_n 0, 1) := by decide +kernel
theorem dX8_wave_14 : decode cX8_wave 14 = .ok (.getfield 12, 3) := by decide +kernel
theorem dX8_wave_17 : decode cX8_wave 17 = .ok (.getfield 96, 3) := by decide +kernel
theorem dX8_wave_20 : decode cX8_wave 20 = .ok (.iload_n 1, 1) := by decide +kernel
theorem dX8_wave_21 : decode cX8_wave 21 = .ok (.aaload, 1) := by decide +kernel
theorem dX8_wave_22 : decode cX8_wave 22 = .ok (.getfield 235, 3) := by decide +kernel
theorem dX8_wave_25 : decode cX8_wave 25 = .ok (.iconst 2, 1) := by decide +kernel
theorem dX8_wave_26 : decode cX8_wave 26 = .ok (.if_icmp .ne 11, 3) := by decide +kernel
theorem dX8_wave_29 : decode cX8_wave 29 = .ok (.aload_n 0, 1) := by decide +kernel
theorem dX8_wave_30 : decode cX8_wave 30 = .ok (.iconst 5, 1) := by decide +kernel
theorem dX8_wave_31 : decode cX8_wave 31 = .ok (.invokevirtual 248, 3) := by decide +kernel
theorem dX8_wave_34 : decode cX8_wave 34 = .ok (.bipush 30, 2) := by decide +kernel
theorem dX8_wave_36 : decode cX8_wave 36 = .ok (.ireturn, 1) := by decide +kernel
theorem dX8_wave_37 : decode cX8_wave 37 = .ok (.aload_n 0, 1) := by decide +kernel
theorem dX8_wave_38 : decode cX8_wave 38 = .ok (.iconst 4, 1) := by decide +kernel
theorem dX8_wave_39 : decode cX8_wave 39 = .ok (.invokevirtual 248, 3) := by decide +kernel
theorem dX8_wave_42 : decode cX8_wave 42 = .ok (.aload_n 0, 1) := by decide +kernel
theorem dX8_wave_43 : decode cX8_wave 43 = .ok (.getfield 12, 3) := by decide +kernel
theorem dX8_wave_46 : decode cX8_wave 46 = .ok (.getfield 96, 3) := by decide +kernel
theorem dX8_wave_49 : decode cX8_wave 49 = .ok (.iload_n 1, 1) := by decide +kernel
theorem dX8_wave_50 : decode cX8_wave 50 = .ok (.aaload, 1) := by decide +kernel
theorem dX8_wave_51 : decode cX8_wave 51 = .ok (.getfield 251, 3) := by decide +kernel
theorem dX8_wave_54 : decode cX8_wave 54 = .ok (.ireturn, 1) := by decide +kernel
theorem dX8_as_0 : decode cX8_as 0 = .ok (.aload_n 0, 1) := by decide +kernel
theorem dX8_as_1 : decode cX8_as 1 = .ok (.iconst 0, 1) := by decide +kernel
theorem dX8_as_2 : decode cX8_as 2 = .ok (.putfield 53, 3) := by decide +kernel
theorem dX8_as_5 : decode cX8_as 5 = .ok (.aload_n 0, 1) := by decide +kernel
theorem dX8_as_6 : decode cX8_as 6 = .ok (.getfield 12, 3) := by decide +kernel
theorem dX8_as_9 : decode cX8_as 9 = .ok (.iload_n 1, 1) := by decide +kernel
theorem dX8_as_10 : decode cX8_as 10 = .ok (.invokevirtual 93, 3) := by decide +kernel
theorem dX8_as_13 : decode cX8_as 13 = .ok (.ifCond .ne 5, 3) := by decide +kernel
theorem dX8_as_16 : decode cX8_as 16 = .ok (.iconst (-1), 1) := by decide +kernel
theorem dX8_as_17 : decode cX8_as 17 = .ok (.ireturn, 1) := by decide +kernel
theorem dX8_as_18 : decode cX8_as 18 = .ok (.iload_n 2, 1) := by decide +kernel
theorem dX8_as_19 : decode cX8_as 19 = .ok (.ifCond .lt 8, 3) := by decide +kernel
theorem dX8_as_22 : decode cX8_as 22 = .ok (.iload_n 2, 1) := by decide +kernel
theorem dX8_as_23 : decode cX8_as 23 = .ok (.iconst 3, 1) := by decide +kernel
theorem dX8_as_24 : decode cX8_as 24 = .ok (.if_icmp .lt 6, 3) := by decide +kernel
theorem dX8_as_27 : decode cX8_as 27 = .ok (.bipush (-2), 2) := by decide +kernel
theorem dX8_as_29 : decode cX8_as 29 = .ok (.ireturn, 1) := by decide +kernel
theorem dX8_as_30 : decode cX8_as 30 = .ok (.aload_n 0, 1) := by decide +kernel
theorem dX8_as_31 : decode cX8_as 31 = .ok (.getfield 12, 3) := by decide +kernel
theorem dX8_as_34 : decode cX8_as 34 = .ok (.getfield 96, 3) := by decide +kernel
theorem dX8_as_37 : decode cX8_as 37 = .ok (.iload_n 1, 1) := by decide +kernel
theorem dX8_as_38 : decode cX8_as 38 = .ok (.aaload, 1) := by decide +kernel
theorem dX8_as_39 : decode cX8_as 39 = .ok (.getfield 235, 3) := by decide +kernel
theorem dX8_as_42 : decode cX8_as 42 = .ok (.iload_n 2, 1) := by decide +kernel
theorem dX8_as_43 : decode cX8_as 43 = .ok (.if_icmp .ge 11, 3) := by decide +kernel
theorem dX8_as_46 : decode cX8_as 46 = .ok (.aload_n 0, 1) := by decide +kernel
theorem dX8_as_47 : decode cX8_as 47 = .ok (.iconst 2, 1) := by decide +kernel
theorem dX8_as_48 : decode cX8_as 48 = .ok (.invokevirtual 68, 3) := by decide +kernel
theorem dX8_as_51 : decode cX8_as 51 = .ok (.goto 4, 3) := by decide +kernel
theorem dX8_as_54 : decode cX8_as 54 = .ok (.iconst 1, 1) := by decide +kernel
theorem dX8_as_55 : decode cX8_as 55 = .ok (.ireturn, 1) := by decide +kernel
theorem dX8_trace_0 : decode cX8_trace 0 = .ok (.aload_n 0, 1) := by decide +kernel
theorem dX8_trace_1 : decode cX8_trace 1 = .ok (.getfield 254, 3) := by decide +kernel
theorem dX8_trace_4 : decode cX8_trace 4 = .ok (.ireturn, 1) := by decide +kernel
theorem dX8_fault_0 : decode cX8_fault 0 = .ok (.aload_n 0, 1) := by decide +kernel
theorem dX8_fault_1 : decode cX8_fault 1 = .ok (.getfield 53, 3) := by decide +kernel
theorem dX8_fault_4 : decode cX8_fault 4 = .ok (.ireturn, 1) := by decide +kernel
theorem dX8_many_0 : decode cX8_many 0 = .ok (.iload_n 1, 1) := by decide +kernel
theorem dX8_many_1 : decode cX8_many 1 = .ok (.tableswitch 63 0 3 #[31, 39, 50, 55], 31) := by decide +kernel
theorem dX8_many_32 : decode cX8_many 32 = .ok (.aload_n 0, 1) := by decide +kernel
theorem dX8_many_33 : decode cX8_many 33 = .ok (.getfield 12, 3) := by decide +kernel
theorem dX8_many_36 : decode cX8_many 36 = .ok (.getfield 92, 3) := by decide +kernel
theorem dX8_many_39 : decode cX8_many 39 = .ok (.ireturn, 1) := by decide +kernel
theorem dX8_many_40 : decode cX8_many 40 = .ok (.aload_n 0, 1) := by decide +kernel
theorem dX8_many_41 : decode cX8_many 41 = .ok (.getfield 12, 3) := by decide +kernel
theorem dX8_many_44 : decode cX8_many 44 = .ok (.invokevirtual 136, 3) := by decide +kernel
theorem dX8_many_47 : decode cX8_many 47 = .ok (.invokestatic 139, 3) := by decide +kernel
theorem dX8_many_50 : decode cX8_many 50 = .ok (.ireturn, 1) := by decide +kernel
theorem dX8_many_51 : decode cX8_many 51 = .ok (.aload_n 0, 1) := by decide +kernel
theorem dX8_many_52 : decode cX8_many 52 = .ok (.getfield 82, 3) := by decide +kernel
theorem dX8_many_55 : decode cX8_many 55 = .ok (.ireturn, 1) := by decide +kernel
theorem dX8_many_56 : decode cX8_many 56 = .ok (.aload_n 0, 1) := by decide +kernel
theorem dX8_many_57 : decode cX8_many 57 = .ok (.getfield 27, 3) := by decide +kernel
theorem dX8_many_60 : decode cX8_many 60 = .ok (.getfield 85, 3) := by decide +kernel
theorem dX8_many_63 : decode cX8_many 63 = .ok (.ireturn, 1) := by decide +kernel
theorem dX8_many_64 : decode cX8_many 64 = .ok (.bipush (-2), 2) := by decide +kernel
theorem dX8_many_66 : decode cX8_many 66 = .ok (.ireturn, 1) := by decide +kernel
theorem dX8_isSheet_0 : decode cX8_isSheet 0 = .ok (.iload_n 0, 1) := by decide +kernel
theorem dX8_isSheet_1 : decode cX8_isSheet 1 = .ok (.ifCond .lt 12, 3) := by decide +kernel
theorem dX8_isSheet_4 : decode cX8_isSheet 4 = .ok (.iload_n 0, 1) := by decide +kernel
theorem dX8_isSheet_5 : decode cX8_isSheet 5 = .ok (.iconst 4, 1) := by decide +kernel
theorem dX8_isSheet_6 : decode cX8_isSheet 6 = .ok (.if_icmp .ge 7, 3) := by decide +kernel
theorem dX8_isSheet_9 : decode cX8_isSheet 9 = .ok (.iconst 1, 1) := by decide +kernel
theorem dX8_isSheet_10 : decode cX8_isSheet 10 = .ok (.goto 4, 3) := by decide +kernel
theorem dX8_isSheet_13 : decode cX8_isSheet 13 = .ok (.iconst 0, 1) := by decide +kernel
theorem dX8_isSheet_14 : decode cX8_isSheet 14 = .ok (.ireturn, 1) := by decide +kernel
theorem dX8_isLane_0 : decode cX8_isLane 0 = .ok (.iload_n 0, 1) := by decide +kernel
theorem dX8_isLane_1 : decode cX8_isLane 1 = .ok (.ifCond .lt 12, 3) := by decide +kernel
theorem dX8_isLane_4 : decode cX8_isLane 4 = .ok (.iload_n 0, 1) := by decide +kernel
theorem dX8_isLane_5 : decode cX8_isLane 5 = .ok (.iconst 3, 1) := by decide +kernel
theorem dX8_isLane_6 : decode cX8_isLane 6 = .ok (.if_icmp .ge 7, 3) := by decide +kernel
theorem dX8_isLane_9 : decode cX8_isLane 9 = .ok (.iconst 1, 1) := by decide +kernel
theorem dX8_isLane_10 : decode cX8_isLane 10 = .ok (.goto 4, 3) := by decide +kernel
theorem dX8_isLane_13 : decode cX8_isLane 13 = .ok (.iconst 0, 1) := by decide +kernel
theorem dX8_isLane_14 : decode cX8_isLane 14 = .ok (.ireturn, 1) := by decide +kernel
theorem dX8_isDigit_0 : decode cX8_isDigit 0 = .ok (.iload_n 0, 1) := by decide +kernel
theorem dX8_isDigit_1 : decode cX8_isDigit 1 = .ok (.ifCond .lt 13, 3) := by decide +kernel
theorem dX8_isDigit_4 : decode cX8_isDigit 4 = .ok (.iload_n 0, 1) := by decide +kernel
theorem dX8_isDigit_5 : decode cX8_isDigit 5 = .ok (.bipush 10, 2) := by decide +kernel
theorem dX8_isDigit_7 : decode cX8_isDigit 7 = .ok (.if_icmp .ge 7, 3) := by decide +kernel
theorem dX8_isDigit_10 : decode cX8_isDigit 10 = .ok (.iconst 1, 1) := by decide +kernel
theorem dX8_isDigit_11 : decode cX8_isDigit 11 = .ok (.goto 4, 3) := by decide +kernel
theorem dX8_isDigit_14 : decode cX8_isDigit 14 = .ok (.iconst 0, 1) := by decide +kernel
theorem dX8_isDigit_15 : decode cX8_isDigit 15 = .ok (.ireturn, 1) := by decide +kernel
theorem dX8_faulted_0 : decode cX8_faulted 0 = .ok (.aload_n 0, 1) := by decide +kernel
theorem dX8_faulted_1 : decode cX8_faulted 1 = .ok (.iload_n 1, 1) := by decide +kernel
theorem dX8_faulted_2 : decode cX8_faulted 2 = .ok (.putfield 53, 3) := by decide +kernel
theorem dX8_faulted_5 : decode cX8_faulted 5 = .ok (.bipush (-10), 2) := by decide +kernel
theorem dX8_faulted_7 : decode cX8_faulted 7 = .ok (.iload_n 1, 1) := by decide +kernel
theorem dX8_faulted_8 : decode cX8_faulted 8 = .ok (.isub, 1) := by decide +kernel
theorem dX8_faulted_9 : decode cX8_faulted 9 = .ok (.ireturn, 1) := by decide +kernel
theorem dX8_refusalOfRow_0 : decode cX8_refusalOfRow 0 = .ok (.aload_n 0, 1) := by decide +kernel
theorem dX8_refusalOfRow_1 : decode cX8_refusalOfRow 1 = .ok (.iconst 0, 1) := by decide +kernel
theorem dX8_refusalOfRow_2 : decode cX8_refusalOfRow 2 = .ok (.putfield 53, 3) := by decide +kernel
theorem dX8_refusalOfRow_5 : decode cX8_refusalOfRow 5 = .ok (.iload_n 1, 1) := by decide +kernel
theorem dX8_refusalOfRow_6 : decode cX8_refusalOfRow 6 = .ok (.invokestatic 57, 3) := by decide +kernel
theorem dX8_refusalOfRow_9 : decode cX8_refusalOfRow 9 = .ok (.ifCond .ne 5, 3) := by decide +kernel
theorem dX8_refusalOfRow_12 : decode cX8_refusalOfRow 12 = .ok (.iconst (-1), 1) := by decide +kernel
theorem dX8_refusalOfRow_13 : decode cX8_refusalOfRow 13 = .ok (.ireturn, 1) := by decide +kernel
theorem dX8_refusalOfRow_14 : decode cX8_refusalOfRow 14 = .ok (.iload_n 2, 1) := by decide +kernel
theorem dX8_refusalOfRow_15 : decode cX8_refusalOfRow 15 = .ok (.invokestatic 61, 3) := by decide +kernel
theorem dX8_refusalOfRow_18 : decode cX8_refusalOfRow 18 = .ok (.ifCond .eq 13, 3) := by decide +kernel
theorem dX8_refusalOfRow_21 : decode cX8_refusalOfRow 21 = .ok (.iload 4, 2) := by decide +kernel
theorem dX8_refusalOfRow_23 : decode cX8_refusalOfRow 23 = .ok (.ifCond .lt 8, 3) := by decide +kernel
theorem dX8_refusalOfRow_26 : decode cX8_refusalOfRow 26 = .ok (.iload 5, 2) := by decide +kernel
theorem dX8_refusalOfRow_28 : decode cX8_refusalOfRow 28 = .ok (.ifCond .ne 6, 3) := by decide +kernel
theorem dX8_refusalOfRow_31 : decode cX8_refusalOfRow 31 = .ok (.bipush (-2), 2) := by decide +kernel
theorem dX8_refusalOfRow_33 : decode cX8_refusalOfRow 33 = .ok (.ireturn, 1) := by decide +kernel
theorem dX8_refusalOfRow_34 : decode cX8_refusalOfRow 34 = .ok (.aload_n 0, 1) := by decide +kernel
theorem dX8_refusalOfRow_35 : decode cX8_refusalOfRow 35 = .ok (.getfield 20, 3) := by decide +kernel
theorem dX8_refusalOfRow_38 : decode cX8_refusalOfRow 38 = .ok (.iload_n 1, 1) := by decide +kernel
theorem dX8_refusalOfRow_39 : decode cX8_refusalOfRow 39 = .ok (.aaload, 1) := by decide +kernel
theorem dX8_refusalOfRow_40 : decode cX8_refusalOfRow 40 = .ok (.iload_n 2, 1) := by decide +kernel
theorem dX8_refusalOfRow_41 : decode cX8_refusalOfRow 41 = .ok (.iload_n 3, 1) := by decide +kernel
theorem dX8_refusalOfRow_42 : decode cX8_refusalOfRow 42 = .ok (.iconst 2, 1) := by decide +kernel
theorem dX8_refusalOfRow_43 : decode cX8_refusalOfRow 43 = .ok (.iload 4, 2) := by decide +kernel
theorem dX8_refusalOfRow_45 : decode cX8_refusalOfRow 45 = .ok (.imul, 1) := by decide +kernel
theorem dX8_refusalOfRow_46 : decode cX8_refusalOfRow 46 = .ok (.invokevirtual 64, 3) := by decide +kernel
theorem dX8_refusalOfRow_49 : decode cX8_refusalOfRow 49 = .ok (.istore 6, 2) := by decide +kernel
theorem dX8_refusalOfRow_51 : decode cX8_refusalOfRow 51 = .ok (.iload 6, 2) := by decide +kernel
theorem dX8_refusalOfRow_53 : decode cX8_refusalOfRow 53 = .ok (.ifCond .eq 10, 3) := by decide +kernel
theorem dX8_refusalOfRow_56 : decode cX8_refusalOfRow 56 = .ok (.aload_n 0, 1) := by decide +kernel
theorem dX8_refusalOfRow_57 : decode cX8_refusalOfRow 57 = .ok (.iload 6, 2) := by decide +kernel
theorem dX8_refusalOfRow_59 : decode cX8_refusalOfRow 59 = .ok (.invokevirtual 68, 3) := by decide +kernel
theorem dX8_refusalOfRow_62 : decode cX8_refusalOfRow 62 = .ok (.ireturn, 1) := by decide +kernel
theorem dX8_refusalOfRow_63 : decode cX8_refusalOfRow 63 = .ok (.aload_n 0, 1) := by decide +kernel
theorem dX8_refusalOfRow_64 : decode cX8_refusalOfRow 64 = .ok (.getfield 12, 3) := by decide +kernel
theorem dX8_refusalOfRow_67 : decode cX8_refusalOfRow 67 = .ok (.getfield 92, 3) := by decide +kernel
theorem dX8_refusalOfRow_70 : decode cX8_refusalOfRow 70 = .ok (.ifCond .ne 8, 3) := by decide +kernel
theorem dX8_refusalOfRow_73 : decode cX8_refusalOfRow 73 = .ok (.bipush (-3), 2) := by decide +kernel
theorem dX8_refusalOfRow_75 : decode cX8_refusalOfRow 75 = .ok (.goto 4, 3) := by decide +kernel
theorem dX8_refusalOfRow_78 : decode cX8_refusalOfRow 78 = .ok (.iconst 0, 1) := by decide +kernel
theorem dX8_refusalOfRow_79 : decode cX8_refusalOfRow 79 = .ok (.ireturn, 1) := by decide +kernel
theorem dX8_refusalOfActs_0 : decode cX8_refusalOfActs 0 = .ok (.iconst 0, 1) := by decide +kernel
theorem dX8_refusalOfActs_1 : decode cX8_refusalOfActs 1 = .ok (.istore 4, 2) := by decide +kernel
theorem dX8_refusalOfActs_3 : decode cX8_refusalOfActs 3 = .ok (.iload 4, 2) := by decide +kernel
theorem dX8_refusalOfActs_5 : decode cX8_refusalOfActs 5 = .ok (.iload_n 3, 1) := by decide +kernel
theorem dX8_refusalOfActs_6 : decode cX8_refusalOfActs 6 = .ok (.if_icmp .ge 52, 3) := by decide +kernel
theorem dX8_refusalOfActs_9 : decode cX8_refusalOfActs 9 = .ok (.aload_n 1, 1) := by decide +kernel
theorem dX8_refusalOfActs_10 : decode cX8_refusalOfActs 10 = .ok (.iload_n 2, 1) := by decide +kernel
theorem dX8_refusalOfActs_11 : decode cX8_refusalOfActs 11 = .ok (.iconst 2, 1) := by decide +kernel
theorem dX8_refusalOfActs_12 : decode cX8_refusalOfActs 12 = .ok (.iload 4, 2) := by decide +kernel
theorem dX8_refusalOfActs_14 : decode cX8_refusalOfActs 14 = .ok (.imul, 1) := by decide +kernel
theorem dX8_refusalOfActs_15 : decode cX8_refusalOfActs 15 = .ok (.iadd, 1) := by decide +kernel
theorem dX8_refusalOfActs_16 : decode cX8_refusalOfActs 16 = .ok (.iconst 1, 1) := by decide +kernel
theorem dX8_refusalOfActs_17 : decode cX8_refusalOfActs 17 = .ok (.iadd, 1) := by decide +kernel
theorem dX8_refusalOfActs_18 : decode cX8_refusalOfActs 18 = .ok (.invokevirtual 219, 3) := by decide +kernel
theorem dX8_refusalOfActs_21 : decode cX8_refusalOfActs 21 = .ok (.invokestatic 257, 3) := by decide +kernel
theorem dX8_refusalOfActs_24 : decode cX8_refusalOfActs 24 = .ok (.ifCond .ne 6, 3) := by decide +kernel
theorem dX8_refusalOfActs_27 : decode cX8_refusalOfActs 27 = .ok (.bipush (-2), 2) := by decide +kernel
theorem dX8_refusalOfActs_29 : decode cX8_refusalOfActs 29 = .ok (.ireturn, 1) := by decide +kernel
theorem dX8_refusalOfActs_30 : decode cX8_refusalOfActs 30 = .ok (.aload_n 0, 1) := by decide +kernel
theorem dX8_refusalOfActs_31 : decode cX8_refusalOfActs 31 = .ok (.getfield 12, 3) := by decide +kernel
theorem dX8_refusalOfActs_34 : decode cX8_refusalOfActs 34 = .ok (.aload_n 1, 1) := by decide +kernel
theorem dX8_refusalOfActs_35 : decode cX8_refusalOfActs 35 = .ok (.iload_n 2, 1) := by decide +kernel
theorem dX8_refusalOfActs_36 : decode cX8_refusalOfActs 36 = .ok (.iconst 2, 1) := by decide +kernel
theorem dX8_refusalOfActs_37 : decode cX8_refusalOfActs 37 = .ok (.iload 4, 2) := by decide +kernel
theorem dX8_refusalOfActs_39 : decode cX8_refusalOfActs 39 = .ok (.imul, 1) := by decide +kernel
theorem dX8_refusalOfActs_40 : decode cX8_refusalOfActs 40 = .ok (.iadd, 1) := by decide +kernel
theorem dX8_refusalOfActs_41 : decode cX8_refusalOfActs 41 = .ok (.invokevirtual 219, 3) := by decide +kernel
theorem dX8_refusalOfActs_44 : decode cX8_refusalOfActs 44 = .ok (.invokevirtual 93, 3) := by decide +kernel
theorem dX8_refusalOfActs_47 : decode cX8_refusalOfActs 47 = .ok (.ifCond .ne 5, 3) := by decide +kernel
theorem dX8_refusalOfActs_50 : decode cX8_refusalOfActs 50 = .ok (.iconst (-1), 1) := by decide +kernel
theorem dX8_refusalOfActs_51 : decode cX8_refusalOfActs 51 = .ok (.ireturn, 1) := by decide +kernel
theorem dX8_refusalOfActs_52 : decode cX8_refusalOfActs 52 = .ok (.iinc 4 1, 3) := by decide +kernel
theorem dX8_refusalOfActs_55 : decode cX8_refusalOfActs 55 = .ok (.goto (-52), 3) := by decide +kernel
theorem dX8_refusalOfActs_58 : decode cX8_refusalOfActs 58 = .ok (.iconst 0, 1) := by decide +kernel
theorem dX8_refusalOfActs_59 : decode cX8_refusalOfActs 59 = .ok (.ireturn, 1) := by decide +kernel
theorem dX8_refusalOfTwos_0 : decode cX8_refusalOfTwos 0 = .ok (.aload_n 0, 1) := by decide +kernel
theorem dX8_refusalOfTwos_1 : decode cX8_refusalOfTwos 1 = .ok (.iload_n 1, 1) := by decide +kernel
theorem dX8_refusalOfTwos_2 : decode cX8_refusalOfTwos 2 = .ok (.iload_n 2, 1) := by decide +kernel
theorem dX8_refusalOfTwos_3 : decode cX8_refusalOfTwos 3 = .ok (.iload_n 3, 1) := by decide +kernel
theorem dX8_refusalOfTwos_4 : decode cX8_refusalOfTwos 4 = .ok (.iload 4, 2) := by decide +kernel
theorem dX8_refusalOfTwos_6 : decode cX8_refusalOfTwos 6 = .ok (.iload 5, 2) := by decide +kernel
theorem dX8_refusalOfTwos_8 : decode cX8_refusalOfTwos 8 = .ok (.ifCond .eq 14, 3) := by decide +kernel
theorem dX8_refusalOfTwos_11 : decode cX8_refusalOfTwos 11 = .ok (.iload 4, 2) := by decide +kernel
theorem dX8_refusalOfTwos_13 : decode cX8_refusalOfTwos 13 = .ok (.bipush 10, 2) := by decide +kernel
theorem dX8_refusalOfTwos_15 : decode cX8_refusalOfTwos 15 = .ok (.if_icmp .gt 7, 3) := by decide +kernel
theorem dX8_refusalOfTwos_18 : decode cX8_refusalOfTwos 18 = .ok (.iconst 1, 1) := by decide +kernel
theorem dX8_refusalOfTwos_19 : decode cX8_refusalOfTwos 19 = .ok (.goto 4, 3) := by decide +kernel
theorem dX8_refusalOfTwos_22 : decode cX8_refusalOfTwos 22 = .ok (.iconst 0, 1) := by decide +kernel
theorem dX8_refusalOfTwos_23 : decode cX8_refusalOfTwos 23 = .ok (.invokevirtual 144, 3) := by decide +kernel
theorem dX8_refusalOfTwos_26 : decode cX8_refusalOfTwos 26 = .ok (.istore 6, 2) := by decide +kernel
theorem dX8_refusalOfTwos_28 : decode cX8_refusalOfTwos 28 = .ok (.iload 6, 2) := by decide +kernel
theorem dX8_refusalOfTwos_30 : decode cX8_refusalOfTwos 30 = .ok (.ifCond .eq 6, 3) := by decide +kernel
theorem dX8_refusalOfTwos_33 : decode cX8_refusalOfTwos 33 = .ok (.iload 6, 2) := by decide +kernel
theorem dX8_refusalOfTwos_35 : decode cX8_refusalOfTwos 35 = .ok (.ireturn, 1) := by decide +kernel
theorem dX8_refusalOfTwos_36 : decode cX8_refusalOfTwos 36 = .ok (.aload_n 0, 1) := by decide +kernel
theorem dX8_refusalOfTwos_37 : decode cX8_refusalOfTwos 37 = .ok (.getfield 20, 3) := by decide +kernel
theorem dX8_refusalOfTwos_40 : decode cX8_refusalOfTwos 40 = .ok (.iload_n 1, 1) := by decide +kernel
theorem dX8_refusalOfTwos_41 : decode cX8_refusalOfTwos 41 = .ok (.aaload, 1) := by decide +kernel
theorem dX8_refusalOfTwos_42 : decode cX8_refusalOfTwos 42 = .ok (.astore 7, 2) := by decide +kernel
theorem dX8_refusalOfTwos_44 : decode cX8_refusalOfTwos 44 = .ok (.iconst 0, 1) := by decide +kernel
theorem dX8_refusalOfTwos_45 : decode cX8_refusalOfTwos 45 = .ok (.istore 8, 2) := by decide +kernel
theorem dX8_refusalOfTwos_47 : decode cX8_refusalOfTwos 47 = .ok (.iload 8, 2) := by decide +kernel
theorem dX8_refusalOfTwos_49 : decode cX8_refusalOfTwos 49 = .ok (.iload 4, 2) := by decide +kernel
theorem dX8_refusalOfTwos_51 : decode cX8_refusalOfTwos 51 = .ok (.if_icmp .ge 45, 3) := by decide +kernel
theorem dX8_refusalOfTwos_54 : decode cX8_refusalOfTwos 54 = .ok (.aload_n 0, 1) := by decide +kernel
theorem dX8_refusalOfTwos_55 : decode cX8_refusalOfTwos 55 = .ok (.getfield 12, 3) := by decide +kernel
theorem dX8_refusalOfTwos_58 : decode cX8_refusalOfTwos 58 = .ok (.aload 7, 2) := by decide +kernel
theorem dX8_refusalOfTwos_60 : decode cX8_refusalOfTwos 60 = .ok (.iload_n 3, 1) := by decide +kernel
theorem dX8_refusalOfTwos_61 : decode cX8_refusalOfTwos 61 = .ok (.iconst 2, 1) := by decide +kernel
theorem dX8_refusalOfTwos_62 : decode cX8_refusalOfTwos 62 = .ok (.iload 8, 2) := by decide +kernel
theorem dX8_refusalOfTwos_64 : decode cX8_refusalOfTwos 64 = .ok (.imul, 1) := by decide +kernel
theorem dX8_refusalOfTwos_65 : decode cX8_refusalOfTwos 65 = .ok (.iadd, 1) := by decide +kernel
theorem dX8_refusalOfTwos_66 : decode cX8_refusalOfTwos 66 = .ok (.invokevirtual 219, 3) := by decide +kernel
theorem dX8_refusalOfTwos_69 : decode cX8_refusalOfTwos 69 = .ok (.aload 7, 2) := by decide +kernel
theorem dX8_refusalOfTwos_71 : decode cX8_refusalOfTwos 71 = .ok (.iload_n 3, 1) := by decide +kernel
theorem dX8_refusalOfTwos_72 : decode cX8_refusalOfTwos 72 = .ok (.iconst 2, 1) := by decide +kernel
theorem dX8_refusalOfTwos_73 : decode cX8_refusalOfTwos 73 = .ok (.iload 8, 2) := by decide +kernel
theorem dX8_refusalOfTwos_75 : decode cX8_refusalOfTwos 75 = .ok (.imul, 1) := by decide +kernel
theorem dX8_refusalOfTwos_76 : decode cX8_refusalOfTwos 76 = .ok (.iadd, 1) := by decide +kernel
theorem dX8_refusalOfTwos_77 : decode cX8_refusalOfTwos 77 = .ok (.iconst 1, 1) := by decide +kernel
theorem dX8_refusalOfTwos_78 : decode cX8_refusalOfTwos 78 = .ok (.iadd, 1) := by decide +kernel
theorem dX8_refusalOfTwos_79 : decode cX8_refusalOfTwos 79 = .ok (.invokevirtual 219, 3) := by decide +kernel
theorem dX8_refusalOfTwos_82 : decode cX8_refusalOfTwos 82 = .ok (.invokevirtual 119, 3) := by decide +kernel
theorem dX8_refusalOfTwos_85 : decode cX8_refusalOfTwos 85 = .ok (.ifCond .ne 5, 3) := by decide +kernel
theorem dX8_refusalOfTwos_88 : decode cX8_refusalOfTwos 88 = .ok (.iconst (-1), 1) := by decide +kernel
theorem dX8_refusalOfTwos_89 : decode cX8_refusalOfTwos 89 = .ok (.ireturn, 1) := by decide +kernel
theorem dX8_refusalOfTwos_90 : decode cX8_refusalOfTwos 90 = .ok (.iinc 8 1, 3) := by decide +kernel
theorem dX8_refusalOfTwos_93 : decode cX8_refusalOfTwos 93 = .ok (.goto (-46), 3) := by decide +kernel
theorem dX8_refusalOfTwos_96 : decode cX8_refusalOfTwos 96 = .ok (.iconst 0, 1) := by decide +kernel
theorem dX8_refusalOfTwos_97 : decode cX8_refusalOfTwos 97 = .ok (.ireturn, 1) := by decide +kernel
theorem dX8_changed_0 : decode cX8_changed 0 = .ok (.aload_n 0, 1) := by decide +kernel
theorem dX8_changed_1 : decode cX8_changed 1 = .ok (.getfield 12, 3) := by decide +kernel
theorem dX8_changed_4 : decode cX8_changed 4 = .ok (.iload_n 1, 1) := by decide +kernel
theorem dX8_changed_5 : decode cX8_changed 5 = .ok (.invokevirtual 93, 3) := by decide +kernel
theorem dX8_changed_8 : decode cX8_changed 8 = .ok (.ifCond .ne 5, 3) := by decide +kernel
theorem dX8_changed_11 : decode cX8_changed 11 = .ok (.iconst (-1), 1) := by decide +kernel
theorem dX8_changed_12 : decode cX8_changed 12 = .ok (.ireturn, 1) := by decide +kernel
theorem dX8_changed_13 : decode cX8_changed 13 = .ok (.iload_n 3, 1) := by decide +kernel
theorem dX8_changed_14 : decode cX8_changed 14 = .ok (.invokestatic 260, 3) := by decide +kernel
theorem dX8_changed_17 : decode cX8_changed 17 = .ok (.ifCond .ne 6, 3) := by decide +kernel
theorem dX8_changed_20 : decode cX8_changed 20 = .ok (.bipush (-2), 2) := by decide +kernel
theorem dX8_changed_22 : decode cX8_changed 22 = .ok (.ireturn, 1) := by decide +kernel
theorem dX8_changed_23 : decode cX8_changed 23 = .ok (.aload_n 0, 1) := by decide +kernel
theorem dX8_changed_24 : decode cX8_changed 24 = .ok (.getfield 12, 3) := by decide +kernel
theorem dX8_changed_27 : decode cX8_changed 27 = .ok (.getfield 96, 3) := by decide +kernel
theorem dX8_changed_30 : decode cX8_changed 30 = .ok (.iload_n 1, 1) := by decide +kernel
theorem dX8_changed_31 : decode cX8_changed 31 = .ok (.aaload, 1) := by decide +kernel
theorem dX8_changed_32 : decode cX8_changed 32 = .ok (.iload_n 2, 1) := by decide +kernel
theorem dX8_changed_33 : decode cX8_changed 33 = .ok (.invokevirtual 100, 3) := by decide +kernel
theorem dX8_changed_36 : decode cX8_changed 36 = .ok (.istore 4, 2) := by decide +kernel
theorem dX8_changed_38 : decode cX8_changed 38 = .ok (.aload_n 0, 1) := by decide +kernel
theorem dX8_changed_39 : decode cX8_changed 39 = .ok (.getfield 12, 3) := by decide +kernel
theorem dX8_changed_42 : decode cX8_changed 42 = .ok (.getfield 96, 3) := by decide +kernel
theorem dX8_changed_45 : decode cX8_changed 45 = .ok (.iload_n 1, 1) := by decide +kernel
theorem dX8_changed_46 : decode cX8_changed 46 = .ok (.aaload, 1) := by decide +kernel
theorem dX8_changed_47 : decode cX8_changed 47 = .ok (.iload_n 2, 1) := by decide +kernel
theorem dX8_changed_48 : decode cX8_changed 48 = .ok (.iload_n 3, 1) := by decide +kernel
theorem dX8_changed_49 : decode cX8_changed 49 = .ok (.invokevirtual 263, 3) := by decide +kernel
theorem dX8_changed_52 : decode cX8_changed 52 = .ok (.iload 4, 2) := by decide +kernel
theorem dX8_changed_54 : decode cX8_changed 54 = .ok (.ireturn, 1) := by decide +kernel
theorem dX8_agreeing_0 : decode cX8_agreeing 0 = .ok (.aload_n 0, 1) := by decide +kernel
theorem dX8_agreeing_1 : decode cX8_agreeing 1 = .ok (.getfield 12, 3) := by decide +kernel
theorem dX8_agreeing_4 : decode cX8_agreeing 4 = .ok (.iload_n 1, 1) := by decide +kernel
theorem dX8_agreeing_5 : decode cX8_agreeing 5 = .ok (.invokevirtual 93, 3) := by decide +kernel
theorem dX8_agreeing_8 : decode cX8_agreeing 8 = .ok (.ifCond .ne 5, 3) := by decide +kernel
theorem dX8_agreeing_11 : decode cX8_agreeing 11 = .ok (.iconst (-1), 1) := by decide +kernel
theorem dX8_agreeing_12 : decode cX8_agreeing 12 = .ok (.ireturn, 1) := by decide +kernel
theorem dX8_agreeing_13 : decode cX8_agreeing 13 = .ok (.aload_n 0, 1) := by decide +kernel
theorem dX8_agreeing_14 : decode cX8_agreeing 14 = .ok (.getfield 12, 3) := by decide +kernel
theorem dX8_agreeing_17 : decode cX8_agreeing 17 = .ok (.getfield 96, 3) := by decide +kernel
theorem dX8_agreeing_20 : decode cX8_agreeing 20 = .ok (.iload_n 1, 1) := by decide +kernel
theorem dX8_agreeing_21 : decode cX8_agreeing 21 = .ok (.aaload, 1) := by decide +kernel
theorem dX8_agreeing_22 : decode cX8_agreeing 22 = .ok (.astore 4, 2) := by decide +kernel
theorem dX8_agreeing_24 : decode cX8_agreeing 24 = .ok (.aload 4, 2) := by decide +kernel
theorem dX8_agreeing_26 : decode cX8_agreeing 26 = .ok (.iload_n 2, 1) := by decide +kernel
theorem dX8_agreeing_27 : decode cX8_agreeing 27 = .ok (.invokevirtual 100, 3) := by decide +kernel
theorem dX8_agreeing_30 : decode cX8_agreeing 30 = .ok (.istore 5, 2) := by decide +kernel
theorem dX8_agreeing_32 : decode cX8_agreeing 32 = .ok (.iconst 0, 1) := by decide +kernel
theorem dX8_agreeing_33 : decode cX8_agreeing 33 = .ok (.istore 6, 2) := by decide +kernel
theorem dX8_agreeing_35 : decode cX8_agreeing 35 = .ok (.iconst 0, 1) := by decide +kernel
theorem dX8_agreeing_36 : decode cX8_agreeing 36 = .ok (.istore 7, 2) := by decide +kernel
theorem dX8_agreeing_38 : decode cX8_agreeing 38 = .ok (.iload 7, 2) := by decide +kernel
theorem dX8_agreeing_40 : decode cX8_agreeing 40 = .ok (.iload_n 3, 1) := by decide +kernel
theorem dX8_agreeing_41 : decode cX8_agreeing 41 = .ok (.if_icmp .ge 40, 3) := by decide +kernel
theorem dX8_agreeing_44 : decode cX8_agreeing 44 = .ok (.aload 4, 2) := by decide +kernel
theorem dX8_agreeing_46 : decode cX8_agreeing 46 = .ok (.iload_n 2, 1) := by decide +kernel
theorem dX8_agreeing_47 : decode cX8_agreeing 47 = .ok (.iload 7, 2) := by decide +kernel
theorem dX8_agreeing_49 : decode cX8_agreeing 49 = .ok (.invokevirtual 263, 3) := by decide +kernel
theorem dX8_agreeing_52 : decode cX8_agreeing 52 = .ok (.aload_n 0, 1) := by decide +kernel
theorem dX8_agreeing_53 : decode cX8_agreeing 53 = .ok (.getfield 27, 3) := by decide +kernel
theorem dX8_agreeing_56 : decode cX8_agreeing 56 = .ok (.aload_n 0, 1) := by decide +kernel
theorem dX8_agreeing_57 : decode cX8_agreeing 57 = .ok (.getfield 12, 3) := by decide +kernel
theorem dX8_agreeing_60 : decode cX8_agreeing 60 = .ok (.invokevirtual 266, 3) := by decide +kernel
theorem dX8_agreeing_63 : decode cX8_agreeing 63 = .ok (.ifCond .eq 12, 3) := by decide +kernel
theorem dX8_agreeing_66 : decode cX8_agreeing 66 = .ok (.iload 6, 2) := by decide +kernel
theorem dX8_agreeing_68 : decode cX8_agreeing 68 = .ok (.iconst 1, 1) := by decide +kernel
theorem dX8_agreeing_69 : decode cX8_agreeing 69 = .ok (.iload 7, 2) := by decide +kernel
theorem dX8_agreeing_71 : decode cX8_agreeing 71 = .ok (.ishl, 1) := by decide +kernel
theorem dX8_agreeing_72 : decode cX8_agreeing 72 = .ok (.ior, 1) := by decide +kernel
theorem dX8_agreeing_73 : decode cX8_agreeing 73 = .ok (.istore 6, 2) := by decide +kernel
theorem dX8_agreeing_75 : decode cX8_agreeing 75 = .ok (.iinc 7 1, 3) := by decide +kernel
theorem dX8_agreeing_78 : decode cX8_agreeing 78 = .ok (.goto (-40), 3) := by decide +kernel
theorem dX8_agreeing_81 : decode cX8_agreeing 81 = .ok (.aload 4, 2) := by decide +kernel
theorem dX8_agreeing_83 : decode cX8_agreeing 83 = .ok (.iload_n 2, 1) := by decide +kernel
theorem dX8_agreeing_84 : decode cX8_agreeing 84 = .ok (.iload 5, 2) := by decide +kernel
theorem dX8_agreeing_86 : decode cX8_agreeing 86 = .ok (.invokevirtual 263, 3) := by decide +kernel
theorem dX8_agreeing_89 : decode cX8_agreeing 89 = .ok (.iload 6, 2) := by decide +kernel
theorem dX8_agreeing_91 : decode cX8_agreeing 91 = .ok (.ireturn, 1) := by decide +kernel
theorem dX8_waysToWin_0 : decode cX8_waysToWin 0 = .ok (.aload_n 1, 1) := by decide +kernel
theorem dX8_waysToWin_1 : decode cX8_waysToWin 1 = .ok (.invokevirtual 109, 3) := by decide +kernel
theorem dX8_waysToWin_4 : decode cX8_waysToWin 4 = .ok (.istore_n 2, 1) := by decide +kernel
theorem dX8_waysToWin_5 : decode cX8_waysToWin 5 = .ok (.aload_n 1, 1) := by decide +kernel
theorem dX8_waysToWin_6 : decode cX8_waysToWin 6 = .ok (.invokevirtual 105, 3) := by decide +kernel
theorem dX8_waysToWin_9 : decode cX8_waysToWin 9 = .ok (.istore_n 3, 1) := by decide +kernel
theorem dX8_waysToWin_10 : decode cX8_waysToWin 10 = .ok (.iconst 0, 1) := by decide +kernel
theorem dX8_waysToWin_11 : decode cX8_waysToWin 11 = .ok (.istore 4, 2) := by decide +kernel
theorem dX8_waysToWin_13 : decode cX8_waysToWin 13 = .ok (.aload_n 0, 1) := by decide +kernel
theorem dX8_waysToWin_14 : decode cX8_waysToWin 14 = .ok (.invokevirtual 109, 3) := by decide +kernel
theorem dX8_waysToWin_17 : decode cX8_waysToWin 17 = .ok (.istore 5, 2) := by decide +kernel
theorem dX8_waysToWin_19 : decode cX8_waysToWin 19 = .ok (.iload 5, 2) := by decide +kernel
theorem dX8_waysToWin_21 : decode cX8_waysToWin 21 = .ok (.aload_n 0, 1) := by decide +kernel
theorem dX8_waysToWin_22 : decode cX8_waysToWin 22 = .ok (.invokevirtual 105, 3) := by decide +kernel
theorem dX8_waysToWin_25 : decode cX8_waysToWin 25 = .ok (.if_icmp .gt 30, 3) := by decide +kernel
theorem dX8_waysToWin_28 : decode cX8_waysToWin 28 = .ok (.iload 4, 2) := by decide +kernel
theorem dX8_waysToWin_30 : decode cX8_waysToWin 30 = .ok (.iconst 0, 1) := by decide +kernel
theorem dX8_waysToWin_31 : decode cX8_waysToWin 31 = .ok (.iload 5, 2) := by decide +kernel
theorem dX8_waysToWin_33 : decode cX8_waysToWin 33 = .ok (.iconst 1, 1) := by decide +kernel
theorem dX8_waysToWin_34 : decode cX8_waysToWin 34 = .ok (.isub, 1) := by decide +kernel
theorem dX8_waysToWin_35 : decode cX8_waysToWin 35 = .ok (.iload_n 3, 1) := by decide +kernel
theorem dX8_waysToWin_36 : decode cX8_waysToWin 36 = .ok (.invokestatic 158, 3) := by decide +kernel
theorem dX8_waysToWin_39 : decode cX8_waysToWin 39 = .ok (.iload_n 2, 1) := by decide +kernel
theorem dX8_waysToWin_40 : decode cX8_waysToWin 40 = .ok (.isub, 1) := by decide +kernel
theorem dX8_waysToWin_41 : decode cX8_waysToWin 41 = .ok (.iconst 1, 1) := by decide +kernel
theorem dX8_waysToWin_42 : decode cX8_waysToWin 42 = .ok (.iadd, 1) := by decide +kernel
theorem dX8_waysToWin_43 : decode cX8_waysToWin 43 = .ok (.invokestatic 164, 3) := by decide +kernel
theorem dX8_waysToWin_46 : decode cX8_waysToWin 46 = .ok (.iadd, 1) := by decide +kernel
theorem dX8_waysToWin_47 : decode cX8_waysToWin 47 = .ok (.istore 4, 2) := by decide +kernel
theorem dX8_waysToWin_49 : decode cX8_waysToWin 49 = .ok (.iinc 5 1, 3) := by decide +kernel
theorem dX8_waysToWin_52 : decode cX8_waysToWin 52 = .ok (.goto (-33), 3) := by decide +kernel
theorem dX8_waysToWin_55 : decode cX8_waysToWin 55 = .ok (.iload 4, 2) := by decide +kernel
theorem dX8_waysToWin_57 : decode cX8_waysToWin 57 = .ok (.ireturn, 1) := by decide +kernel
theorem dX8_mark_0 : decode cX8_mark 0 = .ok (.aload_n 0, 1) := by decide +kernel
theorem dX8_mark_1 : decode cX8_mark 1 = .ok (.bipush 31, 2) := by decide +kernel
theorem dX8_mark_3 : decode cX8_mark 3 = .ok (.aload_n 0, 1) := by decide +kernel
theorem dX8_mark_4 : decode cX8_mark 4 = .ok (.getfield 254, 3) := by decide +kernel
theorem dX8_mark_7 : decode cX8_mark 7 = .ok (.imul, 1) := by decide +kernel
theorem dX8_mark_8 : decode cX8_mark 8 = .ok (.iload_n 1, 1) := by decide +kernel
theorem dX8_mark_9 : decode cX8_mark 9 = .ok (.iadd, 1) := by decide +kernel
theorem dX8_mark_10 : decode cX8_mark 10 = .ok (.putfield 254, 3) := by decide +kernel
theorem dX8_mark_13 : decode cX8_mark 13 = .ok (.return_, 1) := by decide +kernel
theorem dX8_tellPlayer_0 : decode cX8_tellPlayer 0 = .ok (.aload_n 0, 1) := by decide +kernel
theorem dX8_tellPlayer_1 : decode cX8_tellPlayer 1 = .ok (.iconst 1, 1) := by decide +kernel
theorem dX8_tellPlayer_2 : decode cX8_tellPlayer 2 = .ok (.invokevirtual 248, 3) := by decide +kernel
theorem dX8_tellPlayer_5 : decode cX8_tellPlayer 5 = .ok (.aload_n 1, 1) := by decide +kernel
theorem dX8_tellPlayer_6 : decode cX8_tellPlayer 6 = .ok (.getfield 270, 3) := by decide +kernel
theorem dX8_tellPlayer_9 : decode cX8_tellPlayer 9 = .ok (.ireturn, 1) := by decide +kernel
theorem dX8_tellLefty_0 : decode cX8_tellLefty 0 = .ok (.aload_n 0, 1) := by decide +kernel
theorem dX8_tellLefty_1 : decode cX8_tellLefty 1 = .ok (.iconst 2, 1) := by decide +kernel
theorem dX8_tellLefty_2 : decode cX8_tellLefty 2 = .ok (.invokevirtual 248, 3) := by decide +kernel
theorem dX8_tellLefty_5 : decode cX8_tellLefty 5 = .ok (.aload_n 0, 1) := by decide +kernel
theorem dX8_tellLefty_6 : decode cX8_tellLefty 6 = .ok (.aload_n 1, 1) := by decide +kernel
theorem dX8_tellLefty_7 : decode cX8_tellLefty 7 = .ok (.invokevirtual 245, 3) := by decide +kernel
theorem dX8_tellLefty_10 : decode cX8_tellLefty 10 = .ok (.bipush 100, 2) := by decide +kernel
theorem dX8_tellLefty_12 : decode cX8_tellLefty 12 = .ok (.iadd, 1) := by decide +kernel
theorem dX8_tellLefty_13 : decode cX8_tellLefty 13 = .ok (.ireturn, 1) := by decide +kernel
theorem dX8_tellChampion_0 : decode cX8_tellChampion 0 = .ok (.aload_n 0, 1) := by decide +kernel
theorem dX8_tellChampion_1 : decode cX8_tellChampion 1 = .ok (.iconst 3, 1) := by decide +kernel
theorem dX8_tellChampion_2 : decode cX8_tellChampion 2 = .ok (.invokevirtual 248, 3) := by decide +kernel
theorem dX8_tellChampion_5 : decode cX8_tellChampion 5 = .ok (.aload_n 0, 1) := by decide +kernel
theorem dX8_tellChampion_6 : decode cX8_tellChampion 6 = .ok (.aload_n 1, 1) := by decide +kernel
theorem dX8_tellChampion_7 : decode cX8_tellChampion 7 = .ok (.invokevirtual 242, 3) := by decide +kernel
theorem dX8_tellChampion_10 : decode cX8_tellChampion 10 = .ok (.istore_n 2, 1) := by decide +kernel
theorem dX8_tellChampion_11 : decode cX8_tellChampion 11 = .ok (.iload_n 2, 1) := by decide +kernel
theorem dX8_tellChampion_12 : decode cX8_tellChampion 12 = .ok (.aload_n 0, 1) := by decide +kernel
theorem dX8_tellChampion_13 : decode cX8_tellChampion 13 = .ok (.aload_n 1, 1) := by decide +kernel
theorem dX8_tellChampion_14 : decode cX8_tellChampion 14 = .ok (.invokevirtual 245, 3) := by decide +kernel
theorem dX8_tellChampion_17 : decode cX8_tellChampion 17 = .ok (.iadd, 1) := by decide +kernel
theorem dX8_tellChampion_18 : decode cX8_tellChampion 18 = .ok (.ireturn, 1) := by decide +kernel
theorem dX9_init_0 : decode cX9_init 0 = .ok (.aload_n 0, 1) := by decide +kernel
theorem dX9_init_1 : decode cX9_init 1 = .ok (.invokespecial 1, 3) := by decide +kernel
theorem dX9_init_4 : decode cX9_init 4 = .ok (.aload_n 0, 1) := by decide +kernel
theorem dX9_init_5 : decode cX9_init 5 = .ok (.iconst 4, 1) := by decide +kernel
theorem dX9_init_6 : decode cX9_init 6 = .ok (.newarray .int, 2) := by decide +kernel
theorem dX9_init_8 : decode cX9_init 8 = .ok (.dup, 1) := by decide +kernel
theorem dX9_init_9 : decode cX9_init 9 = .ok (.iconst 0, 1) := by decide +kernel
theorem dX9_init_10 : decode cX9_init 10 = .ok (.bipush (-9), 2) := by decide +kernel
theorem dX9_init_12 : decode cX9_init 12 = .ok (.iastore, 1) := by decide +kernel
theorem dX9_init_13 : decode cX9_init 13 = .ok (.dup, 1) := by decide +kernel
theorem dX9_init_14 : decode cX9_init 14 = .ok (.iconst 1, 1) := by decide +kernel
theorem dX9_init_15 : decode cX9_init 15 = .ok (.bipush (-9), 2) := by decide +kernel
theorem dX9_init_17 : decode cX9_init 17 = .ok (.iastore, 1) := by decide +kernel
theorem dX9_init_18 : decode cX9_init 18 = .ok (.dup, 1) := by decide +kernel
theorem dX9_init_19 : decode cX9_init 19 = .ok (.iconst 2, 1) := by decide +kernel
theorem dX9_init_20 : decode cX9_init 20 = .ok (.bipush (-9), 2) := by decide +kernel
theorem dX9_init_22 : decode cX9_init 22 = .ok (.iastore, 1) := by decide +kernel
theorem dX9_init_23 : decode cX9_init 23 = .ok (.dup, 1) := by decide +kernel
theorem dX9_init_24 : decode cX9_init 24 = .ok (.iconst 3, 1) := by decide +kernel
theorem dX9_init_25 : decode cX9_init 25 = .ok (.bipush (-9), 2) := by decide +kernel
theorem dX9_init_27 : decode cX9_init 27 = .ok (.iastore, 1) := by decide +kernel
theorem dX9_init_28 : decode cX9_init 28 = .ok (.putfield 9, 3) := by decide +kernel
theorem dX9_init_31 : decode cX9_init 31 = .ok (.aload_n 0, 1) := by decide +kernel
theorem dX9_init_32 : decode cX9_init 32 = .ok (.iconst 4, 1) := by decide +kernel
theorem dX9_init_33 : decode cX9_init 33 = .ok (.newarray .int, 2) := by decide +kernel
theorem dX9_init_35 : decode cX9_init 35 = .ok (.putfield 13, 3) := by decide +kernel
theorem dX9_init_38 : decode cX9_init 38 = .ok (.aload_n 0, 1) := by decide +kernel
theorem dX9_init_39 : decode cX9_init 39 = .ok (.sipush 240, 3) := by decide +kernel
theorem dX9_init_42 : decode cX9_init 42 = .ok (.newarray .int, 2) := by decide +kernel
theorem dX9_init_44 : decode cX9_init 44 = .ok (.putfield 16, 3) := by decide +kernel
theorem dX9_init_47 : decode cX9_init 47 = .ok (.aload_n 0, 1) := by decide +kernel
theorem dX9_init_48 : decode cX9_init 48 = .ok (.bipush 6, 2) := by decide +kernel
theorem dX9_init_50 : decode cX9_init 50 = .ok (.newarray .int, 2) := by decide +kernel
theorem dX9_init_52 : decode cX9_init 52 = .ok (.putfield 19, 3) := by decide +kernel
theorem dX9_init_55 : decode cX9_init 55 = .ok (.aload_n 0, 1) := by decide +kernel
theorem dX9_init_56 : decode cX9_init 56 = .ok (.bipush 6, 2) := by decide +kernel
theorem dX9_init_58 : decode cX9_init 58 = .ok (.newarray .int, 2) := by decide +kernel
theorem dX9_init_60 : decode cX9_init 60 = .ok (.putfield 22, 3) := by decide +kernel
theorem dX9_init_63 : decode cX9_init 63 = .ok (.aload_n 0, 1) := by decide +kernel
theorem dX9_init_64 : decode cX9_init 64 = .ok (.bipush 6, 2) := by decide +kernel
theorem dX9_init_66 : decode cX9_init 66 = .ok (.newarray .int, 2) := by decide +kernel
theorem dX9_init_68 : decode cX9_init 68 = .ok (.putfield 25, 3) := by decide +kernel
theorem dX9_init_71 : decode cX9_init 71 = .ok (.aload_n 0, 1) := by decide +kernel
theorem dX9_init_72 : decode cX9_init 72 = .ok (.bipush 18, 2) := by decide +kernel
theorem dX9_init_74 : decode cX9_init 74 = .ok (.newarray .int, 2) := by decide +kernel
theorem dX9_init_76 : decode cX9_init 76 = .ok (.putfield 28, 3) := by decide +kernel
theorem dX9_init_79 : decode cX9_init 79 = .ok (.aload_n 0, 1) := by decide +kernel
theorem dX9_init_80 : decode cX9_init 80 = .ok (.bipush 6, 2) := by decide +kernel
theorem dX9_init_82 : decode cX9_init 82 = .ok (.newarray .int, 2) := by decide +kernel
theorem dX9_init_84 : decode cX9_init 84 = .ok (.putfield 31, 3) := by decide +kernel
theorem dX9_init_87 : decode cX9_init 87 = .ok (.aload_n 0, 1) := by decide +kernel
theorem dX9_init_88 : decode cX9_init 88 = .ok (.bipush 6, 2) := by decide +kernel
theorem dX9_init_90 : decode cX9_init 90 = .ok (.newarray .int, 2) := by decide +kernel
theorem dX9_init_92 : decode cX9_init 92 = .ok (.putfield 34, 3) := by decide +kernel
theorem dX9_init_95 : decode cX9_init 95 = .ok (.aload_n 0, 1) := by decide +kernel
theorem dX9_init_96 : decode cX9_init 96 = .ok (.bipush 6, 2) := by decide +kernel
theorem dX9_init_98 : decode cX9_init 98 = .ok (.newarray .int, 2) := by decide +kernel
theorem dX9_init_100 : decode cX9_init 100 = .ok (.putfield 37, 3) := by decide +kernel
theorem dX9_init_103 : decode cX9_init 103 = .ok (.aload_n 0, 1) := by decide +kernel
theorem dX9_init_104 : decode cX9_init 104 = .ok (.bipush 6, 2) := by decide +kernel
theorem dX9_init_106 : decode cX9_init 106 = .ok (.newarray .int, 2) := by decide +kernel
theorem dX9_init_108 : decode cX9_init 108 = .ok (.putfield 40, 3) := by decide +kernel
theorem dX9_init_111 : decode cX9_init 111 = .ok (.aload_n 0, 1) := by decide +kernel
theorem dX9_init_112 : decode cX9_init 112 = .ok (.bipush 6, 2) := by decide +kernel
theorem dX9_init_114 : decode cX9_init 114 = .ok (.newarray .int, 2) := by decide +kernel
theorem dX9_init_116 : decode cX9_init 116 = .ok (.putfield 43, 3) := by decide +kernel
theorem dX9_init_119 : decode cX9_init 119 = .ok (.aload_n 0, 1) := by decide +kernel
theorem dX9_init_120 : decode cX9_init 120 = .ok (.bipush 6, 2) := by decide +kernel
theorem dX9_init_122 : decode cX9_init 122 = .ok (.newarray .int, 2) := by decide +kernel
theorem dX9_init_124 : decode cX9_init 124 = .ok (.putfield 46, 3) := by decide +kernel
theorem dX9_init_127 : decode cX9_init 127 = .ok (.aload_n 0, 1) := by decide +kernel
theorem dX9_init_128 : decode cX9_init 128 = .ok (.bipush 8, 2) := by decide +kernel
theorem dX9_init_130 : decode cX9_init 130 = .ok (.newarray .int, 2) := by decide +kernel
theorem dX9_init_132 : decode cX9_init 132 = .ok (.putfield 49, 3) := by decide +kernel
theorem dX9_init_135 : decode cX9_init 135 = .ok (.aload_n 0, 1) := by decide +kernel
theorem dX9_init_136 : decode cX9_init 136 = .ok (.bipush 8, 2) := by decide +kernel
theorem dX9_init_138 : decode cX9_init 138 = .ok (.newarray .int, 2) := by decide +kernel
theorem dX9_init_140 : decode cX9_init 140 = .ok (.putfield 52, 3) := by decide +kernel
theorem dX9_init_143 : decode cX9_init 143 = .ok (.aload_n 0, 1) := by decide +kernel
theorem dX9_init_144 : decode cX9_init 144 = .ok (.bipush 8, 2) := by decide +kernel
theorem dX9_init_146 : decode cX9_init 146 = .ok (.newarray .int, 2) := by decide +kernel
theorem dX9_init_148 : decode cX9_init 148 = .ok (.putfield 55, 3) := by decide +kernel
theorem dX9_init_151 : decode cX9_init 151 = .ok (.aload_n 0, 1) := by decide +kernel
theorem dX9_init_152 : decode cX9_init 152 = .ok (.bipush 8, 2) := by decide +kernel
theorem dX9_init_154 : decode cX9_init 154 = .ok (.newarray .int, 2) := by decide +kernel
theorem dX9_init_156 : decode cX9_init 156 = .ok (.putfield 58, 3) := by decide +kernel
theorem dX9_init_159 : decode cX9_init 159 = .ok (.return_, 1) := by decide +kernel
theorem dX9_fails_0 : decode cX9_fails 0 = .ok (.aload_n 0, 1) := by decide +kernel
theorem dX9_fails_1 : decode cX9_fails 1 = .ok (.iload_n 1, 1) := by decide +kernel
theorem dX9_fails_2 : decode cX9_fails 2 = .ok (.putfield 61, 3) := by decide +kernel
theorem dX9_fails_5 : decode cX9_fails 5 = .ok (.bipush (-10), 2) := by decide +kernel
theorem dX9_fails_7 : decode cX9_fails 7 = .ok (.iload_n 1, 1) := by decide +kernel
theorem dX9_fails_8 : decode cX9_fails 8 = .ok (.isub, 1) := by decide +kernel
theorem dX9_fails_9 : decode cX9_fails 9 = .ok (.ireturn, 1) := by decide +kernel
theorem dX9_lost_0 : decode cX9_lost 0 = .ok (.aload_n 0, 1) := by decide +kernel
theorem dX9_lost_1 : decode cX9_lost 1 = .ok (.iload_n 1, 1) := by decide +kernel
theorem dX9_lost_2 : decode cX9_lost 2 = .ok (.putfield 61, 3) := by decide +kernel
theorem dX9_lost_5 : decode cX9_lost 5 = .ok (.ldc2_w 65, 3) := by decide +kernel
theorem dX9_lost_8 : decode cX9_lost 8 = .ok (.lreturn, 1) := by decide +kernel
theorem dX9_within_0 : decode cX9_within 0 = .ok (.iload_n 0, 1) := by decide +kernel
theorem dX9_within_1 : decode cX9_within 1 = .ok (.iload_n 1, 1) := by decide +kernel
theorem dX9_within_2 : decode cX9_within 2 = .ok (.if_icmp .lt 12, 3) := by decide +kernel
theorem dX9_within_5 : decode cX9_within 5 = .ok (.iload_n 0, 1) := by decide +kernel
theorem dX9_within_6 : decode cX9_within 6 = .ok (.iload_n 2, 1) := by decide +kernel
theorem dX9_within_7 : decode cX9_within 7 = .ok (.if_icmp .gt 7, 3) := by decide +kernel
theorem dX9_within_10 : decode cX9_within 10 = .ok (.iconst 1, 1) := by decide +kernel
theorem dX9_within_11 : decode cX9_within 11 = .ok (.goto 4, 3) := by decide +kernel
theorem dX9_within_14 : decode cX9_within 14 = .ok (.iconst 0, 1) := by decide +kernel
theorem dX9_within_15 : decode cX9_within 15 = .ok (.ireturn, 1) := by decide +kernel
theorem dX9_isSheet_0 : decode cX9_isSheet 0 = .ok (.iload_n 0, 1) := by decide +kernel
theorem dX9_isSheet_1 : decode cX9_isSheet 1 = .ok (.iconst 0, 1) := by decide +kernel
theorem dX9_isSheet_2 : decode cX9_isSheet 2 = .ok (.iconst 3, 1) := by decide +kernel
theorem dX9_isSheet_3 : decode cX9_isSheet 3 = .ok (.invokestatic 67, 3) := by decide +kernel
theorem dX9_isSheet_6 : decode cX9_isSheet 6 = .ok (.ireturn, 1) := by decide +kernel
theorem dX9_isSort_0 : decode cX9_isSort 0 = .ok (.iload_n 0, 1) := by decide +kernel
theorem dX9_isSort_1 : decode cX9_isSort 1 = .ok (.iconst 0, 1) := by decide +kernel
theorem dX9_isSort_2 : decode cX9_isSort 2 = .ok (.iconst 2, 1) := by decide +kernel
theorem dX9_isSort_3 : decode cX9_isSort 3 = .ok (.invokestatic 67, 3) := by decide +kernel
theorem dX9_isSort_6 : decode cX9_isSort 6 = .ok (.ireturn, 1) := by decide +kernel
theorem dX9_against_0 : decode cX9_against 0 = .ok (.aload_n 0, 1) := by decide +kernel
theorem dX9_against_1 : decode cX9_against 1 = .ok (.getfield 9, 3) := by decide +kernel
theorem dX9_against_4 : decode cX9_against 4 = .ok (.iload_n 1, 1) := by decide +kernel
theorem dX9_against_5 : decode cX9_against 5 = .ok (.iaload, 1) := by decide +kernel
theorem dX9_against_6 : decode cX9_against 6 = .ok (.bipush (-9), 2) := by decide +kernel
theorem dX9_against_8 : decode cX9_against 8 = .ok (.if_icmp .eq 15, 3) := by decide +kernel
theorem dX9_against_11 : decode cX9_against 11 = .ok (.aload_n 0, 1) := by decide +kernel
theorem dX9_against_12 : decode cX9_against 12 = .ok (.getfield 9, 3) := by decide +kernel
theorem dX9_against_15 : decode cX9_against 15 = .ok (.iload_n 1, 1) := by decide +kernel
theorem dX9_against_16 : decode cX9_against 16 = .ok (.iaload, 1) := by decide +kernel
theorem dX9_against_17 : decode cX9_against 17 = .ok (.iload_n 2, 1) := by decide +kernel
theorem dX9_against_18 : decode cX9_against 18 = .ok (.if_icmp .eq 5, 3) := by decide +kernel
theorem dX9_against_21 : decode cX9_against 21 = .ok (.iconst 2, 1) := by decide +kernel
theorem dX9_against_22 : decode cX9_against 22 = .ok (.ireturn, 1) := by decide +kernel
theorem dX9_against_23 : decode cX9_against 23 = .ok (.aload_n 0, 1) := by decide +kernel
theorem dX9_against_24 : decode cX9_against 24 = .ok (.getfield 9, 3) := by decide +kernel
theorem dX9_against_27 : decode cX9_against 27 = .ok (.iload_n 1, 1) := by decide +kernel
theorem dX9_against_28 : decode cX9_against 28 = .ok (.iaload, 1) := by decide +kernel
theorem dX9_against_29 : decode cX9_against 29 = .ok (.bipush (-9), 2) := by decide +kernel
theorem dX9_against_31 : decode cX9_against 31 = .ok (.if_icmp .ne 5, 3) := by decide +kernel
theorem dX9_against_34 : decode cX9_against 34 = .ok (.iconst 1, 1) := by decide +kernel
theorem dX9_against_35 : decode cX9_against 35 = .ok (.ireturn, 1) := by decide +kernel
theorem dX9_against_36 : decode cX9_against 36 = .ok (.iload 4, 2) := by decide +kernel
theorem dX9_against_38 : decode cX9_against 38 = .ok (.ifCond .ge 5, 3) := by decide +kernel
theorem dX9_against_41 : decode cX9_against 41 = .ok (.iconst 4, 1) := by decide +kernel
theorem dX9_against_42 : decode cX9_against 42 = .ok (.ireturn, 1) := by decide +kernel
theorem dX9_against_43 : decode cX9_against 43 = .ok (.iload_n 3, 1) := by decide +kernel
theorem dX9_against_44 : decode cX9_against 44 = .ok (.ifCond .lt 26, 3) := by decide +kernel
theorem dX9_against_47 : decode cX9_against 47 = .ok (.iload_n 3, 1) := by decide +kernel
theorem dX9_against_48 : decode cX9_against 48 = .ok (.aload_n 0, 1) := by decide +kernel
theorem dX9_against_49 : decode cX9_against 49 = .ok (.getfield 13, 3) := by decide +kernel
theorem dX9_against_52 : decode cX9_against 52 = .ok (.iload_n 1, 1) := by decide +kernel
theorem dX9_against_53 : decode cX9_against 53 = .ok (.iaload, 1) := by decide +kernel
theorem dX9_against_54 : decode cX9_against 54 = .ok (.if_icmp .gt 16, 3) := by decide +kernel
theorem dX9_against_57 : decode cX9_against 57 = .ok (.iload 4, 2) := by decide +kernel
theorem dX9_against_59 : decode cX9_against 59 = .ok (.aload_n 0, 1) := by decide +kernel
theorem dX9_against_60 : decode cX9_against 60 = .ok (.getfield 13, 3) := by decide +kernel
theorem dX9_against_63 : decode cX9_against 63 = .ok (.iload_n 1, 1) := by decide +kernel
theorem dX9_against_64 : decode cX9_against 64 = .ok (.iaload, 1) := by decide +kernel
theorem dX9_against_65 : decode cX9_against 65 = .ok (.iload_n 3, 1) := by decide +kernel
theorem dX9_against_66 : decode cX9_against 66 = .ok (.isub, 1) := by decide +kernel
theorem dX9_against_67 : decode cX9_against 67 = .ok (.if_icmp .le 7, 3) := by decide +kernel
theorem dX9_against_70 : decode cX9_against 70 = .ok (.iconst 3, 1) := by decide +kernel
theorem dX9_against_71 : decode cX9_against 71 = .ok (.goto 4, 3) := by decide +kernel
theorem dX9_against_74 : decode cX9_against 74 = .ok (.iconst 0, 1) := by decide +kernel
theorem dX9_against_75 : decode cX9_against 75 = .ok (.ireturn, 1) := by decide +kernel
theorem dX9_isPerson_0 : decode cX9_isPerson 0 = .ok (.iload_n 1, 1) := by decide +kernel
theorem dX9_isPerson_1 : decode cX9_isPerson 1 = .ok (.ifCond .lt 15, 3) := by decide +kernel
theorem dX9_isPerson_4 : decode cX9_isPerson 4 = .ok (.iload_n 1, 1) := by decide +kernel
theorem dX9_isPerson_5 : decode cX9_isPerson 5 = .ok (.aload_n 0, 1) := by decide +kernel
theorem dX9_isPerson_6 : decode cX9_isPerson 6 = .ok (.getfield 71, 3) := by decide +kernel
theorem dX9_isPerson_9 : decode cX9_isPerson 9 = .ok (.if_icmp .ge 7, 3) := by decide +kernel
theorem dX9_isPerson_12 : decode cX9_isPerson 12 = .ok (.iconst 1, 1) := by decide +kernel
theorem dX9_isPerson_13 : decode cX9_isPerson 13 = .ok (.goto 4, 3) := by decide +kernel
theorem dX9_isPerson_16 : decode cX9_isPerson 16 = .ok (.iconst 0, 1) := by decide +kernel
theorem dX9_isPerson_17 : decode cX9_isPerson 17 = .ok (.ireturn, 1) := by decide +kernel
