theorem dX9_back_0 : decode cX9_back 0 = .ok (.iload_n 1, 1) := by decide +kernel
theorem dX9_back_1 : decode cX9_back 1 = .ok (.iconst 0, 1) := by decide +kernel
theorem dX9_back_2 : decode cX9_back 2 = .ok (.aload_n 0, 1) := by decide +kernel
theorem dX9_back_3 : decode cX9_back 3 = .ok (.getfield 107, 3) := by decide +kernel
theorem dX9_back_6 : decode cX9_back 6 = .ok (.invokestatic 67, 3) := by decide +kernel
theorem dX9_back_9 : decode cX9_back 9 = .ok (.ifCond .ne 6, 3) := by decide +kernel
theorem dX9_back_12 : decode cX9_back 12 = .ok (.bipush (-2), 2) := by decide +kernel
theorem dX9_back_14 : decode cX9_back 14 = .ok (.ireturn, 1) := by decide +kernel
theorem dX9_back_15 : decode cX9_back 15 = .ok (.aload_n 0, 1) := by decide +kernel
theorem dX9_back_16 : decode cX9_back 16 = .ok (.dup, 1) := by decide +kernel
theorem dX9_back_17 : decode cX9_back 17 = .ok (.getfield 107, 3) := by decide +kernel
theorem dX9_back_20 : decode cX9_back 20 = .ok (.iload_n 1, 1) := by decide +kernel
theorem dX9_back_21 : decode cX9_back 21 = .ok (.isub, 1) := by decide +kernel
theorem dX9_back_22 : decode cX9_back 22 = .ok (.putfield 107, 3) := by decide +kernel
theorem dX9_back_25 : decode cX9_back 25 = .ok (.aload_n 0, 1) := by decide +kernel
theorem dX9_back_26 : decode cX9_back 26 = .ok (.getfield 107, 3) := by decide +kernel
theorem dX9_back_29 : decode cX9_back 29 = .ok (.ireturn, 1) := by decide +kernel
theorem dX9_areSo_0 : decode cX9_areSo 0 = .ok (.iconst 0, 1) := by decide +kernel
theorem dX9_areSo_1 : decode cX9_areSo 1 = .ok (.istore_n 1, 1) := by decide +kernel
theorem dX9_areSo_2 : decode cX9_areSo 2 = .ok (.iload_n 1, 1) := by decide +kernel
theorem dX9_areSo_3 : decode cX9_areSo 3 = .ok (.aload_n 0, 1) := by decide +kernel
theorem dX9_areSo_4 : decode cX9_areSo 4 = .ok (.getfield 107, 3) := by decide +kernel
theorem dX9_areSo_7 : decode cX9_areSo 7 = .ok (.if_icmp .ge 109, 3) := by decide +kernel
theorem dX9_areSo_10 : decode cX9_areSo 10 = .ok (.aload_n 0, 1) := by decide +kernel
theorem dX9_areSo_11 : decode cX9_areSo 11 = .ok (.getfield 49, 3) := by decide +kernel
theorem dX9_areSo_14 : decode cX9_areSo 14 = .ok (.iload_n 1, 1) := by decide +kernel
theorem dX9_areSo_15 : decode cX9_areSo 15 = .ok (.iaload, 1) := by decide +kernel
theorem dX9_areSo_16 : decode cX9_areSo 16 = .ok (.istore_n 2, 1) := by decide +kernel
theorem dX9_areSo_17 : decode cX9_areSo 17 = .ok (.aload_n 0, 1) := by decide +kernel
theorem dX9_areSo_18 : decode cX9_areSo 18 = .ok (.getfield 52, 3) := by decide +kernel
theorem dX9_areSo_21 : decode cX9_areSo 21 = .ok (.iload_n 1, 1) := by decide +kernel
theorem dX9_areSo_22 : decode cX9_areSo 22 = .ok (.iaload, 1) := by decide +kernel
theorem dX9_areSo_23 : decode cX9_areSo 23 = .ok (.istore_n 3, 1) := by decide +kernel
theorem dX9_areSo_24 : decode cX9_areSo 24 = .ok (.aload_n 0, 1) := by decide +kernel
theorem dX9_areSo_25 : decode cX9_areSo 25 = .ok (.getfield 55, 3) := by decide +kernel
theorem dX9_areSo_28 : decode cX9_areSo 28 = .ok (.iload_n 1, 1) := by decide +kernel
theorem dX9_areSo_29 : decode cX9_areSo 29 = .ok (.iaload, 1) := by decide +kernel
theorem dX9_areSo_30 : decode cX9_areSo 30 = .ok (.ifCond .ne 11, 3) := by decide +kernel
theorem dX9_areSo_33 : decode cX9_areSo 33 = .ok (.aload_n 0, 1) := by decide +kernel
theorem dX9_areSo_34 : decode cX9_areSo 34 = .ok (.iload_n 2, 1) := by decide +kernel
theorem dX9_areSo_35 : decode cX9_areSo 35 = .ok (.invokevirtual 120, 3) := by decide +kernel
theorem dX9_areSo_38 : decode cX9_areSo 38 = .ok (.goto 8, 3) := by decide +kernel
theorem dX9_areSo_41 : decode cX9_areSo 41 = .ok (.aload_n 0, 1) := by decide +kernel
theorem dX9_areSo_42 : decode cX9_areSo 42 = .ok (.iload_n 2, 1) := by decide +kernel
theorem dX9_areSo_43 : decode cX9_areSo 43 = .ok (.invokevirtual 123, 3) := by decide +kernel
theorem dX9_areSo_46 : decode cX9_areSo 46 = .ok (.istore 4, 2) := by decide +kernel
theorem dX9_areSo_48 : decode cX9_areSo 48 = .ok (.aload_n 0, 1) := by decide +kernel
theorem dX9_areSo_49 : decode cX9_areSo 49 = .ok (.getfield 55, 3) := by decide +kernel
theorem dX9_areSo_52 : decode cX9_areSo 52 = .ok (.iload_n 1, 1) := by decide +kernel
theorem dX9_areSo_53 : decode cX9_areSo 53 = .ok (.iaload, 1) := by decide +kernel
theorem dX9_areSo_54 : decode cX9_areSo 54 = .ok (.ifCond .ne 11, 3) := by decide +kernel
theorem dX9_areSo_57 : decode cX9_areSo 57 = .ok (.aload_n 0, 1) := by decide +kernel
theorem dX9_areSo_58 : decode cX9_areSo 58 = .ok (.iload_n 3, 1) := by decide +kernel
theorem dX9_areSo_59 : decode cX9_areSo 59 = .ok (.invokevirtual 120, 3) := by decide +kernel
theorem dX9_areSo_62 : decode cX9_areSo 62 = .ok (.goto 8, 3) := by decide +kernel
theorem dX9_areSo_65 : decode cX9_areSo 65 = .ok (.aload_n 0, 1) := by decide +kernel
theorem dX9_areSo_66 : decode cX9_areSo 66 = .ok (.iload_n 3, 1) := by decide +kernel
theorem dX9_areSo_67 : decode cX9_areSo 67 = .ok (.invokevirtual 123, 3) := by decide +kernel
theorem dX9_areSo_70 : decode cX9_areSo 70 = .ok (.istore 5, 2) := by decide +kernel
theorem dX9_areSo_72 : decode cX9_areSo 72 = .ok (.iload 4, 2) := by decide +kernel
theorem dX9_areSo_74 : decode cX9_areSo 74 = .ok (.iload 5, 2) := by decide +kernel
theorem dX9_areSo_76 : decode cX9_areSo 76 = .ok (.if_icmp .le 7, 3) := by decide +kernel
theorem dX9_areSo_79 : decode cX9_areSo 79 = .ok (.iconst 2, 1) := by decide +kernel
theorem dX9_areSo_80 : decode cX9_areSo 80 = .ok (.goto 15, 3) := by decide +kernel
theorem dX9_areSo_83 : decode cX9_areSo 83 = .ok (.iload 4, 2) := by decide +kernel
theorem dX9_areSo_85 : decode cX9_areSo 85 = .ok (.iload 5, 2) := by decide +kernel
theorem dX9_areSo_87 : decode cX9_areSo 87 = .ok (.if_icmp .ne 7, 3) := by decide +kernel
theorem dX9_areSo_90 : decode cX9_areSo 90 = .ok (.iconst 1, 1) := by decide +kernel
theorem dX9_areSo_91 : decode cX9_areSo 91 = .ok (.goto 4, 3) := by decide +kernel
theorem dX9_areSo_94 : decode cX9_areSo 94 = .ok (.iconst 0, 1) := by decide +kernel
theorem dX9_areSo_95 : decode cX9_areSo 95 = .ok (.istore 6, 2) := by decide +kernel
theorem dX9_areSo_97 : decode cX9_areSo 97 = .ok (.iload 6, 2) := by decide +kernel
theorem dX9_areSo_99 : decode cX9_areSo 99 = .ok (.aload_n 0, 1) := by decide +kernel
theorem dX9_areSo_100 : decode cX9_areSo 100 = .ok (.getfield 58, 3) := by decide +kernel
theorem dX9_areSo_103 : decode cX9_areSo 103 = .ok (.iload_n 1, 1) := by decide +kernel
theorem dX9_areSo_104 : decode cX9_areSo 104 = .ok (.iaload, 1) := by decide +kernel
theorem dX9_areSo_105 : decode cX9_areSo 105 = .ok (.if_icmp .eq 5, 3) := by decide +kernel
theorem dX9_areSo_108 : decode cX9_areSo 108 = .ok (.iconst 0, 1) := by decide +kernel
theorem dX9_areSo_109 : decode cX9_areSo 109 = .ok (.ireturn, 1) := by decide +kernel
theorem dX9_areSo_110 : decode cX9_areSo 110 = .ok (.iinc 1 1, 3) := by decide +kernel
theorem dX9_areSo_113 : decode cX9_areSo 113 = .ok (.goto (-111), 3) := by decide +kernel
theorem dX9_areSo_116 : decode cX9_areSo 116 = .ok (.iconst 1, 1) := by decide +kernel
theorem dX9_areSo_117 : decode cX9_areSo 117 = .ok (.ireturn, 1) := by decide +kernel
theorem dX9_strengths_0 : decode cX9_strengths 0 = .ok (.aload_n 0, 1) := by decide +kernel
theorem dX9_strengths_1 : decode cX9_strengths 1 = .ok (.iload_n 1, 1) := by decide +kernel
theorem dX9_strengths_2 : decode cX9_strengths 2 = .ok (.invokevirtual 74, 3) := by decide +kernel
theorem dX9_strengths_5 : decode cX9_strengths 5 = .ok (.ifCond .ne 5, 3) := by decide +kernel
theorem dX9_strengths_8 : decode cX9_strengths 8 = .ok (.iconst (-1), 1) := by decide +kernel
theorem dX9_strengths_9 : decode cX9_strengths 9 = .ok (.ireturn, 1) := by decide +kernel
theorem dX9_strengths_10 : decode cX9_strengths 10 = .ok (.aload_n 0, 1) := by decide +kernel
theorem dX9_strengths_11 : decode cX9_strengths 11 = .ok (.getfield 22, 3) := by decide +kernel
theorem dX9_strengths_14 : decode cX9_strengths 14 = .ok (.iload_n 1, 1) := by decide +kernel
theorem dX9_strengths_15 : decode cX9_strengths 15 = .ok (.iaload, 1) := by decide +kernel
theorem dX9_strengths_16 : decode cX9_strengths 16 = .ok (.istore_n 2, 1) := by decide +kernel
theorem dX9_strengths_17 : decode cX9_strengths 17 = .ok (.iconst 0, 1) := by decide +kernel
theorem dX9_strengths_18 : decode cX9_strengths 18 = .ok (.istore_n 3, 1) := by decide +kernel
theorem dX9_strengths_19 : decode cX9_strengths 19 = .ok (.iconst 0, 1) := by decide +kernel
theorem dX9_strengths_20 : decode cX9_strengths 20 = .ok (.istore 4, 2) := by decide +kernel
theorem dX9_strengths_22 : decode cX9_strengths 22 = .ok (.iload 4, 2) := by decide +kernel
theorem dX9_strengths_24 : decode cX9_strengths 24 = .ok (.bipush 9, 2) := by decide +kernel
theorem dX9_strengths_26 : decode cX9_strengths 26 = .ok (.if_icmp .gt 35, 3) := by decide +kernel
theorem dX9_strengths_29 : decode cX9_strengths 29 = .ok (.aload_n 0, 1) := by decide +kernel
theorem dX9_strengths_30 : decode cX9_strengths 30 = .ok (.getfield 22, 3) := by decide +kernel
theorem dX9_strengths_33 : decode cX9_strengths 33 = .ok (.iload_n 1, 1) := by decide +kernel
theorem dX9_strengths_34 : decode cX9_strengths 34 = .ok (.iload 4, 2) := by decide +kernel
theorem dX9_strengths_36 : decode cX9_strengths 36 = .ok (.iastore, 1) := by decide +kernel
theorem dX9_strengths_37 : decode cX9_strengths 37 = .ok (.iload_n 3, 1) := by decide +kernel
theorem dX9_strengths_38 : decode cX9_strengths 38 = .ok (.aload_n 0, 1) := by decide +kernel
theorem dX9_strengths_39 : decode cX9_strengths 39 = .ok (.invokevirtual 201, 3) := by decide +kernel
theorem dX9_strengths_42 : decode cX9_strengths 42 = .ok (.ifCond .eq 10, 3) := by decide +kernel
theorem dX9_strengths_45 : decode cX9_strengths 45 = .ok (.iconst 1, 1) := by decide +kernel
theorem dX9_strengths_46 : decode cX9_strengths 46 = .ok (.iload 4, 2) := by decide +kernel
theorem dX9_strengths_48 : decode cX9_strengths 48 = .ok (.ishl, 1) := by decide +kernel
theorem dX9_strengths_49 : decode cX9_strengths 49 = .ok (.goto 4, 3) := by decide +kernel
theorem dX9_strengths_52 : decode cX9_strengths 52 = .ok (.iconst 0, 1) := by decide +kernel
theorem dX9_strengths_53 : decode cX9_strengths 53 = .ok (.ior, 1) := by decide +kernel
theorem dX9_strengths_54 : decode cX9_strengths 54 = .ok (.istore_n 3, 1) := by decide +kernel
theorem dX9_strengths_55 : decode cX9_strengths 55 = .ok (.iinc 4 1, 3) := by decide +kernel
theorem dX9_strengths_58 : decode cX9_strengths 58 = .ok (.goto (-36), 3) := by decide +kernel
theorem dX9_strengths_61 : decode cX9_strengths 61 = .ok (.aload_n 0, 1) := by decide +kernel
theorem dX9_strengths_62 : decode cX9_strengths 62 = .ok (.getfield 22, 3) := by decide +kernel
theorem dX9_strengths_65 : decode cX9_strengths 65 = .ok (.iload_n 1, 1) := by decide +kernel
theorem dX9_strengths_66 : decode cX9_strengths 66 = .ok (.iload_n 2, 1) := by decide +kernel
theorem dX9_strengths_67 : decode cX9_strengths 67 = .ok (.iastore, 1) := by decide +kernel
theorem dX9_strengths_68 : decode cX9_strengths 68 = .ok (.iload_n 3, 1) := by decide +kernel
theorem dX9_strengths_69 : decode cX9_strengths 69 = .ok (.ireturn, 1) := by decide +kernel
theorem dX9_feints_0 : decode cX9_feints 0 = .ok (.aload_n 0, 1) := by decide +kernel
theorem dX9_feints_1 : decode cX9_feints 1 = .ok (.iload_n 1, 1) := by decide +kernel
theorem dX9_feints_2 : decode cX9_feints 2 = .ok (.invokevirtual 74, 3) := by decide +kernel
theorem dX9_feints_5 : decode cX9_feints 5 = .ok (.ifCond .ne 5, 3) := by decide +kernel
theorem dX9_feints_8 : decode cX9_feints 8 = .ok (.iconst (-1), 1) := by decide +kernel
theorem dX9_feints_9 : decode cX9_feints 9 = .ok (.ireturn, 1) := by decide +kernel
theorem dX9_feints_10 : decode cX9_feints 10 = .ok (.aload_n 0, 1) := by decide +kernel
theorem dX9_feints_11 : decode cX9_feints 11 = .ok (.getfield 25, 3) := by decide +kernel
theorem dX9_feints_14 : decode cX9_feints 14 = .ok (.iload_n 1, 1) := by decide +kernel
theorem dX9_feints_15 : decode cX9_feints 15 = .ok (.iaload, 1) := by decide +kernel
theorem dX9_feints_16 : decode cX9_feints 16 = .ok (.istore_n 2, 1) := by decide +kernel
theorem dX9_feints_17 : decode cX9_feints 17 = .ok (.iconst 0, 1) := by decide +kernel
theorem dX9_feints_18 : decode cX9_feints 18 = .ok (.istore_n 3, 1) := by decide +kernel
theorem dX9_feints_19 : decode cX9_feints 19 = .ok (.iconst 0, 1) := by decide +kernel
theorem dX9_feints_20 : decode cX9_feints 20 = .ok (.istore 4, 2) := by decide +kernel
theorem dX9_feints_22 : decode cX9_feints 22 = .ok (.iload 4, 2) := by decide +kernel
theorem dX9_feints_24 : decode cX9_feints 24 = .ok (.bipush 9, 2) := by decide +kernel
theorem dX9_feints_26 : decode cX9_feints 26 = .ok (.if_icmp .gt 35, 3) := by decide +kernel
theorem dX9_feints_29 : decode cX9_feints 29 = .ok (.aload_n 0, 1) := by decide +kernel
theorem dX9_feints_30 : decode cX9_feints 30 = .ok (.getfield 25, 3) := by decide +kernel
theorem dX9_feints_33 : decode cX9_feints 33 = .ok (.iload_n 1, 1) := by decide +kernel
theorem dX9_feints_34 : decode cX9_feints 34 = .ok (.iload 4, 2) := by decide +kernel
theorem dX9_feints_36 : decode cX9_feints 36 = .ok (.iastore, 1) := by decide +kernel
theorem dX9_feints_37 : decode cX9_feints 37 = .ok (.iload_n 3, 1) := by decide +kernel
theorem dX9_feints_38 : decode cX9_feints 38 = .ok (.aload_n 0, 1) := by decide +kernel
theorem dX9_feints_39 : decode cX9_feints 39 = .ok (.invokevirtual 201, 3) := by decide +kernel
theorem dX9_feints_42 : decode cX9_feints 42 = .ok (.ifCond .eq 10, 3) := by decide +kernel
theorem dX9_feints_45 : decode cX9_feints 45 = .ok (.iconst 1, 1) := by decide +kernel
theorem dX9_feints_46 : decode cX9_feints 46 = .ok (.iload 4, 2) := by decide +kernel
theorem dX9_feints_48 : decode cX9_feints 48 = .ok (.ishl, 1) := by decide +kernel
theorem dX9_feints_49 : decode cX9_feints 49 = .ok (.goto 4, 3) := by decide +kernel
theorem dX9_feints_52 : decode cX9_feints 52 = .ok (.iconst 0, 1) := by decide +kernel
theorem dX9_feints_53 : decode cX9_feints 53 = .ok (.ior, 1) := by decide +kernel
theorem dX9_feints_54 : decode cX9_feints 54 = .ok (.istore_n 3, 1) := by decide +kernel
theorem dX9_feints_55 : decode cX9_feints 55 = .ok (.iinc 4 1, 3) := by decide +kernel
theorem dX9_feints_58 : decode cX9_feints 58 = .ok (.goto (-36), 3) := by decide +kernel
theorem dX9_feints_61 : decode cX9_feints 61 = .ok (.aload_n 0, 1) := by decide +kernel
theorem dX9_feints_62 : decode cX9_feints 62 = .ok (.getfield 25, 3) := by decide +kernel
theorem dX9_feints_65 : decode cX9_feints 65 = .ok (.iload_n 1, 1) := by decide +kernel
theorem dX9_feints_66 : decode cX9_feints 66 = .ok (.iload_n 2, 1) := by decide +kernel
theorem dX9_feints_67 : decode cX9_feints 67 = .ok (.iastore, 1) := by decide +kernel
theorem dX9_feints_68 : decode cX9_feints 68 = .ok (.iload_n 3, 1) := by decide +kernel
theorem dX9_feints_69 : decode cX9_feints 69 = .ok (.ireturn, 1) := by decide +kernel
theorem dX9_kinds_0 : decode cX9_kinds 0 = .ok (.aload_n 0, 1) := by decide +kernel
theorem dX9_kinds_1 : decode cX9_kinds 1 = .ok (.iload_n 1, 1) := by decide +kernel
theorem dX9_kinds_2 : decode cX9_kinds 2 = .ok (.invokevirtual 74, 3) := by decide +kernel
theorem dX9_kinds_5 : decode cX9_kinds 5 = .ok (.ifCond .ne 5, 3) := by decide +kernel
theorem dX9_kinds_8 : decode cX9_kinds 8 = .ok (.iconst (-1), 1) := by decide +kernel
theorem dX9_kinds_9 : decode cX9_kinds 9 = .ok (.ireturn, 1) := by decide +kernel
theorem dX9_kinds_10 : decode cX9_kinds 10 = .ok (.aload_n 0, 1) := by decide +kernel
theorem dX9_kinds_11 : decode cX9_kinds 11 = .ok (.getfield 19, 3) := by decide +kernel
theorem dX9_kinds_14 : decode cX9_kinds 14 = .ok (.iload_n 1, 1) := by decide +kernel
theorem dX9_kinds_15 : decode cX9_kinds 15 = .ok (.iaload, 1) := by decide +kernel
theorem dX9_kinds_16 : decode cX9_kinds 16 = .ok (.istore_n 2, 1) := by decide +kernel
theorem dX9_kinds_17 : decode cX9_kinds 17 = .ok (.iconst 0, 1) := by decide +kernel
theorem dX9_kinds_18 : decode cX9_kinds 18 = .ok (.istore_n 3, 1) := by decide +kernel
theorem dX9_kinds_19 : decode cX9_kinds 19 = .ok (.iconst 0, 1) := by decide +kernel
theorem dX9_kinds_20 : decode cX9_kinds 20 = .ok (.istore 4, 2) := by decide +kernel
theorem dX9_kinds_22 : decode cX9_kinds 22 = .ok (.iload 4, 2) := by decide +kernel
theorem dX9_kinds_24 : decode cX9_kinds 24 = .ok (.iconst 3, 1) := by decide +kernel
theorem dX9_kinds_25 : decode cX9_kinds 25 = .ok (.if_icmp .ge 35, 3) := by decide +kernel
theorem dX9_kinds_28 : decode cX9_kinds 28 = .ok (.aload_n 0, 1) := by decide +kernel
theorem dX9_kinds_29 : decode cX9_kinds 29 = .ok (.getfield 19, 3) := by decide +kernel
theorem dX9_kinds_32 : decode cX9_kinds 32 = .ok (.iload_n 1, 1) := by decide +kernel
theorem dX9_kinds_33 : decode cX9_kinds 33 = .ok (.iload 4, 2) := by decide +kernel
theorem dX9_kinds_35 : decode cX9_kinds 35 = .ok (.iastore, 1) := by decide +kernel
theorem dX9_kinds_36 : decode cX9_kinds 36 = .ok (.iload_n 3, 1) := by decide +kernel
theorem dX9_kinds_37 : decode cX9_kinds 37 = .ok (.aload_n 0, 1) := by decide +kernel
theorem dX9_kinds_38 : decode cX9_kinds 38 = .ok (.invokevirtual 201, 3) := by decide +kernel
theorem dX9_kinds_41 : decode cX9_kinds 41 = .ok (.ifCond .eq 10, 3) := by decide +kernel
theorem dX9_kinds_44 : decode cX9_kinds 44 = .ok (.iconst 1, 1) := by decide +kernel
theorem dX9_kinds_45 : decode cX9_kinds 45 = .ok (.iload 4, 2) := by decide +kernel
theorem dX9_kinds_47 : decode cX9_kinds 47 = .ok (.ishl, 1) := by decide +kernel
theorem dX9_kinds_48 : decode cX9_kinds 48 = .ok (.goto 4, 3) := by decide +kernel
theorem dX9_kinds_51 : decode cX9_kinds 51 = .ok (.iconst 0, 1) := by decide +kernel
theorem dX9_kinds_52 : decode cX9_kinds 52 = .ok (.ior, 1) := by decide +kernel
theorem dX9_kinds_53 : decode cX9_kinds 53 = .ok (.istore_n 3, 1) := by decide +kernel
theorem dX9_kinds_54 : decode cX9_kinds 54 = .ok (.iinc 4 1, 3) := by decide +kernel
theorem dX9_kinds_57 : decode cX9_kinds 57 = .ok (.goto (-35), 3) := by decide +kernel
theorem dX9_kinds_60 : decode cX9_kinds 60 = .ok (.aload_n 0, 1) := by decide +kernel
theorem dX9_kinds_61 : decode cX9_kinds 61 = .ok (.getfield 19, 3) := by decide +kernel
theorem dX9_kinds_64 : decode cX9_kinds 64 = .ok (.iload_n 1, 1) := by decide +kernel
theorem dX9_kinds_65 : decode cX9_kinds 65 = .ok (.iload_n 2, 1) := by decide +kernel
theorem dX9_kinds_66 : decode cX9_kinds 66 = .ok (.iastore, 1) := by decide +kernel
theorem dX9_kinds_67 : decode cX9_kinds 67 = .ok (.iload_n 3, 1) := by decide +kernel
theorem dX9_kinds_68 : decode cX9_kinds 68 = .ok (.ireturn, 1) := by decide +kernel
theorem dX9_inLeastTerms_0 : decode cX9_inLeastTerms 0 = .ok (.lload_n 0, 1) := by decide +kernel
theorem dX9_inLeastTerms_1 : decode cX9_inLeastTerms 1 = .ok (.lstore 5, 2) := by decide +kernel
theorem dX9_inLeastTerms_3 : decode cX9_inLeastTerms 3 = .ok (.lload_n 2, 1) := by decide +kernel
theorem dX9_inLeastTerms_4 : decode cX9_inLeastTerms 4 = .ok (.lstore 7, 2) := by decide +kernel
theorem dX9_inLeastTerms_6 : decode cX9_inLeastTerms 6 = .ok (.lload 7, 2) := by decide +kernel
theorem dX9_inLeastTerms_8 : decode cX9_inLeastTerms 8 = .ok (.lconst 0, 1) := by decide +kernel
theorem dX9_inLeastTerms_9 : decode cX9_inLeastTerms 9 = .ok (.lcmp, 1) := by decide +kernel
theorem dX9_inLeastTerms_10 : decode cX9_inLeastTerms 10 = .ok (.ifCond .eq 21, 3) := by decide +kernel
theorem dX9_inLeastTerms_13 : decode cX9_inLeastTerms 13 = .ok (.lload 5, 2) := by decide +kernel
theorem dX9_inLeastTerms_15 : decode cX9_inLeastTerms 15 = .ok (.lload 7, 2) := by decide +kernel
theorem dX9_inLeastTerms_17 : decode cX9_inLeastTerms 17 = .ok (.lrem, 1) := by decide +kernel
theorem dX9_inLeastTerms_18 : decode cX9_inLeastTerms 18 = .ok (.lstore 9, 2) := by decide +kernel
theorem dX9_inLeastTerms_20 : decode cX9_inLeastTerms 20 = .ok (.lload 7, 2) := by decide +kernel
theorem dX9_inLeastTerms_22 : decode cX9_inLeastTerms 22 = .ok (.lstore 5, 2) := by decide +kernel
theorem dX9_inLeastTerms_24 : decode cX9_inLeastTerms 24 = .ok (.lload 9, 2) := by decide +kernel
theorem dX9_inLeastTerms_26 : decode cX9_inLeastTerms 26 = .ok (.lstore 7, 2) := by decide +kernel
theorem dX9_inLeastTerms_28 : decode cX9_inLeastTerms 28 = .ok (.goto (-22), 3) := by decide +kernel
theorem dX9_inLeastTerms_31 : decode cX9_inLeastTerms 31 = .ok (.iload 4, 2) := by decide +kernel
theorem dX9_inLeastTerms_33 : decode cX9_inLeastTerms 33 = .ok (.ifCond .ne 10, 3) := by decide +kernel
theorem dX9_inLeastTerms_36 : decode cX9_inLeastTerms 36 = .ok (.lload_n 0, 1) := by decide +kernel
theorem dX9_inLeastTerms_37 : decode cX9_inLeastTerms 37 = .ok (.lload 5, 2) := by decide +kernel
theorem dX9_inLeastTerms_39 : decode cX9_inLeastTerms 39 = .ok (.ldiv, 1) := by decide +kernel
theorem dX9_inLeastTerms_40 : decode cX9_inLeastTerms 40 = .ok (.goto 7, 3) := by decide +kernel
theorem dX9_inLeastTerms_43 : decode cX9_inLeastTerms 43 = .ok (.lload_n 2, 1) := by decide +kernel
theorem dX9_inLeastTerms_44 : decode cX9_inLeastTerms 44 = .ok (.lload 5, 2) := by decide +kernel
theorem dX9_inLeastTerms_46 : decode cX9_inLeastTerms 46 = .ok (.ldiv, 1) := by decide +kernel
theorem dX9_inLeastTerms_47 : decode cX9_inLeastTerms 47 = .ok (.lreturn, 1) := by decide +kernel
theorem dX9_odds_0 : decode cX9_odds 0 = .ok (.aload_n 0, 1) := by decide +kernel
theorem dX9_odds_1 : decode cX9_odds 1 = .ok (.iload_n 1, 1) := by decide +kernel
theorem dX9_odds_2 : decode cX9_odds 2 = .ok (.iload_n 2, 1) := by decide +kernel
theorem dX9_odds_3 : decode cX9_odds 3 = .ok (.invokevirtual 129, 3) := by decide +kernel
theorem dX9_odds_6 : decode cX9_odds 6 = .ok (.ifCond .eq 12, 3) := by decide +kernel
theorem dX9_odds_9 : decode cX9_odds 9 = .ok (.iload_n 3, 1) := by decide +kernel
theorem dX9_odds_10 : decode cX9_odds 10 = .ok (.iconst 0, 1) := by decide +kernel
theorem dX9_odds_11 : decode cX9_odds 11 = .ok (.iconst 1, 1) := by decide +kernel
theorem dX9_odds_12 : decode cX9_odds 12 = .ok (.invokestatic 67, 3) := by decide +kernel
theorem dX9_odds_15 : decode cX9_odds 15 = .ok (.ifCond .ne 7, 3) := by decide +kernel
theorem dX9_odds_18 : decode cX9_odds 18 = .ok (.ldc2_w 65, 3) := by decide +kernel
theorem dX9_odds_21 : decode cX9_odds 21 = .ok (.lreturn, 1) := by decide +kernel
theorem dX9_odds_22 : decode cX9_odds 22 = .ok (.iconst 0, 1) := by decide +kernel
theorem dX9_odds_23 : decode cX9_odds 23 = .ok (.istore 4, 2) := by decide +kernel
theorem dX9_odds_25 : decode cX9_odds 25 = .ok (.iconst 0, 1) := by decide +kernel
theorem dX9_odds_26 : decode cX9_odds 26 = .ok (.istore 5, 2) := by decide +kernel
theorem dX9_odds_28 : decode cX9_odds 28 = .ok (.aload_n 0, 1) := by decide +kernel
theorem dX9_odds_29 : decode cX9_odds 29 = .ok (.iload_n 1, 1) := by decide +kernel
theorem dX9_odds_30 : decode cX9_odds 30 = .ok (.invokevirtual 123, 3) := by decide +kernel
theorem dX9_odds_33 : decode cX9_odds 33 = .ok (.istore 6, 2) := by decide +kernel
theorem dX9_odds_35 : decode cX9_odds 35 = .ok (.iload 6, 2) := by decide +kernel
theorem dX9_odds_37 : decode cX9_odds 37 = .ok (.aload_n 0, 1) := by decide +kernel
theorem dX9_odds_38 : decode cX9_odds 38 = .ok (.iload_n 1, 1) := by decide +kernel
theorem dX9_odds_39 : decode cX9_odds 39 = .ok (.invokevirtual 120, 3) := by decide +kernel
theorem dX9_odds_42 : decode cX9_odds 42 = .ok (.if_icmp .gt 52, 3) := by decide +kernel
theorem dX9_odds_45 : decode cX9_odds 45 = .ok (.aload_n 0, 1) := by decide +kernel
theorem dX9_odds_46 : decode cX9_odds 46 = .ok (.iload_n 2, 1) := by decide +kernel
theorem dX9_odds_47 : decode cX9_odds 47 = .ok (.invokevirtual 123, 3) := by decide +kernel
theorem dX9_odds_50 : decode cX9_odds 50 = .ok (.istore 7, 2) := by decide +kernel
theorem dX9_odds_52 : decode cX9_odds 52 = .ok (.iload 7, 2) := by decide +kernel
theorem dX9_odds_54 : decode cX9_odds 54 = .ok (.aload_n 0, 1) := by decide +kernel
theorem dX9_odds_55 : decode cX9_odds 55 = .ok (.iload_n 2, 1) := by decide +kernel
theorem dX9_odds_56 : decode cX9_odds 56 = .ok (.invokevirtual 120, 3) := by decide +kernel
theorem dX9_odds_59 : decode cX9_odds 59 = .ok (.if_icmp .gt 29, 3) := by decide +kernel
theorem dX9_odds_62 : decode cX9_odds 62 = .ok (.iinc 4 1, 3) := by decide +kernel
theorem dX9_odds_65 : decode cX9_odds 65 = .ok (.iload 5, 2) := by decide +kernel
theorem dX9_odds_67 : decode cX9_odds 67 = .ok (.iload 6, 2) := by decide +kernel
theorem dX9_odds_69 : decode cX9_odds 69 = .ok (.iload 7, 2) := by decide +kernel
theorem dX9_odds_71 : decode cX9_odds 71 = .ok (.if_icmp .le 7, 3) := by decide +kernel
theorem dX9_odds_74 : decode cX9_odds 74 = .ok (.iconst 1, 1) := by decide +kernel
theorem dX9_odds_75 : decode cX9_odds 75 = .ok (.goto 4, 3) := by decide +kernel
theorem dX9_odds_78 : decode cX9_odds 78 = .ok (.iconst 0, 1) := by decide +kernel
theorem dX9_odds_79 : decode cX9_odds 79 = .ok (.iadd, 1) := by decide +kernel
theorem dX9_odds_80 : decode cX9_odds 80 = .ok (.istore 5, 2) := by decide +kernel
theorem dX9_odds_82 : decode cX9_odds 82 = .ok (.iinc 7 1, 3) := by decide +kernel
theorem dX9_odds_85 : decode cX9_odds 85 = .ok (.goto (-33), 3) := by decide +kernel
theorem dX9_odds_88 : decode cX9_odds 88 = .ok (.iinc 6 1, 3) := by decide +kernel
theorem dX9_odds_91 : decode cX9_odds 91 = .ok (.goto (-56), 3) := by decide +kernel
theorem dX9_odds_94 : decode cX9_odds 94 = .ok (.iload 5, 2) := by decide +kernel
theorem dX9_odds_96 : decode cX9_odds 96 = .ok (.i2l, 1) := by decide +kernel
theorem dX9_odds_97 : decode cX9_odds 97 = .ok (.iload 4, 2) := by decide +kernel
theorem dX9_odds_99 : decode cX9_odds 99 = .ok (.i2l, 1) := by decide +kernel
theorem dX9_odds_100 : decode cX9_odds 100 = .ok (.iload_n 3, 1) := by decide +kernel
theorem dX9_odds_101 : decode cX9_odds 101 = .ok (.invokestatic 205, 3) := by decide +kernel
theorem dX9_odds_104 : decode cX9_odds 104 = .ok (.lreturn, 1) := by decide +kernel
theorem dX9_sheet_0 : decode cX9_sheet 0 = .ok (.aload_n 0, 1) := by decide +kernel
theorem dX9_sheet_1 : decode cX9_sheet 1 = .ok (.iconst 0, 1) := by decide +kernel
theorem dX9_sheet_2 : decode cX9_sheet 2 = .ok (.putfield 61, 3) := by decide +kernel
theorem dX9_sheet_5 : decode cX9_sheet 5 = .ok (.iload_n 1, 1) := by decide +kernel
theorem dX9_sheet_6 : decode cX9_sheet 6 = .ok (.invokestatic 81, 3) := by decide +kernel
theorem dX9_sheet_9 : decode cX9_sheet 9 = .ok (.ifCond .ne 5, 3) := by decide +kernel
theorem dX9_sheet_12 : decode cX9_sheet 12 = .ok (.iconst (-1), 1) := by decide +kernel
theorem dX9_sheet_13 : decode cX9_sheet 13 = .ok (.ireturn, 1) := by decide +kernel
theorem dX9_sheet_14 : decode cX9_sheet 14 = .ok (.iload_n 2, 1) := by decide +kernel
theorem dX9_sheet_15 : decode cX9_sheet 15 = .ok (.invokestatic 84, 3) := by decide +kernel
theorem dX9_sheet_18 : decode cX9_sheet 18 = .ok (.ifCond .eq 9, 3) := by decide +kernel
theorem dX9_sheet_21 : decode cX9_sheet 21 = .ok (.iload_n 3, 1) := by decide +kernel
theorem dX9_sheet_22 : decode cX9_sheet 22 = .ok (.bipush 60, 2) := by decide +kernel
theorem dX9_sheet_24 : decode cX9_sheet 24 = .ok (.if_icmp .le 6, 3) := by decide +kernel
theorem dX9_sheet_27 : decode cX9_sheet 27 = .ok (.bipush (-2), 2) := by decide +kernel
theorem dX9_sheet_29 : decode cX9_sheet 29 = .ok (.ireturn, 1) := by decide +kernel
theorem dX9_sheet_30 : decode cX9_sheet 30 = .ok (.iload_n 3, 1) := by decide +kernel
theorem dX9_sheet_31 : decode cX9_sheet 31 = .ok (.ifCond .ge 9, 3) := by decide +kernel
theorem dX9_sheet_34 : decode cX9_sheet 34 = .ok (.aload_n 0, 1) := by decide +kernel
theorem dX9_sheet_35 : decode cX9_sheet 35 = .ok (.iconst 4, 1) := by decide +kernel
theorem dX9_sheet_36 : decode cX9_sheet 36 = .ok (.invokevirtual 91, 3) := by decide +kernel
theorem dX9_sheet_39 : decode cX9_sheet 39 = .ok (.ireturn, 1) := by decide +kernel
theorem dX9_sheet_40 : decode cX9_sheet 40 = .ok (.aload_n 0, 1) := by decide +kernel
theorem dX9_sheet_41 : decode cX9_sheet 41 = .ok (.getfield 9, 3) := by decide +kernel
theorem dX9_sheet_44 : decode cX9_sheet 44 = .ok (.iload_n 1, 1) := by decide +kernel
theorem dX9_sheet_45 : decode cX9_sheet 45 = .ok (.iload_n 2, 1) := by decide +kernel
theorem dX9_sheet_46 : decode cX9_sheet 46 = .ok (.iastore, 1) := by decide +kernel
theorem dX9_sheet_47 : decode cX9_sheet 47 = .ok (.aload_n 0, 1) := by decide +kernel
theorem dX9_sheet_48 : decode cX9_sheet 48 = .ok (.getfield 13, 3) := by decide +kernel
theorem dX9_sheet_51 : decode cX9_sheet 51 = .ok (.iload_n 1, 1) := by decide +kernel
theorem dX9_sheet_52 : decode cX9_sheet 52 = .ok (.iload_n 3, 1) := by decide +kernel
theorem dX9_sheet_53 : decode cX9_sheet 53 = .ok (.iastore, 1) := by decide +kernel
theorem dX9_sheet_54 : decode cX9_sheet 54 = .ok (.iconst 0, 1) := by decide +kernel
theorem dX9_sheet_55 : decode cX9_sheet 55 = .ok (.istore 4, 2) := by decide +kernel
theorem dX9_sheet_57 : decode cX9_sheet 57 = .ok (.iload 4, 2) := by decide +kernel
theorem dX9_sheet_59 : decode cX9_sheet 59 = .ok (.bipush 60, 2) := by decide +kernel
theorem dX9_sheet_61 : decode cX9_sheet 61 = .ok (.if_icmp .ge 22, 3) := by decide +kernel
theorem dX9_sheet_64 : decode cX9_sheet 64 = .ok (.aload_n 0, 1) := by decide +kernel
theorem dX9_sheet_65 : decode cX9_sheet 65 = .ok (.getfield 16, 3) := by decide +kernel
theorem dX9_sheet_68 : decode cX9_sheet 68 = .ok (.bipush 60, 2) := by decide +kernel
theorem dX9_sheet_70 : decode cX9_sheet 70 = .ok (.iload_n 1, 1) := by decide +kernel
theorem dX9_sheet_71 : decode cX9_sheet 71 = .ok (.imul, 1) := by decide +kernel
theorem dX9_sheet_72 : decode cX9_sheet 72 = .ok (.iload 4, 2) := by decide +kernel
theorem dX9_sheet_74 : decode cX9_sheet 74 = .ok (.iadd, 1) := by decide +kernel
theorem dX9_sheet_75 : decode cX9_sheet 75 = .ok (.iconst 0, 1) := by decide +kernel
theorem dX9_sheet_76 : decode cX9_sheet 76 = .ok (.iastore, 1) := by decide +kernel
theorem dX9_sheet_77 : decode cX9_sheet 77 = .ok (.iinc 4 1, 3) := by decide +kernel
theorem dX9_sheet_80 : decode cX9_sheet 80 = .ok (.goto (-23), 3) := by decide +kernel
theorem dX9_sheet_83 : decode cX9_sheet 83 = .ok (.iconst 1, 1) := by decide +kernel
theorem dX9_sheet_84 : decode cX9_sheet 84 = .ok (.ireturn, 1) := by decide +kernel
theorem dX9_lose_0 : decode cX9_lose 0 = .ok (.iload_n 1, 1) := by decide +kernel
theorem dX9_lose_1 : decode cX9_lose 1 = .ok (.invokestatic 81, 3) := by decide +kernel
theorem dX9_lose_4 : decode cX9_lose 4 = .ok (.ifCond .ne 5, 3) := by decide +kernel
theorem dX9_lose_7 : decode cX9_lose 7 = .ok (.iconst (-1), 1) := by decide +kernel
theorem dX9_lose_8 : decode cX9_lose 8 = .ok (.ireturn, 1) := by decide +kernel
theorem dX9_lose_9 : decode cX9_lose 9 = .ok (.aload_n 0, 1) := by decide +kernel
theorem dX9_lose_10 : decode cX9_lose 10 = .ok (.getfield 9, 3) := by decide +kernel
theorem dX9_lose_13 : decode cX9_lose 13 = .ok (.iload_n 1, 1) := by decide +kernel
theorem dX9_lose_14 : decode cX9_lose 14 = .ok (.iaload, 1) := by decide +kernel
theorem dX9_lose_15 : decode cX9_lose 15 = .ok (.bipush (-9), 2) := by decide +kernel
theorem dX9_lose_17 : decode cX9_lose 17 = .ok (.if_icmp .ne 7, 3) := by decide +kernel
theorem dX9_lose_20 : decode cX9_lose 20 = .ok (.iconst 0, 1) := by decide +kernel
theorem dX9_lose_21 : decode cX9_lose 21 = .ok (.goto 4, 3) := by decide +kernel
theorem dX9_lose_24 : decode cX9_lose 24 = .ok (.iconst 1, 1) := by decide +kernel
theorem dX9_lose_25 : decode cX9_lose 25 = .ok (.istore_n 2, 1) := by decide +kernel
theorem dX9_lose_26 : decode cX9_lose 26 = .ok (.aload_n 0, 1) := by decide +kernel
theorem dX9_lose_27 : decode cX9_lose 27 = .ok (.getfield 9, 3) := by decide +kernel
theorem dX9_lose_30 : decode cX9_lose 30 = .ok (.iload_n 1, 1) := by decide +kernel
theorem dX9_lose_31 : decode cX9_lose 31 = .ok (.bipush (-9), 2) := by decide +kernel
theorem dX9_lose_33 : decode cX9_lose 33 = .ok (.iastore, 1) := by decide +kernel
theorem dX9_lose_34 : decode cX9_lose 34 = .ok (.iload_n 2, 1) := by decide +kernel
theorem dX9_lose_35 : decode cX9_lose 35 = .ok (.ireturn, 1) := by decide +kernel
theorem dX9_put_0 : decode cX9_put 0 = .ok (.aload_n 0, 1) := by decide +kernel
theorem dX9_put_1 : decode cX9_put 1 = .ok (.iconst 0, 1) := by decide +kernel
theorem dX9_put_2 : decode cX9_put 2 = .ok (.putfield 61, 3) := by decide +kernel
theorem dX9_put_5 : decode cX9_put 5 = .ok (.iload_n 1, 1) := by decide +kernel
theorem dX9_put_6 : decode cX9_put 6 = .ok (.invokestatic 81, 3) := by decide +kernel
theorem dX9_put_9 : decode cX9_put 9 = .ok (.ifCond .ne 5, 3) := by decide +kernel
theorem dX9_put_12 : decode cX9_put 12 = .ok (.iconst (-1), 1) := by decide +kernel
theorem dX9_put_13 : decode cX9_put 13 = .ok (.ireturn, 1) := by decide +kernel
theorem dX9_put_14 : decode cX9_put 14 = .ok (.aload_n 0, 1) := by decide +kernel
theorem dX9_put_15 : decode cX9_put 15 = .ok (.getfield 9, 3) := by decide +kernel
theorem dX9_put_18 : decode cX9_put 18 = .ok (.iload_n 1, 1) := by decide +kernel
theorem dX9_put_19 : decode cX9_put 19 = .ok (.iaload, 1) := by decide +kernel
theorem dX9_put_20 : decode cX9_put 20 = .ok (.bipush (-9), 2) := by decide +kernel
theorem dX9_put_22 : decode cX9_put 22 = .ok (.if_icmp .ne 9, 3) := by decide +kernel
theorem dX9_put_25 : decode cX9_put 25 = .ok (.aload_n 0, 1) := by decide +kernel
theorem dX9_put_26 : decode cX9_put 26 = .ok (.iconst 1, 1) := by decide +kernel
theorem dX9_put_27 : decode cX9_put 27 = .ok (.invokevirtual 91, 3) := by decide +kernel
theorem dX9_put_30 : decode cX9_put 30 = .ok (.ireturn, 1) := by decide +kernel
theorem dX9_put_31 : decode cX9_put 31 = .ok (.iload_n 2, 1) := by decide +kernel
theorem dX9_put_32 : decode cX9_put 32 = .ok (.iconst 0, 1) := by decide +kernel
theorem dX9_put_33 : decode cX9_put 33 = .ok (.aload_n 0, 1) := by decide +kernel
theorem dX9_put_34 : decode cX9_put 34 = .ok (.getfield 13, 3) := by decide +kernel
theorem dX9_put_37 : decode cX9_put 37 = .ok (.iload_n 1, 1) := by decide +kernel
theorem dX9_put_38 : decode cX9_put 38 = .ok (.iaload, 1) := by decide +kernel
theorem dX9_put_39 : decode cX9_put 39 = .ok (.iconst 1, 1) := by decide +kernel
theorem dX9_put_40 : decode cX9_put 40 = .ok (.isub, 1) := by decide +kernel
theorem dX9_put_41 : decode cX9_put 41 = .ok (.invokestatic 67, 3) := by decide +kernel
theorem dX9_put_44 : decode cX9_put 44 = .ok (.ifCond .ne 9, 3) := by decide +kernel
theorem dX9_put_47 : decode cX9_put 47 = .ok (.aload_n 0, 1) := by decide +kernel
theorem dX9_put_48 : decode cX9_put 48 = .ok (.iconst 3, 1) := by decide +kernel
theorem dX9_put_49 : decode cX9_put 49 = .ok (.invokevirtual 91, 3) := by decide +kernel
theorem dX9_put_52 : decode cX9_put 52 = .ok (.ireturn, 1) := by decide +kernel
theorem dX9_put_53 : decode cX9_put 53 = .ok (.aload_n 0, 1) := by decide +kernel
theorem dX9_put_54 : decode cX9_put 54 = .ok (.getfield 16, 3) := by decide +kernel
theorem dX9_put_57 : decode cX9_put 57 = .ok (.bipush 60, 2) := by decide +kernel
theorem dX9_put_59 : decode cX9_put 59 = .ok (.iload_n 1, 1) := by decide +kernel
theorem dX9_put_60 : decode cX9_put 60 = .ok (.imul, 1) := by decide +kernel
theorem dX9_put_61 : decode cX9_put 61 = .ok (.iload_n 2, 1) := by decide +kernel
theorem dX9_put_62 : decode cX9_put 62 = .ok (.iadd, 1) := by decide +kernel
theorem dX9_put_63 : decode cX9_put 63 = .ok (.aload_n 0, 1) := by decide +kernel
theorem dX9_put_64 : decode cX9_put 64 = .ok (.getfield 9, 3) := by decide +kernel
theorem dX9_put_67 : decode cX9_put 67 = .ok (.iload_n 1, 1) := by decide +kernel
theorem dX9_put_68 : decode cX9_put 68 = .ok (.iaload, 1) := by decide +kernel
theorem dX9_put_69 : decode cX9_put 69 = .ok (.ifCond .ne 8, 3) := by decide +kernel
theorem dX9_put_72 : decode cX9_put 72 = .ok (.iload_n 3, 1) := by decide +kernel
theorem dX9_put_73 : decode cX9_put 73 = .ok (.i2b, 1) := by decide +kernel
theorem dX9_put_74 : decode cX9_put 74 = .ok (.goto 19, 3) := by decide +kernel
theorem dX9_put_77 : decode cX9_put 77 = .ok (.aload_n 0, 1) := by decide +kernel
theorem dX9_put_78 : decode cX9_put 78 = .ok (.getfield 9, 3) := by decide +kernel
theorem dX9_put_81 : decode cX9_put 81 = .ok (.iload_n 1, 1) := by decide +kernel
theorem dX9_put_82 : decode cX9_put 82 = .ok (.iaload, 1) := by decide +kernel
theorem dX9_put_83 : decode cX9_put 83 = .ok (.iconst 1, 1) := by decide +kernel
theorem dX9_put_84 : decode cX9_put 84 = .ok (.if_icmp .ne 8, 3) := by decide +kernel
theorem dX9_put_87 : decode cX9_put 87 = .ok (.iload_n 3, 1) := by decide +kernel
theorem dX9_put_88 : decode cX9_put 88 = .ok (.i2s, 1) := by decide +kernel
theorem dX9_put_89 : decode cX9_put 89 = .ok (.goto 4, 3) := by decide +kernel
theorem dX9_put_92 : decode cX9_put 92 = .ok (.iload_n 3, 1) := by decide +kernel
theorem dX9_put_93 : decode cX9_put 93 = .ok (.iastore, 1) := by decide +kernel
theorem dX9_put_94 : decode cX9_put 94 = .ok (.iconst 1, 1) := by decide +kernel
theorem dX9_put_95 : decode cX9_put 95 = .ok (.ireturn, 1) := by decide +kernel
theorem dX9_cell_0 : decode cX9_cell 0 = .ok (.aload_n 0, 1) := by decide +kernel
theorem dX9_cell_1 : decode cX9_cell 1 = .ok (.iconst 0, 1) := by decide +kernel
theorem dX9_cell_2 : decode cX9_cell 2 = .ok (.putfield 61, 3) := by decide +kernel
theorem dX9_cell_5 : decode cX9_cell 5 = .ok (.iload_n 1, 1) := by decide +kernel
theorem dX9_cell_6 : decode cX9_cell 6 = .ok (.invokestatic 81, 3) := by decide +kernel
theorem dX9_cell_9 : decode cX9_cell 9 = .ok (.ifCond .eq 10, 3) := by decide +kernel
theorem dX9_cell_12 : decode cX9_cell 12 = .ok (.iload_n 3, 1) := by decide +kernel
theorem dX9_cell_13 : decode cX9_cell 13 = .ok (.invokestatic 84, 3) := by decide +kernel
theorem dX9_cell_16 : decode cX9_cell 16 = .ok (.ifCond .ne 7, 3) := by decide +kernel
theorem dX9_cell_19 : decode cX9_cell 19 = .ok (.ldc2_w 65, 3) := by decide +kernel
theorem dX9_cell_22 : decode cX9_cell 22 = .ok (.lreturn, 1) := by decide +kernel
theorem dX9_cell_23 : decode cX9_cell 23 = .ok (.aload_n 0, 1) := by decide +kernel
theorem dX9_cell_24 : decode cX9_cell 24 = .ok (.getfield 9, 3) := by decide +kernel
theorem dX9_cell_27 : decode cX9_cell 27 = .ok (.iload_n 1, 1) := by decide +kernel
theorem dX9_cell_28 : decode cX9_cell 28 = .ok (.iaload, 1) := by decide +kernel
theorem dX9_cell_29 : decode cX9_cell 29 = .ok (.bipush (-9), 2) := by decide +kernel
theorem dX9_cell_31 : decode cX9_cell 31 = .ok (.if_icmp .eq 19, 3) := by decide +kernel
theorem dX9_cell_34 : decode cX9_cell 34 = .ok (.aload_n 0, 1) := by decide +kernel
theorem dX9_cell_35 : decode cX9_cell 35 = .ok (.getfield 9, 3) := by decide +kernel
theorem dX9_cell_38 : decode cX9_cell 38 = .ok (.iload_n 1, 1) := by decide +kernel
theorem dX9_cell_39 : decode cX9_cell 39 = .ok (.iaload, 1) := by decide +kernel
theorem dX9_cell_40 : decode cX9_cell 40 = .ok (.iload_n 3, 1) := by decide +kernel
theorem dX9_cell_41 : decode cX9_cell 41 = .ok (.if_icmp .eq 9, 3) := by decide +kernel
theorem dX9_cell_44 : decode cX9_cell 44 = .ok (.aload_n 0, 1) := by decide +kernel
theorem dX9_cell_45 : decode cX9_cell 45 = .ok (.iconst 2, 1) := by decide +kernel
theorem dX9_cell_46 : decode cX9_cell 46 = .ok (.invokevirtual 209, 3) := by decide +kernel
theorem dX9_cell_49 : decode cX9_cell 49 = .ok (.lreturn, 1) := by decide +kernel
theorem dX9_cell_50 : decode cX9_cell 50 = .ok (.aload_n 0, 1) := by decide +kernel
theorem dX9_cell_51 : decode cX9_cell 51 = .ok (.getfield 9, 3) := by decide +kernel
theorem dX9_cell_54 : decode cX9_cell 54 = .ok (.iload_n 1, 1) := by decide +kernel
theorem dX9_cell_55 : decode cX9_cell 55 = .ok (.iaload, 1) := by decide +kernel
theorem dX9_cell_56 : decode cX9_cell 56 = .ok (.bipush (-9), 2) := by decide +kernel
theorem dX9_cell_58 : decode cX9_cell 58 = .ok (.if_icmp .ne 9, 3) := by decide +kernel
theorem dX9_cell_61 : decode cX9_cell 61 = .ok (.aload_n 0, 1) := by decide +kernel
theorem dX9_cell_62 : decode cX9_cell 62 = .ok (.iconst 1, 1) := by decide +kernel
theorem dX9_cell_63 : decode cX9_cell 63 = .ok (.invokevirtual 209, 3) := by decide +kernel
theorem dX9_cell_66 : decode cX9_cell 66 = .ok (.lreturn, 1) := by decide +kernel
theorem dX9_cell_67 : decode cX9_cell 67 = .ok (.iload_n 2, 1) := by decide +kernel
theorem dX9_cell_68 : decode cX9_cell 68 = .ok (.iconst 0, 1) := by decide +kernel
theorem dX9_cell_69 : decode cX9_cell 69 = .ok (.aload_n 0, 1) := by decide +kernel
theorem dX9_cell_70 : decode cX9_cell 70 = .ok (.getfield 13, 3) := by decide +kernel
theorem dX9_cell_73 : decode cX9_cell 73 = .ok (.iload_n 1, 1) := by decide +kernel
theorem dX9_cell_74 : decode cX9_cell 74 = .ok (.iaload, 1) := by decide +kernel
theorem dX9_cell_75 : decode cX9_cell 75 = .ok (.iconst 1, 1) := by decide +kernel
theorem dX9_cell_76 : decode cX9_cell 76 = .ok (.isub, 1) := by decide +kernel
theorem dX9_cell_77 : decode cX9_cell 77 = .ok (.invokestatic 67, 3) := by decide +kernel
theorem dX9_cell_80 : decode cX9_cell 80 = .ok (.ifCond .ne 9, 3) := by decide +kernel
theorem dX9_cell_83 : decode cX9_cell 83 = .ok (.aload_n 0, 1) := by decide +kernel
theorem dX9_cell_84 : decode cX9_cell 84 = .ok (.iconst 3, 1) := by decide +kernel
theorem dX9_cell_85 : decode cX9_cell 85 = .ok (.invokevirtual 209, 3) := by decide +kernel
theorem dX9_cell_88 : decode cX9_cell 88 = .ok (.lreturn, 1) := by decide +kernel
theorem dX9_cell_89 : decode cX9_cell 89 = .ok (.aload_n 0, 1) := by decide +kernel
theorem dX9_cell_90 : decode cX9_cell 90 = .ok (.getfield 16, 3) := by decide +kernel
theorem dX9_cell_93 : decode cX9_cell 93 = .ok (.bipush 60, 2) := by decide +kernel
theorem dX9_cell_95 : decode cX9_cell 95 = .ok (.iload_n 1, 1) := by decide +kernel
theorem dX9_cell_96 : decode cX9_cell 96 = .ok (.imul, 1) := by decide +kernel
theorem dX9_cell_97 : decode cX9_cell 97 = .ok (.iload_n 2, 1) := by decide +kernel
theorem dX9_cell_98 : decode cX9_cell 98 = .ok (.iadd, 1) := by decide +kernel
theorem dX9_cell_99 : decode cX9_cell 99 = .ok (.iaload, 1) := by decide +kernel
theorem dX9_cell_100 : decode cX9_cell 100 = .ok (.i2l, 1) := by decide +kernel
theorem dX9_cell_101 : decode cX9_cell 101 = .ok (.lreturn, 1) := by decide +kernel
theorem dX9_copy_0 : decode cX9_copy 0 = .ok (.aload_n 0, 1) := by decide +kernel
theorem dX9_copy_1 : decode cX9_copy 1 = .ok (.iconst 0, 1) := by decide +kernel
theorem dX9_copy_2 : decode cX9_copy 2 = .ok (.putfield 61, 3) := by decide +kernel
theorem dX9_copy_5 : decode cX9_copy 5 = .ok (.iload_n 1, 1) := by decide +kernel
theorem dX9_copy_6 : decode cX9_copy 6 = .ok (.invokestatic 81, 3) := by decide +kernel
theorem dX9_copy_9 : decode cX9_copy 9 = .ok (.ifCond .eq 10, 3) := by decide +kernel
theorem dX9_copy_12 : decode cX9_copy 12 = .ok (.iload_n 3, 1) := by decide +kernel
theorem dX9_copy_13 : decode cX9_copy 13 = .ok (.invokestatic 81, 3) := by decide +kernel
theorem dX9_copy_16 : decode cX9_copy 16 = .ok (.ifCond .ne 5, 3) := by decide +kernel
theorem dX9_copy_19 : decode cX9_copy 19 = .ok (.iconst (-1), 1) := by decide +kernel
theorem dX9_copy_20 : decode cX9_copy 20 = .ok (.ireturn, 1) := by decide +kernel
theorem dX9_copy_21 : decode cX9_copy 21 = .ok (.aload_n 0, 1) := by decide +kernel
theorem dX9_copy_22 : decode cX9_copy 22 = .ok (.getfield 9, 3) := by decide +kernel
theorem dX9_copy_25 : decode cX9_copy 25 = .ok (.iload_n 1, 1) := by decide +kernel
theorem dX9_copy_26 : decode cX9_copy 26 = .ok (.iaload, 1) := by decide +kernel
theorem dX9_copy_27 : decode cX9_copy 27 = .ok (.bipush (-9), 2) := by decide +kernel
theorem dX9_copy_29 : decode cX9_copy 29 = .ok (.if_icmp .eq 14, 3) := by decide +kernel
theorem dX9_copy_32 : decode cX9_copy 32 = .ok (.aload_n 0, 1) := by decide +kernel
theorem dX9_copy_33 : decode cX9_copy 33 = .ok (.getfield 9, 3) := by decide +kernel
theorem dX9_copy_36 : decode cX9_copy 36 = .ok (.iload_n 3, 1) := by decide +kernel
theorem dX9_copy_37 : decode cX9_copy 37 = .ok (.iaload, 1) := by decide +kernel
theorem dX9_copy_38 : decode cX9_copy 38 = .ok (.bipush (-9), 2) := by decide +kernel
theorem dX9_copy_40 : decode cX9_copy 40 = .ok (.if_icmp .ne 9, 3) := by decide +kernel
theorem dX9_copy_43 : decode cX9_copy 43 = .ok (.aload_n 0, 1) := by decide +kernel
theorem dX9_copy_44 : decode cX9_copy 44 = .ok (.iconst 1, 1) := by decide +kernel
theorem dX9_copy_45 : decode cX9_copy 45 = .ok (.invokevirtual 91, 3) := by decide +kernel
theorem dX9_copy_48 : decode cX9_copy 48 = .ok (.ireturn, 1) := by decide +kernel
theorem dX9_copy_49 : decode cX9_copy 49 = .ok (.aload_n 0, 1) := by decide +kernel
theorem dX9_copy_50 : decode cX9_copy 50 = .ok (.getfield 9, 3) := by decide +kernel
theorem dX9_copy_53 : decode cX9_copy 53 = .ok (.iload_n 1, 1) := by decide +kernel
theorem dX9_copy_54 : decode cX9_copy 54 = .ok (.iaload, 1) := by decide +kernel
theorem dX9_copy_55 : decode cX9_copy 55 = .ok (.aload_n 0, 1) := by decide +kernel
theorem dX9_copy_56 : decode cX9_copy 56 = .ok (.getfield 9, 3) := by decide +kernel
theorem dX9_copy_59 : decode cX9_copy 59 = .ok (.iload_n 3, 1) := by decide +kernel
theorem dX9_copy_60 : decode cX9_copy 60 = .ok (.iaload, 1) := by decide +kernel
theorem dX9_copy_61 : decode cX9_copy 61 = .ok (.if_icmp .eq 9, 3) := by decide +kernel
theorem dX9_copy_64 : decode cX9_copy 64 = .ok (.aload_n 0, 1) := by decide +kernel
theorem dX9_copy_65 : decode cX9_copy 65 = .ok (.iconst 2, 1) := by decide +kernel
theorem dX9_copy_66 : decode cX9_copy 66 = .ok (.invokevirtual 91, 3) := by decide +kernel
theorem dX9_copy_69 : decode cX9_copy 69 = .ok (.ireturn, 1) := by decide +kernel
theorem dX9_copy_70 : decode cX9_copy 70 = .ok (.iload_n 2, 1) := by decide +kernel
theorem dX9_copy_71 : decode cX9_copy 71 = .ok (.ifCond .lt 38, 3) := by decide +kernel
theorem dX9_copy_74 : decode cX9_copy 74 = .ok (.iload 4, 2) := by decide +kernel
theorem dX9_copy_76 : decode cX9_copy 76 = .ok (.ifCond .lt 33, 3) := by decide +kernel
theorem dX9_copy_79 : decode cX9_copy 79 = .ok (.iload 5, 2) := by decide +kernel
theorem dX9_copy_81 : decode cX9_copy 81 = .ok (.ifCond .lt 28, 3) := by decide +kernel
theorem dX9_copy_84 : decode cX9_copy 84 = .ok (.iload_n 2, 1) := by decide +kernel
theorem dX9_copy_85 : decode cX9_copy 85 = .ok (.aload_n 0, 1) := by decide +kernel
theorem dX9_copy_86 : decode cX9_copy 86 = .ok (.getfield 13, 3) := by decide +kernel
theorem dX9_copy_89 : decode cX9_copy 89 = .ok (.iload_n 1, 1) := by decide +kernel
theorem dX9_copy_90 : decode cX9_copy 90 = .ok (.iaload, 1) := by decide +kernel
theorem dX9_copy_91 : decode cX9_copy 91 = .ok (.if_icmp .gt 18, 3) := by decide +kernel
theorem dX9_copy_94 : decode cX9_copy 94 = .ok (.iload 4, 2) := by decide +kernel
theorem dX9_copy_96 : decode cX9_copy 96 = .ok (.aload_n 0, 1) := by decide +kernel
theorem dX9_copy_97 : decode cX9_copy 97 = .ok (.getfield 13, 3) := by decide +kernel
theorem dX9_copy_100 : decode cX9_copy 100 = .ok (.iload_n 3, 1) := by decide +kernel
theorem dX9_copy_101 : decode cX9_copy 101 = .ok (.iaload, 1) := by decide +kernel
theorem dX9_copy_102 : decode cX9_copy 102 = .ok (.if_icmp .gt 7, 3) := by decide +kernel
theorem dX9_copy_105 : decode cX9_copy 105 = .ok (.iconst 1, 1) := by decide +kernel
theorem dX9_copy_106 : decode cX9_copy 106 = .ok (.goto 4, 3) := by decide +kernel
theorem dX9_copy_109 : decode cX9_copy 109 = .ok (.iconst 0, 1) := by decide +kernel
theorem dX9_copy_110 : decode cX9_copy 110 = .ok (.istore 6, 2) := by decide +kernel
theorem dX9_copy_112 : decode cX9_copy 112 = .ok (.iload 6, 2) := by decide +kernel
theorem dX9_copy_114 : decode cX9_copy 114 = .ok (.ifCond .eq 30, 3) := by decide +kernel
theorem dX9_copy_117 : decode cX9_copy 117 = .ok (.iload 5, 2) := by decide +kernel
theorem dX9_copy_119 : decode cX9_copy 119 = .ok (.aload_n 0, 1) := by decide +kernel
theorem dX9_copy_120 : decode cX9_copy 120 = .ok (.getfield 13, 3) := by decide +kernel
theorem dX9_copy_123 : decode cX9_copy 123 = .ok (.iload_n 1, 1) := by decide +kernel
theorem dX9_copy_124 : decode cX9_copy 124 = .ok (.iaload, 1) := by decide +kernel
theorem dX9_copy_125 : decode cX9_copy 125 = .ok (.iload_n 2, 1) := by decide +kernel
theorem dX9_copy_126 : decode cX9_copy 126 = .ok (.isub, 1) := by decide +kernel
theorem dX9_copy_127 : decode cX9_copy 127 = .ok (.if_icmp .gt 17, 3) := by decide +kernel
theorem dX9_copy_130 : decode cX9_copy 130 = .ok (.iload 5, 2) := by decide +kernel
theorem dX9_copy_132 : decode cX9_copy 132 = .ok (.aload_n 0, 1) := by decide +kernel
theorem dX9_copy_133 : decode cX9_copy 133 = .ok (.getfield 13, 3) := by decide +kernel
theorem dX9_copy_136 : decode cX9_copy 136 = .ok (.iload_n 3, 1) := by decide +kernel
theorem dX9_copy_137 : decode cX9_copy 137 = .ok (.iaload, 1) := by decide +kernel
theorem dX9_copy_138 : decode cX9_copy 138 = .ok (.iload 4, 2) := by decide +kernel
theorem dX9_copy_140 : decode cX9_copy 140 = .ok (.isub, 1) := by decide +kernel
theorem dX9_copy_141 : decode cX9_copy 141 = .ok (.if_icmp .le 9, 3) := by decide +kernel
theorem dX9_copy_144 : decode cX9_copy 144 = .ok (.aload_n 0, 1) := by decide +kernel
theorem dX9_copy_145 : decode cX9_copy 145 = .ok (.iconst 3, 1) := by decide +kernel
theorem dX9_copy_146 : decode cX9_copy 146 = .ok (.invokevirtual 91, 3) := by decide +kernel
theorem dX9_copy_149 : decode cX9_copy 149 = .ok (.ireturn, 1) := by decide +kernel
theorem dX9_copy_150 : decode cX9_copy 150 = .ok (.iload_n 2, 1) := by decide +kernel
theorem dX9_copy_151 : decode cX9_copy 151 = .ok (.iload 4, 2) := by decide +kernel
theorem dX9_copy_153 : decode cX9_copy 153 = .ok (.if_icmp .ge 7, 3) := by decide +kernel
theorem dX9_copy_156 : decode cX9_copy 156 = .ok (.iconst 1, 1) := by decide +kernel
theorem dX9_copy_157 : decode cX9_copy 157 = .ok (.goto 4, 3) := by decide +kernel
theorem dX9_copy_160 : decode cX9_copy 160 = .ok (.iconst 0, 1) := by decide +kernel
theorem dX9_copy_161 : decode cX9_copy 161 = .ok (.istore 7, 2) := by decide +kernel
theorem dX9_copy_163 : decode cX9_copy 163 = .ok (.iconst 0, 1) := by decide +kernel
theorem dX9_copy_164 : decode cX9_copy 164 = .ok (.istore 8, 2) := by decide +kernel
theorem dX9_copy_166 : decode cX9_copy 166 = .ok (.iload 8, 2) := by decide +kernel
theorem dX9_copy_168 : decode cX9_copy 168 = .ok (.iload 5, 2) := by decide +kernel
theorem dX9_copy_170 : decode cX9_copy 170 = .ok (.if_icmp .ge 57, 3) := by decide +kernel
theorem dX9_copy_173 : decode cX9_copy 173 = .ok (.iload 7, 2) := by decide +kernel
theorem dX9_copy_175 : decode cX9_copy 175 = .ok (.ifCond .eq 13, 3) := by decide +kernel
theorem dX9_copy_178 : decode cX9_copy 178 = .ok (.iload 5, 2) := by decide +kernel
theorem dX9_copy_180 : decode cX9_copy 180 = .ok (.iconst 1, 1) := by decide +kernel
theorem dX9_copy_181 : decode cX9_copy 181 = .ok (.isub, 1) := by decide +kernel
theorem dX9_copy_182 : decode cX9_copy 182 = .ok (.iload 8, 2) := by decide +kernel
theorem dX9_copy_184 : decode cX9_copy 184 = .ok (.isub, 1) := by decide +kernel
theorem dX9_copy_185 : decode cX9_copy 185 = .ok (.goto 5, 3) := by decide +kernel
theorem dX9_copy_188 : decode cX9_copy 188 = .ok (.iload 8, 2) := by decide +kernel
theorem dX9_copy_190 : decode cX9_copy 190 = .ok (.istore 9, 2) := by decide +kernel
theorem dX9_copy_192 : decode cX9_copy 192 = .ok (.aload_n 0, 1) := by decide +kernel
theorem dX9_copy_193 : decode cX9_copy 193 = .ok (.getfield 16, 3) := by decide +kernel
theorem dX9_copy_196 : decode cX9_copy 196 = .ok (.bipush 60, 2) := by decide +kernel
theorem dX9_copy_198 : decode cX9_copy 198 = .ok (.iload_n 3, 1) := by decide +kernel
theorem dX9_copy_199 : decode cX9_copy 199 = .ok (.imul, 1) := by decide +kernel
theorem dX9_copy_200 : decode cX9_copy 200 = .ok (.iload 4, 2) := by decide +kernel
theorem dX9_copy_202 : decode cX9_copy 202 = .ok (.iadd, 1) := by decide +kernel
theorem dX9_copy_203 : decode cX9_copy 203 = .ok (.iload 9, 2) := by decide +kernel
theorem dX9_copy_205 : decode cX9_copy 205 = .ok (.iadd, 1) := by decide +kernel
theorem dX9_copy_206 : decode cX9_copy 206 = .ok (.aload_n 0, 1) := by decide +kernel
theorem dX9_copy_207 : decode cX9_copy 207 = .ok (.getfield 16, 3) := by decide +kernel
theorem dX9_copy_210 : decode cX9_copy 210 = .ok (.bipush 60, 2) := by decide +kernel
theorem dX9_copy_212 : decode cX9_copy 212 = .ok (.iload_n 1, 1) := by decide +kernel
theorem dX9_copy_213 : decode cX9_copy 213 = .ok (.imul, 1) := by decide +kernel
theorem dX9_copy_214 : decode cX9_copy 214 = .ok (.iload_n 2, 1) := by decide +kernel
theorem dX9_copy_215 : decode cX9_copy 215 = .ok (.iadd, 1) := by decide +kernel
theorem dX9_copy_216 : decode cX9_copy 216 = .ok (.iload 9, 2) := by decide +kernel
theorem dX9_copy_218 : decode cX9_copy 218 = .ok (.iadd, 1) := by decide +kernel
theorem dX9_copy_219 : decode cX9_copy 219 = .ok (.iaload, 1) := by decide +kernel
theorem dX9_copy_220 : decode cX9_copy 220 = .ok (.iastore, 1) := by decide +kernel
theorem dX9_copy_221 : decode cX9_copy 221 = .ok (.iinc 8 1, 3) := by decide +kernel
theorem dX9_copy_224 : decode cX9_copy 224 = .ok (.goto (-58), 3) := by decide +kernel
theorem dX9_copy_227 : decode cX9_copy 227 = .ok (.iload 5, 2) := by decide +kernel
theorem dX9_copy_229 : decode cX9_copy 229 = .ok (.ireturn, 1) := by decide +kernel
theorem dX9_begins_0 : decode cX9_begins 0 = .ok (.aload_n 0, 1) := by decide +kernel
theorem dX9_begins_1 : decode cX9_begins 1 = .ok (.bipush 31, 2) := by decide +kernel
theorem dX9_begins_3 : decode cX9_begins 3 = .ok (.aload_n 0, 1) := by decide +kernel
theorem dX9_begins_4 : decode cX9_begins 4 = .ok (.getfield 213, 3) := by decide +kernel
theorem dX9_begins_7 : decode cX9_begins 7 = .ok (.imul, 1) := by decide +kernel
theorem dX9_begins_8 : decode cX9_begins 8 = .ok (.iload_n 1, 1) := by decide +kernel
theorem dX9_begins_9 : decode cX9_begins 9 = .ok (.iadd, 1) := by decide +kernel
theorem dX9_begins_10 : decode cX9_begins 10 = .ok (.putfield 213, 3) := by decide +kernel
theorem dX9_begins_13 : decode cX9_begins 13 = .ok (.return_, 1) := by decide +kernel
theorem dX9_tell_0 : decode cX9_tell 0 = .ok (.aload_n 0, 1) := by decide +kernel
theorem dX9_tell_1 : decode cX9_tell 1 = .ok (.iload_n 1, 1) := by decide +kernel
theorem dX9_tell_2 : decode cX9_tell 2 = .ok (.invokevirtual 74, 3) := by decide +kernel
theorem dX9_tell_5 : decode cX9_tell 5 = .ok (.ifCond .ne 5, 3) := by decide +kernel
theorem dX9_tell_8 : decode cX9_tell 8 = .ok (.iconst (-1), 1) := by decide +kernel
theorem dX9_tell_9 : decode cX9_tell 9 = .ok (.ireturn, 1) := by decide +kernel
theorem dX9_tell_10 : decode cX9_tell 10 = .ok (.aload_n 0, 1) := by decide +kernel
theorem dX9_tell_11 : decode cX9_tell 11 = .ok (.getfield 22, 3) := by decide +kernel
theorem dX9_tell_14 : decode cX9_tell 14 = .ok (.iload_n 1, 1) := by decide +kernel
theorem dX9_tell_15 : decode cX9_tell 15 = .ok (.iaload, 1) := by decide +kernel
theorem dX9_tell_16 : decode cX9_tell 16 = .ok (.istore_n 2, 1) := by decide +kernel
theorem dX9_tell_17 : decode cX9_tell 17 = .ok (.aload_n 0, 1) := by decide +kernel
theorem dX9_tell_18 : decode cX9_tell 18 = .ok (.getfield 19, 3) := by decide +kernel
theorem dX9_tell_21 : decode cX9_tell 21 = .ok (.iload_n 1, 1) := by decide +kernel
theorem dX9_tell_22 : decode cX9_tell 22 = .ok (.iaload, 1) := by decide +kernel
theorem dX9_tell_23 : decode cX9_tell 23 = .ok (.lookupswitch 67 #[(1, 25), (2, 40)], 25) := by decide +kernel
theorem dX9_tell_48 : decode cX9_tell 48 = .ok (.aload_n 0, 1) := by decide +kernel
theorem dX9_tell_49 : decode cX9_tell 49 = .ok (.iconst 2, 1) := by decide +kernel
theorem dX9_tell_50 : decode cX9_tell 50 = .ok (.invokevirtual 216, 3) := by decide +kernel
theorem dX9_tell_53 : decode cX9_tell 53 = .ok (.aload_n 0, 1) := by decide +kernel
theorem dX9_tell_54 : decode cX9_tell 54 = .ok (.iconst 1, 1) := by decide +kernel
theorem dX9_tell_55 : decode cX9_tell 55 = .ok (.invokevirtual 216, 3) := by decide +kernel
theorem dX9_tell_58 : decode cX9_tell 58 = .ok (.iload_n 2, 1) := by decide +kernel
theorem dX9_tell_59 : decode cX9_tell 59 = .ok (.bipush 100, 2) := by decide +kernel
theorem dX9_tell_61 : decode cX9_tell 61 = .ok (.iadd, 1) := by decide +kernel
theorem dX9_tell_62 : decode cX9_tell 62 = .ok (.ireturn, 1) := by decide +kernel
theorem dX9_tell_63 : decode cX9_tell 63 = .ok (.aload_n 0, 1) := by decide +kernel
theorem dX9_tell_64 : decode cX9_tell 64 = .ok (.iconst 3, 1) := by decide +kernel
theorem dX9_tell_65 : decode cX9_tell 65 = .ok (.invokevirtual 216, 3) := by decide +kernel
theorem dX9_tell_68 : decode cX9_tell 68 = .ok (.aload_n 0, 1) := by decide +kernel
theorem dX9_tell_69 : decode cX9_tell 69 = .ok (.iconst 2, 1) := by decide +kernel
theorem dX9_tell_70 : decode cX9_tell 70 = .ok (.invokevirtual 216, 3) := by decide +kernel
theorem dX9_tell_73 : decode cX9_tell 73 = .ok (.aload_n 0, 1) := by decide +kernel
theorem dX9_tell_74 : decode cX9_tell 74 = .ok (.iconst 1, 1) := by decide +kernel
theorem dX9_tell_75 : decode cX9_tell 75 = .ok (.invokevirtual 216, 3) := by decide +kernel
theorem dX9_tell_78 : decode cX9_tell 78 = .ok (.aload_n 0, 1) := by decide +kernel
theorem dX9_tell_79 : decode cX9_tell 79 = .ok (.iconst 1, 1) := by decide +kernel
theorem dX9_tell_80 : decode cX9_tell 80 = .ok (.invokevirtual 216, 3) := by decide +kernel
theorem dX9_tell_83 : decode cX9_tell 83 = .ok (.iconst 2, 1) := by decide +kernel
theorem dX9_tell_84 : decode cX9_tell 84 = .ok (.iload_n 2, 1) := by decide +kernel
theorem dX9_tell_85 : decode cX9_tell 85 = .ok (.imul, 1) := by decide +kernel
theorem dX9_tell_86 : decode cX9_tell 86 = .ok (.bipush 100, 2) := by decide +kernel
theorem dX9_tell_88 : decode cX9_tell 88 = .ok (.iadd, 1) := by decide +kernel
theorem dX9_tell_89 : decode cX9_tell 89 = .ok (.ireturn, 1) := by decide +kernel
theorem dX9_tell_90 : decode cX9_tell 90 = .ok (.aload_n 0, 1) := by decide +kernel
theorem dX9_tell_91 : decode cX9_tell 91 = .ok (.iconst 1, 1) := by decide +kernel
theorem dX9_tell_92 : decode cX9_tell 92 = .ok (.invokevirtual 216, 3) := by decide +kernel
theorem dX9_tell_95 : decode cX9_tell 95 = .ok (.iload_n 2, 1) := by decide +kernel
theorem dX9_tell_96 : decode cX9_tell 96 = .ok (.ireturn, 1) := by decide +kernel
theorem dX9_wave_0 : decode cX9_wave 0 = .ok (.aload_n 0, 1) := by decide +kernel
theorem dX9_wave_1 : decode cX9_wave 1 = .ok (.iload_n 1, 1) := by decide +kernel
theorem dX9_wave_2 : decode cX9_wave 2 = .ok (.invokevirtual 74, 3) := by decide +kernel
theorem dX9_wave_5 : decode cX9_wave 5 = .ok (.ifCond .ne 5, 3) := by decide +kernel
theorem dX9_wave_8 : decode cX9_wave 8 = .ok (.iconst (-1), 1) := by decide +kernel
theorem dX9_wave_9 : decode cX9_wave 9 = .ok (.ireturn, 1) := by decide +kernel
theorem dX9_wave_10 : decode cX9_wave 10 = .ok (.aload_n 0, 1) := by decide +kernel
theorem dX9_wave_11 : decode cX9_wave 11 = .ok (.aload_n 0, 1) := by decide +kernel
theorem dX9_wave_12 : decode cX9_wave 12 = .ok (.getfield 19, 3) := by decide +kernel
theorem dX9_wave_15 : decode cX9_wave 15 = .ok (.iload_n 1, 1) := by decide +kernel
theorem dX9_wave_16 : decode cX9_wave 16 = .ok (.iaload, 1) := by decide +kernel
theorem dX9_wave_17 : decode cX9_wave 17 = .ok (.iconst 2, 1) := by decide +kernel
theorem dX9_wave_18 : decode cX9_wave 18 = .ok (.if_icmp .ne 7, 3) := by decide +kernel
theorem dX9_wave_21 : decode cX9_wave 21 = .ok (.iconst 5, 1) := by decide +kernel
theorem dX9_wave_22 : decode cX9_wave 22 = .ok (.goto 4, 3) := by decide +kernel
theorem dX9_wave_25 : decode cX9_wave 25 = .ok (.iconst 4, 1) := by decide +kernel
theorem dX9_wave_26 : decode cX9_wave 26 = .ok (.invokevirtual 216, 3) := by decide +kernel
theorem dX9_wave_29 : decode cX9_wave 29 = .ok (.aload_n 0, 1) := by decide +kernel
theorem dX9_wave_30 : decode cX9_wave 30 = .ok (.getfield 19, 3) := by decide +kernel
theorem dX9_wave_33 : decode cX9_wave 33 = .ok (.iload_n 1, 1) := by decide +kernel
theorem dX9_wave_34 : decode cX9_wave 34 = .ok (.iaload, 1) := by decide +kernel
theorem dX9_wave_35 : decode cX9_wave 35 = .ok (.iconst 2, 1) := by decide +kernel
theorem dX9_wave_36 : decode cX9_wave 36 = .ok (.if_icmp .ne 8, 3) := by decide +kernel
theorem dX9_wave_39 : decode cX9_wave 39 = .ok (.bipush 30, 2) := by decide +kernel
theorem dX9_wave_41 : decode cX9_wave 41 = .ok (.goto 9, 3) := by decide +kernel
theorem dX9_wave_44 : decode cX9_wave 44 = .ok (.aload_n 0, 1) := by decide +kernel
theorem dX9_wave_45 : decode cX9_wave 45 = .ok (.getfield 25, 3) := by decide +kernel
theorem dX9_wave_48 : decode cX9_wave 48 = .ok (.iload_n 1, 1) := by decide +kernel
theorem dX9_wave_49 : decode cX9_wave 49 = .ok (.iaload, 1) := by decide +kernel
theorem dX9_wave_50 : decode cX9_wave 50 = .ok (.ireturn, 1) := by decide +kernel
theorem dX9_as_0 : decode cX9_as 0 = .ok (.aload_n 0, 1) := by decide +kernel
theorem dX9_as_1 : decode cX9_as 1 = .ok (.iconst 0, 1) := by decide +kernel
theorem dX9_as_2 : decode cX9_as 2 = .ok (.putfield 61, 3) := by decide +kernel
theorem dX9_as_5 : decode cX9_as 5 = .ok (.aload_n 0, 1) := by decide +kernel
theorem dX9_as_6 : decode cX9_as 6 = .ok (.iload_n 1, 1) := by decide +kernel
theorem dX9_as_7 : decode cX9_as 7 = .ok (.invokevirtual 74, 3) := by decide +kernel
theorem dX9_as_10 : decode cX9_as 10 = .ok (.ifCond .ne 5, 3) := by decide +kernel
theorem dX9_as_13 : decode cX9_as 13 = .ok (.iconst (-1), 1) := by decide +kernel
theorem dX9_as_14 : decode cX9_as 14 = .ok (.ireturn, 1) := by decide +kernel
theorem dX9_as_15 : decode cX9_as 15 = .ok (.iload_n 2, 1) := by decide +kernel
theorem dX9_as_16 : decode cX9_as 16 = .ok (.iconst 0, 1) := by decide +kernel
theorem dX9_as_17 : decode cX9_as 17 = .ok (.iconst 2, 1) := by decide +kernel
theorem dX9_as_18 : decode cX9_as 18 = .ok (.invokestatic 67, 3) := by decide +kernel
theorem dX9_as_21 : decode cX9_as 21 = .ok (.ifCond .ne 6, 3) := by decide +kernel
theorem dX9_as_24 : decode cX9_as 24 = .ok (.bipush (-2), 2) := by decide +kernel
theorem dX9_as_26 : decode cX9_as 26 = .ok (.ireturn, 1) := by decide +kernel
theorem dX9_as_27 : decode cX9_as 27 = .ok (.aload_n 0, 1) := by decide +kernel
theorem dX9_as_28 : decode cX9_as 28 = .ok (.getfield 19, 3) := by decide +kernel
theorem dX9_as_31 : decode cX9_as 31 = .ok (.iload_n 1, 1) := by decide +kernel
theorem dX9_as_32 : decode cX9_as 32 = .ok (.iaload, 1) := by decide +kernel
theorem dX9_as_33 : decode cX9_as 33 = .ok (.iload_n 2, 1) := by decide +kernel
theorem dX9_as_34 : decode cX9_as 34 = .ok (.if_icmp .lt 7, 3) := by decide +kernel
theorem dX9_as_37 : decode cX9_as 37 = .ok (.iconst 1, 1) := by decide +kernel
theorem dX9_as_38 : decode cX9_as 38 = .ok (.goto 8, 3) := by decide +kernel
theorem dX9_as_41 : decode cX9_as 41 = .ok (.aload_n 0, 1) := by decide +kernel
theorem dX9_as_42 : decode cX9_as 42 = .ok (.iconst 2, 1) := by decide +kernel
theorem dX9_as_43 : decode cX9_as 43 = .ok (.invokevirtual 91, 3) := by decide +kernel
theorem dX9_as_46 : decode cX9_as 46 = .ok (.ireturn, 1) := by decide +kernel
theorem dX9_trace_0 : decode cX9_trace 0 = .ok (.aload_n 0, 1) := by decide +kernel
theorem dX9_trace_1 : decode cX9_trace 1 = .ok (.getfield 213, 3) := by decide +kernel
theorem dX9_trace_4 : decode cX9_trace 4 = .ok (.ireturn, 1) := by decide +kernel
theorem dX9_fault_0 : decode cX9_fault 0 = .ok (.aload_n 0, 1) := by decide +kernel
theorem dX9_fault_1 : decode cX9_fault 1 = .ok (.getfield 61, 3) := by decide +kernel
theorem dX9_fault_4 : decode cX9_fault 4 = .ok (.ireturn, 1) := by decide +kernel
theorem dX9_many_0 : decode cX9_many 0 = .ok (.iload_n 1, 1) := by decide +kernel
theorem dX9_many_1 : decode cX9_many 1 = .ok (.tableswitch 54 0 3 #[31, 36, 44, 49], 31) := by decide +kernel
theorem dX9_many_32 : decode cX9_many 32 = .ok (.aload_n 0, 1) := by decide +kernel
theorem dX9_many_33 : decode cX9_many 33 = .ok (.getfield 71, 3) := by decide +kernel
theorem dX9_many_36 : decode cX9_many 36 = .ok (.ireturn, 1) := by decide +kernel
theorem dX9_many_37 : decode cX9_many 37 = .ok (.aload_n 0, 1) := by decide +kernel
theorem dX9_many_38 : decode cX9_many 38 = .ok (.getfield 101, 3) := by decide +kernel
theorem dX9_many_41 : decode cX9_many 41 = .ok (.invokestatic 138, 3) := by decide +kernel
theorem dX9_many_44 : decode cX9_many 44 = .ok (.ireturn, 1) := by decide +kernel
theorem dX9_many_45 : decode cX9_many 45 = .ok (.aload_n 0, 1) := by decide +kernel
theorem dX9_many_46 : decode cX9_many 46 = .ok (.getfield 104, 3) := by decide +kernel
theorem dX9_many_49 : decode cX9_many 49 = .ok (.ireturn, 1) := by decide +kernel
theorem dX9_many_50 : decode cX9_many 50 = .ok (.aload_n 0, 1) := by decide +kernel
theorem dX9_many_51 : decode cX9_many 51 = .ok (.getfield 107, 3) := by decide +kernel
theorem dX9_many_54 : decode cX9_many 54 = .ok (.ireturn, 1) := by decide +kernel
theorem dX9_many_55 : decode cX9_many 55 = .ok (.bipush (-2), 2) := by decide +kernel
theorem dX9_many_57 : decode cX9_many 57 = .ok (.ireturn, 1) := by decide +kernel
theorem dJ6_compare_7cf53_0 : decode cJ6_compare_7cf53 0 = .ok (.iload_n 0, 1) := by decide +kernel
theorem dJ6_compare_7cf53_1 : decode cJ6_compare_7cf53 1 = .ok (.iload_n 1, 1) := by decide +kernel
theorem dJ6_compare_7cf53_2 : decode cJ6_compare_7cf53 2 = .ok (.if_icmp .ge 7, 3) := by decide +kernel
theorem dJ6_compare_7cf53_5 : decode cJ6_compare_7cf53 5 = .ok (.iconst (-1), 1) := by decide +kernel
theorem dJ6_compare_7cf53_6 : decode cJ6_compare_7cf53 6 = .ok (.goto 13, 3) := by decide +kernel
theorem dJ6_compare_7cf53_9 : decode cJ6_compare_7cf53 9 = .ok (.iload_n 0, 1) := by decide +kernel
theorem dJ6_compare_7cf53_10 : decode cJ6_compare_7cf53 10 = .ok (.iload_n 1, 1) := by decide +kernel
theorem dJ6_compare_7cf53_11 : decode cJ6_compare_7cf53 11 = .ok (.if_icmp .ne 7, 3) := by decide +kernel
theorem dJ6_compare_7cf53_14 : decode cJ6_compare_7cf53 14 = .ok (.iconst 0, 1) := by decide +kernel
theorem dJ6_compare_7cf53_15 : decode cJ6_compare_7cf53 15 = .ok (.goto 4, 3) := by decide +kernel
theorem dJ6_compare_7cf53_18 : decode cJ6_compare_7cf53 18 = .ok (.iconst 1, 1) := by decide +kernel
theorem dJ6_compare_7cf53_19 : decode cJ6_compare_7cf53 19 = .ok (.ireturn, 1) := by decide +kernel
theorem dJ6_bitCount_0f7a4_0 : decode cJ6_bitCount_0f7a4 0 = .ok (.iload_n 0, 1) := by decide +kernel
theorem dJ6_bitCount_0f7a4_1 : decode cJ6_bitCount_0f7a4 1 = .ok (.iload_n 0, 1) := by decide +kernel
theorem dJ6_bitCount_0f7a4_2 : decode cJ6_bitCount_0f7a4 2 = .ok (.iconst 1, 1) := by decide +kernel
theorem dJ6_bitCount_0f7a4_3 : decode cJ6_bitCount_0f7a4 3 = .ok (.iushr, 1) := by decide +kernel
theorem dJ6_bitCount_0f7a4_4 : decode cJ6_bitCount_0f7a4 4 = .ok (.ldc_w 265, 3) := by decide +kernel
theorem dJ6_bitCount_0f7a4_7 : decode cJ6_bitCount_0f7a4 7 = .ok (.iand, 1) := by decide +kernel
theorem dJ6_bitCount_0f7a4_8 : decode cJ6_bitCount_0f7a4 8 = .ok (.isub, 1) := by decide +kernel
theorem dJ6_bitCount_0f7a4_9 : decode cJ6_bitCount_0f7a4 9 = .ok (.istore_n 0, 1) := by decide +kernel
theorem dJ6_bitCount_0f7a4_10 : decode cJ6_bitCount_0f7a4 10 = .ok (.iload_n 0, 1) := by decide +kernel
theorem dJ6_bitCount_0f7a4_11 : decode cJ6_bitCount_0f7a4 11 = .ok (.ldc_w 266, 3) := by decide +kernel
theorem dJ6_bitCount_0f7a4_14 : decode cJ6_bitCount_0f7a4 14 = .ok (.iand, 1) := by decide +kernel
theorem dJ6_bitCount_0f7a4_15 : decode cJ6_bitCount_0f7a4 15 = .ok (.iload_n 0, 1) := by decide +kernel
theorem dJ6_bitCount_0f7a4_16 : decode cJ6_bitCount_0f7a4 16 = .ok (.iconst 2, 1) := by decide +kernel
theorem dJ6_bitCount_0f7a4_17 : decode cJ6_bitCount_0f7a4 17 = .ok (.iushr, 1) := by decide +kernel
theorem dJ6_bitCount_0f7a4_18 : decode cJ6_bitCount_0f7a4 18 = .ok (.ldc_w 266, 3) := by decide +kernel
theorem dJ6_bitCount_0f7a4_21 : decode cJ6_bitCount_0f7a4 21 = .ok (.iand, 1) := by decide +kernel
theorem dJ6_bitCount_0f7a4_22 : decode cJ6_bitCount_0f7a4 22 = .ok (.iadd, 1) := by decide +kernel
theorem dJ6_bitCount_0f7a4_23 : decode cJ6_bitCount_0f7a4 23 = .ok (.istore_n 0, 1) := by decide +kernel
theorem dJ6_bitCount_0f7a4_24 : decode cJ6_bitCount_0f7a4 24 = .ok (.iload_n 0, 1) := by decide +kernel
theorem dJ6_bitCount_0f7a4_25 : decode cJ6_bitCount_0f7a4 25 = .ok (.iload_n 0, 1) := by decide +kernel
theorem dJ6_bitCount_0f7a4_26 : decode cJ6_bitCount_0f7a4 26 = .ok (.iconst 4, 1) := by decide +kernel
theorem dJ6_bitCount_0f7a4_27 : decode cJ6_bitCount_0f7a4 27 = .ok (.iushr, 1) := by decide +kernel
theorem dJ6_bitCount_0f7a4_28 : decode cJ6_bitCount_0f7a4 28 = .ok (.iadd, 1) := by decide +kernel
theorem dJ6_bitCount_0f7a4_29 : decode cJ6_bitCount_0f7a4 29 = .ok (.ldc_w 267, 3) := by decide +kernel
theorem dJ6_bitCount_0f7a4_32 : decode cJ6_bitCount_0f7a4 32 = .ok (.iand, 1) := by decide +kernel
theorem dJ6_bitCount_0f7a4_33 : decode cJ6_bitCount_0f7a4 33 = .ok (.istore_n 0, 1) := by decide +kernel
theorem dJ6_bitCount_0f7a4_34 : decode cJ6_bitCount_0f7a4 34 = .ok (.iload_n 0, 1) := by decide +kernel
theorem dJ6_bitCount_0f7a4_35 : decode cJ6_bitCount_0f7a4 35 = .ok (.iload_n 0, 1) := by decide +kernel
theorem dJ6_bitCount_0f7a4_36 : decode cJ6_bitCount_0f7a4 36 = .ok (.bipush 8, 2) := by decide +kernel
theorem dJ6_bitCount_0f7a4_38 : decode cJ6_bitCount_0f7a4 38 = .ok (.iushr, 1) := by decide +kernel
theorem dJ6_bitCount_0f7a4_39 : decode cJ6_bitCount_0f7a4 39 = .ok (.iadd, 1) := by decide +kernel
theorem dJ6_bitCount_0f7a4_40 : decode cJ6_bitCount_0f7a4 40 = .ok (.istore_n 0, 1) := by decide +kernel
theorem dJ6_bitCount_0f7a4_41 : decode cJ6_bitCount_0f7a4 41 = .ok (.iload_n 0, 1) := by decide +kernel
theorem dJ6_bitCount_0f7a4_42 : decode cJ6_bitCount_0f7a4 42 = .ok (.iload_n 0, 1) := by decide +kernel
theorem dJ6_bitCount_0f7a4_43 : decode cJ6_bitCount_0f7a4 43 = .ok (.bipush 16, 2) := by decide +kernel
theorem dJ6_bitCount_0f7a4_45 : decode cJ6_bitCount_0f7a4 45 = .ok (.iushr, 1) := by decide +kernel
theorem dJ6_bitCount_0f7a4_46 : decode cJ6_bitCount_0f7a4 46 = .ok (.iadd, 1) := by decide +kernel
theorem dJ6_bitCount_0f7a4_47 : decode cJ6_bitCount_0f7a4 47 = .ok (.istore_n 0, 1) := by decide +kernel
theorem dJ6_bitCount_0f7a4_48 : decode cJ6_bitCount_0f7a4 48 = .ok (.iload_n 0, 1) := by decide +kernel
theorem dJ6_bitCount_0f7a4_49 : decode cJ6_bitCount_0f7a4 49 = .ok (.bipush 63, 2) := by decide +kernel
theorem dJ6_bitCount_0f7a4_51 : decode cJ6_bitCount_0f7a4 51 = .ok (.iand, 1) := by decide +kernel
theorem dJ6_bitCount_0f7a4_52 : decode cJ6_bitCount_0f7a4 52 = .ok (.ireturn, 1) := by decide +kernel
theorem dJ9_max_7cf53_0 : decode cJ9_max_7cf53 0 = .ok (.iload_n 0, 1) := by decide +kernel
theorem dJ9_max_7cf53_1 : decode cJ9_max_7cf53 1 = .ok (.iload_n 1, 1) := by decide +kernel
theorem dJ9_max_7cf53_2 : decode cJ9_max_7cf53 2 = .ok (.if_icmp .lt 7, 3) := by decide +kernel
theorem dJ9_max_7cf53_5 : decode cJ9_max_7cf53 5 = .ok (.iload_n 0, 1) := by decide +kernel
theorem dJ9_max_7cf53_6 : decode cJ9_max_7cf53 6 = .ok (.goto 4, 3) := by decide +kernel
theorem dJ9_max_7cf53_9 : decode cJ9_max_7cf53 9 = .ok (.iload_n 1, 1) := by decide +kernel
theorem dJ9_max_7cf53_10 : decode cJ9_max_7cf53 10 = .ok (.ireturn, 1) := by decide +kernel
theorem dJ9_min_7cf53_0 : decode cJ9_min_7cf53 0 = .ok (.iload_n 0, 1) := by decide +kernel
theorem dJ9_min_7cf53_1 : decode cJ9_min_7cf53 1 = .ok (.iload_n 1, 1) := by decide +kernel
theorem dJ9_min_7cf53_2 : decode cJ9_min_7cf53 2 = .ok (.if_icmp .gt 7, 3) := by decide +kernel
theorem dJ9_min_7cf53_5 : decode cJ9_min_7cf53 5 = .ok (.iload_n 0, 1) := by decide +kernel
theorem dJ9_min_7cf53_6 : decode cJ9_min_7cf53 6 = .ok (.goto 4, 3) := by decide +kernel
theorem dJ9_min_7cf53_9 : decode cJ9_min_7cf53 9 = .ok (.iload_n 1, 1) := by decide +kernel
theorem dJ9_min_7cf53_10 : decode cJ9_min_7cf53 10 = .ok (.ireturn, 1) := by decide +kernel
theorem dJ7_fill_53178_0 : decode cJ7_fill_53178 0 = .ok (.iconst 0, 1) := by decide +kernel
theorem dJ7_fill_53178_1 : decode cJ7_fill_53178 1 = .ok (.istore_n 2, 1) := by decide +kernel
theorem dJ7_fill_53178_2 : decode cJ7_fill_53178 2 = .ok (.aload_n 0, 1) := by decide +kernel
theorem dJ7_fill_53178_3 : decode cJ7_fill_53178 3 = .ok (.arraylength, 1) := by decide +kernel
theorem dJ7_fill_53178_4 : decode cJ7_fill_53178 4 = .ok (.istore_n 3, 1) := by decide +kernel
theorem dJ7_fill_53178_5 : decode cJ7_fill_53178 5 = .ok (.iload_n 2, 1) := by decide +kernel
theorem dJ7_fill_53178_6 : decode cJ7_fill_53178 6 = .ok (.iload_n 3, 1) := by decide +kernel
theorem dJ7_fill_53178_7 : decode cJ7_fill_53178 7 = .ok (.if_icmp .ge 13, 3) := by decide +kernel
theorem dJ7_fill_53178_10 : decode cJ7_fill_53178 10 = .ok (.aload_n 0, 1) := by decide +kernel
theorem dJ7_fill_53178_11 : decode cJ7_fill_53178 11 = .ok (.iload_n 2, 1) := by decide +kernel
theorem dJ7_fill_53178_12 : decode cJ7_fill_53178 12 = .ok (.iload_n 1, 1) := by decide +kernel
theorem dJ7_fill_53178_13 : decode cJ7_fill_53178 13 = .ok (.iastore, 1) := by decide +kernel
theorem dJ7_fill_53178_14 : decode cJ7_fill_53178 14 = .ok (.iinc 2 1, 3) := by decide +kernel
theorem dJ7_fill_53178_17 : decode cJ7_fill_53178 17 = .ok (.goto (-12), 3) := by decide +kernel
theorem dJ7_fill_53178_20 : decode cJ7_fill_53178 20 = .ok (.return_, 1) := by decide +kernel
theorem dL_law_0 : decode cL_law 0 = .ok (.new 7, 3) := by decide +kernel
theorem dL_law_3 : decode cL_law 3 = .ok (.dup, 1) := by decide +kernel
theorem dL_law_4 : decode cL_law 4 = .ok (.invokespecial 9, 3) := by decide +kernel
theorem dL_law_7 : decode cL_law 7 = .ok (.astore_n 1, 1) := by decide +kernel
theorem dL_law_8 : decode cL_law 8 = .ok (.new 10, 3) := by decide +kernel
theorem dL_law_11 : decode cL_law 11 = .ok (.dup, 1) := by decide +kernel
theorem dL_law_12 : decode cL_law 12 = .ok (.invokespecial 12, 3) := by decide +kernel
theorem dL_law_15 : decode cL_law 15 = .ok (.astore_n 2, 1) := by decide +kernel
theorem dL_law_16 : decode cL_law 16 = .ok (.iconst 0, 1) := by decide +kernel
theorem dL_law_17 : decode cL_law 17 = .ok (.istore_n 3, 1) := by decide +kernel
theorem dL_law_18 : decode cL_law 18 = .ok (.iload_n 3, 1) := by decide +kernel
theorem dL_law_19 : decode cL_law 19 = .ok (.aload_n 0, 1) := by decide +kernel
theorem dL_law_20 : decode cL_law 20 = .ok (.arraylength, 1) := by decide +kernel
theorem dL_law_21 : decode cL_law 21 = .ok (.bipush 6, 2) := by decide +kernel
theorem dL_law_23 : decode cL_law 23 = .ok (.isub, 1) := by decide +kernel
theorem dL_law_24 : decode cL_law 24 = .ok (.if_icmp .gt 1239, 3) := by decide +kernel
theorem dL_law_27 : decode cL_law 27 = .ok (.aload_n 0, 1) := by decide +kernel
theorem dL_law_28 : decode cL_law 28 = .ok (.iload_n 3, 1) := by decide +kernel
theorem dL_law_29 : decode cL_law 29 = .ok (.iaload, 1) := by decide +kernel
theorem dL_law_30 : decode cL_law 30 = .ok (.bipush 31, 2) := by decide +kernel
theorem dL_law_32 : decode cL_law 32 = .ok (.iand, 1) := by decide +kernel
theorem dL_law_33 : decode cL_law 33 = .ok (.tableswitch 1224 0 30 #[139, 192, 225, 258, 291, 344, 377, 400, 463, 496, 519, 552, 575, 638, 691, 744, 767, 790, 813, 836, 880, 923, 946, 989, 1033, 1096, 1119, 1142, 1175, 1188, 1201], 139) := by decide +kernel
theorem dL_law_172 : decode cL_law 172 = .ok (.aload_n 1, 1) := by decide +kernel
theorem dL_law_173 : decode cL_law 173 = .ok (.aload_n 0, 1) := by decide +kernel
theorem dL_law_174 : decode cL_law 174 = .ok (.iload_n 3, 1) := by decide +kernel
theorem dL_law_175 : decode cL_law 175 = .ok (.iconst 1, 1) := by decide +kernel
theorem dL_law_176 : decode cL_law 176 = .ok (.iadd, 1) := by decide +kernel
theorem dL_law_177 : decode cL_law 177 = .ok (.iaload, 1) := by decide +kernel
theorem dL_law_178 : decode cL_law 178 = .ok (.aload_n 0, 1) := by decide +kernel
theorem dL_law_179 : decode cL_law 179 = .ok (.iload_n 3, 1) := by decide +kernel
theorem dL_law_180 : decode cL_law 180 = .ok (.iconst 2, 1) := by decide +kernel
theorem dL_law_181 : decode cL_law 181 = .ok (.iadd, 1) := by decide +kernel
theorem dL_law_182 : decode cL_law 182 = .ok (.iaload, 1) := by decide +kernel
theorem dL_law_183 : decode cL_law 183 = .ok (.aload_n 0, 1) := by decide +kernel
theorem dL_law_184 : decode cL_law 184 = .ok (.iload_n 3, 1) := by decide +kernel
theorem dL_law_185 : decode cL_law 185 = .ok (.iconst 3, 1) := by decide +kernel
theorem dL_law_186 : decode cL_law 186 = .ok (.iadd, 1) := by decide +kernel
theorem dL_law_187 : decode cL_law 187 = .ok (.iaload, 1) := by decide +kernel
theorem dL_law_188 : decode cL_law 188 = .ok (.aload_n 0, 1) := by decide +kernel
theorem dL_law_189 : decode cL_law 189 = .ok (.iload_n 3, 1) := by decide +kernel
theorem dL_law_190 : decode cL_law 190 = .ok (.iconst 4, 1) := by decide +kernel
theorem dL_law_191 : decode cL_law 191 = .ok (.iadd, 1) := by decide +kernel
theorem dL_law_192 : decode cL_law 192 = .ok (.iaload, 1) := by decide +kernel
theorem dL_law_193 : decode cL_law 193 = .ok (.invokevirtual 13, 3) := by decide +kernel
theorem dL_law_196 : decode cL_law 196 = .ok (.aload_n 2, 1) := by decide +kernel
theorem dL_law_197 : decode cL_law 197 = .ok (.aload_n 0, 1) := by decide +kernel
theorem dL_law_198 : decode cL_law 198 = .ok (.iload_n 3, 1) := by decide +kernel
theorem dL_law_199 : decode cL_law 199 = .ok (.iconst 1, 1) := by decide +kernel
theorem dL_law_200 : decode cL_law 200 = .ok (.iadd, 1) := by decide +kernel
theorem dL_law_201 : decode cL_law 201 = .ok (.iaload, 1) := by decide +kernel
theorem dL_law_202 : decode cL_law 202 = .ok (.aload_n 0, 1) := by decide +kernel
theorem dL_law_203 : decode cL_law 203 = .ok (.iload_n 3, 1) := by decide +kernel
theorem dL_law_204 : decode cL_law 204 = .ok (.iconst 2, 1) := by decide +kernel
theorem dL_law_205 : decode cL_law 205 = .ok (.iadd, 1) := by decide +kernel
theorem dL_law_206 : decode cL_law 206 = .ok (.iaload, 1) := by decide +kernel
theorem dL_law_207 : decode cL_law 207 = .ok (.aload_n 0, 1) := by decide +kernel
theorem dL_law_208 : decode cL_law 208 = .ok (.iload_n 3, 1) := by decide +kernel
theorem dL_law_209 : decode cL_law 209 = .ok (.iconst 3, 1) := by decide +kernel
theorem dL_law_210 : decode cL_law 210 = .ok (.iadd, 1) := by decide +kernel
theorem dL_law_211 : decode cL_law 211 = .ok (.iaload, 1) := by decide +kernel
theorem dL_law_212 : decode cL_law 212 = .ok (.aload_n 0, 1) := by decide +kernel
theorem dL_law_213 : decode cL_law 213 = .ok (.iload_n 3, 1) := by decide +kernel
theorem dL_law_214 : decode cL_law 214 = .ok (.iconst 4, 1) := by decide +kernel
theorem dL_law_215 : decode cL_law 215 = .ok (.iadd, 1) := by decide +kernel
theorem dL_law_216 : decode cL_law 216 = .ok (.iaload, 1) := by decide +kernel
theorem dL_law_217 : decode cL_law 217 = .ok (.invokevirtual 17, 3) := by decide +kernel
theorem dL_law_220 : decode cL_law 220 = .ok (.if_icmp .eq 1037, 3) := by decide +kernel
theorem dL_law_223 : decode cL_law 223 = .ok (.iconst 0, 1) := by decide +kernel
theorem dL_law_224 : decode cL_law 224 = .ok (.ireturn, 1) := by decide +kernel
theorem dL_law_225 : decode cL_law 225 = .ok (.aload_n 1, 1) := by decide +kernel
theorem dL_law_226 : decode cL_law 226 = .ok (.aload_n 0, 1) := by decide +kernel
theorem dL_law_227 : decode cL_law 227 = .ok (.iload_n 3, 1) := by decide +kernel
theorem dL_law_228 : decode cL_law 228 = .ok (.iconst 1, 1) := by decide +kernel
theorem dL_law_229 : decode cL_law 229 = .ok (.iadd, 1) := by decide +kernel
theorem dL_law_230 : decode cL_law 230 = .ok (.iaload, 1) := by decide +kernel
theorem dL_law_231 : decode cL_law 231 = .ok (.aload_n 0, 1) := by decide +kernel
theorem dL_law_232 : decode cL_law 232 = .ok (.iload_n 3, 1) := by decide +kernel
theorem dL_law_233 : decode cL_law 233 = .ok (.iconst 2, 1) := by decide +kernel
theorem dL_law_234 : decode cL_law 234 = .ok (.iadd, 1) := by decide +kernel
theorem dL_law_235 : decode cL_law 235 = .ok (.iaload, 1) := by decide +kernel
theorem dL_law_236 : decode cL_law 236 = .ok (.invokevirtual 18, 3) := by decide +kernel
theorem dL_law_239 : decode cL_law 239 = .ok (.aload_n 2, 1) := by decide +kernel
theorem dL_law_240 : decode cL_law 240 = .ok (.aload_n 0, 1) := by decide +kernel
theorem dL_law_241 : decode cL_law 241 = .ok (.iload_n 3, 1) := by decide +kernel
theorem dL_law_242 : decode cL_law 242 = .ok (.iconst 1, 1) := by decide +kernel
theorem dL_law_243 : decode cL_law 243 = .ok (.iadd, 1) := by decide +kernel
theorem dL_law_244 : decode cL_law 244 = .ok (.iaload, 1) := by decide +kernel
theorem dL_law_245 : decode cL_law 245 = .ok (.aload_n 0, 1) := by decide +kernel
theorem dL_law_246 : decode cL_law 246 = .ok (.iload_n 3, 1) := by decide +kernel
theorem dL_law_247 : decode cL_law 247 = .ok (.iconst 2, 1) := by decide +kernel
theorem dL_law_248 : decode cL_law 248 = .ok (.iadd, 1) := by decide +kernel
theorem dL_law_249 : decode cL_law 249 = .ok (.iaload, 1) := by decide +kernel
theorem dL_law_250 : decode cL_law 250 = .ok (.invokevirtual 22, 3) := by decide +kernel
theorem dL_law_253 : decode cL_law 253 = .ok (.if_icmp .eq 1004, 3) := by decide +kernel
theorem dL_law_256 : decode cL_law 256 = .ok (.iconst 0, 1) := by decide +kernel
theorem dL_law_257 : decode cL_law 257 = .ok (.ireturn, 1) := by decide +kernel
theorem dL_law_258 : decode cL_law 258 = .ok (.aload_n 1, 1) := by decide +kernel
theorem dL_law_259 : decode cL_law 259 = .ok (.aload_n 0, 1) := by decide +kernel
theorem dL_law_260 : decode cL_law 260 = .ok (.iload_n 3, 1) := by decide +kernel
theorem dL_law_261 : decode cL_law 261 = .ok (.iconst 1, 1) := by decide +kernel
theorem dL_law_262 : decode cL_law 262 = .ok (.iadd, 1) := by decide +kernel
theorem dL_law_263 : decode cL_law 263 = .ok (.iaload, 1) := by decide +kernel
theorem dL_law_264 : decode cL_law 264 = .ok (.aload_n 0, 1) := by decide +kernel
theorem dL_law_265 : decode cL_law 265 = .ok (.iload_n 3, 1) := by decide +kernel
theorem dL_law_266 : decode cL_law 266 = .ok (.iconst 2, 1) := by decide +kernel
theorem dL_law_267 : decode cL_law 267 = .ok (.iadd, 1) := by decide +kernel
theorem dL_law_268 : decode cL_law 268 = .ok (.iaload, 1) := by decide +kernel
theorem dL_law_269 : decode cL_law 269 = .ok (.invokevirtual 23, 3) := by decide +kernel
theorem dL_law_272 : decode cL_law 272 = .ok (.aload_n 2, 1) := by decide +kernel
theorem dL_law_273 : decode cL_law 273 = .ok (.aload_n 0, 1) := by decide +kernel
theorem dL_law_274 : decode cL_law 274 = .ok (.iload_n 3, 1) := by decide +kernel
theorem dL_law_275 : decode cL_law 275 = .ok (.iconst 1, 1) := by decide +kernel
theorem dL_law_276 : decode cL_law 276 = .ok (.iadd, 1) := by decide +kernel
theorem dL_law_277 : decode cL_law 277 = .ok (.iaload, 1) := by decide +kernel
theorem dL_law_278 : decode cL_law 278 = .ok (.aload_n 0, 1) := by decide +kernel
theorem dL_law_279 : decode cL_law 279 = .ok (.iload_n 3, 1) := by decide +kernel
theorem dL_law_280 : decode cL_law 280 = .ok (.iconst 2, 1) := by decide +kernel
theorem dL_law_281 : decode cL_law 281 = .ok (.iadd, 1) := by decide +kernel
theorem dL_law_282 : decode cL_law 282 = .ok (.iaload, 1) := by decide +kernel
theorem dL_law_283 : decode cL_law 283 = .ok (.invokevirtual 26, 3) := by decide +kernel
theorem dL_law_286 : decode cL_law 286 = .ok (.if_icmp .eq 971, 3) := by decide +kernel
theorem dL_law_289 : decode cL_law 289 = .ok (.iconst 0, 1) := by decide +kernel
theorem dL_law_290 : decode cL_law 290 = .ok (.ireturn, 1) := by decide +kernel
theorem dL_law_291 : decode cL_law 291 = .ok (.aload_n 1, 1) := by decide +kernel
theorem dL_law_292 : decode cL_law 292 = .ok (.aload_n 0, 1) := by decide +kernel
theorem dL_law_293 : decode cL_law 293 = .ok (.iload_n 3, 1) := by decide +kernel
theorem dL_law_294 : decode cL_law 294 = .ok (.iconst 1, 1) := by decide +kernel
theorem dL_law_295 : decode cL_law 295 = .ok (.iadd, 1) := by decide +kernel
theorem dL_law_296 : decode cL_law 296 = .ok (.iaload, 1) := by decide +kernel
theorem dL_law_297 : decode cL_law 297 = .ok (.aload_n 0, 1) := by decide +kernel
theorem dL_law_298 : decode cL_law 298 = .ok (.iload_n 3, 1) := by decide +kernel
theorem dL_law_299 : decode cL_law 299 = .ok (.iconst 2, 1) := by decide +kernel
theorem dL_law_300 : decode cL_law 300 = .ok (.iadd, 1) := by decide +kernel
theorem dL_law_301 : decode cL_law 301 = .ok (.iaload, 1) := by decide +kernel
theorem dL_law_302 : decode cL_law 302 = .ok (.invokevirtual 27, 3) := by decide +kernel
theorem dL_law_305 : decode cL_law 305 = .ok (.aload_n 2, 1) := by decide +kernel
theorem dL_law_306 : decode cL_law 306 = .ok (.aload_n 0, 1) := by decide +kernel
theorem dL_law_307 : decode cL_law 307 = .ok (.iload_n 3, 1) := by decide +kernel
theorem dL_law_308 : decode cL_law 308 = .ok (.iconst 1, 1) := by decide +kernel
theorem dL_law_309 : decode cL_law 309 = .ok (.iadd, 1) := by decide +kernel
theorem dL_law_310 : decode cL_law 310 = .ok (.iaload, 1) := by decide +kernel
theorem dL_law_311 : decode cL_law 311 = .ok (.aload_n 0, 1) := by decide +kernel
theorem dL_law_312 : decode cL_law 312 = .ok (.iload_n 3, 1) := by decide +kernel
theorem dL_law_313 : decode cL_law 313 = .ok (.iconst 2, 1) := by decide +kernel
theorem dL_law_314 : decode cL_law 314 = .ok (.iadd, 1) := by decide +kernel
theorem dL_law_315 : decode cL_law 315 = .ok (.iaload, 1) := by decide +kernel
theorem dL_law_316 : decode cL_law 316 = .ok (.invokevirtual 30, 3) := by decide +kernel
theorem dL_law_319 : decode cL_law 319 = .ok (.if_icmp .eq 938, 3) := by decide +kernel
theorem dL_law_322 : decode cL_law 322 = .ok (.iconst 0, 1) := by decide +kernel
theorem dL_law_323 : decode cL_law 323 = .ok (.ireturn, 1) := by decide +kernel
theorem dL_law_324 : decode cL_law 324 = .ok (.aload_n 1, 1) := by decide +kernel
theorem dL_law_325 : decode cL_law 325 = .ok (.aload_n 0, 1) := by decide +kernel
theorem dL_law_326 : decode cL_law 326 = .ok (.iload_n 3, 1) := by decide +kernel
theorem dL_law_327 : decode cL_law 327 = .ok (.iconst 1, 1) := by decide +kernel
theorem dL_law_328 : decode cL_law 328 = .ok (.iadd, 1) := by decide +kernel
theorem dL_law_329 : decode cL_law 329 = .ok (.iaload, 1) := by decide +kernel
theorem dL_law_330 : decode cL_law 330 = .ok (.aload_n 0, 1) := by decide +kernel
theorem dL_law_331 : decode cL_law 331 = .ok (.iload_n 3, 1) := by decide +kernel
theorem dL_law_332 : decode cL_law 332 = .ok (.iconst 2, 1) := by decide +kernel
theorem dL_law_333 : decode cL_law 333 = .ok (.iadd, 1) := by decide +kernel
theorem dL_law_334 : decode cL_law 334 = .ok (.iaload, 1) := by decide +kernel
theorem dL_law_335 : decode cL_law 335 = .ok (.aload_n 0, 1) := by decide +kernel
theorem dL_law_336 : decode cL_law 336 = .ok (.iload_n 3, 1) := by decide +kernel
theorem dL_law_337 : decode cL_law 337 = .ok (.iconst 3, 1) := by decide +kernel
theorem dL_law_338 : decode cL_law 338 = .ok (.iadd, 1) := by decide +kernel
theorem dL_law_339 : decode cL_law 339 = .ok (.iaload, 1) := by decide +kernel
theorem dL_law_340 : decode cL_law 340 = .ok (.aload_n 0, 1) := by decide +kernel
theorem dL_law_341 : decode cL_law 341 = .ok (.iload_n 3, 1) := by decide +kernel
theorem dL_law_342 : decode cL_law 342 = .ok (.iconst 4, 1) := by decide +kernel
theorem dL_law_343 : decode cL_law 343 = .ok (.iadd, 1) := by decide +kernel
theorem dL_law_344 : decode cL_law 344 = .ok (.iaload, 1) := by decide +kernel
theorem dL_law_345 : decode cL_law 345 = .ok (.invokevirtual 31, 3) := by decide +kernel
theorem dL_law_348 : decode cL_law 348 = .ok (.aload_n 2, 1) := by decide +kernel
theorem dL_law_349 : decode cL_law 349 = .ok (.aload_n 0, 1) := by decide +kernel
theorem dL_law_350 : decode cL_law 350 = .ok (.iload_n 3, 1) := by decide +kernel
theorem dL_law_351 : decode cL_law 351 = .ok (.iconst 1, 1) := by decide +kernel
theorem dL_law_352 : decode cL_law 352 = .ok (.iadd, 1) := by decide +kernel
theorem dL_law_353 : decode cL_law 353 = .ok (.iaload, 1) := by decide +kernel
theorem dL_law_354 : decode cL_law 354 = .ok (.aload_n 0, 1) := by decide +kernel
theorem dL_law_355 : decode cL_law 355 = .ok (.iload_n 3, 1) := by decide +kernel
theorem dL_law_356 : decode cL_law 356 = .ok (.iconst 2, 1) := by decide +kernel
theorem dL_law_357 : decode cL_law 357 = .ok (.iadd, 1) := by decide +kernel
theorem dL_law_358 : decode cL_law 358 = .ok (.iaload, 1) := by decide +kernel
theorem dL_law_359 : decode cL_law 359 = .ok (.aload_n 0, 1) := by decide +kernel
theorem dL_law_360 : decode cL_law 360 = .ok (.iload_n 3, 1) := by decide +kernel
theorem dL_law_361 : decode cL_law 361 = .ok (.iconst 3, 1) := by decide +kernel
theorem dL_law_362 : decode cL_law 362 = .ok (.iadd, 1) := by decide +kernel
theorem dL_law_363 : decode cL_law 363 = .ok (.iaload, 1) := by decide +kernel
theorem dL_law_364 : decode cL_law 364 = .ok (.aload_n 0, 1) := by decide +kernel
theorem dL_law_365 : decode cL_law 365 = .ok (.iload_n 3, 1) := by decide +kernel
theorem dL_law_366 : decode cL_law 366 = .ok (.iconst 4, 1) := by decide +kernel
theorem dL_law_367 : decode cL_law 367 = .ok (.iadd, 1) := by decide +kernel
theorem dL_law_368 : decode cL_law 368 = .ok (.iaload, 1) := by decide +kernel
theorem dL_law_369 : decode cL_law 369 = .ok (.invokevirtual 34, 3) := by decide +kernel
theorem dL_law_372 : decode cL_law 372 = .ok (.if_icmp .eq 885, 3) := by decide +kernel
theorem dL_law_375 : decode cL_law 375 = .ok (.iconst 0, 1) := by decide +kernel
theorem dL_law_376 : decode cL_law 376 = .ok (.ireturn, 1) := by decide +kernel
theorem dL_law_377 : decode cL_law 377 = .ok (.aload_n 1, 1) := by decide +kernel
theorem dL_law_378 : decode cL_law 378 = .ok (.aload_n 0, 1) := by decide +kernel
theorem dL_law_379 : decode cL_law 379 = .ok (.iload_n 3, 1) := by decide +kernel
theorem dL_law_380 : decode cL_law 380 = .ok (.iconst 1, 1) := by decide +kernel
theorem dL_law_381 : decode cL_law 381 = .ok (.iadd, 1) := by decide +kernel
theorem dL_law_382 : decode cL_law 382 = .ok (.iaload, 1) := by decide +kernel
theorem dL_law_383 : decode cL_law 383 = .ok (.aload_n 0, 1) := by decide +kernel
theorem dL_law_384 : decode cL_law 384 = .ok (.iload_n 3, 1) := by decide +kernel
theorem dL_law_385 : decode cL_law 385 = .ok (.iconst 2, 1) := by decide +kernel
theorem dL_law_386 : decode cL_law 386 = .ok (.iadd, 1) := by decide +kernel
theorem dL_law_387 : decode cL_law 387 = .ok (.iaload, 1) := by decide +kernel
theorem dL_law_388 : decode cL_law 388 = .ok (.invokevirtual 35, 3) := by decide +kernel
theorem dL_law_391 : decode cL_law 391 = .ok (.aload_n 2, 1) := by decide +kernel
theorem dL_law_392 : decode cL_law 392 = .ok (.aload_n 0, 1) := by decide +kernel
theorem dL_law_393 : decode cL_law 393 = .ok (.iload_n 3, 1) := by decide +kernel
theorem dL_law_394 : decode cL_law 394 = .ok (.iconst 1, 1) := by decide +kernel
theorem dL_law_395 : decode cL_law 395 = .ok (.iadd, 1) := by decide +kernel
theorem dL_law_396 : decode cL_law 396 = .ok (.iaload, 1) := by decide +kernel
theorem dL_law_397 : decode cL_law 397 = .ok (.aload_n 0, 1) := by decide +kernel
theorem dL_law_398 : decode cL_law 398 = .ok (.iload_n 3, 1) := by decide +kernel
theorem dL_law_399 : decode cL_law 399 = .ok (.iconst 2, 1) := by decide +kernel
theorem dL_law_400 : decode cL_law 400 = .ok (.iadd, 1) := by decide +kernel
theorem dL_law_401 : decode cL_law 401 = .ok (.iaload, 1) := by decide +kernel
theorem dL_law_402 : decode cL_law 402 = .ok (.invokevirtual 38, 3) := by decide +kernel
theorem dL_law_405 : decode cL_law 405 = .ok (.if_icmp .eq 852, 3) := by decide +kernel
theorem dL_law_408 : decode cL_law 408 = .ok (.iconst 0, 1) := by decide +kernel
theorem dL_law_409 : decode cL_law 409 = .ok (.ireturn, 1) := by decide +kernel
theorem dL_law_410 : decode cL_law 410 = .ok (.aload_n 1, 1) := by decide +kernel
theorem dL_law_411 : decode cL_law 411 = .ok (.aload_n 0, 1) := by decide +kernel
theorem dL_law_412 : decode cL_law 412 = .ok (.iload_n 3, 1) := by decide +kernel
theorem dL_law_413 : decode cL_law 413 = .ok (.iconst 1, 1) := by decide +kernel
theorem dL_law_414 : decode cL_law 414 = .ok (.iadd, 1) := by decide +kernel
theorem dL_law_415 : decode cL_law 415 = .ok (.iaload, 1) := by decide +kernel
theorem dL_law_416 : decode cL_law 416 = .ok (.invokevirtual 39, 3) := by decide +kernel
theorem dL_law_419 : decode cL_law 419 = .ok (.aload_n 2, 1) := by decide +kernel
theorem dL_law_420 : decode cL_law 420 = .ok (.aload_n 0, 1) := by decide +kernel
theorem dL_law_421 : decode cL_law 421 = .ok (.iload_n 3, 1) := by decide +kernel
theorem dL_law_422 : decode cL_law 422 = .ok (.iconst 1, 1) := by decide +kernel
theorem dL_law_423 : decode cL_law 423 = .ok (.iadd, 1) := by decide +kernel
theorem dL_law_424 : decode cL_law 424 = .ok (.iaload, 1) := by decide +kernel
theorem dL_law_425 : decode cL_law 425 = .ok (.invokevirtual 43, 3) := by decide +kernel
theorem dL_law_428 : decode cL_law 428 = .ok (.if_icmp .eq 829, 3) := by decide +kernel
theorem dL_law_431 : decode cL_law 431 = .ok (.iconst 0, 1) := by decide +kernel
theorem dL_law_432 : decode cL_law 432 = .ok (.ireturn, 1) := by decide +kernel
theorem dL_law_433 : decode cL_law 433 = .ok (.aload_n 1, 1) := by decide +kernel
theorem dL_law_434 : decode cL_law 434 = .ok (.aload_n 0, 1) := by decide +kernel
theorem dL_law_435 : decode cL_law 435 = .ok (.iload_n 3, 1) := by decide +kernel
theorem dL_law_436 : decode cL_law 436 = .ok (.iconst 1, 1) := by decide +kernel
theorem dL_law_437 : decode cL_law 437 = .ok (.iadd, 1) := by decide +kernel
theorem dL_law_438 : decode cL_law 438 = .ok (.iaload, 1) := by decide +kernel
theorem dL_law_439 : decode cL_law 439 = .ok (.aload_n 0, 1) := by decide +kernel
theorem dL_law_440 : decode cL_law 440 = .ok (.iload_n 3, 1) := by decide +kernel
theorem dL_law_441 : decode cL_law 441 = .ok (.iconst 2, 1) := by decide +kernel
theorem dL_law_442 : decode cL_law 442 = .ok (.iadd, 1) := by decide +kernel
theorem dL_law_443 : decode cL_law 443 = .ok (.iaload, 1) := by decide +kernel
theorem dL_law_444 : decode cL_law 444 = .ok (.aload_n 0, 1) := by decide +kernel
theorem dL_law_445 : decode cL_law 445 = .ok (.iload_n 3, 1) := by decide +kernel
theorem dL_law_446 : decode cL_law 446 = .ok (.iconst 3, 1) := by decide +kernel
theorem dL_law_447 : decode cL_law 447 = .ok (.iadd, 1) := by decide +kernel
theorem dL_law_448 : decode cL_law 448 = .ok (.iaload, 1) := by decide +kernel
theorem dL_law_449 : decode cL_law 449 = .ok (.aload_n 0, 1) := by decide +kernel
theorem dL_law_450 : decode cL_law 450 = .ok (.iload_n 3, 1) := by decide +kernel
theorem dL_law_451 : decode cL_law 451 = .ok (.iconst 4, 1) := by decide +kernel
theorem dL_law_452 : decode cL_law 452 = .ok (.iadd, 1) := by decide +kernel
theorem dL_law_453 : decode cL_law 453 = .ok (.iaload, 1) := by decide +kernel
theorem dL_law_454 : decode cL_law 454 = .ok (.aload_n 0, 1) := by decide +kernel
theorem dL_law_455 : decode cL_law 455 = .ok (.iload_n 3, 1) := by decide +kernel
theorem dL_law_456 : decode cL_law 456 = .ok (.iconst 5, 1) := by decide +kernel
theorem dL_law_457 : decode cL_law 457 = .ok (.iadd, 1) := by decide +kernel
theorem dL_law_458 : decode cL_law 458 = .ok (.iaload, 1) := by decide +kernel
theorem dL_law_459 : decode cL_law 459 = .ok (.invokevirtual 44, 3) := by decide +kernel
theorem dL_law_462 : decode cL_law 462 = .ok (.aload_n 2, 1) := by decide +kernel
theorem dL_law_463 : decode cL_law 463 = .ok (.aload_n 0, 1) := by decide +kernel
theorem dL_law_464 : decode cL_law 464 = .ok (.iload_n 3, 1) := by decide +kernel
theorem dL_law_465 : decode cL_law 465 = .ok (.iconst 1, 1) := by decide +kernel
theorem dL_law_466 : decode cL_law 466 = .ok (.iadd, 1) := by decide +kernel
theorem dL_law_467 : decode cL_law 467 = .ok (.iaload, 1) := by decide +kernel
theorem dL_law_468 : decode cL_law 468 = .ok (.aload_n 0, 1) := by decide +kernel
theorem dL_law_469 : decode cL_law 469 = .ok (.iload_n 3, 1) := by decide +kernel
theorem dL_law_470 : decode cL_law 470 = .ok (.iconst 2, 1) := by decide +kernel
theorem dL_law_471 : decode cL_law 471 = .ok (.iadd, 1) := by decide +kernel
theorem dL_law_472 : decode cL_law 472 = .ok (.iaload, 1) := by decide +kernel
theorem dL_law_473 : decode cL_law 473 = .ok (.aload_n 0, 1) := by decide +kernel
theorem dL_law_474 : decode cL_law 474 = .ok (.iload_n 3, 1) := by decide +kernel
theorem dL_law_475 : decode cL_law 475 = .ok (.iconst 3, 1) := by decide +kernel
theorem dL_law_476 : decode cL_law 476 = .ok (.iadd, 1) := by decide +kernel
theorem dL_law_477 : decode cL_law 477 = .ok (.iaload, 1) := by decide +kernel
theorem dL_law_478 : decode cL_law 478 = .ok (.aload_n 0, 1) := by decide +kernel
theorem dL_law_479 : decode cL_law 479 = .ok (.iload_n 3, 1) := by decide +kernel
theorem dL_law_480 : decode cL_law 480 = .ok (.iconst 4, 1) := by decide +kernel
theorem dL_law_481 : decode cL_law 481 = .ok (.iadd, 1) := by decide +kernel
theorem dL_law_482 : decode cL_law 482 = .ok (.iaload, 1) := by decide +kernel
theorem dL_law_483 : decode cL_law 483 = .ok (.aload_n 0, 1) := by decide +kernel
theorem dL_law_484 : decode cL_law 484 = .ok (.iload_n 3, 1) := by decide +kernel
theorem dL_law_485 : decode cL_law 485 = .ok (.iconst 5, 1) := by decide +kernel
theorem dL_law_486 : decode cL_law 486 = .ok (.iadd, 1) := by decide +kernel
theorem dL_law_487 : decode cL_law 487 = .ok (.iaload, 1) := by decide +kernel
theorem dL_law_488 : decode cL_law 488 = .ok (.invokevirtual 48, 3) := by decide +kernel
theorem dL_law_491 : decode cL_law 491 = .ok (.if_icmp .eq 766, 3) := by decide +kernel
theorem dL_law_494 : decode cL_law 494 = .ok (.iconst 0, 1) := by decide +kernel
theorem dL_law_495 : decode cL_law 495 = .ok (.ireturn, 1) := by decide +kernel
theorem dL_law_496 : decode cL_law 496 = .ok (.aload_n 1, 1) := by decide +kernel
theorem dL_law_497 : decode cL_law 497 = .ok (.aload_n 0, 1) := by decide +kernel
theorem dL_law_498 : decode cL_law 498 = .ok (.iload_n 3, 1) := by decide +kernel
theorem dL_law_499 : decode cL_law 499 = .ok (.iconst 1, 1) := by decide +kernel
theorem dL_law_500 : decode cL_law 500 = .ok (.iadd, 1) := by decide +kernel
theorem dL_law_501 : decode cL_law 501 = .ok (.iaload, 1) := by decide +kernel
theorem dL_law_502 : decode cL_law 502 = .ok (.aload_n 0, 1) := by decide +kernel
theorem dL_law_503 : decode cL_law 503 = .ok (.iload_n 3, 1) := by decide +kernel
theorem dL_law_504 : decode cL_law 504 = .ok (.iconst 2, 1) := by decide +kernel
theorem dL_law_505 : decode cL_law 505 = .ok (.iadd, 1) := by decide +kernel
theorem dL_law_506 : decode cL_law 506 = .ok (.iaload, 1) := by decide +kernel
theorem dL_law_507 : decode cL_law 507 = .ok (.invokevirtual 49, 3) := by decide +kernel
theorem dL_law_510 : decode cL_law 510 = .ok (.aload_n 2, 1) := by decide +kernel
theorem dL_law_511 : decode cL_law 511 = .ok (.aload_n 0, 1) := by decide +kernel
theorem dL_law_512 : decode cL_law 512 = .ok (.iload_n 3, 1) := by decide +kernel
theorem dL_law_513 : decode cL_law 513 = .ok (.iconst 1, 1) := by decide +kernel
theorem dL_law_514 : decode cL_law 514 = .ok (.iadd, 1) := by decide +kernel
theorem dL_law_515 : decode cL_law 515 = .ok (.iaload, 1) := by decide +kernel
theorem dL_law_516 : decode cL_law 516 = .ok (.aload_n 0, 1) := by decide +kernel
theorem dL_law_517 : decode cL_law 517 = .ok (.iload_n 3, 1) := by decide +kernel
theorem dL_law_518 : decode cL_law 518 = .ok (.iconst 2, 1) := by decide +kernel
theorem dL_law_519 : decode cL_law 519 = .ok (.iadd, 1) := by decide +kernel
theorem dL_law_520 : decode cL_law 520 = .ok (.iaload, 1) := by decide +kernel
theorem dL_law_521 : decode cL_law 521 = .ok (.invokevirtual 52, 3) := by decide +kernel
theorem dL_law_524 : decode cL_law 524 = .ok (.if_icmp .eq 733, 3) := by decide +kernel
theorem dL_law_527 : decode cL_law 527 = .ok (.iconst 0, 1) := by decide +kernel
theorem dL_law_528 : decode cL_law 528 = .ok (.ireturn, 1) := by decide +kernel
theorem dL_law_529 : decode cL_law 529 = .ok (.aload_n 1, 1) := by decide +kernel
theorem dL_law_530 : decode cL_law 530 = .ok (.aload_n 0, 1) := by decide +kernel
theorem dL_law_531 : decode cL_law 531 = .ok (.iload_n 3, 1) := by decide +kernel
theorem dL_law_532 : decode cL_law 532 = .ok (.iconst 1, 1) := by decide +kernel
theorem dL_law_533 : decode cL_law 533 = .ok (.iadd, 1) := by decide +kernel
theorem dL_law_534 : decode cL_law 534 = .ok (.iaload, 1) := by decide +kernel
theorem dL_law_535 : decode cL_law 535 = .ok (.invokevirtual 53, 3) := by decide +kernel
theorem dL_law_538 : decode cL_law 538 = .ok (.aload_n 2, 1) := by decide +kernel
theorem dL_law_539 : decode cL_law 539 = .ok (.aload_n 0, 1) := by decide +kernel
theorem dL_law_540 : decode cL_law 540 = .ok (.iload_n 3, 1) := by decide +kernel
theorem dL_law_541 : decode cL_law 541 = .ok (.iconst 1, 1) := by decide +kernel
theorem dL_law_542 : decode cL_law 542 = .ok (.iadd, 1) := by decide +kernel
theorem dL_law_543 : decode cL_law 543 = .ok (.iaload, 1) := by decide +kernel
theorem dL_law_544 : decode cL_law 544 = .ok (.invokevirtual 56, 3) := by decide +kernel
theorem dL_law_547 : decode cL_law 547 = .ok (.if_icmp .eq 710, 3) := by decide +kernel
theorem dL_law_550 : decode cL_law 550 = .ok (.iconst 0, 1) := by decide +kernel
theorem dL_law_551 : decode cL_law 551 = .ok (.ireturn, 1) := by decide +kernel
theorem dL_law_552 : decode cL_law 552 = .ok (.aload_n 1, 1) := by decide +kernel
theorem dL_law_553 : decode cL_law 553 = .ok (.aload_n 0, 1) := by decide +kernel
theorem dL_law_554 : decode cL_law 554 = .ok (.iload_n 3, 1) := by decide +kernel
theorem dL_law_555 : decode cL_law 555 = .ok (.iconst 1, 1) := by decide +kernel
theorem dL_law_556 : decode cL_law 556 = .ok (.iadd, 1) := by decide +kernel
theorem dL_law_557 : decode cL_law 557 = .ok (.iaload, 1) := by decide +kernel
theorem dL_law_558 : decode cL_law 558 = .ok (.aload_n 0, 1) := by decide +kernel
theorem dL_law_559 : decode cL_law 559 = .ok (.iload_n 3, 1) := by decide +kernel
theorem dL_law_560 : decode cL_law 560 = .ok (.iconst 2, 1) := by decide +kernel
theorem dL_law_561 : decode cL_law 561 = .ok (.iadd, 1) := by decide +kernel
theorem dL_law_562 : decode cL_law 562 = .ok (.iaload, 1) := by decide +kernel
theorem dL_law_563 : decode cL_law 563 = .ok (.invokevirtual 57, 3) := by decide +kernel
theorem dL_law_566 : decode cL_law 566 = .ok (.aload_n 2, 1) := by decide +kernel
theorem dL_law_567 : decode cL_law 567 = .ok (.aload_n 0, 1) := by decide +kernel
theorem dL_law_568 : decode cL_law 568 = .ok (.iload_n 3, 1) := by decide +kernel
theorem dL_law_569 : decode cL_law 569 = .ok (.iconst 1, 1) := by decide +kernel
theorem dL_law_570 : decode cL_law 570 = .ok (.iadd, 1) := by decide +kernel
theorem dL_law_571 : decode cL_law 571 = .ok (.iaload, 1) := by decide +kernel
theorem dL_law_572 : decode cL_law 572 = .ok (.aload_n 0, 1) := by decide +kernel
theorem dL_law_573 : decode cL_law 573 = .ok (.iload_n 3, 1) := by decide +kernel
theorem dL_law_574 : decode cL_law 574 = .ok (.iconst 2, 1) := by decide +kernel
theorem dL_law_575 : decode cL_law 575 = .ok (.iadd, 1) := by decide +kernel
theorem dL_law_576 : decode cL_law 576 = .ok (.iaload, 1) := by decide +kernel
theorem dL_law_577 : decode cL_law 577 = .ok (.invokevirtual 60, 3) := by decide +kernel
theorem dL_law_580 : decode cL_law 580 = .ok (.if_icmp .eq 677, 3) := by decide +kernel
theorem dL_law_583 : decode cL_law 583 = .ok (.iconst 0, 1) := by decide +kernel
theorem dL_law_584 : decode cL_law 584 = .ok (.ireturn, 1) := by decide +kernel
theorem dL_law_585 : decode cL_law 585 = .ok (.aload_n 1, 1) := by decide +kernel
theorem dL_law_586 : decode cL_law 586 = .ok (.aload_n 0, 1) := by decide +kernel
theorem dL_law_587 : decode cL_law 587 = .ok (.iload_n 3, 1) := by decide +kernel
theorem dL_law_588 : decode cL_law 588 = .ok (.iconst 1, 1) := by decide +kernel
theorem dL_law_589 : decode cL_law 589 = .ok (.iadd, 1) := by decide +kernel
theorem dL_law_590 : decode cL_law 590 = .ok (.iaload, 1) := by decide +kernel
theorem dL_law_591 : decode cL_law 591 = .ok (.invokevirtual 61, 3) := by decide +kernel
theorem dL_law_594 : decode cL_law 594 = .ok (.aload_n 2, 1) := by decide +kernel
theorem dL_law_595 : decode cL_law 595 = .ok (.aload_n 0, 1) := by decide +kernel
theorem dL_law_596 : decode cL_law 596 = .ok (.iload_n 3, 1) := by decide +kernel
theorem dL_law_597 : decode cL_law 597 = .ok (.iconst 1, 1) := by decide +kernel
theorem dL_law_598 : decode cL_law 598 = .ok (.iadd, 1) := by decide +kernel
theorem dL_law_599 : decode cL_law 599 = .ok (.iaload, 1) := by decide +kernel
theorem dL_law_600 : decode cL_law 600 = .ok (.invokevirtual 64, 3) := by decide +kernel
theorem dL_law_603 : decode cL_law 603 = .ok (.if_icmp .eq 654, 3) := by decide +kernel
theorem dL_law_606 : decode cL_law 606 = .ok (.iconst 0, 1) := by decide +kernel
theorem dL_law_607 : decode cL_law 607 = .ok (.ireturn, 1) := by decide +kernel
theorem dL_law_608 : decode cL_law 608 = .ok (.aload_n 1, 1) := by decide +kernel
theorem dL_law_609 : decode cL_law 609 = .ok (.aload_n 0, 1) := by decide +kernel
theorem dL_law_610 : decode cL_law 610 = .ok (.iload_n 3, 1) := by decide +kernel
theorem dL_law_611 : decode cL_law 611 = .ok (.iconst 1, 1) := by decide +kernel
theorem dL_law_612 : decode cL_law 612 = .ok (.iadd, 1) := by decide +kernel
theorem dL_law_613 : decode cL_law 613 = .ok (.iaload, 1) := by decide +kernel
theorem dL_law_614 : decode cL_law 614 = .ok (.aload_n 0, 1) := by decide +kernel
theorem dL_law_615 : decode cL_law 615 = .ok (.iload_n 3, 1) := by decide +kernel
theorem dL_law_616 : decode cL_law 616 = .ok (.iconst 2, 1) := by decide +kernel
theorem dL_law_617 : decode cL_law 617 = .ok (.iadd, 1) := by decide +kernel
theorem dL_law_618 : decode cL_law 618 = .ok (.iaload, 1) := by decide +kernel
theorem dL_law_619 : decode cL_law 619 = .ok (.aload_n 0, 1) := by decide +kernel
theorem dL_law_620 : decode cL_law 620 = .ok (.iload_n 3, 1) := by decide +kernel
theorem dL_law_621 : decode cL_law 621 = .ok (.iconst 3, 1) := by decide +kernel
theorem dL_law_622 : decode cL_law 622 = .ok (.iadd, 1) := by decide +kernel
theorem dL_law_623 : decode cL_law 623 = .ok (.iaload, 1) := by decide +kernel
theorem dL_law_624 : decode cL_law 624 = .ok (.aload_n 0, 1) := by decide +kernel
theorem dL_law_625 : decode cL_law 625 = .ok (.iload_n 3, 1) := by decide +kernel
theorem dL_law_626 : decode cL_law 626 = .ok (.iconst 4, 1) := by decide +kernel
theorem dL_law_627 : decode cL_law 627 = .ok (.iadd, 1) := by decide +kernel
theorem dL_law_628 : decode cL_law 628 = .ok (.iaload, 1) := by decide +kernel
theorem dL_law_629 : decode cL_law 629 = .ok (.aload_n 0, 1) := by decide +kernel
theorem dL_law_630 : decode cL_law 630 = .ok (.iload_n 3, 1) := by decide +kernel
theorem dL_law_631 : decode cL_law 631 = .ok (.iconst 5, 1) := by decide +kernel
theorem dL_law_632 : decode cL_law 632 = .ok (.iadd, 1) := by decide +kernel
theorem dL_law_633 : decode cL_law 633 = .ok (.iaload, 1) := by decide +kernel
theorem dL_law_634 : decode cL_law 634 = .ok (.invokevirtual 65, 3) := by decide +kernel
theorem dL_law_637 : decode cL_law 637 = .ok (.aload_n 2, 1) := by decide +kernel
theorem dL_law_638 : decode cL_law 638 = .ok (.aload_n 0, 1) := by decide +kernel
theorem dL_law_639 : decode cL_law 639 = .ok (.iload_n 3, 1) := by decide +kernel
theorem dL_law_640 : decode cL_law 640 = .ok (.iconst 1, 1) := by decide +kernel
theorem dL_law_641 : decode cL_law 641 = .ok (.iadd, 1) := by decide +kernel
theorem dL_law_642 : decode cL_law 642 = .ok (.iaload, 1) := by decide +kernel
theorem dL_law_643 : decode cL_law 643 = .ok (.aload_n 0, 1) := by decide +kernel
theorem dL_law_644 : decode cL_law 644 = .ok (.iload_n 3, 1) := by decide +kernel
theorem dL_law_645 : decode cL_law 645 = .ok (.iconst 2, 1) := by decide +kernel
theorem dL_law_646 : decode cL_law 646 = .ok (.iadd, 1) := by decide +kernel
theorem dL_law_647 : decode cL_law 647 = .ok (.iaload, 1) := by decide +kernel
theorem dL_law_648 : decode cL_law 648 = .ok (.aload_n 0, 1) := by decide +kernel
theorem dL_law_649 : decode cL_law 649 = .ok (.iload_n 3, 1) := by decide +kernel
theorem dL_law_650 : decode cL_law 650 = .ok (.iconst 3, 1) := by decide +kernel
theorem dL_law_651 : decode cL_law 651 = .ok (.iadd, 1) := by decide +kernel
theorem dL_law_652 : decode cL_law 652 = .ok (.iaload, 1) := by decide +kernel
theorem dL_law_653 : decode cL_law 653 = .ok (.aload_n 0, 1) := by decide +kernel
theorem dL_law_654 : decode cL_law 654 = .ok (.iload_n 3, 1) := by decide +kernel
theorem dL_law_655 : decode cL_law 655 = .ok (.iconst 4, 1) := by decide +kernel
theorem dL_law_656 : decode cL_law 656 = .ok (.iadd, 1) := by decide +kernel
theorem dL_law_657 : decode cL_law 657 = .ok (.iaload, 1) := by decide +kernel
theorem dL_law_658 : decode cL_law 658 = .ok (.aload_n 0, 1) := by decide +kernel
theorem dL_law_659 : decode cL_law 659 = .ok (.iload_n 3, 1) := by decide +kernel
theorem dL_law_660 : decode cL_law 660 = .ok (.iconst 5, 1) := by decide +kernel
theorem dL_law_661 : decode cL_law 661 = .ok (.iadd, 1) := by decide +kernel
theorem dL_law_662 : decode cL_law 662 = .ok (.iaload, 1) := by decide +kernel
theorem dL_law_663 : decode cL_law 663 = .ok (.invokevirtual 68, 3) := by decide +kernel
theorem dL_law_666 : decode cL_law 666 = .ok (.if_icmp .eq 591, 3) := by decide +kernel
theorem dL_law_669 : decode cL_law 669 = .ok (.iconst 0, 1) := by decide +kernel
theorem dL_law_670 : decode cL_law 670 = .ok (.ireturn, 1) := by decide +kernel
theorem dL_law_671 : decode cL_law 671 = .ok (.aload_n 1, 1) := by decide +kernel
theorem dL_law_672 : decode cL_law 672 = .ok (.aload_n 0, 1) := by decide +kernel
theorem dL_law_673 : decode cL_law 673 = .ok (.iload_n 3, 1) := by decide +kernel
theorem dL_law_674 : decode cL_law 674 = .ok (.iconst 1, 1) := by decide +kernel
theorem dL_law_675 : decode cL_law 675 = .ok (.iadd, 1) := by decide +kernel
theorem dL_law_676 : decode cL_law 676 = .ok (.iaload, 1) := by decide +kernel
theorem dL_law_677 : decode cL_law 677 = .ok (.aload_n 0, 1) := by decide +kernel
theorem dL_law_678 : decode cL_law 678 = .ok (.iload_n 3, 1) := by decide +kernel
theorem dL_law_679 : decode cL_law 679 = .ok (.iconst 2, 1) := by decide +kernel
theorem dL_law_680 : decode cL_law 680 = .ok (.iadd, 1) := by decide +kernel
theorem dL_law_681 : decode cL_law 681 = .ok (.iaload, 1) := by decide +kernel
theorem dL_law_682 : decode cL_law 682 = .ok (.aload_n 0, 1) := by decide +kernel
theorem dL_law_683 : decode cL_law 683 = .ok (.iload_n 3, 1) := by decide +kernel
theorem dL_law_684 : decode cL_law 684 = .ok (.iconst 3, 1) := by decide +kernel
theorem dL_law_685 : decode cL_law 685 = .ok (.iadd, 1) := by decide +kernel
theorem dL_law_686 : decode cL_law 686 = .ok (.iaload, 1) := by decide +kernel
theorem dL_law_687 : decode cL_law 687 = .ok (.aload_n 0, 1) := by decide +kernel
theorem dL_law_688 : decode cL_law 688 = .ok (.iload_n 3, 1) := by decide +kernel
theorem dL_law_689 : decode cL_law 689 = .ok (.iconst 4, 1) := by decide +kernel
theorem dL_law_690 : decode cL_law 690 = .ok (.iadd, 1) := by decide +kernel
theorem dL_law_691 : decode cL_law 691 = .ok (.iaload, 1) := by decide +kernel
theorem dL_law_692 : decode cL_law 692 = .ok (.invokevirtual 69, 3) := by decide +kernel
theorem dL_law_695 : decode cL_law 695 = .ok (.aload_n 2, 1) := by decide +kernel
theorem dL_law_696 : decode cL_law 696 = .ok (.aload_n 0, 1) := by decide +kernel
theorem dL_law_697 : decode cL_law 697 = .ok (.iload_n 3, 1) := by decide +kernel
theorem dL_law_698 : decode cL_law 698 = .ok (.iconst 1, 1) := by decide +kernel
theorem dL_law_699 : decode cL_law 699 = .ok (.iadd, 1) := by decide +kernel
theorem dL_law_700 : decode cL_law 700 = .ok (.iaload, 1) := by decide +kernel
theorem dL_law_701 : decode cL_law 701 = .ok (.aload_n 0, 1) := by decide +kernel
theorem dL_law_702 : decode cL_law 702 = .ok (.iload_n 3, 1) := by decide +kernel
theorem dL_law_703 : decode cL_law 703 = .ok (.iconst 2, 1) := by decide +kernel
theorem dL_law_704 : decode cL_law 704 = .ok (.iadd, 1) := by decide +kernel
theorem dL_law_705 : decode cL_law 705 = .ok (.iaload, 1) := by decide +kernel
theorem dL_law_706 : decode cL_law 706 = .ok (.aload_n 0, 1) := by decide +kernel
theorem dL_law_707 : decode cL_law 707 = .ok (.iload_n 3, 1) := by decide +kernel
theorem dL_law_708 : decode cL_law 708 = .ok (.iconst 3, 1) := by decide +kernel
theorem dL_law_709 : decode cL_law 709 = .ok (.iadd, 1) := by decide +kernel
theorem dL_law_710 : decode cL_law 710 = .ok (.iaload, 1) := by decide +kernel
theorem dL_law_711 : decode cL_law 711 = .ok (.aload_n 0, 1) := by decide +kernel
theorem dL_law_712 : decode cL_law 712 = .ok (.iload_n 3, 1) := by decide +kernel
theorem dL_law_713 : decode cL_law 713 = .ok (.iconst 4, 1) := by decide +kernel
theorem dL_law_714 : decode cL_law 714 = .ok (.iadd, 1) := by decide +kernel
theorem dL_law_715 : decode cL_law 715 = .ok (.iaload, 1) := by decide +kernel
theorem dL_law_716 : decode cL_law 716 = .ok (.invokevirtual 72, 3) := by decide +kernel
theorem dL_law_719 : decode cL_law 719 = .ok (.if_icmp .eq 538, 3) := by decide +kernel
theorem dL_law_722 : decode cL_law 722 = .ok (.iconst 0, 1) := by decide +kernel
theorem dL_law_723 : decode cL_law 723 = .ok (.ireturn, 1) := by decide +kernel
theorem dL_law_724 : decode cL_law 724 = .ok (.aload_n 1, 1) := by decide +kernel
theorem dL_law_725 : decode cL_law 725 = .ok (.aload_n 0, 1) := by decide +kernel
theorem dL_law_726 : decode cL_law 726 = .ok (.iload_n 3, 1) := by decide +kernel
theorem dL_law_727 : decode cL_law 727 = .ok (.iconst 1, 1) := by decide +kernel
theorem dL_law_728 : decode cL_law 728 = .ok (.iadd, 1) := by decide +kernel
theorem dL_law_729 : decode cL_law 729 = .ok (.iaload, 1) := by decide +kernel
theorem dL_law_730 : decode cL_law 730 = .ok (.aload_n 0, 1) := by decide +kernel
theorem dL_law_731 : decode cL_law 731 = .ok (.iload_n 3, 1) := by decide +kernel
theorem dL_law_732 : decode cL_law 732 = .ok (.iconst 2, 1) := by decide +kernel
theorem dL_law_733 : decode cL_law 733 = .ok (.iadd, 1) := by decide +kernel
theorem dL_law_734 : decode cL_law 734 = .ok (.iaload, 1) := by decide +kernel
theorem dL_law_735 : decode cL_law 735 = .ok (.aload_n 0, 1) := by decide +kernel
theorem dL_law_736 : decode cL_law 736 = .ok (.iload_n 3, 1) := by decide +kernel
theorem dL_law_737 : decode cL_law 737 = .ok (.iconst 3, 1) := by decide +kernel
theorem dL_law_738 : decode cL_law 738 = .ok (.iadd, 1) := by decide +kernel
theorem dL_law_739 : decode cL_law 739 = .ok (.iaload, 1) := by decide +kernel
theorem dL_law_740 : decode cL_law 740 = .ok (.aload_n 0, 1) := by decide +kernel
theorem dL_law_741 : decode cL_law 741 = .ok (.iload_n 3, 1) := by decide +kernel
theorem dL_law_742 : decode cL_law 742 = .ok (.iconst 4, 1) := by decide +kernel
theorem dL_law_743 : decode cL_law 743 = .ok (.iadd, 1) := by decide +kernel
theorem dL_law_744 : decode cL_law 744 = .ok (.iaload, 1) := by decide +kernel
theorem dL_law_745 : decode cL_law 745 = .ok (.invokevirtual 73, 3) := by decide +kernel
theorem dL_law_748 : decode cL_law 748 = .ok (.aload_n 2, 1) := by decide +kernel
theorem dL_law_749 : decode cL_law 749 = .ok (.aload_n 0, 1) := by decide +kernel
theorem dL_law_750 : decode cL_law 750 = .ok (.iload_n 3, 1) := by decide +kernel
theorem dL_law_751 : decode cL_law 751 = .ok (.iconst 1, 1) := by decide +kernel
theorem dL_law_752 : decode cL_law 752 = .ok (.iadd, 1) := by decide +kernel
theorem dL_law_753 : decode cL_law 753 = .ok (.iaload, 1) := by decide +kernel
theorem dL_law_754 : decode cL_law 754 = .ok (.aload_n 0, 1) := by decide +kernel
theorem dL_law_755 : decode cL_law 755 = .ok (.iload_n 3, 1) := by decide +kernel
theorem dL_law_756 : decode cL_law 756 = .ok (.iconst 2, 1) := by decide +kernel
theorem dL_law_757 : decode cL_law 757 = .ok (.iadd, 1) := by decide +kernel
theorem dL_law_758 : decode cL_law 758 = .ok (.iaload, 1) := by decide +kernel
theorem dL_law_759 : decode cL_law 759 = .ok (.aload_n 0, 1) := by decide +kernel
theorem dL_law_760 : decode cL_law 760 = .ok (.iload_n 3, 1) := by decide +kernel
theorem dL_law_761 : decode cL_law 761 = .ok (.iconst 3, 1) := by decide +kernel
theorem dL_law_762 : decode cL_law 762 = .ok (.iadd, 1) := by decide +kernel
theorem dL_law_763 : decode cL_law 763 = .ok (.iaload, 1) := by decide +kernel
theorem dL_law_764 : decode cL_law 764 = .ok (.aload_n 0, 1) := by decide +kernel
theorem dL_law_765 : decode cL_law 765 = .ok (.iload_n 3, 1) := by decide +kernel
theorem dL_law_766 : decode cL_law 766 = .ok (.iconst 4, 1) := by decide +kernel
theorem dL_law_767 : decode cL_law 767 = .ok (.iadd, 1) := by decide +kernel
theorem dL_law_768 : decode cL_law 768 = .ok (.iaload, 1) := by decide +kernel
theorem dL_law_769 : decode cL_law 769 = .ok (.invokevirtual 76, 3) := by decide +kernel
theorem dL_law_772 : decode cL_law 772 = .ok (.if_icmp .eq 485, 3) := by decide +kernel
theorem dL_law_775 : decode cL_law 775 = .ok (.iconst 0, 1) := by decide +kernel
theorem dL_law_776 : decode cL_law 776 = .ok (.ireturn, 1) := by decide +kernel
theorem dL_law_777 : decode cL_law 777 = .ok (.aload_n 1, 1) := by decide +kernel
theorem dL_law_778 : decode cL_law 778 = .ok (.aload_n 0, 1) := by decide +kernel
theorem dL_law_779 : decode cL_law 779 = .ok (.iload_n 3, 1) := by decide +kernel
theorem dL_law_780 : decode cL_law 780 = .ok (.iconst 1, 1) := by decide +kernel
theorem dL_law_781 : decode cL_law 781 = .ok (.iadd, 1) := by decide +kernel
theorem dL_law_782 : decode cL_law 782 = .ok (.iaload, 1) := by decide +kernel
theorem dL_law_783 : decode cL_law 783 = .ok (.invokevirtual 77, 3) := by decide +kernel
theorem dL_law_786 : decode cL_law 786 = .ok (.aload_n 2, 1) := by decide +kernel
theorem dL_law_787 : decode cL_law 787 = .ok (.aload_n 0, 1) := by decide +kernel
theorem dL_law_788 : decode cL_law 788 = .ok (.iload_n 3, 1) := by decide +kernel
theorem dL_law_789 : decode cL_law 789 = .ok (.iconst 1, 1) := by decide +kernel
theorem dL_law_790 : decode cL_law 790 = .ok (.iadd, 1) := by decide +kernel
theorem dL_law_791 : decode cL_law 791 = .ok (.iaload, 1) := by decide +kernel
theorem dL_law_792 : decode cL_law 792 = .ok (.invokevirtual 80, 3) := by decide +kernel
theorem dL_law_795 : decode cL_law 795 = .ok (.if_icmp .eq 462, 3) := by decide +kernel
theorem dL_law_798 : decode cL_law 798 = .ok (.iconst 0, 1) := by decide +kernel
theorem dL_law_799 : decode cL_law 799 = .ok (.ireturn, 1) := by decide +kernel
theorem dL_law_800 : decode cL_law 800 = .ok (.aload_n 1, 1) := by decide +kernel
theorem dL_law_801 : decode cL_law 801 = .ok (.aload_n 0, 1) := by decide +kernel
theorem dL_law_802 : decode cL_law 802 = .ok (.iload_n 3, 1) := by decide +kernel
theorem dL_law_803 : decode cL_law 803 = .ok (.iconst 1, 1) := by decide +kernel
theorem dL_law_804 : decode cL_law 804 = .ok (.iadd, 1) := by decide +kernel
theorem dL_law_805 : decode cL_law 805 = .ok (.iaload, 1) := by decide +kernel
theorem dL_law_806 : decode cL_law 806 = .ok (.invokevirtual 81, 3) := by decide +kernel
theorem dL_law_809 : decode cL_law 809 = .ok (.aload_n 2, 1) := by decide +kernel
theorem dL_law_810 : decode cL_law 810 = .ok (.aload_n 0, 1) := by decide +kernel
theorem dL_law_811 : decode cL_law 811 = .ok (.iload_n 3, 1) := by decide +kernel
theorem dL_law_812 : decode cL_law 812 = .ok (.iconst 1, 1) := by decide +kernel
theorem dL_law_813 : decode cL_law 813 = .ok (.iadd, 1) := by decide +kernel
theorem dL_law_814 : decode cL_law 814 = .ok (.iaload, 1) := by decide +kernel
theorem dL_law_815 : decode cL_law 815 = .ok (.invokevirtual 84, 3) := by decide +kernel
theorem dL_law_818 : decode cL_law 818 = .ok (.if_icmp .eq 439, 3) := by decide +kernel
theorem dL_law_821 : decode cL_law 821 = .ok (.iconst 0, 1) := by decide +kernel
theorem dL_law_822 : decode cL_law 822 = .ok (.ireturn, 1) := by decide +kernel
theorem dL_law_823 : decode cL_law 823 = .ok (.aload_n 1, 1) := by decide +kernel
theorem dL_law_824 : decode cL_law 824 = .ok (.aload_n 0, 1) := by decide +kernel
theorem dL_law_825 : decode cL_law 825 = .ok (.iload_n 3, 1) := by decide +kernel
theorem dL_law_826 : decode cL_law 826 = .ok (.iconst 1, 1) := by decide +kernel
theorem dL_law_827 : decode cL_law 827 = .ok (.iadd, 1) := by decide +kernel
theorem dL_law_828 : decode cL_law 828 = .ok (.iaload, 1) := by decide +kernel
theorem dL_law_829 : decode cL_law 829 = .ok (.invokevirtual 85, 3) := by decide +kernel
theorem dL_law_832 : decode cL_law 832 = .ok (.aload_n 2, 1) := by decide +kernel
theorem dL_law_833 : decode cL_law 833 = .ok (.aload_n 0, 1) := by decide +kernel
theorem dL_law_834 : decode cL_law 834 = .ok (.iload_n 3, 1) := by decide +kernel
theorem dL_law_835 : decode cL_law 835 = .ok (.iconst 1, 1) := by decide +kernel
theorem dL_law_836 : decode cL_law 836 = .ok (.iadd, 1) := by decide +kernel
theorem dL_law_837 : decode cL_law 837 = .ok (.iaload, 1) := by decide +kernel
theorem dL_law_838 : decode cL_law 838 = .ok (.invokevirtual 88, 3) := by decide +kernel
theorem dL_law_841 : decode cL_law 841 = .ok (.if_icmp .eq 416, 3) := by decide +kernel
theorem dL_law_844 : decode cL_law 844 = .ok (.iconst 0, 1) := by decide +kernel
theorem dL_law_845 : decode cL_law 845 = .ok (.ireturn, 1) := by decide +kernel
theorem dL_law_846 : decode cL_law 846 = .ok (.aload_n 1, 1) := by decide +kernel
theorem dL_law_847 : decode cL_law 847 = .ok (.aload_n 0, 1) := by decide +kernel
theorem dL_law_848 : decode cL_law 848 = .ok (.iload_n 3, 1) := by decide +kernel
theorem dL_law_849 : decode cL_law 849 = .ok (.iconst 1, 1) := by decide +kernel
theorem dL_law_850 : decode cL_law 850 = .ok (.iadd, 1) := by decide +kernel
theorem dL_law_851 : decode cL_law 851 = .ok (.iaload, 1) := by decide +kernel
theorem dL_law_852 : decode cL_law 852 = .ok (.invokevirtual 89, 3) := by decide +kernel
theorem dL_law_855 : decode cL_law 855 = .ok (.aload_n 2, 1) := by decide +kernel
theorem dL_law_856 : decode cL_law 856 = .ok (.aload_n 0, 1) := by decide +kernel
theorem dL_law_857 : decode cL_law 857 = .ok (.iload_n 3, 1) := by decide +kernel
theorem dL_law_858 : decode cL_law 858 = .ok (.iconst 1, 1) := by decide +kernel
theorem dL_law_859 : decode cL_law 859 = .ok (.iadd, 1) := by decide +kernel
theorem dL_law_860 : decode cL_law 860 = .ok (.iaload, 1) := by decide +kernel
theorem dL_law_861 : decode cL_law 861 = .ok (.invokevirtual 92, 3) := by decide +kernel
theorem dL_law_864 : decode cL_law 864 = .ok (.if_icmp .eq 393, 3) := by decide +kernel
theorem dL_law_867 : decode cL_law 867 = .ok (.iconst 0, 1) := by decide +kernel
theorem dL_law_868 : decode cL_law 868 = .ok (.ireturn, 1) := by decide +kernel
theorem dL_law_869 : decode cL_law 869 = .ok (.aload_n 1, 1) := by decide +kernel
theorem dL_law_870 : decode cL_law 870 = .ok (.aload_n 0, 1) := by decide +kernel
theorem dL_law_871 : decode cL_law 871 = .ok (.iload_n 3, 1) := by decide +kernel
theorem dL_law_872 : decode cL_law 872 = .ok (.iconst 1, 1) := by decide +kernel
theorem dL_law_873 : decode cL_law 873 = .ok (.iadd, 1) := by decide +kernel
theorem dL_law_874 : decode cL_law 874 = .ok (.iaload, 1) := by decide +kernel
theorem dL_law_875 : decode cL_law 875 = .ok (.aload_n 0, 1) := by decide +kernel
theorem dL_law_876 : decode cL_law 876 = .ok (.iload_n 3, 1) := by decide +kernel
theorem dL_law_877 : decode cL_law 877 = .ok (.iconst 2, 1) := by decide +kernel
theorem dL_law_878 : decode cL_law 878 = .ok (.iadd, 1) := by decide +kernel
theorem dL_law_879 : decode cL_law 879 = .ok (.iaload, 1) := by decide +kernel
theorem dL_law_880 : decode cL_law 880 = .ok (.aload_n 0, 1) := by decide +kernel
theorem dL_law_881 : decode cL_law 881 = .ok (.iload_n 3, 1) := by decide +kernel
theorem dL_law_882 : decode cL_law 882 = .ok (.iconst 3, 1) := by decide +kernel
theorem dL_law_883 : decode cL_law 883 = .ok (.iadd, 1) := by decide +kernel
theorem dL_law_884 : decode cL_law 884 = .ok (.iaload, 1) := by decide +kernel
theorem dL_law_885 : decode cL_law 885 = .ok (.invokevirtual 93, 3) := by decide +kernel
theorem dL_law_888 : decode cL_law 888 = .ok (.aload_n 2, 1) := by decide +kernel
theorem dL_law_889 : decode cL_law 889 = .ok (.aload_n 0, 1) := by decide +kernel
theorem dL_law_890 : decode cL_law 890 = .ok (.iload_n 3, 1) := by decide +kernel
theorem dL_law_891 : decode cL_law 891 = .ok (.iconst 1, 1) := by decide +kernel
theorem dL_law_892 : decode cL_law 892 = .ok (.iadd, 1) := by decide +kernel
theorem dL_law_893 : decode cL_law 893 = .ok (.iaload, 1) := by decide +kernel
theorem dL_law_894 : decode cL_law 894 = .ok (.aload_n 0, 1) := by decide +kernel
theorem dL_law_895 : decode cL_law 895 = .ok (.iload_n 3, 1) := by decide +kernel
theorem dL_law_896 : decode cL_law 896 = .ok (.iconst 2, 1) := by decide +kernel
theorem dL_law_897 : decode cL_law 897 = .ok (.iadd, 1) := by decide +kernel
theorem dL_law_898 : decode cL_law 898 = .ok (.iaload, 1) := by decide +kernel
theorem dL_law_899 : decode cL_law 899 = .ok (.aload_n 0, 1) := by decide +kernel
theorem dL_law_900 : decode cL_law 900 = .ok (.iload_n 3, 1) := by decide +kernel
theorem dL_law_901 : decode cL_law 901 = .ok (.iconst 3, 1) := by decide +kernel
theorem dL_law_902 : decode cL_law 902 = .ok (.iadd, 1) := by decide +kernel
theorem dL_law_903 : decode cL_law 903 = .ok (.iaload, 1) := by decide +kernel
theorem dL_law_904 : decode cL_law 904 = .ok (.invokevirtual 97, 3) := by decide +kernel
theorem dL_law_907 : decode cL_law 907 = .ok (.lcmp, 1) := by decide +kernel
theorem dL_law_908 : decode cL_law 908 = .ok (.ifCond .eq 349, 3) := by decide +kernel
theorem dL_law_911 : decode cL_law 911 = .ok (.iconst 0, 1) := by decide +kernel
theorem dL_law_912 : decode cL_law 912 = .ok (.ireturn, 1) := by decide +kernel
theorem dL_law_913 : decode cL_law 913 = .ok (.aload_n 1, 1) := by decide +kernel
theorem dL_law_914 : decode cL_law 914 = .ok (.aload_n 0, 1) := by decide +kernel
theorem dL_law_915 : decode cL_law 915 = .ok (.iload_n 3, 1) := by decide +kernel
theorem dL_law_916 : decode cL_law 916 = .ok (.iconst 1, 1) := by decide +kernel
theorem dL_law_917 : decode cL_law 917 = .ok (.iadd, 1) := by decide +kernel
theorem dL_law_918 : decode cL_law 918 = .ok (.iaload, 1) := by decide +kernel
theorem dL_law_919 : decode cL_law 919 = .ok (.aload_n 0, 1) := by decide +kernel
theorem dL_law_920 : decode cL_law 920 = .ok (.iload_n 3, 1) := by decide +kernel
theorem dL_law_921 : decode cL_law 921 = .ok (.iconst 2, 1) := by decide +kernel
theorem dL_law_922 : decode cL_law 922 = .ok (.iadd, 1) := by decide +kernel
theorem dL_law_923 : decode cL_law 923 = .ok (.iaload, 1) := by decide +kernel
theorem dL_law_924 : decode cL_law 924 = .ok (.aload_n 0, 1) := by decide +kernel
theorem dL_law_925 : decode cL_law 925 = .ok (.iload_n 3, 1) := by decide +kernel
theorem dL_law_926 : decode cL_law 926 = .ok (.iconst 3, 1) := by decide +kernel
theorem dL_law_927 : decode cL_law 927 = .ok (.iadd, 1) := by decide +kernel
theorem dL_law_928 : decode cL_law 928 = .ok (.iaload, 1) := by decide +kernel
theorem dL_law_929 : decode cL_law 929 = .ok (.invokevirtual 98, 3) := by decide +kernel
theorem dL_law_932 : decode cL_law 932 = .ok (.aload_n 2, 1) := by decide +kernel
theorem dL_law_933 : decode cL_law 933 = .ok (.aload_n 0, 1) := by decide +kernel
theorem dL_law_934 : decode cL_law 934 = .ok (.iload_n 3, 1) := by decide +kernel
theorem dL_law_935 : decode cL_law 935 = .ok (.iconst 1, 1) := by decide +kernel
theorem dL_law_936 : decode cL_law 936 = .ok (.iadd, 1) := by decide +kernel
theorem dL_law_937 : decode cL_law 937 = .ok (.iaload, 1) := by decide +kernel
theorem dL_law_938 : decode cL_law 938 = .ok (.aload_n 0, 1) := by decide +kernel
theorem dL_law_939 : decode cL_law 939 = .ok (.iload_n 3, 1) := by decide +kernel
theorem dL_law_940 : decode cL_law 940 = .ok (.iconst 2, 1) := by decide +kernel
theorem dL_law_941 : decode cL_law 941 = .ok (.iadd, 1) := by decide +kernel
theorem dL_law_942 : decode cL_law 942 = .ok (.iaload, 1) := by decide +kernel
theorem dL_law_943 : decode cL_law 943 = .ok (.aload_n 0, 1) := by decide +kernel
theorem dL_law_944 : decode cL_law 944 = .ok (.iload_n 3, 1) := by decide +kernel
theorem dL_law_945 : decode cL_law 945 = .ok (.iconst 3, 1) := by decide +kernel
theorem dL_law_946 : decode cL_law 946 = .ok (.iadd, 1) := by decide +kernel
theorem dL_law_947 : decode cL_law 947 = .ok (.iaload, 1) := by decide +kernel
theorem dL_law_948 : decode cL_law 948 = .ok (.invokevirtual 102, 3) := by decide +kernel
theorem dL_law_951 : decode cL_law 951 = .ok (.if_icmp .eq 306, 3) := by decide +kernel
theorem dL_law_954 : decode cL_law 954 = .ok (.iconst 0, 1) := by decide +kernel
theorem dL_law_955 : decode cL_law 955 = .ok (.ireturn, 1) := by decide +kernel
theorem dL_law_956 : decode cL_law 956 = .ok (.aload_n 1, 1) := by decide +kernel
theorem dL_law_957 : decode cL_law 957 = .ok (.aload_n 0, 1) := by decide +kernel
theorem dL_law_958 : decode cL_law 958 = .ok (.iload_n 3, 1) := by decide +kernel
theorem dL_law_959 : decode cL_law 959 = .ok (.iconst 1, 1) := by decide +kernel
theorem dL_law_960 : decode cL_law 960 = .ok (.iadd, 1) := by decide +kernel
theorem dL_law_961 : decode cL_law 961 = .ok (.iaload, 1) := by decide +kernel
theorem dL_law_962 : decode cL_law 962 = .ok (.invokevirtual 103, 3) := by decide +kernel
theorem dL_law_965 : decode cL_law 965 = .ok (.aload_n 2, 1) := by decide +kernel
theorem dL_law_966 : decode cL_law 966 = .ok (.aload_n 0, 1) := by decide +kernel
theorem dL_law_967 : decode cL_law 967 = .ok (.iload_n 3, 1) := by decide +kernel
theorem dL_law_968 : decode cL_law 968 = .ok (.iconst 1, 1) := by decide +kernel
theorem dL_law_969 : decode cL_law 969 = .ok (.iadd, 1) := by decide +kernel
theorem dL_law_970 : decode cL_law 970 = .ok (.iaload, 1) := by decide +kernel
theorem dL_law_971 : decode cL_law 971 = .ok (.invokevirtual 106, 3) := by decide +kernel
theorem dL_law_974 : decode cL_law 974 = .ok (.if_icmp .eq 283, 3) := by decide +kernel
theorem dL_law_977 : decode cL_law 977 = .ok (.iconst 0, 1) := by decide +kernel
theorem dL_law_978 : decode cL_law 978 = .ok (.ireturn, 1) := by decide +kernel
theorem dL_law_979 : decode cL_law 979 = .ok (.aload_n 1, 1) := by decide +kernel
theorem dL_law_980 : decode cL_law 980 = .ok (.aload_n 0, 1) := by decide +kernel
theorem dL_law_981 : decode cL_law 981 = .ok (.iload_n 3, 1) := by decide +kernel
theorem dL_law_982 : decode cL_law 982 = .ok (.iconst 1, 1) := by decide +kernel
theorem dL_law_983 : decode cL_law 983 = .ok (.iadd, 1) := by decide +kernel
theorem dL_law_984 : decode cL_law 984 = .ok (.iaload, 1) := by decide +kernel
theorem dL_law_985 : decode cL_law 985 = .ok (.aload_n 0, 1) := by decide +kernel
theorem dL_law_986 : decode cL_law 986 = .ok (.iload_n 3, 1) := by decide +kernel
theorem dL_law_987 : decode cL_law 987 = .ok (.iconst 2, 1) := by decide +kernel
theorem dL_law_988 : decode cL_law 988 = .ok (.iadd, 1) := by decide +kernel
theorem dL_law_989 : decode cL_law 989 = .ok (.iaload, 1) := by decide +kernel
theorem dL_law_990 : decode cL_law 990 = .ok (.aload_n 0, 1) := by decide +kernel
theorem dL_law_991 : decode cL_law 991 = .ok (.iload_n 3, 1) := by decide +kernel
theorem dL_law_992 : decode cL_law 992 = .ok (.iconst 3, 1) := by decide +kernel
theorem dL_law_993 : decode cL_law 993 = .ok (.iadd, 1) := by decide +kernel
theorem dL_law_994 : decode cL_law 994 = .ok (.iaload, 1) := by decide +kernel
theorem dL_law_995 : decode cL_law 995 = .ok (.invokevirtual 107, 3) := by decide +kernel
theorem dL_law_998 : decode cL_law 998 = .ok (.aload_n 2, 1) := by decide +kernel
theorem dL_law_999 : decode cL_law 999 = .ok (.aload_n 0, 1) := by decide +kernel
theorem dL_law_1000 : decode cL_law 1000 = .ok (.iload_n 3, 1) := by decide +kernel
theorem dL_law_1001 : decode cL_law 1001 = .ok (.iconst 1, 1) := by decide +kernel
theorem dL_law_1002 : decode cL_law 1002 = .ok (.iadd, 1) := by decide +kernel
theorem dL_law_1003 : decode cL_law 1003 = .ok (.iaload, 1) := by decide +kernel
theorem dL_law_1004 : decode cL_law 1004 = .ok (.aload_n 0, 1) := by decide +kernel
theorem dL_law_1005 : decode cL_law 1005 = .ok (.iload_n 3, 1) := by decide +kernel
theorem dL_law_1006 : decode cL_law 1006 = .ok (.iconst 2, 1) := by decide +kernel
theorem dL_law_1007 : decode cL_law 1007 = .ok (.iadd, 1) := by decide +kernel
theorem dL_law_1008 : decode cL_law 1008 = .ok (.iaload, 1) := by decide +kernel
theorem dL_law_1009 : decode cL_law 1009 = .ok (.aload_n 0, 1) := by decide +kernel
theorem dL_law_1010 : decode cL_law 1010 = .ok (.iload_n 3, 1) := by decide +kernel
theorem dL_law_1011 : decode cL_law 1011 = .ok (.iconst 3, 1) := by decide +kernel
theorem dL_law_1012 : decode cL_law 1012 = .ok (.iadd, 1) := by decide +kernel
theorem dL_law_1013 : decode cL_law 1013 = .ok (.iaload, 1) := by decide +kernel
theorem dL_law_1014 : decode cL_law 1014 = .ok (.invokevirtual 110, 3) := by decide +kernel
theorem dL_law_1017 : decode cL_law 1017 = .ok (.if_icmp .eq 240, 3) := by decide +kernel
theorem dL_law_1020 : decode cL_law 1020 = .ok (.iconst 0, 1) := by decide +kernel
theorem dL_law_1021 : decode cL_law 1021 = .ok (.ireturn, 1) := by decide +kernel
theorem dL_law_1022 : decode cL_law 1022 = .ok (.aload_n 1, 1) := by decide +kernel
theorem dL_law_1023 : decode cL_law 1023 = .ok (.aload_n 0, 1) := by decide +kernel
theorem dL_law_1024 : decode cL_law 1024 = .ok (.iload_n 3, 1) := by decide +kernel
theorem dL_law_1025 : decode cL_law 1025 = .ok (.iconst 1, 1) := by decide +kernel
theorem dL_law_1026 : decode cL_law 1026 = .ok (.iadd, 1) := by decide +kernel
theorem dL_law_1027 : decode cL_law 1027 = .ok (.iaload, 1) := by decide +kernel
theorem dL_law_1028 : decode cL_law 1028 = .ok (.aload_n 0, 1) := by decide +kernel
theorem dL_law_1029 : decode cL_law 1029 = .ok (.iload_n 3, 1) := by decide +kernel
theorem dL_law_1030 : decode cL_law 1030 = .ok (.iconst 2, 1) := by decide +kernel
theorem dL_law_1031 : decode cL_law 1031 = .ok (.iadd, 1) := by decide +kernel
theorem dL_law_1032 : decode cL_law 1032 = .ok (.iaload, 1) := by decide +kernel
theorem dL_law_1033 : decode cL_law 1033 = .ok (.aload_n 0, 1) := by decide +kernel
theorem dL_law_1034 : decode cL_law 1034 = .ok (.iload_n 3, 1) := by decide +kernel
theorem dL_law_1035 : decode cL_law 1035 = .ok (.iconst 3, 1) := by decide +kernel
theorem dL_law_1036 : decode cL_law 1036 = .ok (.iadd, 1) := by decide +kernel
theorem dL_law_1037 : decode cL_law 1037 = .ok (.iaload, 1) := by decide +kernel
theorem dL_law_1038 : decode cL_law 1038 = .ok (.invokevirtual 111, 3) := by decide +kernel
theorem dL_law_1041 : decode cL_law 1041 = .ok (.aload_n 2, 1) := by decide +kernel
theorem dL_law_1042 : decode cL_law 1042 = .ok (.aload_n 0, 1) := by decide +kernel
theorem dL_law_1043 : decode cL_law 1043 = .ok (.iload_n 3, 1) := by decide +kernel
theorem dL_law_1044 : decode cL_law 1044 = .ok (.iconst 1, 1) := by decide +kernel
theorem dL_law_1045 : decode cL_law 1045 = .ok (.iadd, 1) := by decide +kernel
theorem dL_law_1046 : decode cL_law 1046 = .ok (.iaload, 1) := by decide +kernel
theorem dL_law_1047 : decode cL_law 1047 = .ok (.aload_n 0, 1) := by decide +kernel
theorem dL_law_1048 : decode cL_law 1048 = .ok (.iload_n 3, 1) := by decide +kernel
theorem dL_law_1049 : decode cL_law 1049 = .ok (.iconst 2, 1) := by decide +kernel
theorem dL_law_1050 : decode cL_law 1050 = .ok (.iadd, 1) := by decide +kernel
theorem dL_law_1051 : decode cL_law 1051 = .ok (.iaload, 1) := by decide +kernel
theorem dL_law_1052 : decode cL_law 1052 = .ok (.aload_n 0, 1) := by decide +kernel
theorem dL_law_1053 : decode cL_law 1053 = .ok (.iload_n 3, 1) := by decide +kernel
theorem dL_law_1054 : decode cL_law 1054 = .ok (.iconst 3, 1) := by decide +kernel
theorem dL_law_1055 : decode cL_law 1055 = .ok (.iadd, 1) := by decide +kernel
theorem dL_law_1056 : decode cL_law 1056 = .ok (.iaload, 1) := by decide +kernel
theorem dL_law_1057 : decode cL_law 1057 = .ok (.invokevirtual 114, 3) := by decide +kernel
theorem dL_law_1060 : decode cL_law 1060 = .ok (.lcmp, 1) := by decide +kernel
theorem dL_law_1061 : decode cL_law 1061 = .ok (.ifCond .eq 196, 3) := by decide +kernel
theorem dL_law_1064 : decode cL_law 1064 = .ok (.iconst 0, 1) := by decide +kernel
theorem dL_law_1065 : decode cL_law 1065 = .ok (.ireturn, 1) := by decide +kernel
theorem dL_law_1066 : decode cL_law 1066 = .ok (.aload_n 1, 1) := by decide +kernel
theorem dL_law_1067 : decode cL_law 1067 = .ok (.aload_n 0, 1) := by decide +kernel
theorem dL_law_1068 : decode cL_law 1068 = .ok (.iload_n 3, 1) := by decide +kernel
theorem dL_law_1069 : decode cL_law 1069 = .ok (.iconst 1, 1) := by decide +kernel
theorem dL_law_1070 : decode cL_law 1070 = .ok (.iadd, 1) := by decide +kernel
theorem dL_law_1071 : decode cL_law 1071 = .ok (.iaload, 1) := by decide +kernel
theorem dL_law_1072 : decode cL_law 1072 = .ok (.aload_n 0, 1) := by decide +kernel
theorem dL_law_1073 : decode cL_law 1073 = .ok (.iload_n 3, 1) := by decide +kernel
theorem dL_law_1074 : decode cL_law 1074 = .ok (.iconst 2, 1) := by decide +kernel
theorem dL_law_1075 : decode cL_law 1075 = .ok (.iadd, 1) := by decide +kernel
theorem dL_law_1076 : decode cL_law 1076 = .ok (.iaload, 1) := by decide +kernel
theorem dL_law_1077 : decode cL_law 1077 = .ok (.aload_n 0, 1) := by decide +kernel
theorem dL_law_1078 : decode cL_law 1078 = .ok (.iload_n 3, 1) := by decide +kernel
theorem dL_law_1079 : decode cL_law 1079 = .ok (.iconst 3, 1) := by decide +kernel
theorem dL_law_1080 : decode cL_law 1080 = .ok (.iadd, 1) := by decide +kernel
theorem dL_law_1081 : decode cL_law 1081 = .ok (.iaload, 1) := by decide +kernel
theorem dL_law_1082 : decode cL_law 1082 = .ok (.aload_n 0, 1) := by decide +kernel
theorem dL_law_1083 : decode cL_law 1083 = .ok (.iload_n 3, 1) := by decide +kernel
theorem dL_law_1084 : decode cL_law 1084 = .ok (.iconst 4, 1) := by decide +kernel
theorem dL_law_1085 : decode cL_law 1085 = .ok (.iadd, 1) := by decide +kernel
theorem dL_law_1086 : decode cL_law 1086 = .ok (.iaload, 1) := by decide +kernel
theorem dL_law_1087 : decode cL_law 1087 = .ok (.aload_n 0, 1) := by decide +kernel
theorem dL_law_1088 : decode cL_law 1088 = .ok (.iload_n 3, 1) := by decide +kernel
theorem dL_law_1089 : decode cL_law 1089 = .ok (.iconst 5, 1) := by decide +kernel
theorem dL_law_1090 : decode cL_law 1090 = .ok (.iadd, 1) := by decide +kernel
theorem dL_law_1091 : decode cL_law 1091 = .ok (.iaload, 1) := by decide +kernel
theorem dL_law_1092 : decode cL_law 1092 = .ok (.invokevirtual 115, 3) := by decide +kernel
theorem dL_law_1095 : decode cL_law 1095 = .ok (.aload_n 2, 1) := by decide +kernel
theorem dL_law_1096 : decode cL_law 1096 = .ok (.aload_n 0, 1) := by decide +kernel
theorem dL_law_1097 : decode cL_law 1097 = .ok (.iload_n 3, 1) := by decide +kernel
theorem dL_law_1098 : decode cL_law 1098 = .ok (.iconst 1, 1) := by decide +kernel
theorem dL_law_1099 : decode cL_law 1099 = .ok (.iadd, 1) := by decide +kernel
theorem dL_law_1100 : decode cL_law 1100 = .ok (.iaload, 1) := by decide +kernel
theorem dL_law_1101 : decode cL_law 1101 = .ok (.aload_n 0, 1) := by decide +kernel
theorem dL_law_1102 : decode cL_law 1102 = .ok (.iload_n 3, 1) := by decide +kernel
theorem dL_law_1103 : decode cL_law 1103 = .ok (.iconst 2, 1) := by decide +kernel
theorem dL_law_1104 : decode cL_law 1104 = .ok (.iadd, 1) := by decide +kernel
theorem dL_law_1105 : decode cL_law 1105 = .ok (.iaload, 1) := by decide +kernel
theorem dL_law_1106 : decode cL_law 1106 = .ok (.aload_n 0, 1) := by decide +kernel
theorem dL_law_1107 : decode cL_law 1107 = .ok (.iload_n 3, 1) := by decide +kernel
theorem dL_law_1108 : decode cL_law 1108 = .ok (.iconst 3, 1) := by decide +kernel
theorem dL_law_1109 : decode cL_law 1109 = .ok (.iadd, 1) := by decide +kernel
theorem dL_law_1110 : decode cL_law 1110 = .ok (.iaload, 1) := by decide +kernel
theorem dL_law_1111 : decode cL_law 1111 = .ok (.aload_n 0, 1) := by decide +kernel
theorem dL_law_1112 : decode cL_law 1112 = .ok (.iload_n 3, 1) := by decide +kernel
theorem dL_law_1113 : decode cL_law 1113 = .ok (.iconst 4, 1) := by decide +kernel
theorem dL_law_1114 : decode cL_law 1114 = .ok (.iadd, 1) := by decide +kernel
theorem dL_law_1115 : decode cL_law 1115 = .ok (.iaload, 1) := by decide +kernel
theorem dL_law_1116 : decode cL_law 1116 = .ok (.aload_n 0, 1) := by decide +kernel
theorem dL_law_1117 : decode cL_law 1117 = .ok (.iload_n 3, 1) := by decide +kernel
theorem dL_law_1118 : decode cL_law 1118 = .ok (.iconst 5, 1) := by decide +kernel
theorem dL_law_1119 : decode cL_law 1119 = .ok (.iadd, 1) := by decide +kernel
theorem dL_law_1120 : decode cL_law 1120 = .ok (.iaload, 1) := by decide +kernel
theorem dL_law_1121 : decode cL_law 1121 = .ok (.invokevirtual 118, 3) := by decide +kernel
theorem dL_law_1124 : decode cL_law 1124 = .ok (.if_icmp .eq 133, 3) := by decide +kernel
theorem dL_law_1127 : decode cL_law 1127 = .ok (.iconst 0, 1) := by decide +kernel
theorem dL_law_1128 : decode cL_law 1128 = .ok (.ireturn, 1) := by decide +kernel
theorem dL_law_1129 : decode cL_law 1129 = .ok (.aload_n 1, 1) := by decide +kernel
theorem dL_law_1130 : decode cL_law 1130 = .ok (.aload_n 0, 1) := by decide +kernel
theorem dL_law_1131 : decode cL_law 1131 = .ok (.iload_n 3, 1) := by decide +kernel
theorem dL_law_1132 : decode cL_law 1132 = .ok (.iconst 1, 1) := by decide +kernel
theorem dL_law_1133 : decode cL_law 1133 = .ok (.iadd, 1) := by decide +kernel
theorem dL_law_1134 : decode cL_law 1134 = .ok (.iaload, 1) := by decide +kernel
theorem dL_law_1135 : decode cL_law 1135 = .ok (.invokevirtual 119, 3) := by decide +kernel
theorem dL_law_1138 : decode cL_law 1138 = .ok (.aload_n 2, 1) := by decide +kernel
theorem dL_law_1139 : decode cL_law 1139 = .ok (.aload_n 0, 1) := by decide +kernel
theorem dL_law_1140 : decode cL_law 1140 = .ok (.iload_n 3, 1) := by decide +kernel
theorem dL_law_1141 : decode cL_law 1141 = .ok (.iconst 1, 1) := by decide +kernel
theorem dL_law_1142 : decode cL_law 1142 = .ok (.iadd, 1) := by decide +kernel
theorem dL_law_1143 : decode cL_law 1143 = .ok (.iaload, 1) := by decide +kernel
theorem dL_law_1144 : decode cL_law 1144 = .ok (.invokevirtual 122, 3) := by decide +kernel
theorem dL_law_1147 : decode cL_law 1147 = .ok (.if_icmp .eq 110, 3) := by decide +kernel
theorem dL_law_1150 : decode cL_law 1150 = .ok (.iconst 0, 1) := by decide +kernel
theorem dL_law_1151 : decode cL_law 1151 = .ok (.ireturn, 1) := by decide +kernel
theorem dL_law_1152 : decode cL_law 1152 = .ok (.aload_n 1, 1) := by decide +kernel
theorem dL_law_1153 : decode cL_law 1153 = .ok (.aload_n 0, 1) := by decide +kernel
theorem dL_law_1154 : decode cL_law 1154 = .ok (.iload_n 3, 1) := by decide +kernel
theorem dL_law_1155 : decode cL_law 1155 = .ok (.iconst 1, 1) := by decide +kernel
theorem dL_law_1156 : decode cL_law 1156 = .ok (.iadd, 1) := by decide +kernel
theorem dL_law_1157 : decode cL_law 1157 = .ok (.iaload, 1) := by decide +kernel
theorem dL_law_1158 : decode cL_law 1158 = .ok (.invokevirtual 123, 3) := by decide +kernel
theorem dL_law_1161 : decode cL_law 1161 = .ok (.aload_n 2, 1) := by decide +kernel
theorem dL_law_1162 : decode cL_law 1162 = .ok (.aload_n 0, 1) := by decide +kernel
theorem dL_law_1163 : decode cL_law 1163 = .ok (.iload_n 3, 1) := by decide +kernel
theorem dL_law_1164 : decode cL_law 1164 = .ok (.iconst 1, 1) := by decide +kernel
theorem dL_law_1165 : decode cL_law 1165 = .ok (.iadd, 1) := by decide +kernel
theorem dL_law_1166 : decode cL_law 1166 = .ok (.iaload, 1) := by decide +kernel
theorem dL_law_1167 : decode cL_law 1167 = .ok (.invokevirtual 126, 3) := by decide +kernel
theorem dL_law_1170 : decode cL_law 1170 = .ok (.if_icmp .eq 87, 3) := by decide +kernel
theorem dL_law_1173 : decode cL_law 1173 = .ok (.iconst 0, 1) := by decide +kernel
theorem dL_law_1174 : decode cL_law 1174 = .ok (.ireturn, 1) := by decide +kernel
theorem dL_law_1175 : decode cL_law 1175 = .ok (.aload_n 1, 1) := by decide +kernel
theorem dL_law_1176 : decode cL_law 1176 = .ok (.aload_n 0, 1) := by decide +kernel
theorem dL_law_1177 : decode cL_law 1177 = .ok (.iload_n 3, 1) := by decide +kernel
theorem dL_law_1178 : decode cL_law 1178 = .ok (.iconst 1, 1) := by decide +kernel
theorem dL_law_1179 : decode cL_law 1179 = .ok (.iadd, 1) := by decide +kernel
theorem dL_law_1180 : decode cL_law 1180 = .ok (.iaload, 1) := by decide +kernel
theorem dL_law_1181 : decode cL_law 1181 = .ok (.aload_n 0, 1) := by decide +kernel
theorem dL_law_1182 : decode cL_law 1182 = .ok (.iload_n 3, 1) := by decide +kernel
theorem dL_law_1183 : decode cL_law 1183 = .ok (.iconst 2, 1) := by decide +kernel
theorem dL_law_1184 : decode cL_law 1184 = .ok (.iadd, 1) := by decide +kernel
theorem dL_law_1185 : decode cL_law 1185 = .ok (.iaload, 1) := by decide +kernel
theorem dL_law_1186 : decode cL_law 1186 = .ok (.invokevirtual 127, 3) := by decide +kernel
theorem dL_law_1189 : decode cL_law 1189 = .ok (.aload_n 2, 1) := by decide +kernel
theorem dL_law_1190 : decode cL_law 1190 = .ok (.aload_n 0, 1) := by decide +kernel
theorem dL_law_1191 : decode cL_law 1191 = .ok (.iload_n 3, 1) := by decide +kernel
theorem dL_law_1192 : decode cL_law 1192 = .ok (.iconst 1, 1) := by decide +kernel
theorem dL_law_1193 : decode cL_law 1193 = .ok (.iadd, 1) := by decide +kernel
theorem dL_law_1194 : decode cL_law 1194 = .ok (.iaload, 1) := by decide +kernel
theorem dL_law_1195 : decode cL_law 1195 = .ok (.aload_n 0, 1) := by decide +kernel
theorem dL_law_1196 : decode cL_law 1196 = .ok (.iload_n 3, 1) := by decide +kernel
theorem dL_law_1197 : decode cL_law 1197 = .ok (.iconst 2, 1) := by decide +kernel
theorem dL_law_1198 : decode cL_law 1198 = .ok (.iadd, 1) := by decide +kernel
theorem dL_law_1199 : decode cL_law 1199 = .ok (.iaload, 1) := by decide +kernel
theorem dL_law_1200 : decode cL_law 1200 = .ok (.invokevirtual 130, 3) := by decide +kernel
theorem dL_law_1203 : decode cL_law 1203 = .ok (.if_icmp .eq 54, 3) := by decide +kernel
theorem dL_law_1206 : decode cL_law 1206 = .ok (.iconst 0, 1) := by decide +kernel
theorem dL_law_1207 : decode cL_law 1207 = .ok (.ireturn, 1) := by decide +kernel
theorem dL_law_1208 : decode cL_law 1208 = .ok (.aload_n 1, 1) := by decide +kernel
theorem dL_law_1209 : decode cL_law 1209 = .ok (.invokevirtual 131, 3) := by decide +kernel
theorem dL_law_1212 : decode cL_law 1212 = .ok (.aload_n 2, 1) := by decide +kernel
theorem dL_law_1213 : decode cL_law 1213 = .ok (.invokevirtual 135, 3) := by decide +kernel
theorem dL_law_1216 : decode cL_law 1216 = .ok (.if_icmp .eq 41, 3) := by decide +kernel
theorem dL_law_1219 : decode cL_law 1219 = .ok (.iconst 0, 1) := by decide +kernel
theorem dL_law_1220 : decode cL_law 1220 = .ok (.ireturn, 1) := by decide +kernel
theorem dL_law_1221 : decode cL_law 1221 = .ok (.aload_n 1, 1) := by decide +kernel
theorem dL_law_1222 : decode cL_law 1222 = .ok (.invokevirtual 136, 3) := by decide +kernel
theorem dL_law_1225 : decode cL_law 1225 = .ok (.aload_n 2, 1) := by decide +kernel
theorem dL_law_1226 : decode cL_law 1226 = .ok (.invokevirtual 139, 3) := by decide +kernel
theorem dL_law_1229 : decode cL_law 1229 = .ok (.if_icmp .eq 28, 3) := by decide +kernel
theorem dL_law_1232 : decode cL_law 1232 = .ok (.iconst 0, 1) := by decide +kernel
theorem dL_law_1233 : decode cL_law 1233 = .ok (.ireturn, 1) := by decide +kernel
theorem dL_law_1234 : decode cL_law 1234 = .ok (.aload_n 1, 1) := by decide +kernel
theorem dL_law_1235 : decode cL_law 1235 = .ok (.aload_n 0, 1) := by decide +kernel
theorem dL_law_1236 : decode cL_law 1236 = .ok (.iload_n 3, 1) := by decide +kernel
theorem dL_law_1237 : decode cL_law 1237 = .ok (.iconst 1, 1) := by decide +kernel
theorem dL_law_1238 : decode cL_law 1238 = .ok (.iadd, 1) := by decide +kernel
theorem dL_law_1239 : decode cL_law 1239 = .ok (.iaload, 1) := by decide +kernel
theorem dL_law_1240 : decode cL_law 1240 = .ok (.invokevirtual 140, 3) := by decide +kernel
theorem dL_law_1243 : decode cL_law 1243 = .ok (.aload_n 2, 1) := by decide +kernel
theorem dL_law_1244 : decode cL_law 1244 = .ok (.aload_n 0, 1) := by decide +kernel
theorem dL_law_1245 : decode cL_law 1245 = .ok (.iload_n 3, 1) := by decide +kernel
theorem dL_law_1246 : decode cL_law 1246 = .ok (.iconst 1, 1) := by decide +kernel
theorem dL_law_1247 : decode cL_law 1247 = .ok (.iadd, 1) := by decide +kernel
theorem dL_law_1248 : decode cL_law 1248 = .ok (.iaload, 1) := by decide +kernel
theorem dL_law_1249 : decode cL_law 1249 = .ok (.invokevirtual 143, 3) := by decide +kernel
theorem dL_law_1252 : decode cL_law 1252 = .ok (.if_icmp .eq 5, 3) := by decide +kernel
theorem dL_law_1255 : decode cL_law 1255 = .ok (.iconst 0, 1) := by decide +kernel
theorem dL_law_1256 : decode cL_law 1256 = .ok (.ireturn, 1) := by decide +kernel
theorem dL_law_1257 : decode cL_law 1257 = .ok (.iinc 3 6, 3) := by decide +kernel
theorem dL_law_1260 : decode cL_law 1260 = .ok (.goto (-1242), 3) := by decide +kernel
theorem dL_law_1263 : decode cL_law 1263 = .ok (.iconst 1, 1) := by decide +kernel
theorem dL_law_1264 : decode cL_law 1264 = .ok (.ireturn, 1) := by decide +kernel
