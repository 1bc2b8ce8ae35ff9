theorem dX9_tellSeason_0 : decode cX9_tellSeason 0 = .ok (.iload_n 1, 1) := by decide +kernel
theorem dX9_tellSeason_1 : decode cX9_tellSeason 1 = .ok (.bipush 10, 2) := by decide +kernel
theorem dX9_tellSeason_3 : decode cX9_tellSeason 3 = .ok (.if_icmp .lt 29, 3) := by decide +kernel
theorem dX9_tellSeason_6 : decode cX9_tellSeason 6 = .ok (.aload_n 0, 1) := by decide +kernel
theorem dX9_tellSeason_7 : decode cX9_tellSeason 7 = .ok (.iload_n 1, 1) := by decide +kernel
theorem dX9_tellSeason_8 : decode cX9_tellSeason 8 = .ok (.bipush 10, 2) := by decide +kernel
theorem dX9_tellSeason_10 : decode cX9_tellSeason 10 = .ok (.isub, 1) := by decide +kernel
theorem dX9_tellSeason_11 : decode cX9_tellSeason 11 = .ok (.invokevirtual 74, 3) := by decide +kernel
theorem dX9_tellSeason_14 : decode cX9_tellSeason 14 = .ok (.ifCond .eq 15, 3) := by decide +kernel
theorem dX9_tellSeason_17 : decode cX9_tellSeason 17 = .ok (.aload_n 0, 1) := by decide +kernel
theorem dX9_tellSeason_18 : decode cX9_tellSeason 18 = .ok (.getfield 34, 3) := by decide +kernel
theorem dX9_tellSeason_21 : decode cX9_tellSeason 21 = .ok (.iload_n 1, 1) := by decide +kernel
theorem dX9_tellSeason_22 : decode cX9_tellSeason 22 = .ok (.bipush 10, 2) := by decide +kernel
theorem dX9_tellSeason_24 : decode cX9_tellSeason 24 = .ok (.isub, 1) := by decide +kernel
theorem dX9_tellSeason_25 : decode cX9_tellSeason 25 = .ok (.iaload, 1) := by decide +kernel
theorem dX9_tellSeason_26 : decode cX9_tellSeason 26 = .ok (.goto 5, 3) := by decide +kernel
theorem dX9_tellSeason_29 : decode cX9_tellSeason 29 = .ok (.bipush (-9), 2) := by decide +kernel
theorem dX9_tellSeason_31 : decode cX9_tellSeason 31 = .ok (.ireturn, 1) := by decide +kernel
theorem dX9_tellSeason_32 : decode cX9_tellSeason 32 = .ok (.iload_n 1, 1) := by decide +kernel
theorem dX9_tellSeason_33 : decode cX9_tellSeason 33 = .ok (.tableswitch 54 0 3 #[31, 54, 44, 49], 31) := by decide +kernel
theorem dX9_tellSeason_64 : decode cX9_tellSeason 64 = .ok (.aload_n 0, 1) := by decide +kernel
theorem dX9_tellSeason_65 : decode cX9_tellSeason 65 = .ok (.getfield 71, 3) := by decide +kernel
theorem dX9_tellSeason_68 : decode cX9_tellSeason 68 = .ok (.aload_n 0, 1) := by decide +kernel
theorem dX9_tellSeason_69 : decode cX9_tellSeason 69 = .ok (.getfield 101, 3) := by decide +kernel
theorem dX9_tellSeason_72 : decode cX9_tellSeason 72 = .ok (.invokestatic 138, 3) := by decide +kernel
theorem dX9_tellSeason_75 : decode cX9_tellSeason 75 = .ok (.isub, 1) := by decide +kernel
theorem dX9_tellSeason_76 : decode cX9_tellSeason 76 = .ok (.ireturn, 1) := by decide +kernel
theorem dX9_tellSeason_77 : decode cX9_tellSeason 77 = .ok (.aload_n 0, 1) := by decide +kernel
theorem dX9_tellSeason_78 : decode cX9_tellSeason 78 = .ok (.getfield 101, 3) := by decide +kernel
theorem dX9_tellSeason_81 : decode cX9_tellSeason 81 = .ok (.ireturn, 1) := by decide +kernel
theorem dX9_tellSeason_82 : decode cX9_tellSeason 82 = .ok (.aload_n 0, 1) := by decide +kernel
theorem dX9_tellSeason_83 : decode cX9_tellSeason 83 = .ok (.getfield 141, 3) := by decide +kernel
theorem dX9_tellSeason_86 : decode cX9_tellSeason 86 = .ok (.ireturn, 1) := by decide +kernel
theorem dX9_tellSeason_87 : decode cX9_tellSeason 87 = .ok (.aload_n 0, 1) := by decide +kernel
theorem dX9_tellSeason_88 : decode cX9_tellSeason 88 = .ok (.getfield 144, 3) := by decide +kernel
theorem dX9_tellSeason_91 : decode cX9_tellSeason 91 = .ok (.ireturn, 1) := by decide +kernel
theorem dX9_safe_0 : decode cX9_safe 0 = .ok (.aload_n 0, 1) := by decide +kernel
theorem dX9_safe_1 : decode cX9_safe 1 = .ok (.iload_n 1, 1) := by decide +kernel
theorem dX9_safe_2 : decode cX9_safe 2 = .ok (.iload_n 2, 1) := by decide +kernel
theorem dX9_safe_3 : decode cX9_safe 3 = .ok (.invokevirtual 129, 3) := by decide +kernel
theorem dX9_safe_6 : decode cX9_safe 6 = .ok (.ifCond .ne 5, 3) := by decide +kernel
theorem dX9_safe_9 : decode cX9_safe 9 = .ok (.iconst (-1), 1) := by decide +kernel
theorem dX9_safe_10 : decode cX9_safe 10 = .ok (.ireturn, 1) := by decide +kernel
theorem dX9_safe_11 : decode cX9_safe 11 = .ok (.aload_n 0, 1) := by decide +kernel
theorem dX9_safe_12 : decode cX9_safe 12 = .ok (.iload_n 1, 1) := by decide +kernel
theorem dX9_safe_13 : decode cX9_safe 13 = .ok (.invokevirtual 123, 3) := by decide +kernel
theorem dX9_safe_16 : decode cX9_safe 16 = .ok (.aload_n 0, 1) := by decide +kernel
theorem dX9_safe_17 : decode cX9_safe 17 = .ok (.iload_n 2, 1) := by decide +kernel
theorem dX9_safe_18 : decode cX9_safe 18 = .ok (.invokevirtual 123, 3) := by decide +kernel
theorem dX9_safe_21 : decode cX9_safe 21 = .ok (.if_icmp .gt 7, 3) := by decide +kernel
theorem dX9_safe_24 : decode cX9_safe 24 = .ok (.iconst 1, 1) := by decide +kernel
theorem dX9_safe_25 : decode cX9_safe 25 = .ok (.goto 4, 3) := by decide +kernel
theorem dX9_safe_28 : decode cX9_safe 28 = .ok (.iconst 0, 1) := by decide +kernel
theorem dX9_safe_29 : decode cX9_safe 29 = .ok (.ireturn, 1) := by decide +kernel
theorem dX9_sure_0 : decode cX9_sure 0 = .ok (.aload_n 0, 1) := by decide +kernel
theorem dX9_sure_1 : decode cX9_sure 1 = .ok (.iload_n 1, 1) := by decide +kernel
theorem dX9_sure_2 : decode cX9_sure 2 = .ok (.invokevirtual 74, 3) := by decide +kernel
theorem dX9_sure_5 : decode cX9_sure 5 = .ok (.ifCond .ne 5, 3) := by decide +kernel
theorem dX9_sure_8 : decode cX9_sure 8 = .ok (.iconst (-1), 1) := by decide +kernel
theorem dX9_sure_9 : decode cX9_sure 9 = .ok (.ireturn, 1) := by decide +kernel
theorem dX9_sure_10 : decode cX9_sure 10 = .ok (.iconst 0, 1) := by decide +kernel
theorem dX9_sure_11 : decode cX9_sure 11 = .ok (.istore_n 2, 1) := by decide +kernel
theorem dX9_sure_12 : decode cX9_sure 12 = .ok (.iconst 0, 1) := by decide +kernel
theorem dX9_sure_13 : decode cX9_sure 13 = .ok (.istore_n 3, 1) := by decide +kernel
theorem dX9_sure_14 : decode cX9_sure 14 = .ok (.iload_n 3, 1) := by decide +kernel
theorem dX9_sure_15 : decode cX9_sure 15 = .ok (.aload_n 0, 1) := by decide +kernel
theorem dX9_sure_16 : decode cX9_sure 16 = .ok (.getfield 71, 3) := by decide +kernel
theorem dX9_sure_19 : decode cX9_sure 19 = .ok (.if_icmp .ge 48, 3) := by decide +kernel
theorem dX9_sure_22 : decode cX9_sure 22 = .ok (.iload_n 2, 1) := by decide +kernel
theorem dX9_sure_23 : decode cX9_sure 23 = .ok (.iload_n 3, 1) := by decide +kernel
theorem dX9_sure_24 : decode cX9_sure 24 = .ok (.iload_n 1, 1) := by decide +kernel
theorem dX9_sure_25 : decode cX9_sure 25 = .ok (.if_icmp .eq 33, 3) := by decide +kernel
theorem dX9_sure_28 : decode cX9_sure 28 = .ok (.aload_n 0, 1) := by decide +kernel
theorem dX9_sure_29 : decode cX9_sure 29 = .ok (.getfield 101, 3) := by decide +kernel
theorem dX9_sure_32 : decode cX9_sure 32 = .ok (.iload_n 3, 1) := by decide +kernel
theorem dX9_sure_33 : decode cX9_sure 33 = .ok (.invokestatic 126, 3) := by decide +kernel
theorem dX9_sure_36 : decode cX9_sure 36 = .ok (.ifCond .ne 22, 3) := by decide +kernel
theorem dX9_sure_39 : decode cX9_sure 39 = .ok (.aload_n 0, 1) := by decide +kernel
theorem dX9_sure_40 : decode cX9_sure 40 = .ok (.iload_n 1, 1) := by decide +kernel
theorem dX9_sure_41 : decode cX9_sure 41 = .ok (.invokevirtual 123, 3) := by decide +kernel
theorem dX9_sure_44 : decode cX9_sure 44 = .ok (.aload_n 0, 1) := by decide +kernel
theorem dX9_sure_45 : decode cX9_sure 45 = .ok (.iload_n 3, 1) := by decide +kernel
theorem dX9_sure_46 : decode cX9_sure 46 = .ok (.invokevirtual 120, 3) := by decide +kernel
theorem dX9_sure_49 : decode cX9_sure 49 = .ok (.if_icmp .le 9, 3) := by decide +kernel
theorem dX9_sure_52 : decode cX9_sure 52 = .ok (.iconst 1, 1) := by decide +kernel
theorem dX9_sure_53 : decode cX9_sure 53 = .ok (.iload_n 3, 1) := by decide +kernel
theorem dX9_sure_54 : decode cX9_sure 54 = .ok (.ishl, 1) := by decide +kernel
theorem dX9_sure_55 : decode cX9_sure 55 = .ok (.goto 4, 3) := by decide +kernel
theorem dX9_sure_58 : decode cX9_sure 58 = .ok (.iconst 0, 1) := by decide +kernel
theorem dX9_sure_59 : decode cX9_sure 59 = .ok (.ior, 1) := by decide +kernel
theorem dX9_sure_60 : decode cX9_sure 60 = .ok (.istore_n 2, 1) := by decide +kernel
theorem dX9_sure_61 : decode cX9_sure 61 = .ok (.iinc 3 1, 3) := by decide +kernel
theorem dX9_sure_64 : decode cX9_sure 64 = .ok (.goto (-50), 3) := by decide +kernel
theorem dX9_sure_67 : decode cX9_sure 67 = .ok (.iload_n 2, 1) := by decide +kernel
theorem dX9_sure_68 : decode cX9_sure 68 = .ok (.ireturn, 1) := by decide +kernel
theorem dX9_common_0 : decode cX9_common 0 = .ok (.aload_n 0, 1) := by decide +kernel
theorem dX9_common_1 : decode cX9_common 1 = .ok (.iload_n 1, 1) := by decide +kernel
theorem dX9_common_2 : decode cX9_common 2 = .ok (.iload_n 2, 1) := by decide +kernel
theorem dX9_common_3 : decode cX9_common 3 = .ok (.invokevirtual 129, 3) := by decide +kernel
theorem dX9_common_6 : decode cX9_common 6 = .ok (.ifCond .ne 5, 3) := by decide +kernel
theorem dX9_common_9 : decode cX9_common 9 = .ok (.iconst (-1), 1) := by decide +kernel
theorem dX9_common_10 : decode cX9_common 10 = .ok (.ireturn, 1) := by decide +kernel
theorem dX9_common_11 : decode cX9_common 11 = .ok (.aload_n 0, 1) := by decide +kernel
theorem dX9_common_12 : decode cX9_common 12 = .ok (.iload_n 1, 1) := by decide +kernel
theorem dX9_common_13 : decode cX9_common 13 = .ok (.invokevirtual 123, 3) := by decide +kernel
theorem dX9_common_16 : decode cX9_common 16 = .ok (.aload_n 0, 1) := by decide +kernel
theorem dX9_common_17 : decode cX9_common 17 = .ok (.iload_n 2, 1) := by decide +kernel
theorem dX9_common_18 : decode cX9_common 18 = .ok (.invokevirtual 123, 3) := by decide +kernel
theorem dX9_common_21 : decode cX9_common 21 = .ok (.if_icmp .le 11, 3) := by decide +kernel
theorem dX9_common_24 : decode cX9_common 24 = .ok (.aload_n 0, 1) := by decide +kernel
theorem dX9_common_25 : decode cX9_common 25 = .ok (.iload_n 1, 1) := by decide +kernel
theorem dX9_common_26 : decode cX9_common 26 = .ok (.invokevirtual 123, 3) := by decide +kernel
theorem dX9_common_29 : decode cX9_common 29 = .ok (.goto 8, 3) := by decide +kernel
theorem dX9_common_32 : decode cX9_common 32 = .ok (.aload_n 0, 1) := by decide +kernel
theorem dX9_common_33 : decode cX9_common 33 = .ok (.iload_n 2, 1) := by decide +kernel
theorem dX9_common_34 : decode cX9_common 34 = .ok (.invokevirtual 123, 3) := by decide +kernel
theorem dX9_common_37 : decode cX9_common 37 = .ok (.istore_n 3, 1) := by decide +kernel
theorem dX9_common_38 : decode cX9_common 38 = .ok (.aload_n 0, 1) := by decide +kernel
theorem dX9_common_39 : decode cX9_common 39 = .ok (.iload_n 1, 1) := by decide +kernel
theorem dX9_common_40 : decode cX9_common 40 = .ok (.invokevirtual 120, 3) := by decide +kernel
theorem dX9_common_43 : decode cX9_common 43 = .ok (.aload_n 0, 1) := by decide +kernel
theorem dX9_common_44 : decode cX9_common 44 = .ok (.iload_n 2, 1) := by decide +kernel
theorem dX9_common_45 : decode cX9_common 45 = .ok (.invokevirtual 120, 3) := by decide +kernel
theorem dX9_common_48 : decode cX9_common 48 = .ok (.if_icmp .ge 11, 3) := by decide +kernel
theorem dX9_common_51 : decode cX9_common 51 = .ok (.aload_n 0, 1) := by decide +kernel
theorem dX9_common_52 : decode cX9_common 52 = .ok (.iload_n 1, 1) := by decide +kernel
theorem dX9_common_53 : decode cX9_common 53 = .ok (.invokevirtual 120, 3) := by decide +kernel
theorem dX9_common_56 : decode cX9_common 56 = .ok (.goto 8, 3) := by decide +kernel
theorem dX9_common_59 : decode cX9_common 59 = .ok (.aload_n 0, 1) := by decide +kernel
theorem dX9_common_60 : decode cX9_common 60 = .ok (.iload_n 2, 1) := by decide +kernel
theorem dX9_common_61 : decode cX9_common 61 = .ok (.invokevirtual 120, 3) := by decide +kernel
theorem dX9_common_64 : decode cX9_common 64 = .ok (.istore 4, 2) := by decide +kernel
theorem dX9_common_66 : decode cX9_common 66 = .ok (.iload 4, 2) := by decide +kernel
theorem dX9_common_68 : decode cX9_common 68 = .ok (.iload_n 3, 1) := by decide +kernel
theorem dX9_common_69 : decode cX9_common 69 = .ok (.if_icmp .ge 7, 3) := by decide +kernel
theorem dX9_common_72 : decode cX9_common 72 = .ok (.iconst 0, 1) := by decide +kernel
theorem dX9_common_73 : decode cX9_common 73 = .ok (.goto 9, 3) := by decide +kernel
theorem dX9_common_76 : decode cX9_common 76 = .ok (.iload 4, 2) := by decide +kernel
theorem dX9_common_78 : decode cX9_common 78 = .ok (.iload_n 3, 1) := by decide +kernel
theorem dX9_common_79 : decode cX9_common 79 = .ok (.isub, 1) := by decide +kernel
theorem dX9_common_80 : decode cX9_common 80 = .ok (.iconst 1, 1) := by decide +kernel
theorem dX9_common_81 : decode cX9_common 81 = .ok (.iadd, 1) := by decide +kernel
theorem dX9_common_82 : decode cX9_common 82 = .ok (.ireturn, 1) := by decide +kernel
theorem dX9_tryPartners_0 : decode cX9_tryPartners 0 = .ok (.iload_n 1, 1) := by decide +kernel
theorem dX9_tryPartners_1 : decode cX9_tryPartners 1 = .ok (.aload_n 0, 1) := by decide +kernel
theorem dX9_tryPartners_2 : decode cX9_tryPartners 2 = .ok (.getfield 160, 3) := by decide +kernel
theorem dX9_tryPartners_5 : decode cX9_tryPartners 5 = .ok (.if_icmp .gt 19, 3) := by decide +kernel
theorem dX9_tryPartners_8 : decode cX9_tryPartners 8 = .ok (.iload_n 1, 1) := by decide +kernel
theorem dX9_tryPartners_9 : decode cX9_tryPartners 9 = .ok (.aload_n 0, 1) := by decide +kernel
theorem dX9_tryPartners_10 : decode cX9_tryPartners 10 = .ok (.getfield 160, 3) := by decide +kernel
theorem dX9_tryPartners_13 : decode cX9_tryPartners 13 = .ok (.if_icmp .ne 15, 3) := by decide +kernel
theorem dX9_tryPartners_16 : decode cX9_tryPartners 16 = .ok (.iload_n 2, 1) := by decide +kernel
theorem dX9_tryPartners_17 : decode cX9_tryPartners 17 = .ok (.aload_n 0, 1) := by decide +kernel
theorem dX9_tryPartners_18 : decode cX9_tryPartners 18 = .ok (.getfield 163, 3) := by decide +kernel
theorem dX9_tryPartners_21 : decode cX9_tryPartners 21 = .ok (.if_icmp .ge 7, 3) := by decide +kernel
theorem dX9_tryPartners_24 : decode cX9_tryPartners 24 = .ok (.iconst 1, 1) := by decide +kernel
theorem dX9_tryPartners_25 : decode cX9_tryPartners 25 = .ok (.goto 4, 3) := by decide +kernel
theorem dX9_tryPartners_28 : decode cX9_tryPartners 28 = .ok (.iconst 0, 1) := by decide +kernel
theorem dX9_tryPartners_29 : decode cX9_tryPartners 29 = .ok (.istore_n 3, 1) := by decide +kernel
theorem dX9_tryPartners_30 : decode cX9_tryPartners 30 = .ok (.iload_n 1, 1) := by decide +kernel
theorem dX9_tryPartners_31 : decode cX9_tryPartners 31 = .ok (.aload_n 0, 1) := by decide +kernel
theorem dX9_tryPartners_32 : decode cX9_tryPartners 32 = .ok (.getfield 160, 3) := by decide +kernel
theorem dX9_tryPartners_35 : decode cX9_tryPartners 35 = .ok (.if_icmp .ne 15, 3) := by decide +kernel
theorem dX9_tryPartners_38 : decode cX9_tryPartners 38 = .ok (.iload_n 2, 1) := by decide +kernel
theorem dX9_tryPartners_39 : decode cX9_tryPartners 39 = .ok (.aload_n 0, 1) := by decide +kernel
theorem dX9_tryPartners_40 : decode cX9_tryPartners 40 = .ok (.getfield 163, 3) := by decide +kernel
theorem dX9_tryPartners_43 : decode cX9_tryPartners 43 = .ok (.if_icmp .ne 7, 3) := by decide +kernel
theorem dX9_tryPartners_46 : decode cX9_tryPartners 46 = .ok (.iconst 1, 1) := by decide +kernel
theorem dX9_tryPartners_47 : decode cX9_tryPartners 47 = .ok (.goto 4, 3) := by decide +kernel
theorem dX9_tryPartners_50 : decode cX9_tryPartners 50 = .ok (.iconst 0, 1) := by decide +kernel
theorem dX9_tryPartners_51 : decode cX9_tryPartners 51 = .ok (.istore 4, 2) := by decide +kernel
theorem dX9_tryPartners_53 : decode cX9_tryPartners 53 = .ok (.iconst 0, 1) := by decide +kernel
theorem dX9_tryPartners_54 : decode cX9_tryPartners 54 = .ok (.istore 5, 2) := by decide +kernel
theorem dX9_tryPartners_56 : decode cX9_tryPartners 56 = .ok (.iload 5, 2) := by decide +kernel
theorem dX9_tryPartners_58 : decode cX9_tryPartners 58 = .ok (.aload_n 0, 1) := by decide +kernel
theorem dX9_tryPartners_59 : decode cX9_tryPartners 59 = .ok (.getfield 71, 3) := by decide +kernel
theorem dX9_tryPartners_62 : decode cX9_tryPartners 62 = .ok (.if_icmp .ge 65, 3) := by decide +kernel
theorem dX9_tryPartners_65 : decode cX9_tryPartners 65 = .ok (.iload 4, 2) := by decide +kernel
theorem dX9_tryPartners_67 : decode cX9_tryPartners 67 = .ok (.ifCond .eq 60, 3) := by decide +kernel
theorem dX9_tryPartners_70 : decode cX9_tryPartners 70 = .ok (.aload_n 0, 1) := by decide +kernel
theorem dX9_tryPartners_71 : decode cX9_tryPartners 71 = .ok (.getfield 37, 3) := by decide +kernel
theorem dX9_tryPartners_74 : decode cX9_tryPartners 74 = .ok (.iload 5, 2) := by decide +kernel
theorem dX9_tryPartners_76 : decode cX9_tryPartners 76 = .ok (.iaload, 1) := by decide +kernel
theorem dX9_tryPartners_77 : decode cX9_tryPartners 77 = .ok (.aload_n 0, 1) := by decide +kernel
theorem dX9_tryPartners_78 : decode cX9_tryPartners 78 = .ok (.getfield 40, 3) := by decide +kernel
theorem dX9_tryPartners_81 : decode cX9_tryPartners 81 = .ok (.iload 5, 2) := by decide +kernel
theorem dX9_tryPartners_83 : decode cX9_tryPartners 83 = .ok (.iaload, 1) := by decide +kernel
theorem dX9_tryPartners_84 : decode cX9_tryPartners 84 = .ok (.if_icmp .ne 7, 3) := by decide +kernel
theorem dX9_tryPartners_87 : decode cX9_tryPartners 87 = .ok (.iconst 1, 1) := by decide +kernel
theorem dX9_tryPartners_88 : decode cX9_tryPartners 88 = .ok (.goto 4, 3) := by decide +kernel
theorem dX9_tryPartners_91 : decode cX9_tryPartners 91 = .ok (.iconst 0, 1) := by decide +kernel
theorem dX9_tryPartners_92 : decode cX9_tryPartners 92 = .ok (.istore 4, 2) := by decide +kernel
theorem dX9_tryPartners_94 : decode cX9_tryPartners 94 = .ok (.iload_n 3, 1) := by decide +kernel
theorem dX9_tryPartners_95 : decode cX9_tryPartners 95 = .ok (.ifCond .ne 20, 3) := by decide +kernel
theorem dX9_tryPartners_98 : decode cX9_tryPartners 98 = .ok (.aload_n 0, 1) := by decide +kernel
theorem dX9_tryPartners_99 : decode cX9_tryPartners 99 = .ok (.getfield 37, 3) := by decide +kernel
theorem dX9_tryPartners_102 : decode cX9_tryPartners 102 = .ok (.iload 5, 2) := by decide +kernel
theorem dX9_tryPartners_104 : decode cX9_tryPartners 104 = .ok (.iaload, 1) := by decide +kernel
theorem dX9_tryPartners_105 : decode cX9_tryPartners 105 = .ok (.aload_n 0, 1) := by decide +kernel
theorem dX9_tryPartners_106 : decode cX9_tryPartners 106 = .ok (.getfield 40, 3) := by decide +kernel
theorem dX9_tryPartners_109 : decode cX9_tryPartners 109 = .ok (.iload 5, 2) := by decide +kernel
theorem dX9_tryPartners_111 : decode cX9_tryPartners 111 = .ok (.iaload, 1) := by decide +kernel
theorem dX9_tryPartners_112 : decode cX9_tryPartners 112 = .ok (.if_icmp .ge 7, 3) := by decide +kernel
theorem dX9_tryPartners_115 : decode cX9_tryPartners 115 = .ok (.iconst 1, 1) := by decide +kernel
theorem dX9_tryPartners_116 : decode cX9_tryPartners 116 = .ok (.goto 4, 3) := by decide +kernel
theorem dX9_tryPartners_119 : decode cX9_tryPartners 119 = .ok (.iconst 0, 1) := by decide +kernel
theorem dX9_tryPartners_120 : decode cX9_tryPartners 120 = .ok (.istore_n 3, 1) := by decide +kernel
theorem dX9_tryPartners_121 : decode cX9_tryPartners 121 = .ok (.iinc 5 1, 3) := by decide +kernel
theorem dX9_tryPartners_124 : decode cX9_tryPartners 124 = .ok (.goto (-68), 3) := by decide +kernel
theorem dX9_tryPartners_127 : decode cX9_tryPartners 127 = .ok (.iload_n 3, 1) := by decide +kernel
theorem dX9_tryPartners_128 : decode cX9_tryPartners 128 = .ok (.ifCond .eq 45, 3) := by decide +kernel
theorem dX9_tryPartners_131 : decode cX9_tryPartners 131 = .ok (.aload_n 0, 1) := by decide +kernel
theorem dX9_tryPartners_132 : decode cX9_tryPartners 132 = .ok (.iload_n 1, 1) := by decide +kernel
theorem dX9_tryPartners_133 : decode cX9_tryPartners 133 = .ok (.putfield 160, 3) := by decide +kernel
theorem dX9_tryPartners_136 : decode cX9_tryPartners 136 = .ok (.aload_n 0, 1) := by decide +kernel
theorem dX9_tryPartners_137 : decode cX9_tryPartners 137 = .ok (.iload_n 2, 1) := by decide +kernel
theorem dX9_tryPartners_138 : decode cX9_tryPartners 138 = .ok (.putfield 163, 3) := by decide +kernel
theorem dX9_tryPartners_141 : decode cX9_tryPartners 141 = .ok (.iconst 0, 1) := by decide +kernel
theorem dX9_tryPartners_142 : decode cX9_tryPartners 142 = .ok (.istore 5, 2) := by decide +kernel
theorem dX9_tryPartners_144 : decode cX9_tryPartners 144 = .ok (.iload 5, 2) := by decide +kernel
theorem dX9_tryPartners_146 : decode cX9_tryPartners 146 = .ok (.aload_n 0, 1) := by decide +kernel
theorem dX9_tryPartners_147 : decode cX9_tryPartners 147 = .ok (.getfield 71, 3) := by decide +kernel
theorem dX9_tryPartners_150 : decode cX9_tryPartners 150 = .ok (.if_icmp .ge 23, 3) := by decide +kernel
theorem dX9_tryPartners_153 : decode cX9_tryPartners 153 = .ok (.aload_n 0, 1) := by decide +kernel
theorem dX9_tryPartners_154 : decode cX9_tryPartners 154 = .ok (.getfield 40, 3) := by decide +kernel
theorem dX9_tryPartners_157 : decode cX9_tryPartners 157 = .ok (.iload 5, 2) := by decide +kernel
theorem dX9_tryPartners_159 : decode cX9_tryPartners 159 = .ok (.aload_n 0, 1) := by decide +kernel
theorem dX9_tryPartners_160 : decode cX9_tryPartners 160 = .ok (.getfield 37, 3) := by decide +kernel
theorem dX9_tryPartners_163 : decode cX9_tryPartners 163 = .ok (.iload 5, 2) := by decide +kernel
theorem dX9_tryPartners_165 : decode cX9_tryPartners 165 = .ok (.iaload, 1) := by decide +kernel
theorem dX9_tryPartners_166 : decode cX9_tryPartners 166 = .ok (.iastore, 1) := by decide +kernel
theorem dX9_tryPartners_167 : decode cX9_tryPartners 167 = .ok (.iinc 5 1, 3) := by decide +kernel
theorem dX9_tryPartners_170 : decode cX9_tryPartners 170 = .ok (.goto (-26), 3) := by decide +kernel
theorem dX9_tryPartners_173 : decode cX9_tryPartners 173 = .ok (.return_, 1) := by decide +kernel
theorem dX9_isPut_0 : decode cX9_isPut 0 = .ok (.iload_n 1, 1) := by decide +kernel
theorem dX9_isPut_1 : decode cX9_isPut 1 = .ok (.bipush 6, 2) := by decide +kernel
theorem dX9_isPut_3 : decode cX9_isPut 3 = .ok (.idiv, 1) := by decide +kernel
theorem dX9_isPut_4 : decode cX9_isPut 4 = .ok (.istore_n 2, 1) := by decide +kernel
theorem dX9_isPut_5 : decode cX9_isPut 5 = .ok (.iload_n 1, 1) := by decide +kernel
theorem dX9_isPut_6 : decode cX9_isPut 6 = .ok (.bipush 6, 2) := by decide +kernel
theorem dX9_isPut_8 : decode cX9_isPut 8 = .ok (.irem, 1) := by decide +kernel
theorem dX9_isPut_9 : decode cX9_isPut 9 = .ok (.istore_n 3, 1) := by decide +kernel
theorem dX9_isPut_10 : decode cX9_isPut 10 = .ok (.iload_n 2, 1) := by decide +kernel
theorem dX9_isPut_11 : decode cX9_isPut 11 = .ok (.iload_n 3, 1) := by decide +kernel
theorem dX9_isPut_12 : decode cX9_isPut 12 = .ok (.if_icmp .ge 42, 3) := by decide +kernel
theorem dX9_isPut_15 : decode cX9_isPut 15 = .ok (.iload_n 3, 1) := by decide +kernel
theorem dX9_isPut_16 : decode cX9_isPut 16 = .ok (.aload_n 0, 1) := by decide +kernel
theorem dX9_isPut_17 : decode cX9_isPut 17 = .ok (.getfield 71, 3) := by decide +kernel
theorem dX9_isPut_20 : decode cX9_isPut 20 = .ok (.if_icmp .ge 34, 3) := by decide +kernel
theorem dX9_isPut_23 : decode cX9_isPut 23 = .ok (.aload_n 0, 1) := by decide +kernel
theorem dX9_isPut_24 : decode cX9_isPut 24 = .ok (.iload_n 2, 1) := by decide +kernel
theorem dX9_isPut_25 : decode cX9_isPut 25 = .ok (.iload_n 3, 1) := by decide +kernel
theorem dX9_isPut_26 : decode cX9_isPut 26 = .ok (.invokevirtual 132, 3) := by decide +kernel
theorem dX9_isPut_29 : decode cX9_isPut 29 = .ok (.ifCond .ne 25, 3) := by decide +kernel
theorem dX9_isPut_32 : decode cX9_isPut 32 = .ok (.aload_n 0, 1) := by decide +kernel
theorem dX9_isPut_33 : decode cX9_isPut 33 = .ok (.getfield 37, 3) := by decide +kernel
theorem dX9_isPut_36 : decode cX9_isPut 36 = .ok (.iload_n 2, 1) := by decide +kernel
theorem dX9_isPut_37 : decode cX9_isPut 37 = .ok (.iaload, 1) := by decide +kernel
theorem dX9_isPut_38 : decode cX9_isPut 38 = .ok (.bipush 9, 2) := by decide +kernel
theorem dX9_isPut_40 : decode cX9_isPut 40 = .ok (.if_icmp .ne 14, 3) := by decide +kernel
theorem dX9_isPut_43 : decode cX9_isPut 43 = .ok (.aload_n 0, 1) := by decide +kernel
theorem dX9_isPut_44 : decode cX9_isPut 44 = .ok (.getfield 37, 3) := by decide +kernel
theorem dX9_isPut_47 : decode cX9_isPut 47 = .ok (.iload_n 3, 1) := by decide +kernel
theorem dX9_isPut_48 : decode cX9_isPut 48 = .ok (.iaload, 1) := by decide +kernel
theorem dX9_isPut_49 : decode cX9_isPut 49 = .ok (.bipush 9, 2) := by decide +kernel
theorem dX9_isPut_51 : decode cX9_isPut 51 = .ok (.if_icmp .eq 5, 3) := by decide +kernel
theorem dX9_isPut_54 : decode cX9_isPut 54 = .ok (.iconst 0, 1) := by decide +kernel
theorem dX9_isPut_55 : decode cX9_isPut 55 = .ok (.ireturn, 1) := by decide +kernel
theorem dX9_isPut_56 : decode cX9_isPut 56 = .ok (.aload_n 0, 1) := by decide +kernel
theorem dX9_isPut_57 : decode cX9_isPut 57 = .ok (.getfield 37, 3) := by decide +kernel
theorem dX9_isPut_60 : decode cX9_isPut 60 = .ok (.iload_n 2, 1) := by decide +kernel
theorem dX9_isPut_61 : decode cX9_isPut 61 = .ok (.iload_n 3, 1) := by decide +kernel
theorem dX9_isPut_62 : decode cX9_isPut 62 = .ok (.iastore, 1) := by decide +kernel
theorem dX9_isPut_63 : decode cX9_isPut 63 = .ok (.aload_n 0, 1) := by decide +kernel
theorem dX9_isPut_64 : decode cX9_isPut 64 = .ok (.getfield 37, 3) := by decide +kernel
theorem dX9_isPut_67 : decode cX9_isPut 67 = .ok (.iload_n 3, 1) := by decide +kernel
theorem dX9_isPut_68 : decode cX9_isPut 68 = .ok (.iload_n 2, 1) := by decide +kernel
theorem dX9_isPut_69 : decode cX9_isPut 69 = .ok (.iastore, 1) := by decide +kernel
theorem dX9_isPut_70 : decode cX9_isPut 70 = .ok (.iconst 1, 1) := by decide +kernel
theorem dX9_isPut_71 : decode cX9_isPut 71 = .ok (.ireturn, 1) := by decide +kernel
theorem dX9_take_0 : decode cX9_take 0 = .ok (.aload_n 0, 1) := by decide +kernel
theorem dX9_take_1 : decode cX9_take 1 = .ok (.getfield 37, 3) := by decide +kernel
theorem dX9_take_4 : decode cX9_take 4 = .ok (.iload_n 1, 1) := by decide +kernel
theorem dX9_take_5 : decode cX9_take 5 = .ok (.bipush 6, 2) := by decide +kernel
theorem dX9_take_7 : decode cX9_take 7 = .ok (.idiv, 1) := by decide +kernel
theorem dX9_take_8 : decode cX9_take 8 = .ok (.bipush 9, 2) := by decide +kernel
theorem dX9_take_10 : decode cX9_take 10 = .ok (.iastore, 1) := by decide +kernel
theorem dX9_take_11 : decode cX9_take 11 = .ok (.aload_n 0, 1) := by decide +kernel
theorem dX9_take_12 : decode cX9_take 12 = .ok (.getfield 37, 3) := by decide +kernel
theorem dX9_take_15 : decode cX9_take 15 = .ok (.iload_n 1, 1) := by decide +kernel
theorem dX9_take_16 : decode cX9_take 16 = .ok (.bipush 6, 2) := by decide +kernel
theorem dX9_take_18 : decode cX9_take 18 = .ok (.irem, 1) := by decide +kernel
theorem dX9_take_19 : decode cX9_take 19 = .ok (.bipush 9, 2) := by decide +kernel
theorem dX9_take_21 : decode cX9_take 21 = .ok (.iastore, 1) := by decide +kernel
theorem dX9_take_22 : decode cX9_take 22 = .ok (.return_, 1) := by decide +kernel
theorem dX9_leaves_0 : decode cX9_leaves 0 = .ok (.aload_n 0, 1) := by decide +kernel
theorem dX9_leaves_1 : decode cX9_leaves 1 = .ok (.iload_n 1, 1) := by decide +kernel
theorem dX9_leaves_2 : decode cX9_leaves 2 = .ok (.bipush 6, 2) := by decide +kernel
theorem dX9_leaves_4 : decode cX9_leaves 4 = .ok (.idiv, 1) := by decide +kernel
theorem dX9_leaves_5 : decode cX9_leaves 5 = .ok (.invokevirtual 123, 3) := by decide +kernel
theorem dX9_leaves_8 : decode cX9_leaves 8 = .ok (.aload_n 0, 1) := by decide +kernel
theorem dX9_leaves_9 : decode cX9_leaves 9 = .ok (.iload_n 1, 1) := by decide +kernel
theorem dX9_leaves_10 : decode cX9_leaves 10 = .ok (.bipush 6, 2) := by decide +kernel
theorem dX9_leaves_12 : decode cX9_leaves 12 = .ok (.irem, 1) := by decide +kernel
theorem dX9_leaves_13 : decode cX9_leaves 13 = .ok (.invokevirtual 123, 3) := by decide +kernel
theorem dX9_leaves_16 : decode cX9_leaves 16 = .ok (.if_icmp .ne 7, 3) := by decide +kernel
theorem dX9_leaves_19 : decode cX9_leaves 19 = .ok (.iconst 0, 1) := by decide +kernel
theorem dX9_leaves_20 : decode cX9_leaves 20 = .ok (.goto 4, 3) := by decide +kernel
theorem dX9_leaves_23 : decode cX9_leaves 23 = .ok (.iconst 1, 1) := by decide +kernel
theorem dX9_leaves_24 : decode cX9_leaves 24 = .ok (.ireturn, 1) := by decide +kernel
theorem dX9_findPairs_0 : decode cX9_findPairs 0 = .ok (.iconst 0, 1) := by decide +kernel
theorem dX9_findPairs_1 : decode cX9_findPairs 1 = .ok (.istore_n 1, 1) := by decide +kernel
theorem dX9_findPairs_2 : decode cX9_findPairs 2 = .ok (.iload_n 1, 1) := by decide +kernel
theorem dX9_findPairs_3 : decode cX9_findPairs 3 = .ok (.bipush 6, 2) := by decide +kernel
theorem dX9_findPairs_5 : decode cX9_findPairs 5 = .ok (.if_icmp .ge 17, 3) := by decide +kernel
theorem dX9_findPairs_8 : decode cX9_findPairs 8 = .ok (.aload_n 0, 1) := by decide +kernel
theorem dX9_findPairs_9 : decode cX9_findPairs 9 = .ok (.getfield 37, 3) := by decide +kernel
theorem dX9_findPairs_12 : decode cX9_findPairs 12 = .ok (.iload_n 1, 1) := by decide +kernel
theorem dX9_findPairs_13 : decode cX9_findPairs 13 = .ok (.bipush 9, 2) := by decide +kernel
theorem dX9_findPairs_15 : decode cX9_findPairs 15 = .ok (.iastore, 1) := by decide +kernel
theorem dX9_findPairs_16 : decode cX9_findPairs 16 = .ok (.iinc 1 1, 3) := by decide +kernel
theorem dX9_findPairs_19 : decode cX9_findPairs 19 = .ok (.goto (-17), 3) := by decide +kernel
theorem dX9_findPairs_22 : decode cX9_findPairs 22 = .ok (.aload_n 0, 1) := by decide +kernel
theorem dX9_findPairs_23 : decode cX9_findPairs 23 = .ok (.bipush (-9), 2) := by decide +kernel
theorem dX9_findPairs_25 : decode cX9_findPairs 25 = .ok (.putfield 160, 3) := by decide +kernel
theorem dX9_findPairs_28 : decode cX9_findPairs 28 = .ok (.aload_n 0, 1) := by decide +kernel
theorem dX9_findPairs_29 : decode cX9_findPairs 29 = .ok (.iconst 0, 1) := by decide +kernel
theorem dX9_findPairs_30 : decode cX9_findPairs 30 = .ok (.putfield 163, 3) := by decide +kernel
theorem dX9_findPairs_33 : decode cX9_findPairs 33 = .ok (.aload_n 0, 1) := by decide +kernel
theorem dX9_findPairs_34 : decode cX9_findPairs 34 = .ok (.iconst 0, 1) := by decide +kernel
theorem dX9_findPairs_35 : decode cX9_findPairs 35 = .ok (.iconst 0, 1) := by decide +kernel
theorem dX9_findPairs_36 : decode cX9_findPairs 36 = .ok (.invokevirtual 166, 3) := by decide +kernel
theorem dX9_findPairs_39 : decode cX9_findPairs 39 = .ok (.iconst 0, 1) := by decide +kernel
theorem dX9_findPairs_40 : decode cX9_findPairs 40 = .ok (.istore_n 1, 1) := by decide +kernel
theorem dX9_findPairs_41 : decode cX9_findPairs 41 = .ok (.iload_n 1, 1) := by decide +kernel
theorem dX9_findPairs_42 : decode cX9_findPairs 42 = .ok (.bipush 36, 2) := by decide +kernel
theorem dX9_findPairs_44 : decode cX9_findPairs 44 = .ok (.if_icmp .ge 37, 3) := by decide +kernel
theorem dX9_findPairs_47 : decode cX9_findPairs 47 = .ok (.aload_n 0, 1) := by decide +kernel
theorem dX9_findPairs_48 : decode cX9_findPairs 48 = .ok (.iload_n 1, 1) := by decide +kernel
theorem dX9_findPairs_49 : decode cX9_findPairs 49 = .ok (.invokevirtual 170, 3) := by decide +kernel
theorem dX9_findPairs_52 : decode cX9_findPairs 52 = .ok (.ifCond .eq 23, 3) := by decide +kernel
theorem dX9_findPairs_55 : decode cX9_findPairs 55 = .ok (.aload_n 0, 1) := by decide +kernel
theorem dX9_findPairs_56 : decode cX9_findPairs 56 = .ok (.iconst 1, 1) := by decide +kernel
theorem dX9_findPairs_57 : decode cX9_findPairs 57 = .ok (.aload_n 0, 1) := by decide +kernel
theorem dX9_findPairs_58 : decode cX9_findPairs 58 = .ok (.iload_n 1, 1) := by decide +kernel
theorem dX9_findPairs_59 : decode cX9_findPairs 59 = .ok (.invokevirtual 173, 3) := by decide +kernel
theorem dX9_findPairs_62 : decode cX9_findPairs 62 = .ok (.invokevirtual 166, 3) := by decide +kernel
theorem dX9_findPairs_65 : decode cX9_findPairs 65 = .ok (.aload_n 0, 1) := by decide +kernel
theorem dX9_findPairs_66 : decode cX9_findPairs 66 = .ok (.iload_n 1, 1) := by decide +kernel
theorem dX9_findPairs_67 : decode cX9_findPairs 67 = .ok (.invokevirtual 176, 3) := by decide +kernel
theorem dX9_findPairs_70 : decode cX9_findPairs 70 = .ok (.aload_n 0, 1) := by decide +kernel
theorem dX9_findPairs_71 : decode cX9_findPairs 71 = .ok (.iload_n 1, 1) := by decide +kernel
theorem dX9_findPairs_72 : decode cX9_findPairs 72 = .ok (.invokevirtual 180, 3) := by decide +kernel
theorem dX9_findPairs_75 : decode cX9_findPairs 75 = .ok (.iinc 1 1, 3) := by decide +kernel
theorem dX9_findPairs_78 : decode cX9_findPairs 78 = .ok (.goto (-37), 3) := by decide +kernel
theorem dX9_findPairs_81 : decode cX9_findPairs 81 = .ok (.return_, 1) := by decide +kernel
theorem dX9_findSecond_0 : decode cX9_findSecond 0 = .ok (.iload_n 1, 1) := by decide +kernel
theorem dX9_findSecond_1 : decode cX9_findSecond 1 = .ok (.iconst 1, 1) := by decide +kernel
theorem dX9_findSecond_2 : decode cX9_findSecond 2 = .ok (.iadd, 1) := by decide +kernel
theorem dX9_findSecond_3 : decode cX9_findSecond 3 = .ok (.istore_n 2, 1) := by decide +kernel
theorem dX9_findSecond_4 : decode cX9_findSecond 4 = .ok (.iload_n 2, 1) := by decide +kernel
theorem dX9_findSecond_5 : decode cX9_findSecond 5 = .ok (.bipush 36, 2) := by decide +kernel
theorem dX9_findSecond_7 : decode cX9_findSecond 7 = .ok (.if_icmp .ge 89, 3) := by decide +kernel
theorem dX9_findSecond_10 : decode cX9_findSecond 10 = .ok (.aload_n 0, 1) := by decide +kernel
theorem dX9_findSecond_11 : decode cX9_findSecond 11 = .ok (.iload_n 2, 1) := by decide +kernel
theorem dX9_findSecond_12 : decode cX9_findSecond 12 = .ok (.invokevirtual 170, 3) := by decide +kernel
theorem dX9_findSecond_15 : decode cX9_findSecond 15 = .ok (.ifCond .eq 75, 3) := by decide +kernel
theorem dX9_findSecond_18 : decode cX9_findSecond 18 = .ok (.aload_n 0, 1) := by decide +kernel
theorem dX9_findSecond_19 : decode cX9_findSecond 19 = .ok (.iconst 2, 1) := by decide +kernel
theorem dX9_findSecond_20 : decode cX9_findSecond 20 = .ok (.aload_n 0, 1) := by decide +kernel
theorem dX9_findSecond_21 : decode cX9_findSecond 21 = .ok (.iload_n 1, 1) := by decide +kernel
theorem dX9_findSecond_22 : decode cX9_findSecond 22 = .ok (.invokevirtual 173, 3) := by decide +kernel
theorem dX9_findSecond_25 : decode cX9_findSecond 25 = .ok (.aload_n 0, 1) := by decide +kernel
theorem dX9_findSecond_26 : decode cX9_findSecond 26 = .ok (.iload_n 2, 1) := by decide +kernel
theorem dX9_findSecond_27 : decode cX9_findSecond 27 = .ok (.invokevirtual 173, 3) := by decide +kernel
theorem dX9_findSecond_30 : decode cX9_findSecond 30 = .ok (.iadd, 1) := by decide +kernel
theorem dX9_findSecond_31 : decode cX9_findSecond 31 = .ok (.invokevirtual 166, 3) := by decide +kernel
theorem dX9_findSecond_34 : decode cX9_findSecond 34 = .ok (.iload_n 2, 1) := by decide +kernel
theorem dX9_findSecond_35 : decode cX9_findSecond 35 = .ok (.iconst 1, 1) := by decide +kernel
theorem dX9_findSecond_36 : decode cX9_findSecond 36 = .ok (.iadd, 1) := by decide +kernel
theorem dX9_findSecond_37 : decode cX9_findSecond 37 = .ok (.istore_n 3, 1) := by decide +kernel
theorem dX9_findSecond_38 : decode cX9_findSecond 38 = .ok (.iload_n 3, 1) := by decide +kernel
theorem dX9_findSecond_39 : decode cX9_findSecond 39 = .ok (.bipush 36, 2) := by decide +kernel
theorem dX9_findSecond_41 : decode cX9_findSecond 41 = .ok (.if_icmp .ge 44, 3) := by decide +kernel
theorem dX9_findSecond_44 : decode cX9_findSecond 44 = .ok (.aload_n 0, 1) := by decide +kernel
theorem dX9_findSecond_45 : decode cX9_findSecond 45 = .ok (.iload_n 3, 1) := by decide +kernel
theorem dX9_findSecond_46 : decode cX9_findSecond 46 = .ok (.invokevirtual 170, 3) := by decide +kernel
theorem dX9_findSecond_49 : decode cX9_findSecond 49 = .ok (.ifCond .eq 30, 3) := by decide +kernel
theorem dX9_findSecond_52 : decode cX9_findSecond 52 = .ok (.aload_n 0, 1) := by decide +kernel
theorem dX9_findSecond_53 : decode cX9_findSecond 53 = .ok (.iconst 3, 1) := by decide +kernel
theorem dX9_findSecond_54 : decode cX9_findSecond 54 = .ok (.aload_n 0, 1) := by decide +kernel
theorem dX9_findSecond_55 : decode cX9_findSecond 55 = .ok (.iload_n 1, 1) := by decide +kernel
theorem dX9_findSecond_56 : decode cX9_findSecond 56 = .ok (.invokevirtual 173, 3) := by decide +kernel
theorem dX9_findSecond_59 : decode cX9_findSecond 59 = .ok (.aload_n 0, 1) := by decide +kernel
theorem dX9_findSecond_60 : decode cX9_findSecond 60 = .ok (.iload_n 2, 1) := by decide +kernel
theorem dX9_findSecond_61 : decode cX9_findSecond 61 = .ok (.invokevirtual 173, 3) := by decide +kernel
theorem dX9_findSecond_64 : decode cX9_findSecond 64 = .ok (.iadd, 1) := by decide +kernel
theorem dX9_findSecond_65 : decode cX9_findSecond 65 = .ok (.aload_n 0, 1) := by decide +kernel
theorem dX9_findSecond_66 : decode cX9_findSecond 66 = .ok (.iload_n 3, 1) := by decide +kernel
theorem dX9_findSecond_67 : decode cX9_findSecond 67 = .ok (.invokevirtual 173, 3) := by decide +kernel
theorem dX9_findSecond_70 : decode cX9_findSecond 70 = .ok (.iadd, 1) := by decide +kernel
theorem dX9_findSecond_71 : decode cX9_findSecond 71 = .ok (.invokevirtual 166, 3) := by decide +kernel
theorem dX9_findSecond_74 : decode cX9_findSecond 74 = .ok (.aload_n 0, 1) := by decide +kernel
theorem dX9_findSecond_75 : decode cX9_findSecond 75 = .ok (.iload_n 3, 1) := by decide +kernel
theorem dX9_findSecond_76 : decode cX9_findSecond 76 = .ok (.invokevirtual 180, 3) := by decide +kernel
theorem dX9_findSecond_79 : decode cX9_findSecond 79 = .ok (.iinc 3 1, 3) := by decide +kernel
theorem dX9_findSecond_82 : decode cX9_findSecond 82 = .ok (.goto (-44), 3) := by decide +kernel
theorem dX9_findSecond_85 : decode cX9_findSecond 85 = .ok (.aload_n 0, 1) := by decide +kernel
theorem dX9_findSecond_86 : decode cX9_findSecond 86 = .ok (.iload_n 2, 1) := by decide +kernel
theorem dX9_findSecond_87 : decode cX9_findSecond 87 = .ok (.invokevirtual 180, 3) := by decide +kernel
theorem dX9_findSecond_90 : decode cX9_findSecond 90 = .ok (.iinc 2 1, 3) := by decide +kernel
theorem dX9_findSecond_93 : decode cX9_findSecond 93 = .ok (.goto (-89), 3) := by decide +kernel
theorem dX9_findSecond_96 : decode cX9_findSecond 96 = .ok (.return_, 1) := by decide +kernel
theorem dX9_pairs_0 : decode cX9_pairs 0 = .ok (.iload_n 1, 1) := by decide +kernel
theorem dX9_pairs_1 : decode cX9_pairs 1 = .ok (.iconst (-1), 1) := by decide +kernel
theorem dX9_pairs_2 : decode cX9_pairs 2 = .ok (.iconst 5, 1) := by decide +kernel
theorem dX9_pairs_3 : decode cX9_pairs 3 = .ok (.invokestatic 67, 3) := by decide +kernel
theorem dX9_pairs_6 : decode cX9_pairs 6 = .ok (.ifCond .ne 6, 3) := by decide +kernel
theorem dX9_pairs_9 : decode cX9_pairs 9 = .ok (.bipush (-2), 2) := by decide +kernel
theorem dX9_pairs_11 : decode cX9_pairs 11 = .ok (.ireturn, 1) := by decide +kernel
theorem dX9_pairs_12 : decode cX9_pairs 12 = .ok (.aload_n 0, 1) := by decide +kernel
theorem dX9_pairs_13 : decode cX9_pairs 13 = .ok (.getfield 71, 3) := by decide +kernel
theorem dX9_pairs_16 : decode cX9_pairs 16 = .ok (.ifCond .ne 6, 3) := by decide +kernel
theorem dX9_pairs_19 : decode cX9_pairs 19 = .ok (.bipush (-3), 2) := by decide +kernel
theorem dX9_pairs_21 : decode cX9_pairs 21 = .ok (.ireturn, 1) := by decide +kernel
theorem dX9_pairs_22 : decode cX9_pairs 22 = .ok (.aload_n 0, 1) := by decide +kernel
theorem dX9_pairs_23 : decode cX9_pairs 23 = .ok (.invokevirtual 183, 3) := by decide +kernel
theorem dX9_pairs_26 : decode cX9_pairs 26 = .ok (.iload_n 1, 1) := by decide +kernel
theorem dX9_pairs_27 : decode cX9_pairs 27 = .ok (.iconst (-1), 1) := by decide +kernel
theorem dX9_pairs_28 : decode cX9_pairs 28 = .ok (.if_icmp .ne 8, 3) := by decide +kernel
theorem dX9_pairs_31 : decode cX9_pairs 31 = .ok (.aload_n 0, 1) := by decide +kernel
theorem dX9_pairs_32 : decode cX9_pairs 32 = .ok (.getfield 163, 3) := by decide +kernel
theorem dX9_pairs_35 : decode cX9_pairs 35 = .ok (.ireturn, 1) := by decide +kernel
theorem dX9_pairs_36 : decode cX9_pairs 36 = .ok (.aload_n 0, 1) := by decide +kernel
theorem dX9_pairs_37 : decode cX9_pairs 37 = .ok (.iload_n 1, 1) := by decide +kernel
theorem dX9_pairs_38 : decode cX9_pairs 38 = .ok (.invokevirtual 74, 3) := by decide +kernel
theorem dX9_pairs_41 : decode cX9_pairs 41 = .ok (.ifCond .eq 23, 3) := by decide +kernel
theorem dX9_pairs_44 : decode cX9_pairs 44 = .ok (.aload_n 0, 1) := by decide +kernel
theorem dX9_pairs_45 : decode cX9_pairs 45 = .ok (.getfield 40, 3) := by decide +kernel
theorem dX9_pairs_48 : decode cX9_pairs 48 = .ok (.iload_n 1, 1) := by decide +kernel
theorem dX9_pairs_49 : decode cX9_pairs 49 = .ok (.iaload, 1) := by decide +kernel
theorem dX9_pairs_50 : decode cX9_pairs 50 = .ok (.bipush 9, 2) := by decide +kernel
theorem dX9_pairs_52 : decode cX9_pairs 52 = .ok (.if_icmp .eq 12, 3) := by decide +kernel
theorem dX9_pairs_55 : decode cX9_pairs 55 = .ok (.aload_n 0, 1) := by decide +kernel
theorem dX9_pairs_56 : decode cX9_pairs 56 = .ok (.getfield 40, 3) := by decide +kernel
theorem dX9_pairs_59 : decode cX9_pairs 59 = .ok (.iload_n 1, 1) := by decide +kernel
theorem dX9_pairs_60 : decode cX9_pairs 60 = .ok (.iaload, 1) := by decide +kernel
theorem dX9_pairs_61 : decode cX9_pairs 61 = .ok (.goto 5, 3) := by decide +kernel
theorem dX9_pairs_64 : decode cX9_pairs 64 = .ok (.bipush (-9), 2) := by decide +kernel
theorem dX9_pairs_66 : decode cX9_pairs 66 = .ok (.ireturn, 1) := by decide +kernel
theorem dX9_refusesTwos_0 : decode cX9_refusesTwos 0 = .ok (.iconst 0, 1) := by decide +kernel
theorem dX9_refusesTwos_1 : decode cX9_refusesTwos 1 = .ok (.istore_n 3, 1) := by decide +kernel
theorem dX9_refusesTwos_2 : decode cX9_refusesTwos 2 = .ok (.iload_n 3, 1) := by decide +kernel
theorem dX9_refusesTwos_3 : decode cX9_refusesTwos 3 = .ok (.iload_n 2, 1) := by decide +kernel
theorem dX9_refusesTwos_4 : decode cX9_refusesTwos 4 = .ok (.if_icmp .ge 40, 3) := by decide +kernel
theorem dX9_refusesTwos_7 : decode cX9_refusesTwos 7 = .ok (.aload_n 0, 1) := by decide +kernel
theorem dX9_refusesTwos_8 : decode cX9_refusesTwos 8 = .ok (.aload_n 0, 1) := by decide +kernel
theorem dX9_refusesTwos_9 : decode cX9_refusesTwos 9 = .ok (.getfield 16, 3) := by decide +kernel
theorem dX9_refusesTwos_12 : decode cX9_refusesTwos 12 = .ok (.iload_n 1, 1) := by decide +kernel
theorem dX9_refusesTwos_13 : decode cX9_refusesTwos 13 = .ok (.iconst 2, 1) := by decide +kernel
theorem dX9_refusesTwos_14 : decode cX9_refusesTwos 14 = .ok (.iload_n 3, 1) := by decide +kernel
theorem dX9_refusesTwos_15 : decode cX9_refusesTwos 15 = .ok (.imul, 1) := by decide +kernel
theorem dX9_refusesTwos_16 : decode cX9_refusesTwos 16 = .ok (.iadd, 1) := by decide +kernel
theorem dX9_refusesTwos_17 : decode cX9_refusesTwos 17 = .ok (.iaload, 1) := by decide +kernel
theorem dX9_refusesTwos_18 : decode cX9_refusesTwos 18 = .ok (.aload_n 0, 1) := by decide +kernel
theorem dX9_refusesTwos_19 : decode cX9_refusesTwos 19 = .ok (.getfield 16, 3) := by decide +kernel
theorem dX9_refusesTwos_22 : decode cX9_refusesTwos 22 = .ok (.iload_n 1, 1) := by decide +kernel
theorem dX9_refusesTwos_23 : decode cX9_refusesTwos 23 = .ok (.iconst 2, 1) := by decide +kernel
theorem dX9_refusesTwos_24 : decode cX9_refusesTwos 24 = .ok (.iload_n 3, 1) := by decide +kernel
theorem dX9_refusesTwos_25 : decode cX9_refusesTwos 25 = .ok (.imul, 1) := by decide +kernel
theorem dX9_refusesTwos_26 : decode cX9_refusesTwos 26 = .ok (.iadd, 1) := by decide +kernel
theorem dX9_refusesTwos_27 : decode cX9_refusesTwos 27 = .ok (.iconst 1, 1) := by decide +kernel
theorem dX9_refusesTwos_28 : decode cX9_refusesTwos 28 = .ok (.iadd, 1) := by decide +kernel
theorem dX9_refusesTwos_29 : decode cX9_refusesTwos 29 = .ok (.iaload, 1) := by decide +kernel
theorem dX9_refusesTwos_30 : decode cX9_refusesTwos 30 = .ok (.invokevirtual 129, 3) := by decide +kernel
theorem dX9_refusesTwos_33 : decode cX9_refusesTwos 33 = .ok (.ifCond .ne 5, 3) := by decide +kernel
theorem dX9_refusesTwos_36 : decode cX9_refusesTwos 36 = .ok (.iconst (-1), 1) := by decide +kernel
theorem dX9_refusesTwos_37 : decode cX9_refusesTwos 37 = .ok (.ireturn, 1) := by decide +kernel
theorem dX9_refusesTwos_38 : decode cX9_refusesTwos 38 = .ok (.iinc 3 1, 3) := by decide +kernel
theorem dX9_refusesTwos_41 : decode cX9_refusesTwos 41 = .ok (.goto (-39), 3) := by decide +kernel
theorem dX9_refusesTwos_44 : decode cX9_refusesTwos 44 = .ok (.iconst 0, 1) := by decide +kernel
theorem dX9_refusesTwos_45 : decode cX9_refusesTwos 45 = .ok (.ireturn, 1) := by decide +kernel
theorem dX9_ordersOf_0 : decode cX9_ordersOf 0 = .ok (.iconst 1, 1) := by decide +kernel
theorem dX9_ordersOf_1 : decode cX9_ordersOf 1 = .ok (.istore_n 1, 1) := by decide +kernel
theorem dX9_ordersOf_2 : decode cX9_ordersOf 2 = .ok (.iconst 2, 1) := by decide +kernel
theorem dX9_ordersOf_3 : decode cX9_ordersOf 3 = .ok (.istore_n 2, 1) := by decide +kernel
theorem dX9_ordersOf_4 : decode cX9_ordersOf 4 = .ok (.iload_n 2, 1) := by decide +kernel
theorem dX9_ordersOf_5 : decode cX9_ordersOf 5 = .ok (.iload_n 0, 1) := by decide +kernel
theorem dX9_ordersOf_6 : decode cX9_ordersOf 6 = .ok (.if_icmp .gt 13, 3) := by decide +kernel
theorem dX9_ordersOf_9 : decode cX9_ordersOf 9 = .ok (.iload_n 1, 1) := by decide +kernel
theorem dX9_ordersOf_10 : decode cX9_ordersOf 10 = .ok (.iload_n 2, 1) := by decide +kernel
theorem dX9_ordersOf_11 : decode cX9_ordersOf 11 = .ok (.imul, 1) := by decide +kernel
theorem dX9_ordersOf_12 : decode cX9_ordersOf 12 = .ok (.istore_n 1, 1) := by decide +kernel
theorem dX9_ordersOf_13 : decode cX9_ordersOf 13 = .ok (.iinc 2 1, 3) := by decide +kernel
theorem dX9_ordersOf_16 : decode cX9_ordersOf 16 = .ok (.goto (-12), 3) := by decide +kernel
theorem dX9_ordersOf_19 : decode cX9_ordersOf 19 = .ok (.iload_n 1, 1) := by decide +kernel
theorem dX9_ordersOf_20 : decode cX9_ordersOf 20 = .ok (.ireturn, 1) := by decide +kernel
theorem dX9_findRow_0 : decode cX9_findRow 0 = .ok (.iload_n 1, 1) := by decide +kernel
theorem dX9_findRow_1 : decode cX9_findRow 1 = .ok (.istore_n 2, 1) := by decide +kernel
theorem dX9_findRow_2 : decode cX9_findRow 2 = .ok (.aload_n 0, 1) := by decide +kernel
theorem dX9_findRow_3 : decode cX9_findRow 3 = .ok (.getfield 71, 3) := by decide +kernel
theorem dX9_findRow_6 : decode cX9_findRow 6 = .ok (.iconst 1, 1) := by decide +kernel
theorem dX9_findRow_7 : decode cX9_findRow 7 = .ok (.isub, 1) := by decide +kernel
theorem dX9_findRow_8 : decode cX9_findRow 8 = .ok (.invokestatic 186, 3) := by decide +kernel
theorem dX9_findRow_11 : decode cX9_findRow 11 = .ok (.istore_n 3, 1) := by decide +kernel
theorem dX9_findRow_12 : decode cX9_findRow 12 = .ok (.iconst 0, 1) := by decide +kernel
theorem dX9_findRow_13 : decode cX9_findRow 13 = .ok (.istore 4, 2) := by decide +kernel
theorem dX9_findRow_15 : decode cX9_findRow 15 = .ok (.iconst 0, 1) := by decide +kernel
theorem dX9_findRow_16 : decode cX9_findRow 16 = .ok (.istore 5, 2) := by decide +kernel
theorem dX9_findRow_18 : decode cX9_findRow 18 = .ok (.iload 5, 2) := by decide +kernel
theorem dX9_findRow_20 : decode cX9_findRow 20 = .ok (.aload_n 0, 1) := by decide +kernel
theorem dX9_findRow_21 : decode cX9_findRow 21 = .ok (.getfield 71, 3) := by decide +kernel
theorem dX9_findRow_24 : decode cX9_findRow 24 = .ok (.if_icmp .ge 118, 3) := by decide +kernel
theorem dX9_findRow_27 : decode cX9_findRow 27 = .ok (.iload_n 2, 1) := by decide +kernel
theorem dX9_findRow_28 : decode cX9_findRow 28 = .ok (.iload_n 3, 1) := by decide +kernel
theorem dX9_findRow_29 : decode cX9_findRow 29 = .ok (.idiv, 1) := by decide +kernel
theorem dX9_findRow_30 : decode cX9_findRow 30 = .ok (.istore 6, 2) := by decide +kernel
theorem dX9_findRow_32 : decode cX9_findRow 32 = .ok (.iload_n 2, 1) := by decide +kernel
theorem dX9_findRow_33 : decode cX9_findRow 33 = .ok (.iload_n 3, 1) := by decide +kernel
theorem dX9_findRow_34 : decode cX9_findRow 34 = .ok (.irem, 1) := by decide +kernel
theorem dX9_findRow_35 : decode cX9_findRow 35 = .ok (.istore_n 2, 1) := by decide +kernel
theorem dX9_findRow_36 : decode cX9_findRow 36 = .ok (.iconst 0, 1) := by decide +kernel
theorem dX9_findRow_37 : decode cX9_findRow 37 = .ok (.istore 7, 2) := by decide +kernel
theorem dX9_findRow_39 : decode cX9_findRow 39 = .ok (.iload 4, 2) := by decide +kernel
theorem dX9_findRow_41 : decode cX9_findRow 41 = .ok (.iload 7, 2) := by decide +kernel
theorem dX9_findRow_43 : decode cX9_findRow 43 = .ok (.invokestatic 126, 3) := by decide +kernel
theorem dX9_findRow_46 : decode cX9_findRow 46 = .ok (.ifCond .ne 8, 3) := by decide +kernel
theorem dX9_findRow_49 : decode cX9_findRow 49 = .ok (.iload 6, 2) := by decide +kernel
theorem dX9_findRow_51 : decode cX9_findRow 51 = .ok (.ifCond .le 29, 3) := by decide +kernel
theorem dX9_findRow_54 : decode cX9_findRow 54 = .ok (.iload 6, 2) := by decide +kernel
theorem dX9_findRow_56 : decode cX9_findRow 56 = .ok (.iload 4, 2) := by decide +kernel
theorem dX9_findRow_58 : decode cX9_findRow 58 = .ok (.iload 7, 2) := by decide +kernel
theorem dX9_findRow_60 : decode cX9_findRow 60 = .ok (.invokestatic 126, 3) := by decide +kernel
theorem dX9_findRow_63 : decode cX9_findRow 63 = .ok (.ifCond .eq 7, 3) := by decide +kernel
theorem dX9_findRow_66 : decode cX9_findRow 66 = .ok (.iconst 0, 1) := by decide +kernel
theorem dX9_findRow_67 : decode cX9_findRow 67 = .ok (.goto 4, 3) := by decide +kernel
theorem dX9_findRow_70 : decode cX9_findRow 70 = .ok (.iconst 1, 1) := by decide +kernel
theorem dX9_findRow_71 : decode cX9_findRow 71 = .ok (.isub, 1) := by decide +kernel
theorem dX9_findRow_72 : decode cX9_findRow 72 = .ok (.istore 6, 2) := by decide +kernel
theorem dX9_findRow_74 : decode cX9_findRow 74 = .ok (.iinc 7 1, 3) := by decide +kernel
theorem dX9_findRow_77 : decode cX9_findRow 77 = .ok (.goto (-38), 3) := by decide +kernel
theorem dX9_findRow_80 : decode cX9_findRow 80 = .ok (.aload_n 0, 1) := by decide +kernel
theorem dX9_findRow_81 : decode cX9_findRow 81 = .ok (.getfield 43, 3) := by decide +kernel
theorem dX9_findRow_84 : decode cX9_findRow 84 = .ok (.iload 5, 2) := by decide +kernel
theorem dX9_findRow_86 : decode cX9_findRow 86 = .ok (.iload 7, 2) := by decide +kernel
theorem dX9_findRow_88 : decode cX9_findRow 88 = .ok (.iastore, 1) := by decide +kernel
theorem dX9_findRow_89 : decode cX9_findRow 89 = .ok (.aload_n 0, 1) := by decide +kernel
theorem dX9_findRow_90 : decode cX9_findRow 90 = .ok (.getfield 46, 3) := by decide +kernel
theorem dX9_findRow_93 : decode cX9_findRow 93 = .ok (.iload 7, 2) := by decide +kernel
theorem dX9_findRow_95 : decode cX9_findRow 95 = .ok (.iload 5, 2) := by decide +kernel
theorem dX9_findRow_97 : decode cX9_findRow 97 = .ok (.iastore, 1) := by decide +kernel
theorem dX9_findRow_98 : decode cX9_findRow 98 = .ok (.iload 4, 2) := by decide +kernel
theorem dX9_findRow_100 : decode cX9_findRow 100 = .ok (.iconst 1, 1) := by decide +kernel
theorem dX9_findRow_101 : decode cX9_findRow 101 = .ok (.iload 7, 2) := by decide +kernel
theorem dX9_findRow_103 : decode cX9_findRow 103 = .ok (.ishl, 1) := by decide +kernel
theorem dX9_findRow_104 : decode cX9_findRow 104 = .ok (.ior, 1) := by decide +kernel
theorem dX9_findRow_105 : decode cX9_findRow 105 = .ok (.istore 4, 2) := by decide +kernel
theorem dX9_findRow_107 : decode cX9_findRow 107 = .ok (.aload_n 0, 1) := by decide +kernel
theorem dX9_findRow_108 : decode cX9_findRow 108 = .ok (.getfield 71, 3) := by decide +kernel
theorem dX9_findRow_111 : decode cX9_findRow 111 = .ok (.iload 5, 2) := by decide +kernel
theorem dX9_findRow_113 : decode cX9_findRow 113 = .ok (.isub, 1) := by decide +kernel
theorem dX9_findRow_114 : decode cX9_findRow 114 = .ok (.iconst 1, 1) := by decide +kernel
theorem dX9_findRow_115 : decode cX9_findRow 115 = .ok (.isub, 1) := by decide +kernel
theorem dX9_findRow_116 : decode cX9_findRow 116 = .ok (.iconst 1, 1) := by decide +kernel
theorem dX9_findRow_117 : decode cX9_findRow 117 = .ok (.if_icmp .le 17, 3) := by decide +kernel
theorem dX9_findRow_120 : decode cX9_findRow 120 = .ok (.iload_n 3, 1) := by decide +kernel
theorem dX9_findRow_121 : decode cX9_findRow 121 = .ok (.aload_n 0, 1) := by decide +kernel
theorem dX9_findRow_122 : decode cX9_findRow 122 = .ok (.getfield 71, 3) := by decide +kernel
theorem dX9_findRow_125 : decode cX9_findRow 125 = .ok (.iload 5, 2) := by decide +kernel
theorem dX9_findRow_127 : decode cX9_findRow 127 = .ok (.isub, 1) := by decide +kernel
theorem dX9_findRow_128 : decode cX9_findRow 128 = .ok (.iconst 1, 1) := by decide +kernel
theorem dX9_findRow_129 : decode cX9_findRow 129 = .ok (.isub, 1) := by decide +kernel
theorem dX9_findRow_130 : decode cX9_findRow 130 = .ok (.idiv, 1) := by decide +kernel
theorem dX9_findRow_131 : decode cX9_findRow 131 = .ok (.goto 4, 3) := by decide +kernel
theorem dX9_findRow_134 : decode cX9_findRow 134 = .ok (.iconst 1, 1) := by decide +kernel
theorem dX9_findRow_135 : decode cX9_findRow 135 = .ok (.istore_n 3, 1) := by decide +kernel
theorem dX9_findRow_136 : decode cX9_findRow 136 = .ok (.iinc 5 1, 3) := by decide +kernel
theorem dX9_findRow_139 : decode cX9_findRow 139 = .ok (.goto (-121), 3) := by decide +kernel
theorem dX9_findRow_142 : decode cX9_findRow 142 = .ok (.return_, 1) := by decide +kernel
theorem dX9_areAhead_0 : decode cX9_areAhead 0 = .ok (.iconst 0, 1) := by decide +kernel
theorem dX9_areAhead_1 : decode cX9_areAhead 1 = .ok (.istore_n 3, 1) := by decide +kernel
theorem dX9_areAhead_2 : decode cX9_areAhead 2 = .ok (.iload_n 3, 1) := by decide +kernel
theorem dX9_areAhead_3 : decode cX9_areAhead 3 = .ok (.iload_n 2, 1) := by decide +kernel
theorem dX9_areAhead_4 : decode cX9_areAhead 4 = .ok (.if_icmp .ge 46, 3) := by decide +kernel
theorem dX9_areAhead_7 : decode cX9_areAhead 7 = .ok (.aload_n 0, 1) := by decide +kernel
theorem dX9_areAhead_8 : decode cX9_areAhead 8 = .ok (.getfield 46, 3) := by decide +kernel
theorem dX9_areAhead_11 : decode cX9_areAhead 11 = .ok (.aload_n 0, 1) := by decide +kernel
theorem dX9_areAhead_12 : decode cX9_areAhead 12 = .ok (.getfield 16, 3) := by decide +kernel
theorem dX9_areAhead_15 : decode cX9_areAhead 15 = .ok (.iload_n 1, 1) := by decide +kernel
theorem dX9_areAhead_16 : decode cX9_areAhead 16 = .ok (.iconst 2, 1) := by decide +kernel
theorem dX9_areAhead_17 : decode cX9_areAhead 17 = .ok (.iload_n 3, 1) := by decide +kernel
theorem dX9_areAhead_18 : decode cX9_areAhead 18 = .ok (.imul, 1) := by decide +kernel
theorem dX9_areAhead_19 : decode cX9_areAhead 19 = .ok (.iadd, 1) := by decide +kernel
theorem dX9_areAhead_20 : decode cX9_areAhead 20 = .ok (.iaload, 1) := by decide +kernel
theorem dX9_areAhead_21 : decode cX9_areAhead 21 = .ok (.iaload, 1) := by decide +kernel
theorem dX9_areAhead_22 : decode cX9_areAhead 22 = .ok (.aload_n 0, 1) := by decide +kernel
theorem dX9_areAhead_23 : decode cX9_areAhead 23 = .ok (.getfield 46, 3) := by decide +kernel
theorem dX9_areAhead_26 : decode cX9_areAhead 26 = .ok (.aload_n 0, 1) := by decide +kernel
theorem dX9_areAhead_27 : decode cX9_areAhead 27 = .ok (.getfield 16, 3) := by decide +kernel
theorem dX9_areAhead_30 : decode cX9_areAhead 30 = .ok (.iload_n 1, 1) := by decide +kernel
theorem dX9_areAhead_31 : decode cX9_areAhead 31 = .ok (.iconst 2, 1) := by decide +kernel
theorem dX9_areAhead_32 : decode cX9_areAhead 32 = .ok (.iload_n 3, 1) := by decide +kernel
theorem dX9_areAhead_33 : decode cX9_areAhead 33 = .ok (.imul, 1) := by decide +kernel
theorem dX9_areAhead_34 : decode cX9_areAhead 34 = .ok (.iadd, 1) := by decide +kernel
theorem dX9_areAhead_35 : decode cX9_areAhead 35 = .ok (.iconst 1, 1) := by decide +kernel
theorem dX9_areAhead_36 : decode cX9_areAhead 36 = .ok (.iadd, 1) := by decide +kernel
theorem dX9_areAhead_37 : decode cX9_areAhead 37 = .ok (.iaload, 1) := by decide +kernel
theorem dX9_areAhead_38 : decode cX9_areAhead 38 = .ok (.iaload, 1) := by decide +kernel
theorem dX9_areAhead_39 : decode cX9_areAhead 39 = .ok (.if_icmp .le 5, 3) := by decide +kernel
theorem dX9_areAhead_42 : decode cX9_areAhead 42 = .ok (.iconst 0, 1) := by decide +kernel
theorem dX9_areAhead_43 : decode cX9_areAhead 43 = .ok (.ireturn, 1) := by decide +kernel
theorem dX9_areAhead_44 : decode cX9_areAhead 44 = .ok (.iinc 3 1, 3) := by decide +kernel
theorem dX9_areAhead_47 : decode cX9_areAhead 47 = .ok (.goto (-45), 3) := by decide +kernel
theorem dX9_areAhead_50 : decode cX9_areAhead 50 = .ok (.iconst 1, 1) := by decide +kernel
theorem dX9_areAhead_51 : decode cX9_areAhead 51 = .ok (.ireturn, 1) := by decide +kernel
theorem dX9_orders_0 : decode cX9_orders 0 = .ok (.aload_n 0, 1) := by decide +kernel
theorem dX9_orders_1 : decode cX9_orders 1 = .ok (.iconst 0, 1) := by decide +kernel
theorem dX9_orders_2 : decode cX9_orders 2 = .ok (.putfield 61, 3) := by decide +kernel
theorem dX9_orders_5 : decode cX9_orders 5 = .ok (.iload_n 1, 1) := by decide +kernel
theorem dX9_orders_6 : decode cX9_orders 6 = .ok (.invokestatic 81, 3) := by decide +kernel
theorem dX9_orders_9 : decode cX9_orders 9 = .ok (.ifCond .ne 5, 3) := by decide +kernel
theorem dX9_orders_12 : decode cX9_orders 12 = .ok (.iconst (-1), 1) := by decide +kernel
theorem dX9_orders_13 : decode cX9_orders 13 = .ok (.ireturn, 1) := by decide +kernel
theorem dX9_orders_14 : decode cX9_orders 14 = .ok (.iload_n 2, 1) := by decide +kernel
theorem dX9_orders_15 : decode cX9_orders 15 = .ok (.invokestatic 84, 3) := by decide +kernel
theorem dX9_orders_18 : decode cX9_orders 18 = .ok (.ifCond .eq 24, 3) := by decide +kernel
theorem dX9_orders_21 : decode cX9_orders 21 = .ok (.iload 4, 2) := by decide +kernel
theorem dX9_orders_23 : decode cX9_orders 23 = .ok (.iconst 0, 1) := by decide +kernel
theorem dX9_orders_24 : decode cX9_orders 24 = .ok (.bipush 10, 2) := by decide +kernel
theorem dX9_orders_26 : decode cX9_orders 26 = .ok (.invokestatic 67, 3) := by decide +kernel
theorem dX9_orders_29 : decode cX9_orders 29 = .ok (.ifCond .eq 13, 3) := by decide +kernel
theorem dX9_orders_32 : decode cX9_orders 32 = .ok (.iload 5, 2) := by decide +kernel
theorem dX9_orders_34 : decode cX9_orders 34 = .ok (.iconst (-1), 1) := by decide +kernel
theorem dX9_orders_35 : decode cX9_orders 35 = .ok (.iconst 5, 1) := by decide +kernel
theorem dX9_orders_36 : decode cX9_orders 36 = .ok (.invokestatic 67, 3) := by decide +kernel
theorem dX9_orders_39 : decode cX9_orders 39 = .ok (.ifCond .ne 6, 3) := by decide +kernel
theorem dX9_orders_42 : decode cX9_orders 42 = .ok (.bipush (-2), 2) := by decide +kernel
theorem dX9_orders_44 : decode cX9_orders 44 = .ok (.ireturn, 1) := by decide +kernel
theorem dX9_orders_45 : decode cX9_orders 45 = .ok (.aload_n 0, 1) := by decide +kernel
theorem dX9_orders_46 : decode cX9_orders 46 = .ok (.iload_n 1, 1) := by decide +kernel
theorem dX9_orders_47 : decode cX9_orders 47 = .ok (.iload_n 2, 1) := by decide +kernel
theorem dX9_orders_48 : decode cX9_orders 48 = .ok (.iload_n 3, 1) := by decide +kernel
theorem dX9_orders_49 : decode cX9_orders 49 = .ok (.iconst 2, 1) := by decide +kernel
theorem dX9_orders_50 : decode cX9_orders 50 = .ok (.iload 4, 2) := by decide +kernel
theorem dX9_orders_52 : decode cX9_orders 52 = .ok (.imul, 1) := by decide +kernel
theorem dX9_orders_53 : decode cX9_orders 53 = .ok (.invokevirtual 87, 3) := by decide +kernel
theorem dX9_orders_56 : decode cX9_orders 56 = .ok (.istore 6, 2) := by decide +kernel
theorem dX9_orders_58 : decode cX9_orders 58 = .ok (.iload 6, 2) := by decide +kernel
theorem dX9_orders_60 : decode cX9_orders 60 = .ok (.ifCond .eq 10, 3) := by decide +kernel
theorem dX9_orders_63 : decode cX9_orders 63 = .ok (.aload_n 0, 1) := by decide +kernel
theorem dX9_orders_64 : decode cX9_orders 64 = .ok (.iload 6, 2) := by decide +kernel
theorem dX9_orders_66 : decode cX9_orders 66 = .ok (.invokevirtual 91, 3) := by decide +kernel
theorem dX9_orders_69 : decode cX9_orders 69 = .ok (.ireturn, 1) := by decide +kernel
theorem dX9_orders_70 : decode cX9_orders 70 = .ok (.aload_n 0, 1) := by decide +kernel
theorem dX9_orders_71 : decode cX9_orders 71 = .ok (.getfield 71, 3) := by decide +kernel
theorem dX9_orders_74 : decode cX9_orders 74 = .ok (.ifCond .ne 6, 3) := by decide +kernel
theorem dX9_orders_77 : decode cX9_orders 77 = .ok (.bipush (-3), 2) := by decide +kernel
theorem dX9_orders_79 : decode cX9_orders 79 = .ok (.ireturn, 1) := by decide +kernel
theorem dX9_orders_80 : decode cX9_orders 80 = .ok (.bipush 60, 2) := by decide +kernel
theorem dX9_orders_82 : decode cX9_orders 82 = .ok (.iload_n 1, 1) := by decide +kernel
theorem dX9_orders_83 : decode cX9_orders 83 = .ok (.imul, 1) := by decide +kernel
theorem dX9_orders_84 : decode cX9_orders 84 = .ok (.iload_n 3, 1) := by decide +kernel
theorem dX9_orders_85 : decode cX9_orders 85 = .ok (.iadd, 1) := by decide +kernel
theorem dX9_orders_86 : decode cX9_orders 86 = .ok (.istore 7, 2) := by decide +kernel
theorem dX9_orders_88 : decode cX9_orders 88 = .ok (.aload_n 0, 1) := by decide +kernel
theorem dX9_orders_89 : decode cX9_orders 89 = .ok (.iload 7, 2) := by decide +kernel
theorem dX9_orders_91 : decode cX9_orders 91 = .ok (.iload 4, 2) := by decide +kernel
theorem dX9_orders_93 : decode cX9_orders 93 = .ok (.invokevirtual 189, 3) := by decide +kernel
theorem dX9_orders_96 : decode cX9_orders 96 = .ok (.ifCond .eq 5, 3) := by decide +kernel
theorem dX9_orders_99 : decode cX9_orders 99 = .ok (.iconst (-1), 1) := by decide +kernel
theorem dX9_orders_100 : decode cX9_orders 100 = .ok (.ireturn, 1) := by decide +kernel
theorem dX9_orders_101 : decode cX9_orders 101 = .ok (.iconst 0, 1) := by decide +kernel
theorem dX9_orders_102 : decode cX9_orders 102 = .ok (.istore 8, 2) := by decide +kernel
theorem dX9_orders_104 : decode cX9_orders 104 = .ok (.bipush (-9), 2) := by decide +kernel
theorem dX9_orders_106 : decode cX9_orders 106 = .ok (.istore 9, 2) := by decide +kernel
theorem dX9_orders_108 : decode cX9_orders 108 = .ok (.iconst 0, 1) := by decide +kernel
theorem dX9_orders_109 : decode cX9_orders 109 = .ok (.istore 10, 2) := by decide +kernel
theorem dX9_orders_111 : decode cX9_orders 111 = .ok (.iload 10, 2) := by decide +kernel
theorem dX9_orders_113 : decode cX9_orders 113 = .ok (.aload_n 0, 1) := by decide +kernel
theorem dX9_orders_114 : decode cX9_orders 114 = .ok (.getfield 71, 3) := by decide +kernel
theorem dX9_orders_117 : decode cX9_orders 117 = .ok (.invokestatic 186, 3) := by decide +kernel
theorem dX9_orders_120 : decode cX9_orders 120 = .ok (.if_icmp .ge 57, 3) := by decide +kernel
theorem dX9_orders_123 : decode cX9_orders 123 = .ok (.aload_n 0, 1) := by decide +kernel
theorem dX9_orders_124 : decode cX9_orders 124 = .ok (.iload 10, 2) := by decide +kernel
theorem dX9_orders_126 : decode cX9_orders 126 = .ok (.invokevirtual 192, 3) := by decide +kernel
theorem dX9_orders_129 : decode cX9_orders 129 = .ok (.aload_n 0, 1) := by decide +kernel
theorem dX9_orders_130 : decode cX9_orders 130 = .ok (.iload 7, 2) := by decide +kernel
theorem dX9_orders_132 : decode cX9_orders 132 = .ok (.iload 4, 2) := by decide +kernel
theorem dX9_orders_134 : decode cX9_orders 134 = .ok (.invokevirtual 195, 3) := by decide +kernel
theorem dX9_orders_137 : decode cX9_orders 137 = .ok (.ifCond .eq 34, 3) := by decide +kernel
theorem dX9_orders_140 : decode cX9_orders 140 = .ok (.iload 8, 2) := by decide +kernel
theorem dX9_orders_142 : decode cX9_orders 142 = .ok (.ifCond .ne 22, 3) := by decide +kernel
theorem dX9_orders_145 : decode cX9_orders 145 = .ok (.aload_n 0, 1) := by decide +kernel
theorem dX9_orders_146 : decode cX9_orders 146 = .ok (.iload 5, 2) := by decide +kernel
theorem dX9_orders_148 : decode cX9_orders 148 = .ok (.invokevirtual 74, 3) := by decide +kernel
theorem dX9_orders_151 : decode cX9_orders 151 = .ok (.ifCond .eq 13, 3) := by decide +kernel
theorem dX9_orders_154 : decode cX9_orders 154 = .ok (.aload_n 0, 1) := by decide +kernel
theorem dX9_orders_155 : decode cX9_orders 155 = .ok (.getfield 43, 3) := by decide +kernel
theorem dX9_orders_158 : decode cX9_orders 158 = .ok (.iload 5, 2) := by decide +kernel
theorem dX9_orders_160 : decode cX9_orders 160 = .ok (.iaload, 1) := by decide +kernel
theorem dX9_orders_161 : decode cX9_orders 161 = .ok (.goto 5, 3) := by decide +kernel
theorem dX9_orders_164 : decode cX9_orders 164 = .ok (.iload 9, 2) := by decide +kernel
theorem dX9_orders_166 : decode cX9_orders 166 = .ok (.istore 9, 2) := by decide +kernel
theorem dX9_orders_168 : decode cX9_orders 168 = .ok (.iinc 8 1, 3) := by decide +kernel
theorem dX9_orders_171 : decode cX9_orders 171 = .ok (.iinc 10 1, 3) := by decide +kernel
theorem dX9_orders_174 : decode cX9_orders 174 = .ok (.goto (-63), 3) := by decide +kernel
theorem dX9_orders_177 : decode cX9_orders 177 = .ok (.iload 5, 2) := by decide +kernel
theorem dX9_orders_179 : decode cX9_orders 179 = .ok (.iconst (-1), 1) := by decide +kernel
theorem dX9_orders_180 : decode cX9_orders 180 = .ok (.if_icmp .ne 8, 3) := by decide +kernel
theorem dX9_orders_183 : decode cX9_orders 183 = .ok (.iload 8, 2) := by decide +kernel
theorem dX9_orders_185 : decode cX9_orders 185 = .ok (.goto 5, 3) := by decide +kernel
theorem dX9_orders_188 : decode cX9_orders 188 = .ok (.iload 9, 2) := by decide +kernel
theorem dX9_orders_190 : decode cX9_orders 190 = .ok (.ireturn, 1) := by decide +kernel
theorem dX9_isOrder_0 : decode cX9_isOrder 0 = .ok (.iconst 1, 1) := by decide +kernel
theorem dX9_isOrder_1 : decode cX9_isOrder 1 = .ok (.aload_n 0, 1) := by decide +kernel
theorem dX9_isOrder_2 : decode cX9_isOrder 2 = .ok (.getfield 71, 3) := by decide +kernel
theorem dX9_isOrder_5 : decode cX9_isOrder 5 = .ok (.ishl, 1) := by decide +kernel
theorem dX9_isOrder_6 : decode cX9_isOrder 6 = .ok (.iconst 1, 1) := by decide +kernel
theorem dX9_isOrder_7 : decode cX9_isOrder 7 = .ok (.isub, 1) := by decide +kernel
theorem dX9_isOrder_8 : decode cX9_isOrder 8 = .ok (.istore 4, 2) := by decide +kernel
theorem dX9_isOrder_10 : decode cX9_isOrder 10 = .ok (.iconst 0, 1) := by decide +kernel
theorem dX9_isOrder_11 : decode cX9_isOrder 11 = .ok (.istore 5, 2) := by decide +kernel
theorem dX9_isOrder_13 : decode cX9_isOrder 13 = .ok (.iload 5, 2) := by decide +kernel
theorem dX9_isOrder_15 : decode cX9_isOrder 15 = .ok (.aload_n 0, 1) := by decide +kernel
theorem dX9_isOrder_16 : decode cX9_isOrder 16 = .ok (.getfield 71, 3) := by decide +kernel
theorem dX9_isOrder_19 : decode cX9_isOrder 19 = .ok (.if_icmp .ge 98, 3) := by decide +kernel
theorem dX9_isOrder_22 : decode cX9_isOrder 22 = .ok (.iconst 0, 1) := by decide +kernel
theorem dX9_isOrder_23 : decode cX9_isOrder 23 = .ok (.istore 6, 2) := by decide +kernel
theorem dX9_isOrder_25 : decode cX9_isOrder 25 = .ok (.iconst 0, 1) := by decide +kernel
theorem dX9_isOrder_26 : decode cX9_isOrder 26 = .ok (.istore 7, 2) := by decide +kernel
theorem dX9_isOrder_28 : decode cX9_isOrder 28 = .ok (.iload 7, 2) := by decide +kernel
theorem dX9_isOrder_30 : decode cX9_isOrder 30 = .ok (.iload_n 2, 1) := by decide +kernel
theorem dX9_isOrder_31 : decode cX9_isOrder 31 = .ok (.if_icmp .ge 73, 3) := by decide +kernel
theorem dX9_isOrder_34 : decode cX9_isOrder 34 = .ok (.iload_n 3, 1) := by decide +kernel
theorem dX9_isOrder_35 : decode cX9_isOrder 35 = .ok (.iload 7, 2) := by decide +kernel
theorem dX9_isOrder_37 : decode cX9_isOrder 37 = .ok (.invokestatic 126, 3) := by decide +kernel
theorem dX9_isOrder_40 : decode cX9_isOrder 40 = .ok (.ifCond .ne 26, 3) := by decide +kernel
theorem dX9_isOrder_43 : decode cX9_isOrder 43 = .ok (.iload 4, 2) := by decide +kernel
theorem dX9_isOrder_45 : decode cX9_isOrder 45 = .ok (.aload_n 0, 1) := by decide +kernel
theorem dX9_isOrder_46 : decode cX9_isOrder 46 = .ok (.getfield 16, 3) := by decide +kernel
theorem dX9_isOrder_49 : decode cX9_isOrder 49 = .ok (.iload_n 1, 1) := by decide +kernel
theorem dX9_isOrder_50 : decode cX9_isOrder 50 = .ok (.iconst 2, 1) := by decide +kernel
theorem dX9_isOrder_51 : decode cX9_isOrder 51 = .ok (.iload 7, 2) := by decide +kernel
theorem dX9_isOrder_53 : decode cX9_isOrder 53 = .ok (.imul, 1) := by decide +kernel
theorem dX9_isOrder_54 : decode cX9_isOrder 54 = .ok (.iadd, 1) := by decide +kernel
theorem dX9_isOrder_55 : decode cX9_isOrder 55 = .ok (.iaload, 1) := by decide +kernel
theorem dX9_isOrder_56 : decode cX9_isOrder 56 = .ok (.invokestatic 126, 3) := by decide +kernel
theorem dX9_isOrder_59 : decode cX9_isOrder 59 = .ok (.ifCond .eq 7, 3) := by decide +kernel
theorem dX9_isOrder_62 : decode cX9_isOrder 62 = .ok (.iconst 1, 1) := by decide +kernel
theorem dX9_isOrder_63 : decode cX9_isOrder 63 = .ok (.goto 4, 3) := by decide +kernel
theorem dX9_isOrder_66 : decode cX9_isOrder 66 = .ok (.iconst 0, 1) := by decide +kernel
theorem dX9_isOrder_67 : decode cX9_isOrder 67 = .ok (.istore 8, 2) := by decide +kernel
theorem dX9_isOrder_69 : decode cX9_isOrder 69 = .ok (.iload 6, 2) := by decide +kernel
theorem dX9_isOrder_71 : decode cX9_isOrder 71 = .ok (.iload 8, 2) := by decide +kernel
theorem dX9_isOrder_73 : decode cX9_isOrder 73 = .ok (.ifCond .eq 21, 3) := by decide +kernel
theorem dX9_isOrder_76 : decode cX9_isOrder 76 = .ok (.iconst 1, 1) := by decide +kernel
theorem dX9_isOrder_77 : decode cX9_isOrder 77 = .ok (.aload_n 0, 1) := by decide +kernel
theorem dX9_isOrder_78 : decode cX9_isOrder 78 = .ok (.getfield 16, 3) := by decide +kernel
theorem dX9_isOrder_81 : decode cX9_isOrder 81 = .ok (.iload_n 1, 1) := by decide +kernel
theorem dX9_isOrder_82 : decode cX9_isOrder 82 = .ok (.iconst 2, 1) := by decide +kernel
theorem dX9_isOrder_83 : decode cX9_isOrder 83 = .ok (.iload 7, 2) := by decide +kernel
theorem dX9_isOrder_85 : decode cX9_isOrder 85 = .ok (.imul, 1) := by decide +kernel
theorem dX9_isOrder_86 : decode cX9_isOrder 86 = .ok (.iadd, 1) := by decide +kernel
theorem dX9_isOrder_87 : decode cX9_isOrder 87 = .ok (.iconst 1, 1) := by decide +kernel
theorem dX9_isOrder_88 : decode cX9_isOrder 88 = .ok (.iadd, 1) := by decide +kernel
theorem dX9_isOrder_89 : decode cX9_isOrder 89 = .ok (.iaload, 1) := by decide +kernel
theorem dX9_isOrder_90 : decode cX9_isOrder 90 = .ok (.ishl, 1) := by decide +kernel
theorem dX9_isOrder_91 : decode cX9_isOrder 91 = .ok (.goto 4, 3) := by decide +kernel
theorem dX9_isOrder_94 : decode cX9_isOrder 94 = .ok (.iconst 0, 1) := by decide +kernel
theorem dX9_isOrder_95 : decode cX9_isOrder 95 = .ok (.ior, 1) := by decide +kernel
theorem dX9_isOrder_96 : decode cX9_isOrder 96 = .ok (.istore 6, 2) := by decide +kernel
theorem dX9_isOrder_98 : decode cX9_isOrder 98 = .ok (.iinc 7 1, 3) := by decide +kernel
theorem dX9_isOrder_101 : decode cX9_isOrder 101 = .ok (.goto (-73), 3) := by decide +kernel
theorem dX9_isOrder_104 : decode cX9_isOrder 104 = .ok (.iload 4, 2) := by decide +kernel
theorem dX9_isOrder_106 : decode cX9_isOrder 106 = .ok (.iload 6, 2) := by decide +kernel
theorem dX9_isOrder_108 : decode cX9_isOrder 108 = .ok (.iand, 1) := by decide +kernel
theorem dX9_isOrder_109 : decode cX9_isOrder 109 = .ok (.istore 4, 2) := by decide +kernel
theorem dX9_isOrder_111 : decode cX9_isOrder 111 = .ok (.iinc 5 1, 3) := by decide +kernel
theorem dX9_isOrder_114 : decode cX9_isOrder 114 = .ok (.goto (-101), 3) := by decide +kernel
theorem dX9_isOrder_117 : decode cX9_isOrder 117 = .ok (.iload 4, 2) := by decide +kernel
theorem dX9_isOrder_119 : decode cX9_isOrder 119 = .ok (.ifCond .ne 7, 3) := by decide +kernel
theorem dX9_isOrder_122 : decode cX9_isOrder 122 = .ok (.iconst 1, 1) := by decide +kernel
theorem dX9_isOrder_123 : decode cX9_isOrder 123 = .ok (.goto 4, 3) := by decide +kernel
theorem dX9_isOrder_126 : decode cX9_isOrder 126 = .ok (.iconst 0, 1) := by decide +kernel
theorem dX9_isOrder_127 : decode cX9_isOrder 127 = .ok (.ireturn, 1) := by decide +kernel
theorem dX9_drops_0 : decode cX9_drops 0 = .ok (.aload_n 0, 1) := by decide +kernel
theorem dX9_drops_1 : decode cX9_drops 1 = .ok (.iconst 0, 1) := by decide +kernel
theorem dX9_drops_2 : decode cX9_drops 2 = .ok (.putfield 61, 3) := by decide +kernel
theorem dX9_drops_5 : decode cX9_drops 5 = .ok (.iload_n 1, 1) := by decide +kernel
theorem dX9_drops_6 : decode cX9_drops 6 = .ok (.invokestatic 81, 3) := by decide +kernel
theorem dX9_drops_9 : decode cX9_drops 9 = .ok (.ifCond .ne 5, 3) := by decide +kernel
theorem dX9_drops_12 : decode cX9_drops 12 = .ok (.iconst (-1), 1) := by decide +kernel
theorem dX9_drops_13 : decode cX9_drops 13 = .ok (.ireturn, 1) := by decide +kernel
theorem dX9_drops_14 : decode cX9_drops 14 = .ok (.iload_n 2, 1) := by decide +kernel
theorem dX9_drops_15 : decode cX9_drops 15 = .ok (.invokestatic 84, 3) := by decide +kernel
theorem dX9_drops_18 : decode cX9_drops 18 = .ok (.ifCond .eq 14, 3) := by decide +kernel
theorem dX9_drops_21 : decode cX9_drops 21 = .ok (.iload 4, 2) := by decide +kernel
theorem dX9_drops_23 : decode cX9_drops 23 = .ok (.iconst 0, 1) := by decide +kernel
theorem dX9_drops_24 : decode cX9_drops 24 = .ok (.bipush 10, 2) := by decide +kernel
theorem dX9_drops_26 : decode cX9_drops 26 = .ok (.invokestatic 67, 3) := by decide +kernel
theorem dX9_drops_29 : decode cX9_drops 29 = .ok (.ifCond .ne 6, 3) := by decide +kernel
theorem dX9_drops_32 : decode cX9_drops 32 = .ok (.bipush (-2), 2) := by decide +kernel
theorem dX9_drops_34 : decode cX9_drops 34 = .ok (.ireturn, 1) := by decide +kernel
theorem dX9_drops_35 : decode cX9_drops 35 = .ok (.aload_n 0, 1) := by decide +kernel
theorem dX9_drops_36 : decode cX9_drops 36 = .ok (.iload_n 1, 1) := by decide +kernel
theorem dX9_drops_37 : decode cX9_drops 37 = .ok (.iload_n 2, 1) := by decide +kernel
theorem dX9_drops_38 : decode cX9_drops 38 = .ok (.iload_n 3, 1) := by decide +kernel
theorem dX9_drops_39 : decode cX9_drops 39 = .ok (.iconst 2, 1) := by decide +kernel
theorem dX9_drops_40 : decode cX9_drops 40 = .ok (.iload 4, 2) := by decide +kernel
theorem dX9_drops_42 : decode cX9_drops 42 = .ok (.imul, 1) := by decide +kernel
theorem dX9_drops_43 : decode cX9_drops 43 = .ok (.invokevirtual 87, 3) := by decide +kernel
theorem dX9_drops_46 : decode cX9_drops 46 = .ok (.istore 5, 2) := by decide +kernel
theorem dX9_drops_48 : decode cX9_drops 48 = .ok (.iload 5, 2) := by decide +kernel
theorem dX9_drops_50 : decode cX9_drops 50 = .ok (.ifCond .eq 10, 3) := by decide +kernel
theorem dX9_drops_53 : decode cX9_drops 53 = .ok (.aload_n 0, 1) := by decide +kernel
theorem dX9_drops_54 : decode cX9_drops 54 = .ok (.iload 5, 2) := by decide +kernel
theorem dX9_drops_56 : decode cX9_drops 56 = .ok (.invokevirtual 91, 3) := by decide +kernel
theorem dX9_drops_59 : decode cX9_drops 59 = .ok (.ireturn, 1) := by decide +kernel
theorem dX9_drops_60 : decode cX9_drops 60 = .ok (.aload_n 0, 1) := by decide +kernel
theorem dX9_drops_61 : decode cX9_drops 61 = .ok (.getfield 71, 3) := by decide +kernel
theorem dX9_drops_64 : decode cX9_drops 64 = .ok (.ifCond .ne 6, 3) := by decide +kernel
theorem dX9_drops_67 : decode cX9_drops 67 = .ok (.bipush (-3), 2) := by decide +kernel
theorem dX9_drops_69 : decode cX9_drops 69 = .ok (.ireturn, 1) := by decide +kernel
theorem dX9_drops_70 : decode cX9_drops 70 = .ok (.bipush 60, 2) := by decide +kernel
theorem dX9_drops_72 : decode cX9_drops 72 = .ok (.iload_n 1, 1) := by decide +kernel
theorem dX9_drops_73 : decode cX9_drops 73 = .ok (.imul, 1) := by decide +kernel
theorem dX9_drops_74 : decode cX9_drops 74 = .ok (.iload_n 3, 1) := by decide +kernel
theorem dX9_drops_75 : decode cX9_drops 75 = .ok (.iadd, 1) := by decide +kernel
theorem dX9_drops_76 : decode cX9_drops 76 = .ok (.istore 6, 2) := by decide +kernel
theorem dX9_drops_78 : decode cX9_drops 78 = .ok (.aload_n 0, 1) := by decide +kernel
theorem dX9_drops_79 : decode cX9_drops 79 = .ok (.iload 6, 2) := by decide +kernel
theorem dX9_drops_81 : decode cX9_drops 81 = .ok (.iload 4, 2) := by decide +kernel
theorem dX9_drops_83 : decode cX9_drops 83 = .ok (.invokevirtual 189, 3) := by decide +kernel
theorem dX9_drops_86 : decode cX9_drops 86 = .ok (.ifCond .eq 5, 3) := by decide +kernel
theorem dX9_drops_89 : decode cX9_drops 89 = .ok (.iconst (-1), 1) := by decide +kernel
theorem dX9_drops_90 : decode cX9_drops 90 = .ok (.ireturn, 1) := by decide +kernel
theorem dX9_drops_91 : decode cX9_drops 91 = .ok (.bipush (-9), 2) := by decide +kernel
theorem dX9_drops_93 : decode cX9_drops 93 = .ok (.istore 7, 2) := by decide +kernel
theorem dX9_drops_95 : decode cX9_drops 95 = .ok (.iconst 0, 1) := by decide +kernel
theorem dX9_drops_96 : decode cX9_drops 96 = .ok (.istore 8, 2) := by decide +kernel
theorem dX9_drops_98 : decode cX9_drops 98 = .ok (.iload 8, 2) := by decide +kernel
theorem dX9_drops_100 : decode cX9_drops 100 = .ok (.iconst 1, 1) := by decide +kernel
theorem dX9_drops_101 : decode cX9_drops 101 = .ok (.iload 4, 2) := by decide +kernel
theorem dX9_drops_103 : decode cX9_drops 103 = .ok (.ishl, 1) := by decide +kernel
theorem dX9_drops_104 : decode cX9_drops 104 = .ok (.if_icmp .ge 58, 3) := by decide +kernel
theorem dX9_drops_107 : decode cX9_drops 107 = .ok (.iload 7, 2) := by decide +kernel
theorem dX9_drops_109 : decode cX9_drops 109 = .ok (.bipush (-9), 2) := by decide +kernel
theorem dX9_drops_111 : decode cX9_drops 111 = .ok (.if_icmp .eq 16, 3) := by decide +kernel
theorem dX9_drops_114 : decode cX9_drops 114 = .ok (.iload 8, 2) := by decide +kernel
theorem dX9_drops_116 : decode cX9_drops 116 = .ok (.invokestatic 138, 3) := by decide +kernel
theorem dX9_drops_119 : decode cX9_drops 119 = .ok (.iload 7, 2) := by decide +kernel
theorem dX9_drops_121 : decode cX9_drops 121 = .ok (.invokestatic 138, 3) := by decide +kernel
theorem dX9_drops_124 : decode cX9_drops 124 = .ok (.if_icmp .ge 7, 3) := by decide +kernel
theorem dX9_drops_127 : decode cX9_drops 127 = .ok (.iconst 1, 1) := by decide +kernel
theorem dX9_drops_128 : decode cX9_drops 128 = .ok (.goto 4, 3) := by decide +kernel
theorem dX9_drops_131 : decode cX9_drops 131 = .ok (.iconst 0, 1) := by decide +kernel
theorem dX9_drops_132 : decode cX9_drops 132 = .ok (.istore 9, 2) := by decide +kernel
theorem dX9_drops_134 : decode cX9_drops 134 = .ok (.iload 9, 2) := by decide +kernel
theorem dX9_drops_136 : decode cX9_drops 136 = .ok (.ifCond .eq 20, 3) := by decide +kernel
theorem dX9_drops_139 : decode cX9_drops 139 = .ok (.aload_n 0, 1) := by decide +kernel
theorem dX9_drops_140 : decode cX9_drops 140 = .ok (.iload 6, 2) := by decide +kernel
theorem dX9_drops_142 : decode cX9_drops 142 = .ok (.iload 4, 2) := by decide +kernel
theorem dX9_drops_144 : decode cX9_drops 144 = .ok (.iload 8, 2) := by decide +kernel
theorem dX9_drops_146 : decode cX9_drops 146 = .ok (.invokevirtual 198, 3) := by decide +kernel
theorem dX9_drops_149 : decode cX9_drops 149 = .ok (.ifCond .eq 7, 3) := by decide +kernel
theorem dX9_drops_152 : decode cX9_drops 152 = .ok (.iload 8, 2) := by decide +kernel
theorem dX9_drops_154 : decode cX9_drops 154 = .ok (.istore 7, 2) := by decide +kernel
theorem dX9_drops_156 : decode cX9_drops 156 = .ok (.iinc 8 1, 3) := by decide +kernel
theorem dX9_drops_159 : decode cX9_drops 159 = .ok (.goto (-61), 3) := by decide +kernel
theorem dX9_drops_162 : decode cX9_drops 162 = .ok (.iload 7, 2) := by decide +kernel
theorem dX9_drops_164 : decode cX9_drops 164 = .ok (.ireturn, 1) := by decide +kernel
theorem dX9_reading_0 : decode cX9_reading 0 = .ok (.aload_n 0, 1) := by decide +kernel
theorem dX9_reading_1 : decode cX9_reading 1 = .ok (.iload_n 1, 1) := by decide +kernel
theorem dX9_reading_2 : decode cX9_reading 2 = .ok (.iload_n 2, 1) := by decide +kernel
theorem dX9_reading_3 : decode cX9_reading 3 = .ok (.invokevirtual 129, 3) := by decide +kernel
theorem dX9_reading_6 : decode cX9_reading 6 = .ok (.ifCond .ne 5, 3) := by decide +kernel
theorem dX9_reading_9 : decode cX9_reading 9 = .ok (.iconst (-1), 1) := by decide +kernel
theorem dX9_reading_10 : decode cX9_reading 10 = .ok (.ireturn, 1) := by decide +kernel
theorem dX9_reading_11 : decode cX9_reading 11 = .ok (.iload_n 3, 1) := by decide +kernel
theorem dX9_reading_12 : decode cX9_reading 12 = .ok (.iconst 0, 1) := by decide +kernel
theorem dX9_reading_13 : decode cX9_reading 13 = .ok (.iconst 1, 1) := by decide +kernel
theorem dX9_reading_14 : decode cX9_reading 14 = .ok (.invokestatic 67, 3) := by decide +kernel
theorem dX9_reading_17 : decode cX9_reading 17 = .ok (.ifCond .eq 13, 3) := by decide +kernel
theorem dX9_reading_20 : decode cX9_reading 20 = .ok (.iload 4, 2) := by decide +kernel
theorem dX9_reading_22 : decode cX9_reading 22 = .ok (.iconst 0, 1) := by decide +kernel
theorem dX9_reading_23 : decode cX9_reading 23 = .ok (.iconst 2, 1) := by decide +kernel
theorem dX9_reading_24 : decode cX9_reading 24 = .ok (.invokestatic 67, 3) := by decide +kernel
theorem dX9_reading_27 : decode cX9_reading 27 = .ok (.ifCond .ne 6, 3) := by decide +kernel
theorem dX9_reading_30 : decode cX9_reading 30 = .ok (.bipush (-2), 2) := by decide +kernel
theorem dX9_reading_32 : decode cX9_reading 32 = .ok (.ireturn, 1) := by decide +kernel
theorem dX9_reading_33 : decode cX9_reading 33 = .ok (.aload_n 0, 1) := by decide +kernel
theorem dX9_reading_34 : decode cX9_reading 34 = .ok (.getfield 107, 3) := by decide +kernel
theorem dX9_reading_37 : decode cX9_reading 37 = .ok (.bipush 8, 2) := by decide +kernel
theorem dX9_reading_39 : decode cX9_reading 39 = .ok (.if_icmp .ne 6, 3) := by decide +kernel
theorem dX9_reading_42 : decode cX9_reading 42 = .ok (.bipush (-4), 2) := by decide +kernel
theorem dX9_reading_44 : decode cX9_reading 44 = .ok (.ireturn, 1) := by decide +kernel
theorem dX9_reading_45 : decode cX9_reading 45 = .ok (.aload_n 0, 1) := by decide +kernel
theorem dX9_reading_46 : decode cX9_reading 46 = .ok (.getfield 49, 3) := by decide +kernel
theorem dX9_reading_49 : decode cX9_reading 49 = .ok (.aload_n 0, 1) := by decide +kernel
theorem dX9_reading_50 : decode cX9_reading 50 = .ok (.getfield 107, 3) := by decide +kernel
theorem dX9_reading_53 : decode cX9_reading 53 = .ok (.iload_n 1, 1) := by decide +kernel
theorem dX9_reading_54 : decode cX9_reading 54 = .ok (.iastore, 1) := by decide +kernel
theorem dX9_reading_55 : decode cX9_reading 55 = .ok (.aload_n 0, 1) := by decide +kernel
theorem dX9_reading_56 : decode cX9_reading 56 = .ok (.getfield 52, 3) := by decide +kernel
theorem dX9_reading_59 : decode cX9_reading 59 = .ok (.aload_n 0, 1) := by decide +kernel
theorem dX9_reading_60 : decode cX9_reading 60 = .ok (.getfield 107, 3) := by decide +kernel
theorem dX9_reading_63 : decode cX9_reading 63 = .ok (.iload_n 2, 1) := by decide +kernel
theorem dX9_reading_64 : decode cX9_reading 64 = .ok (.iastore, 1) := by decide +kernel
theorem dX9_reading_65 : decode cX9_reading 65 = .ok (.aload_n 0, 1) := by decide +kernel
theorem dX9_reading_66 : decode cX9_reading 66 = .ok (.getfield 55, 3) := by decide +kernel
theorem dX9_reading_69 : decode cX9_reading 69 = .ok (.aload_n 0, 1) := by decide +kernel
theorem dX9_reading_70 : decode cX9_reading 70 = .ok (.getfield 107, 3) := by decide +kernel
theorem dX9_reading_73 : decode cX9_reading 73 = .ok (.iload_n 3, 1) := by decide +kernel
theorem dX9_reading_74 : decode cX9_reading 74 = .ok (.iastore, 1) := by decide +kernel
theorem dX9_reading_75 : decode cX9_reading 75 = .ok (.aload_n 0, 1) := by decide +kernel
theorem dX9_reading_76 : decode cX9_reading 76 = .ok (.getfield 58, 3) := by decide +kernel
theorem dX9_reading_79 : decode cX9_reading 79 = .ok (.aload_n 0, 1) := by decide +kernel
theorem dX9_reading_80 : decode cX9_reading 80 = .ok (.getfield 107, 3) := by decide +kernel
theorem dX9_reading_83 : decode cX9_reading 83 = .ok (.iload 4, 2) := by decide +kernel
theorem dX9_reading_85 : decode cX9_reading 85 = .ok (.iastore, 1) := by decide +kernel
theorem dX9_reading_86 : decode cX9_reading 86 = .ok (.aload_n 0, 1) := by decide +kernel
theorem dX9_reading_87 : decode cX9_reading 87 = .ok (.dup, 1) := by decide +kernel
theorem dX9_reading_88 : decode cX9_reading 88 = .ok (.getfield 107, 3) := by decide +kernel
theorem dX9_reading_91 : decode cX9_reading 91 = .ok (.iconst 1, 1) := by decide +kernel
theorem dX9_reading_92 : decode cX9_reading 92 = .ok (.iadd, 1) := by decide +kernel
theorem dX9_reading_93 : decode cX9_reading 93 = .ok (.putfield 107, 3) := by decide +kernel
theorem dX9_reading_96 : decode cX9_reading 96 = .ok (.aload_n 0, 1) := by decide +kernel
theorem dX9_reading_97 : decode cX9_reading 97 = .ok (.getfield 107, 3) := by decide +kernel
theorem dX9_reading_100 : decode cX9_reading 100 = .ok (.iconst 1, 1) := by decide +kernel
theorem dX9_reading_101 : decode cX9_reading 101 = .ok (.isub, 1) := by decide +kernel
theorem dX9_reading_102 : decode cX9_reading 102 = .ok (.ireturn, 1) := by decide +kernel
