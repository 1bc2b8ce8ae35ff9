theorem dX0_init_0 : decode cX0_init 0 = .ok (.aload_n 0, 1) := by decide +kernel
theorem dX0_init_1 : decode cX0_init 1 = .ok (.invokespecial 3, 3) := by decide +kernel
theorem dX0_init_4 : decode cX0_init 4 = .ok (.aload_n 0, 1) := by decide +kernel
theorem dX0_init_5 : decode cX0_init 5 = .ok (.bipush 8, 2) := by decide +kernel
theorem dX0_init_7 : decode cX0_init 7 = .ok (.newarray .int, 2) := by decide +kernel
theorem dX0_init_9 : decode cX0_init 9 = .ok (.putfield 9, 3) := by decide +kernel
theorem dX0_init_12 : decode cX0_init 12 = .ok (.aload_n 0, 1) := by decide +kernel
theorem dX0_init_13 : decode cX0_init 13 = .ok (.bipush 8, 2) := by decide +kernel
theorem dX0_init_15 : decode cX0_init 15 = .ok (.newarray .int, 2) := by decide +kernel
theorem dX0_init_17 : decode cX0_init 17 = .ok (.putfield 15, 3) := by decide +kernel
theorem dX0_init_20 : decode cX0_init 20 = .ok (.aload_n 0, 1) := by decide +kernel
theorem dX0_init_21 : decode cX0_init 21 = .ok (.bipush 8, 2) := by decide +kernel
theorem dX0_init_23 : decode cX0_init 23 = .ok (.newarray .int, 2) := by decide +kernel
theorem dX0_init_25 : decode cX0_init 25 = .ok (.putfield 18, 3) := by decide +kernel
theorem dX0_init_28 : decode cX0_init 28 = .ok (.aload_n 0, 1) := by decide +kernel
theorem dX0_init_29 : decode cX0_init 29 = .ok (.bipush 8, 2) := by decide +kernel
theorem dX0_init_31 : decode cX0_init 31 = .ok (.newarray .int, 2) := by decide +kernel
theorem dX0_init_33 : decode cX0_init 33 = .ok (.putfield 21, 3) := by decide +kernel
theorem dX0_init_36 : decode cX0_init 36 = .ok (.return_, 1) := by decide +kernel
theorem dX0_note_0 : decode cX0_note 0 = .ok (.aload_n 0, 1) := by decide +kernel
theorem dX0_note_1 : decode cX0_note 1 = .ok (.getfield 24, 3) := by decide +kernel
theorem dX0_note_4 : decode cX0_note 4 = .ok (.bipush 8, 2) := by decide +kernel
theorem dX0_note_6 : decode cX0_note 6 = .ok (.if_icmp .lt 6, 3) := by decide +kernel
theorem dX0_note_9 : decode cX0_note 9 = .ok (.bipush (-4), 2) := by decide +kernel
theorem dX0_note_11 : decode cX0_note 11 = .ok (.ireturn, 1) := by decide +kernel
theorem dX0_note_12 : decode cX0_note 12 = .ok (.aload_n 0, 1) := by decide +kernel
theorem dX0_note_13 : decode cX0_note 13 = .ok (.getfield 9, 3) := by decide +kernel
theorem dX0_note_16 : decode cX0_note 16 = .ok (.aload_n 0, 1) := by decide +kernel
theorem dX0_note_17 : decode cX0_note 17 = .ok (.getfield 24, 3) := by decide +kernel
theorem dX0_note_20 : decode cX0_note 20 = .ok (.iload_n 1, 1) := by decide +kernel
theorem dX0_note_21 : decode cX0_note 21 = .ok (.iastore, 1) := by decide +kernel
theorem dX0_note_22 : decode cX0_note 22 = .ok (.aload_n 0, 1) := by decide +kernel
theorem dX0_note_23 : decode cX0_note 23 = .ok (.getfield 15, 3) := by decide +kernel
theorem dX0_note_26 : decode cX0_note 26 = .ok (.aload_n 0, 1) := by decide +kernel
theorem dX0_note_27 : decode cX0_note 27 = .ok (.getfield 24, 3) := by decide +kernel
theorem dX0_note_30 : decode cX0_note 30 = .ok (.iload_n 2, 1) := by decide +kernel
theorem dX0_note_31 : decode cX0_note 31 = .ok (.iastore, 1) := by decide +kernel
theorem dX0_note_32 : decode cX0_note 32 = .ok (.aload_n 0, 1) := by decide +kernel
theorem dX0_note_33 : decode cX0_note 33 = .ok (.getfield 18, 3) := by decide +kernel
theorem dX0_note_36 : decode cX0_note 36 = .ok (.aload_n 0, 1) := by decide +kernel
theorem dX0_note_37 : decode cX0_note 37 = .ok (.getfield 24, 3) := by decide +kernel
theorem dX0_note_40 : decode cX0_note 40 = .ok (.iload_n 3, 1) := by decide +kernel
theorem dX0_note_41 : decode cX0_note 41 = .ok (.iastore, 1) := by decide +kernel
theorem dX0_note_42 : decode cX0_note 42 = .ok (.aload_n 0, 1) := by decide +kernel
theorem dX0_note_43 : decode cX0_note 43 = .ok (.getfield 21, 3) := by decide +kernel
theorem dX0_note_46 : decode cX0_note 46 = .ok (.aload_n 0, 1) := by decide +kernel
theorem dX0_note_47 : decode cX0_note 47 = .ok (.getfield 24, 3) := by decide +kernel
theorem dX0_note_50 : decode cX0_note 50 = .ok (.iload 4, 2) := by decide +kernel
theorem dX0_note_52 : decode cX0_note 52 = .ok (.iastore, 1) := by decide +kernel
theorem dX0_note_53 : decode cX0_note 53 = .ok (.aload_n 0, 1) := by decide +kernel
theorem dX0_note_54 : decode cX0_note 54 = .ok (.dup, 1) := by decide +kernel
theorem dX0_note_55 : decode cX0_note 55 = .ok (.getfield 24, 3) := by decide +kernel
theorem dX0_note_58 : decode cX0_note 58 = .ok (.dup_x1, 1) := by decide +kernel
theorem dX0_note_59 : decode cX0_note 59 = .ok (.iconst 1, 1) := by decide +kernel
theorem dX0_note_60 : decode cX0_note 60 = .ok (.iadd, 1) := by decide +kernel
theorem dX0_note_61 : decode cX0_note 61 = .ok (.putfield 24, 3) := by decide +kernel
theorem dX0_note_64 : decode cX0_note 64 = .ok (.ireturn, 1) := by decide +kernel
theorem dX0_forget_0 : decode cX0_forget 0 = .ok (.aload_n 0, 1) := by decide +kernel
theorem dX0_forget_1 : decode cX0_forget 1 = .ok (.iconst 0, 1) := by decide +kernel
theorem dX0_forget_2 : decode cX0_forget 2 = .ok (.aload_n 0, 1) := by decide +kernel
theorem dX0_forget_3 : decode cX0_forget 3 = .ok (.getfield 24, 3) := by decide +kernel
theorem dX0_forget_6 : decode cX0_forget 6 = .ok (.iload_n 1, 1) := by decide +kernel
theorem dX0_forget_7 : decode cX0_forget 7 = .ok (.isub, 1) := by decide +kernel
theorem dX0_forget_8 : decode cX0_forget 8 = .ok (.invokestatic 28, 3) := by decide +kernel
theorem dX0_forget_11 : decode cX0_forget 11 = .ok (.putfield 24, 3) := by decide +kernel
theorem dX0_forget_14 : decode cX0_forget 14 = .ok (.return_, 1) := by decide +kernel
theorem dX0_agrees_0 : decode cX0_agrees 0 = .ok (.iconst 0, 1) := by decide +kernel
theorem dX0_agrees_1 : decode cX0_agrees 1 = .ok (.istore_n 2, 1) := by decide +kernel
theorem dX0_agrees_2 : decode cX0_agrees 2 = .ok (.iload_n 2, 1) := by decide +kernel
theorem dX0_agrees_3 : decode cX0_agrees 3 = .ok (.aload_n 0, 1) := by decide +kernel
theorem dX0_agrees_4 : decode cX0_agrees 4 = .ok (.getfield 24, 3) := by decide +kernel
theorem dX0_agrees_7 : decode cX0_agrees 7 = .ok (.if_icmp .ge 72, 3) := by decide +kernel
theorem dX0_agrees_10 : decode cX0_agrees 10 = .ok (.aload_n 1, 1) := by decide +kernel
theorem dX0_agrees_11 : decode cX0_agrees 11 = .ok (.aload_n 0, 1) := by decide +kernel
theorem dX0_agrees_12 : decode cX0_agrees 12 = .ok (.getfield 9, 3) := by decide +kernel
theorem dX0_agrees_15 : decode cX0_agrees 15 = .ok (.iload_n 2, 1) := by decide +kernel
theorem dX0_agrees_16 : decode cX0_agrees 16 = .ok (.iaload, 1) := by decide +kernel
theorem dX0_agrees_17 : decode cX0_agrees 17 = .ok (.aload_n 0, 1) := by decide +kernel
theorem dX0_agrees_18 : decode cX0_agrees 18 = .ok (.getfield 15, 3) := by decide +kernel
theorem dX0_agrees_21 : decode cX0_agrees 21 = .ok (.iload_n 2, 1) := by decide +kernel
theorem dX0_agrees_22 : decode cX0_agrees 22 = .ok (.iaload, 1) := by decide +kernel
theorem dX0_agrees_23 : decode cX0_agrees 23 = .ok (.invokevirtual 34, 3) := by decide +kernel
theorem dX0_agrees_26 : decode cX0_agrees 26 = .ok (.ifCond .ne 5, 3) := by decide +kernel
theorem dX0_agrees_29 : decode cX0_agrees 29 = .ok (.iconst 0, 1) := by decide +kernel
theorem dX0_agrees_30 : decode cX0_agrees 30 = .ok (.ireturn, 1) := by decide +kernel
theorem dX0_agrees_31 : decode cX0_agrees 31 = .ok (.aload_n 1, 1) := by decide +kernel
theorem dX0_agrees_32 : decode cX0_agrees 32 = .ok (.getfield 40, 3) := by decide +kernel
theorem dX0_agrees_35 : decode cX0_agrees 35 = .ok (.aload_n 0, 1) := by decide +kernel
theorem dX0_agrees_36 : decode cX0_agrees 36 = .ok (.getfield 9, 3) := by decide +kernel
theorem dX0_agrees_39 : decode cX0_agrees 39 = .ok (.iload_n 2, 1) := by decide +kernel
theorem dX0_agrees_40 : decode cX0_agrees 40 = .ok (.iaload, 1) := by decide +kernel
theorem dX0_agrees_41 : decode cX0_agrees 41 = .ok (.aaload, 1) := by decide +kernel
theorem dX0_agrees_42 : decode cX0_agrees 42 = .ok (.aload_n 1, 1) := by decide +kernel
theorem dX0_agrees_43 : decode cX0_agrees 43 = .ok (.getfield 40, 3) := by decide +kernel
theorem dX0_agrees_46 : decode cX0_agrees 46 = .ok (.aload_n 0, 1) := by decide +kernel
theorem dX0_agrees_47 : decode cX0_agrees 47 = .ok (.getfield 15, 3) := by decide +kernel
theorem dX0_agrees_50 : decode cX0_agrees 50 = .ok (.iload_n 2, 1) := by decide +kernel
theorem dX0_agrees_51 : decode cX0_agrees 51 = .ok (.iaload, 1) := by decide +kernel
theorem dX0_agrees_52 : decode cX0_agrees 52 = .ok (.aaload, 1) := by decide +kernel
theorem dX0_agrees_53 : decode cX0_agrees 53 = .ok (.aload_n 0, 1) := by decide +kernel
theorem dX0_agrees_54 : decode cX0_agrees 54 = .ok (.getfield 18, 3) := by decide +kernel
theorem dX0_agrees_57 : decode cX0_agrees 57 = .ok (.iload_n 2, 1) := by decide +kernel
theorem dX0_agrees_58 : decode cX0_agrees 58 = .ok (.iaload, 1) := by decide +kernel
theorem dX0_agrees_59 : decode cX0_agrees 59 = .ok (.invokestatic 44, 3) := by decide +kernel
theorem dX0_agrees_62 : decode cX0_agrees 62 = .ok (.aload_n 0, 1) := by decide +kernel
theorem dX0_agrees_63 : decode cX0_agrees 63 = .ok (.getfield 21, 3) := by decide +kernel
theorem dX0_agrees_66 : decode cX0_agrees 66 = .ok (.iload_n 2, 1) := by decide +kernel
theorem dX0_agrees_67 : decode cX0_agrees 67 = .ok (.iaload, 1) := by decide +kernel
theorem dX0_agrees_68 : decode cX0_agrees 68 = .ok (.if_icmp .eq 5, 3) := by decide +kernel
theorem dX0_agrees_71 : decode cX0_agrees 71 = .ok (.iconst 0, 1) := by decide +kernel
theorem dX0_agrees_72 : decode cX0_agrees 72 = .ok (.ireturn, 1) := by decide +kernel
theorem dX0_agrees_73 : decode cX0_agrees 73 = .ok (.iinc 2 1, 3) := by decide +kernel
theorem dX0_agrees_76 : decode cX0_agrees 76 = .ok (.goto (-74), 3) := by decide +kernel
theorem dX0_agrees_79 : decode cX0_agrees 79 = .ok (.iconst 1, 1) := by decide +kernel
theorem dX0_agrees_80 : decode cX0_agrees 80 = .ok (.ireturn, 1) := by decide +kernel
theorem dX0_resultOf_0 : decode cX0_resultOf 0 = .ok (.iload_n 2, 1) := by decide +kernel
theorem dX0_resultOf_1 : decode cX0_resultOf 1 = .ok (.ifCond .ne 10, 3) := by decide +kernel
theorem dX0_resultOf_4 : decode cX0_resultOf 4 = .ok (.aload_n 0, 1) := by decide +kernel
theorem dX0_resultOf_5 : decode cX0_resultOf 5 = .ok (.invokevirtual 48, 3) := by decide +kernel
theorem dX0_resultOf_8 : decode cX0_resultOf 8 = .ok (.goto 7, 3) := by decide +kernel
theorem dX0_resultOf_11 : decode cX0_resultOf 11 = .ok (.aload_n 0, 1) := by decide +kernel
theorem dX0_resultOf_12 : decode cX0_resultOf 12 = .ok (.invokevirtual 54, 3) := by decide +kernel
theorem dX0_resultOf_15 : decode cX0_resultOf 15 = .ok (.istore_n 3, 1) := by decide +kernel
theorem dX0_resultOf_16 : decode cX0_resultOf 16 = .ok (.iload_n 2, 1) := by decide +kernel
theorem dX0_resultOf_17 : decode cX0_resultOf 17 = .ok (.ifCond .ne 10, 3) := by decide +kernel
theorem dX0_resultOf_20 : decode cX0_resultOf 20 = .ok (.aload_n 1, 1) := by decide +kernel
theorem dX0_resultOf_21 : decode cX0_resultOf 21 = .ok (.invokevirtual 48, 3) := by decide +kernel
theorem dX0_resultOf_24 : decode cX0_resultOf 24 = .ok (.goto 7, 3) := by decide +kernel
theorem dX0_resultOf_27 : decode cX0_resultOf 27 = .ok (.aload_n 1, 1) := by decide +kernel
theorem dX0_resultOf_28 : decode cX0_resultOf 28 = .ok (.invokevirtual 54, 3) := by decide +kernel
theorem dX0_resultOf_31 : decode cX0_resultOf 31 = .ok (.istore 4, 2) := by decide +kernel
theorem dX0_resultOf_33 : decode cX0_resultOf 33 = .ok (.iconst 1, 1) := by decide +kernel
theorem dX0_resultOf_34 : decode cX0_resultOf 34 = .ok (.iload_n 3, 1) := by decide +kernel
theorem dX0_resultOf_35 : decode cX0_resultOf 35 = .ok (.iload 4, 2) := by decide +kernel
theorem dX0_resultOf_37 : decode cX0_resultOf 37 = .ok (.invokestatic 57, 3) := by decide +kernel
theorem dX0_resultOf_40 : decode cX0_resultOf 40 = .ok (.iadd, 1) := by decide +kernel
theorem dX0_resultOf_41 : decode cX0_resultOf 41 = .ok (.ireturn, 1) := by decide +kernel
theorem dX1_init_0 : decode cX1_init 0 = .ok (.aload_n 0, 1) := by decide +kernel
theorem dX1_init_1 : decode cX1_init 1 = .ok (.invokespecial 3, 3) := by decide +kernel
theorem dX1_init_4 : decode cX1_init 4 = .ok (.aload_n 0, 1) := by decide +kernel
theorem dX1_init_5 : decode cX1_init 5 = .ok (.bipush 6, 2) := by decide +kernel
theorem dX1_init_7 : decode cX1_init 7 = .ok (.newarray .int, 2) := by decide +kernel
theorem dX1_init_9 : decode cX1_init 9 = .ok (.putfield 9, 3) := by decide +kernel
theorem dX1_init_12 : decode cX1_init 12 = .ok (.aload_n 0, 1) := by decide +kernel
theorem dX1_init_13 : decode cX1_init 13 = .ok (.bipush 6, 2) := by decide +kernel
theorem dX1_init_15 : decode cX1_init 15 = .ok (.newarray .int, 2) := by decide +kernel
theorem dX1_init_17 : decode cX1_init 17 = .ok (.putfield 15, 3) := by decide +kernel
theorem dX1_init_20 : decode cX1_init 20 = .ok (.return_, 1) := by decide +kernel
theorem dX1_find_0 : decode cX1_find 0 = .ok (.aload_n 0, 1) := by decide +kernel
theorem dX1_find_1 : decode cX1_find 1 = .ok (.bipush 6, 2) := by decide +kernel
theorem dX1_find_3 : decode cX1_find 3 = .ok (.putfield 18, 3) := by decide +kernel
theorem dX1_find_6 : decode cX1_find 6 = .ok (.aload_n 0, 1) := by decide +kernel
theorem dX1_find_7 : decode cX1_find 7 = .ok (.getfield 9, 3) := by decide +kernel
theorem dX1_find_10 : decode cX1_find 10 = .ok (.bipush 9, 2) := by decide +kernel
theorem dX1_find_12 : decode cX1_find 12 = .ok (.invokestatic 22, 3) := by decide +kernel
theorem dX1_find_15 : decode cX1_find 15 = .ok (.iconst 0, 1) := by decide +kernel
theorem dX1_find_16 : decode cX1_find 16 = .ok (.istore_n 2, 1) := by decide +kernel
theorem dX1_find_17 : decode cX1_find 17 = .ok (.iconst 0, 1) := by decide +kernel
theorem dX1_find_18 : decode cX1_find 18 = .ok (.istore_n 3, 1) := by decide +kernel
theorem dX1_find_19 : decode cX1_find 19 = .ok (.iload_n 3, 1) := by decide +kernel
theorem dX1_find_20 : decode cX1_find 20 = .ok (.aload_n 1, 1) := by decide +kernel
theorem dX1_find_21 : decode cX1_find 21 = .ok (.getfield 28, 3) := by decide +kernel
theorem dX1_find_24 : decode cX1_find 24 = .ok (.if_icmp .ge 31, 3) := by decide +kernel
theorem dX1_find_27 : decode cX1_find 27 = .ok (.aload_n 1, 1) := by decide +kernel
theorem dX1_find_28 : decode cX1_find 28 = .ok (.getfield 33, 3) := by decide +kernel
theorem dX1_find_31 : decode cX1_find 31 = .ok (.iload_n 3, 1) := by decide +kernel
theorem dX1_find_32 : decode cX1_find 32 = .ok (.aaload, 1) := by decide +kernel
theorem dX1_find_33 : decode cX1_find 33 = .ok (.getfield 37, 3) := by decide +kernel
theorem dX1_find_36 : decode cX1_find 36 = .ok (.ifCond .ne 13, 3) := by decide +kernel
theorem dX1_find_39 : decode cX1_find 39 = .ok (.aload_n 0, 1) := by decide +kernel
theorem dX1_find_40 : decode cX1_find 40 = .ok (.getfield 9, 3) := by decide +kernel
theorem dX1_find_43 : decode cX1_find 43 = .ok (.iload_n 3, 1) := by decide +kernel
theorem dX1_find_44 : decode cX1_find 44 = .ok (.iconst (-1), 1) := by decide +kernel
theorem dX1_find_45 : decode cX1_find 45 = .ok (.iastore, 1) := by decide +kernel
theorem dX1_find_46 : decode cX1_find 46 = .ok (.iinc 2 1, 3) := by decide +kernel
theorem dX1_find_49 : decode cX1_find 49 = .ok (.iinc 3 1, 3) := by decide +kernel
theorem dX1_find_52 : decode cX1_find 52 = .ok (.goto (-33), 3) := by decide +kernel
theorem dX1_find_55 : decode cX1_find 55 = .ok (.aload_n 0, 1) := by decide +kernel
theorem dX1_find_56 : decode cX1_find 56 = .ok (.aload_n 1, 1) := by decide +kernel
theorem dX1_find_57 : decode cX1_find 57 = .ok (.iconst 0, 1) := by decide +kernel
theorem dX1_find_58 : decode cX1_find 58 = .ok (.iload_n 2, 1) := by decide +kernel
theorem dX1_find_59 : decode cX1_find 59 = .ok (.iconst 2, 1) := by decide +kernel
theorem dX1_find_60 : decode cX1_find 60 = .ok (.irem, 1) := by decide +kernel
theorem dX1_find_61 : decode cX1_find 61 = .ok (.iconst 0, 1) := by decide +kernel
theorem dX1_find_62 : decode cX1_find 62 = .ok (.invokevirtual 43, 3) := by decide +kernel
theorem dX1_find_65 : decode cX1_find 65 = .ok (.return_, 1) := by decide +kernel
theorem dX1_pairFrom_0 : decode cX1_pairFrom 0 = .ok (.iload_n 2, 1) := by decide +kernel
theorem dX1_pairFrom_1 : decode cX1_pairFrom 1 = .ok (.aload_n 1, 1) := by decide +kernel
theorem dX1_pairFrom_2 : decode cX1_pairFrom 2 = .ok (.getfield 28, 3) := by decide +kernel
theorem dX1_pairFrom_5 : decode cX1_pairFrom 5 = .ok (.if_icmp .lt 34, 3) := by decide +kernel
theorem dX1_pairFrom_8 : decode cX1_pairFrom 8 = .ok (.iload 4, 2) := by decide +kernel
theorem dX1_pairFrom_10 : decode cX1_pairFrom 10 = .ok (.aload_n 0, 1) := by decide +kernel
theorem dX1_pairFrom_11 : decode cX1_pairFrom 11 = .ok (.getfield 18, 3) := by decide +kernel
theorem dX1_pairFrom_14 : decode cX1_pairFrom 14 = .ok (.if_icmp .ge 24, 3) := by decide +kernel
theorem dX1_pairFrom_17 : decode cX1_pairFrom 17 = .ok (.aload_n 0, 1) := by decide +kernel
theorem dX1_pairFrom_18 : decode cX1_pairFrom 18 = .ok (.iload 4, 2) := by decide +kernel
theorem dX1_pairFrom_20 : decode cX1_pairFrom 20 = .ok (.putfield 18, 3) := by decide +kernel
theorem dX1_pairFrom_23 : decode cX1_pairFrom 23 = .ok (.aload_n 0, 1) := by decide +kernel
theorem dX1_pairFrom_24 : decode cX1_pairFrom 24 = .ok (.getfield 9, 3) := by decide +kernel
theorem dX1_pairFrom_27 : decode cX1_pairFrom 27 = .ok (.iconst 0, 1) := by decide +kernel
theorem dX1_pairFrom_28 : decode cX1_pairFrom 28 = .ok (.aload_n 0, 1) := by decide +kernel
theorem dX1_pairFrom_29 : decode cX1_pairFrom 29 = .ok (.getfield 15, 3) := by decide +kernel
theorem dX1_pairFrom_32 : decode cX1_pairFrom 32 = .ok (.iconst 0, 1) := by decide +kernel
theorem dX1_pairFrom_33 : decode cX1_pairFrom 33 = .ok (.bipush 6, 2) := by decide +kernel
theorem dX1_pairFrom_35 : decode cX1_pairFrom 35 = .ok (.invokestatic 47, 3) := by decide +kernel
theorem dX1_pairFrom_38 : decode cX1_pairFrom 38 = .ok (.return_, 1) := by decide +kernel
theorem dX1_pairFrom_39 : decode cX1_pairFrom 39 = .ok (.aload_n 0, 1) := by decide +kernel
theorem dX1_pairFrom_40 : decode cX1_pairFrom 40 = .ok (.getfield 9, 3) := by decide +kernel
theorem dX1_pairFrom_43 : decode cX1_pairFrom 43 = .ok (.iload_n 2, 1) := by decide +kernel
theorem dX1_pairFrom_44 : decode cX1_pairFrom 44 = .ok (.iaload, 1) := by decide +kernel
theorem dX1_pairFrom_45 : decode cX1_pairFrom 45 = .ok (.iconst (-1), 1) := by decide +kernel
theorem dX1_pairFrom_46 : decode cX1_pairFrom 46 = .ok (.if_icmp .eq 15, 3) := by decide +kernel
theorem dX1_pairFrom_49 : decode cX1_pairFrom 49 = .ok (.aload_n 0, 1) := by decide +kernel
theorem dX1_pairFrom_50 : decode cX1_pairFrom 50 = .ok (.aload_n 1, 1) := by decide +kernel
theorem dX1_pairFrom_51 : decode cX1_pairFrom 51 = .ok (.iload_n 2, 1) := by decide +kernel
theorem dX1_pairFrom_52 : decode cX1_pairFrom 52 = .ok (.iconst 1, 1) := by decide +kernel
theorem dX1_pairFrom_53 : decode cX1_pairFrom 53 = .ok (.iadd, 1) := by decide +kernel
theorem dX1_pairFrom_54 : decode cX1_pairFrom 54 = .ok (.iload_n 3, 1) := by decide +kernel
theorem dX1_pairFrom_55 : decode cX1_pairFrom 55 = .ok (.iload 4, 2) := by decide +kernel
theorem dX1_pairFrom_57 : decode cX1_pairFrom 57 = .ok (.invokevirtual 43, 3) := by decide +kernel
theorem dX1_pairFrom_60 : decode cX1_pairFrom 60 = .ok (.return_, 1) := by decide +kernel
theorem dX1_pairFrom_61 : decode cX1_pairFrom 61 = .ok (.iload_n 2, 1) := by decide +kernel
theorem dX1_pairFrom_62 : decode cX1_pairFrom 62 = .ok (.iconst 1, 1) := by decide +kernel
theorem dX1_pairFrom_63 : decode cX1_pairFrom 63 = .ok (.iadd, 1) := by decide +kernel
theorem dX1_pairFrom_64 : decode cX1_pairFrom 64 = .ok (.istore 5, 2) := by decide +kernel
theorem dX1_pairFrom_66 : decode cX1_pairFrom 66 = .ok (.iload 5, 2) := by decide +kernel
theorem dX1_pairFrom_68 : decode cX1_pairFrom 68 = .ok (.aload_n 1, 1) := by decide +kernel
theorem dX1_pairFrom_69 : decode cX1_pairFrom 69 = .ok (.getfield 28, 3) := by decide +kernel
theorem dX1_pairFrom_72 : decode cX1_pairFrom 72 = .ok (.if_icmp .ge 96, 3) := by decide +kernel
theorem dX1_pairFrom_75 : decode cX1_pairFrom 75 = .ok (.aload_n 0, 1) := by decide +kernel
theorem dX1_pairFrom_76 : decode cX1_pairFrom 76 = .ok (.getfield 9, 3) := by decide +kernel
theorem dX1_pairFrom_79 : decode cX1_pairFrom 79 = .ok (.iload 5, 2) := by decide +kernel
theorem dX1_pairFrom_81 : decode cX1_pairFrom 81 = .ok (.iaload, 1) := by decide +kernel
theorem dX1_pairFrom_82 : decode cX1_pairFrom 82 = .ok (.iconst (-1), 1) := by decide +kernel
theorem dX1_pairFrom_83 : decode cX1_pairFrom 83 = .ok (.if_icmp .ne 79, 3) := by decide +kernel
theorem dX1_pairFrom_86 : decode cX1_pairFrom 86 = .ok (.aload_n 0, 1) := by decide +kernel
theorem dX1_pairFrom_87 : decode cX1_pairFrom 87 = .ok (.getfield 9, 3) := by decide +kernel
theorem dX1_pairFrom_90 : decode cX1_pairFrom 90 = .ok (.iload_n 2, 1) := by decide +kernel
theorem dX1_pairFrom_91 : decode cX1_pairFrom 91 = .ok (.iload 5, 2) := by decide +kernel
theorem dX1_pairFrom_93 : decode cX1_pairFrom 93 = .ok (.iastore, 1) := by decide +kernel
theorem dX1_pairFrom_94 : decode cX1_pairFrom 94 = .ok (.aload_n 0, 1) := by decide +kernel
theorem dX1_pairFrom_95 : decode cX1_pairFrom 95 = .ok (.getfield 9, 3) := by decide +kernel
theorem dX1_pairFrom_98 : decode cX1_pairFrom 98 = .ok (.iload 5, 2) := by decide +kernel
theorem dX1_pairFrom_100 : decode cX1_pairFrom 100 = .ok (.iload_n 2, 1) := by decide +kernel
theorem dX1_pairFrom_101 : decode cX1_pairFrom 101 = .ok (.iastore, 1) := by decide +kernel
theorem dX1_pairFrom_102 : decode cX1_pairFrom 102 = .ok (.aload_n 1, 1) := by decide +kernel
theorem dX1_pairFrom_103 : decode cX1_pairFrom 103 = .ok (.getfield 33, 3) := by decide +kernel
theorem dX1_pairFrom_106 : decode cX1_pairFrom 106 = .ok (.iload_n 2, 1) := by decide +kernel
theorem dX1_pairFrom_107 : decode cX1_pairFrom 107 = .ok (.aaload, 1) := by decide +kernel
theorem dX1_pairFrom_108 : decode cX1_pairFrom 108 = .ok (.invokevirtual 53, 3) := by decide +kernel
theorem dX1_pairFrom_111 : decode cX1_pairFrom 111 = .ok (.aload_n 1, 1) := by decide +kernel
theorem dX1_pairFrom_112 : decode cX1_pairFrom 112 = .ok (.getfield 33, 3) := by decide +kernel
theorem dX1_pairFrom_115 : decode cX1_pairFrom 115 = .ok (.iload 5, 2) := by decide +kernel
theorem dX1_pairFrom_117 : decode cX1_pairFrom 117 = .ok (.aaload, 1) := by decide +kernel
theorem dX1_pairFrom_118 : decode cX1_pairFrom 118 = .ok (.invokevirtual 53, 3) := by decide +kernel
theorem dX1_pairFrom_121 : decode cX1_pairFrom 121 = .ok (.if_icmp .ne 7, 3) := by decide +kernel
theorem dX1_pairFrom_124 : decode cX1_pairFrom 124 = .ok (.iconst 1, 1) := by decide +kernel
theorem dX1_pairFrom_125 : decode cX1_pairFrom 125 = .ok (.goto 4, 3) := by decide +kernel
theorem dX1_pairFrom_128 : decode cX1_pairFrom 128 = .ok (.iconst 0, 1) := by decide +kernel
theorem dX1_pairFrom_129 : decode cX1_pairFrom 129 = .ok (.istore 6, 2) := by decide +kernel
theorem dX1_pairFrom_131 : decode cX1_pairFrom 131 = .ok (.aload_n 0, 1) := by decide +kernel
theorem dX1_pairFrom_132 : decode cX1_pairFrom 132 = .ok (.aload_n 1, 1) := by decide +kernel
theorem dX1_pairFrom_133 : decode cX1_pairFrom 133 = .ok (.iload_n 2, 1) := by decide +kernel
theorem dX1_pairFrom_134 : decode cX1_pairFrom 134 = .ok (.iconst 1, 1) := by decide +kernel
theorem dX1_pairFrom_135 : decode cX1_pairFrom 135 = .ok (.iadd, 1) := by decide +kernel
theorem dX1_pairFrom_136 : decode cX1_pairFrom 136 = .ok (.iload_n 3, 1) := by decide +kernel
theorem dX1_pairFrom_137 : decode cX1_pairFrom 137 = .ok (.iload 6, 2) := by decide +kernel
theorem dX1_pairFrom_139 : decode cX1_pairFrom 139 = .ok (.ifCond .eq 8, 3) := by decide +kernel
theorem dX1_pairFrom_142 : decode cX1_pairFrom 142 = .ok (.iload 4, 2) := by decide +kernel
theorem dX1_pairFrom_144 : decode cX1_pairFrom 144 = .ok (.goto 7, 3) := by decide +kernel
theorem dX1_pairFrom_147 : decode cX1_pairFrom 147 = .ok (.iload 4, 2) := by decide +kernel
theorem dX1_pairFrom_149 : decode cX1_pairFrom 149 = .ok (.iconst 1, 1) := by decide +kernel
theorem dX1_pairFrom_150 : decode cX1_pairFrom 150 = .ok (.iadd, 1) := by decide +kernel
theorem dX1_pairFrom_151 : decode cX1_pairFrom 151 = .ok (.invokevirtual 43, 3) := by decide +kernel
theorem dX1_pairFrom_154 : decode cX1_pairFrom 154 = .ok (.aload_n 0, 1) := by decide +kernel
theorem dX1_pairFrom_155 : decode cX1_pairFrom 155 = .ok (.getfield 9, 3) := by decide +kernel
theorem dX1_pairFrom_158 : decode cX1_pairFrom 158 = .ok (.iload 5, 2) := by decide +kernel
theorem dX1_pairFrom_160 : decode cX1_pairFrom 160 = .ok (.iconst (-1), 1) := by decide +kernel
theorem dX1_pairFrom_161 : decode cX1_pairFrom 161 = .ok (.iastore, 1) := by decide +kernel
theorem dX1_pairFrom_162 : decode cX1_pairFrom 162 = .ok (.iinc 5 1, 3) := by decide +kernel
theorem dX1_pairFrom_165 : decode cX1_pairFrom 165 = .ok (.goto (-99), 3) := by decide +kernel
theorem dX1_pairFrom_168 : decode cX1_pairFrom 168 = .ok (.iload_n 3, 1) := by decide +kernel
theorem dX1_pairFrom_169 : decode cX1_pairFrom 169 = .ok (.ifCond .le 24, 3) := by decide +kernel
theorem dX1_pairFrom_172 : decode cX1_pairFrom 172 = .ok (.aload_n 0, 1) := by decide +kernel
theorem dX1_pairFrom_173 : decode cX1_pairFrom 173 = .ok (.getfield 9, 3) := by decide +kernel
theorem dX1_pairFrom_176 : decode cX1_pairFrom 176 = .ok (.iload_n 2, 1) := by decide +kernel
theorem dX1_pairFrom_177 : decode cX1_pairFrom 177 = .ok (.bipush 9, 2) := by decide +kernel
theorem dX1_pairFrom_179 : decode cX1_pairFrom 179 = .ok (.iastore, 1) := by decide +kernel
theorem dX1_pairFrom_180 : decode cX1_pairFrom 180 = .ok (.aload_n 0, 1) := by decide +kernel
theorem dX1_pairFrom_181 : decode cX1_pairFrom 181 = .ok (.aload_n 1, 1) := by decide +kernel
theorem dX1_pairFrom_182 : decode cX1_pairFrom 182 = .ok (.iload_n 2, 1) := by decide +kernel
theorem dX1_pairFrom_183 : decode cX1_pairFrom 183 = .ok (.iconst 1, 1) := by decide +kernel
theorem dX1_pairFrom_184 : decode cX1_pairFrom 184 = .ok (.iadd, 1) := by decide +kernel
theorem dX1_pairFrom_185 : decode cX1_pairFrom 185 = .ok (.iload_n 3, 1) := by decide +kernel
theorem dX1_pairFrom_186 : decode cX1_pairFrom 186 = .ok (.iconst 1, 1) := by decide +kernel
theorem dX1_pairFrom_187 : decode cX1_pairFrom 187 = .ok (.isub, 1) := by decide +kernel
theorem dX1_pairFrom_188 : decode cX1_pairFrom 188 = .ok (.iload 4, 2) := by decide +kernel
theorem dX1_pairFrom_190 : decode cX1_pairFrom 190 = .ok (.invokevirtual 43, 3) := by decide +kernel
theorem dX1_pairFrom_193 : decode cX1_pairFrom 193 = .ok (.aload_n 0, 1) := by decide +kernel
theorem dX1_pairFrom_194 : decode cX1_pairFrom 194 = .ok (.getfield 9, 3) := by decide +kernel
theorem dX1_pairFrom_197 : decode cX1_pairFrom 197 = .ok (.iload_n 2, 1) := by decide +kernel
theorem dX1_pairFrom_198 : decode cX1_pairFrom 198 = .ok (.iconst (-1), 1) := by decide +kernel
theorem dX1_pairFrom_199 : decode cX1_pairFrom 199 = .ok (.iastore, 1) := by decide +kernel
theorem dX1_pairFrom_200 : decode cX1_pairFrom 200 = .ok (.return_, 1) := by decide +kernel
theorem dX1_partnerOf_0 : decode cX1_partnerOf 0 = .ok (.iload_n 1, 1) := by decide +kernel
theorem dX1_partnerOf_1 : decode cX1_partnerOf 1 = .ok (.ifCond .lt 20, 3) := by decide +kernel
theorem dX1_partnerOf_4 : decode cX1_partnerOf 4 = .ok (.iload_n 1, 1) := by decide +kernel
theorem dX1_partnerOf_5 : decode cX1_partnerOf 5 = .ok (.bipush 6, 2) := by decide +kernel
theorem dX1_partnerOf_7 : decode cX1_partnerOf 7 = .ok (.if_icmp .ge 14, 3) := by decide +kernel
theorem dX1_partnerOf_10 : decode cX1_partnerOf 10 = .ok (.aload_n 0, 1) := by decide +kernel
theorem dX1_partnerOf_11 : decode cX1_partnerOf 11 = .ok (.getfield 15, 3) := by decide +kernel
theorem dX1_partnerOf_14 : decode cX1_partnerOf 14 = .ok (.iload_n 1, 1) := by decide +kernel
theorem dX1_partnerOf_15 : decode cX1_partnerOf 15 = .ok (.iaload, 1) := by decide +kernel
theorem dX1_partnerOf_16 : decode cX1_partnerOf 16 = .ok (.bipush 9, 2) := by decide +kernel
theorem dX1_partnerOf_18 : decode cX1_partnerOf 18 = .ok (.if_icmp .ne 8, 3) := by decide +kernel
theorem dX1_partnerOf_21 : decode cX1_partnerOf 21 = .ok (.bipush (-9), 2) := by decide +kernel
theorem dX1_partnerOf_23 : decode cX1_partnerOf 23 = .ok (.goto 9, 3) := by decide +kernel
theorem dX1_partnerOf_26 : decode cX1_partnerOf 26 = .ok (.aload_n 0, 1) := by decide +kernel
theorem dX1_partnerOf_27 : decode cX1_partnerOf 27 = .ok (.getfield 15, 3) := by decide +kernel
theorem dX1_partnerOf_30 : decode cX1_partnerOf 30 = .ok (.iload_n 1, 1) := by decide +kernel
theorem dX1_partnerOf_31 : decode cX1_partnerOf 31 = .ok (.iaload, 1) := by decide +kernel
theorem dX1_partnerOf_32 : decode cX1_partnerOf 32 = .ok (.ireturn, 1) := by decide +kernel
theorem dX2_init_0 : decode cX2_init 0 = .ok (.aload_n 0, 1) := by decide +kernel
theorem dX2_init_1 : decode cX2_init 1 = .ok (.invokespecial 3, 3) := by decide +kernel
theorem dX2_init_4 : decode cX2_init 4 = .ok (.return_, 1) := by decide +kernel
theorem dX2_trait_0 : decode cX2_trait 0 = .ok (.iload_n 1, 1) := by decide +kernel
theorem dX2_trait_1 : decode cX2_trait 1 = .ok (.lookupswitch 37 #[(0, 27), (1, 32)], 27) := by decide +kernel
theorem dX2_trait_28 : decode cX2_trait 28 = .ok (.aload_n 0, 1) := by decide +kernel
theorem dX2_trait_29 : decode cX2_trait 29 = .ok (.getfield 9, 3) := by decide +kernel
theorem dX2_trait_32 : decode cX2_trait 32 = .ok (.ireturn, 1) := by decide +kernel
theorem dX2_trait_33 : decode cX2_trait 33 = .ok (.aload_n 0, 1) := by decide +kernel
theorem dX2_trait_34 : decode cX2_trait 34 = .ok (.getfield 15, 3) := by decide +kernel
theorem dX2_trait_37 : decode cX2_trait 37 = .ok (.ireturn, 1) := by decide +kernel
theorem dX2_trait_38 : decode cX2_trait 38 = .ok (.aload_n 0, 1) := by decide +kernel
theorem dX2_trait_39 : decode cX2_trait 39 = .ok (.getfield 18, 3) := by decide +kernel
theorem dX2_trait_42 : decode cX2_trait 42 = .ok (.ireturn, 1) := by decide +kernel
theorem dX2_setTrait_0 : decode cX2_setTrait 0 = .ok (.iload_n 1, 1) := by decide +kernel
theorem dX2_setTrait_1 : decode cX2_setTrait 1 = .ok (.lookupswitch 43 #[(0, 27), (1, 35)], 27) := by decide +kernel
theorem dX2_setTrait_28 : decode cX2_setTrait 28 = .ok (.aload_n 0, 1) := by decide +kernel
theorem dX2_setTrait_29 : decode cX2_setTrait 29 = .ok (.iload_n 2, 1) := by decide +kernel
theorem dX2_setTrait_30 : decode cX2_setTrait 30 = .ok (.putfield 9, 3) := by decide +kernel
theorem dX2_setTrait_33 : decode cX2_setTrait 33 = .ok (.goto 16, 3) := by decide +kernel
theorem dX2_setTrait_36 : decode cX2_setTrait 36 = .ok (.aload_n 0, 1) := by decide +kernel
theorem dX2_setTrait_37 : decode cX2_setTrait 37 = .ok (.iload_n 2, 1) := by decide +kernel
theorem dX2_setTrait_38 : decode cX2_setTrait 38 = .ok (.putfield 15, 3) := by decide +kernel
theorem dX2_setTrait_41 : decode cX2_setTrait 41 = .ok (.goto 8, 3) := by decide +kernel
theorem dX2_setTrait_44 : decode cX2_setTrait 44 = .ok (.aload_n 0, 1) := by decide +kernel
theorem dX2_setTrait_45 : decode cX2_setTrait 45 = .ok (.iload_n 2, 1) := by decide +kernel
theorem dX2_setTrait_46 : decode cX2_setTrait 46 = .ok (.putfield 18, 3) := by decide +kernel
theorem dX2_setTrait_49 : decode cX2_setTrait 49 = .ok (.return_, 1) := by decide +kernel
theorem dX2_best_0 : decode cX2_best 0 = .ok (.aload_n 0, 1) := by decide +kernel
theorem dX2_best_1 : decode cX2_best 1 = .ok (.getfield 9, 3) := by decide +kernel
theorem dX2_best_4 : decode cX2_best 4 = .ok (.lookupswitch 42 #[(1, 35), (2, 28)], 28) := by decide +kernel
theorem dX2_best_32 : decode cX2_best 32 = .ok (.iconst 2, 1) := by decide +kernel
theorem dX2_best_33 : decode cX2_best 33 = .ok (.aload_n 0, 1) := by decide +kernel
theorem dX2_best_34 : decode cX2_best 34 = .ok (.getfield 15, 3) := by decide +kernel
theorem dX2_best_37 : decode cX2_best 37 = .ok (.imul, 1) := by decide +kernel
theorem dX2_best_38 : decode cX2_best 38 = .ok (.ireturn, 1) := by decide +kernel
theorem dX2_best_39 : decode cX2_best 39 = .ok (.aload_n 0, 1) := by decide +kernel
theorem dX2_best_40 : decode cX2_best 40 = .ok (.getfield 15, 3) := by decide +kernel
theorem dX2_best_43 : decode cX2_best 43 = .ok (.iconst 1, 1) := by decide +kernel
theorem dX2_best_44 : decode cX2_best 44 = .ok (.iadd, 1) := by decide +kernel
theorem dX2_best_45 : decode cX2_best 45 = .ok (.ireturn, 1) := by decide +kernel
theorem dX2_best_46 : decode cX2_best 46 = .ok (.aload_n 0, 1) := by decide +kernel
theorem dX2_best_47 : decode cX2_best 47 = .ok (.getfield 15, 3) := by decide +kernel
theorem dX2_best_50 : decode cX2_best 50 = .ok (.ireturn, 1) := by decide +kernel
theorem dX2_worst_0 : decode cX2_worst 0 = .ok (.iconst 0, 1) := by decide +kernel
theorem dX2_worst_1 : decode cX2_worst 1 = .ok (.aload_n 0, 1) := by decide +kernel
theorem dX2_worst_2 : decode cX2_worst 2 = .ok (.invokevirtual 21, 3) := by decide +kernel
theorem dX2_worst_5 : decode cX2_worst 5 = .ok (.aload_n 0, 1) := by decide +kernel
theorem dX2_worst_6 : decode cX2_worst 6 = .ok (.getfield 18, 3) := by decide +kernel
theorem dX2_worst_9 : decode cX2_worst 9 = .ok (.isub, 1) := by decide +kernel
theorem dX2_worst_10 : decode cX2_worst 10 = .ok (.invokestatic 25, 3) := by decide +kernel
theorem dX2_worst_13 : decode cX2_worst 13 = .ok (.ireturn, 1) := by decide +kernel
theorem dX2_canPlay_0 : decode cX2_canPlay 0 = .ok (.iload_n 1, 1) := by decide +kernel
theorem dX2_canPlay_1 : decode cX2_canPlay 1 = .ok (.aload_n 0, 1) := by decide +kernel
theorem dX2_canPlay_2 : decode cX2_canPlay 2 = .ok (.invokevirtual 31, 3) := by decide +kernel
theorem dX2_canPlay_5 : decode cX2_canPlay 5 = .ok (.if_icmp .lt 15, 3) := by decide +kernel
theorem dX2_canPlay_8 : decode cX2_canPlay 8 = .ok (.iload_n 1, 1) := by decide +kernel
theorem dX2_canPlay_9 : decode cX2_canPlay 9 = .ok (.aload_n 0, 1) := by decide +kernel
theorem dX2_canPlay_10 : decode cX2_canPlay 10 = .ok (.invokevirtual 21, 3) := by decide +kernel
theorem dX2_canPlay_13 : decode cX2_canPlay 13 = .ok (.if_icmp .gt 7, 3) := by decide +kernel
theorem dX2_canPlay_16 : decode cX2_canPlay 16 = .ok (.iconst 1, 1) := by decide +kernel
theorem dX2_canPlay_17 : decode cX2_canPlay 17 = .ok (.goto 4, 3) := by decide +kernel
theorem dX2_canPlay_20 : decode cX2_canPlay 20 = .ok (.iconst 0, 1) := by decide +kernel
theorem dX2_canPlay_21 : decode cX2_canPlay 21 = .ok (.ireturn, 1) := by decide +kernel
theorem dX2_become_0 : decode cX2_become 0 = .ok (.aload_n 0, 1) := by decide +kernel
theorem dX2_become_1 : decode cX2_become 1 = .ok (.iload_n 1, 1) := by decide +kernel
theorem dX2_become_2 : decode cX2_become 2 = .ok (.putfield 9, 3) := by decide +kernel
theorem dX2_become_5 : decode cX2_become 5 = .ok (.aload_n 0, 1) := by decide +kernel
theorem dX2_become_6 : decode cX2_become 6 = .ok (.iload_n 2, 1) := by decide +kernel
theorem dX2_become_7 : decode cX2_become 7 = .ok (.putfield 15, 3) := by decide +kernel
theorem dX2_become_10 : decode cX2_become 10 = .ok (.aload_n 0, 1) := by decide +kernel
theorem dX2_become_11 : decode cX2_become 11 = .ok (.iload_n 3, 1) := by decide +kernel
theorem dX2_become_12 : decode cX2_become 12 = .ok (.putfield 18, 3) := by decide +kernel
theorem dX2_become_15 : decode cX2_become 15 = .ok (.aload_n 0, 1) := by decide +kernel
theorem dX2_become_16 : decode cX2_become 16 = .ok (.iload 4, 2) := by decide +kernel
theorem dX2_become_18 : decode cX2_become 18 = .ok (.putfield 34, 3) := by decide +kernel
theorem dX2_become_21 : decode cX2_become 21 = .ok (.return_, 1) := by decide +kernel
theorem dX3_init_0 : decode cX3_init 0 = .ok (.aload_n 0, 1) := by decide +kernel
theorem dX3_init_1 : decode cX3_init 1 = .ok (.invokespecial 3, 3) := by decide +kernel
theorem dX3_init_4 : decode cX3_init 4 = .ok (.aload_n 0, 1) := by decide +kernel
theorem dX3_init_5 : decode cX3_init 5 = .ok (.bipush 6, 2) := by decide +kernel
theorem dX3_init_7 : decode cX3_init 7 = .ok (.newarray .int, 2) := by decide +kernel
theorem dX3_init_9 : decode cX3_init 9 = .ok (.putfield 9, 3) := by decide +kernel
theorem dX3_init_12 : decode cX3_init 12 = .ok (.aload_n 0, 1) := by decide +kernel
theorem dX3_init_13 : decode cX3_init 13 = .ok (.bipush 64, 2) := by decide +kernel
theorem dX3_init_15 : decode cX3_init 15 = .ok (.newarray .int, 2) := by decide +kernel
theorem dX3_init_17 : decode cX3_init 17 = .ok (.putfield 15, 3) := by decide +kernel
theorem dX3_init_20 : decode cX3_init 20 = .ok (.aload_n 0, 1) := by decide +kernel
theorem dX3_init_21 : decode cX3_init 21 = .ok (.bipush 6, 2) := by decide +kernel
theorem dX3_init_23 : decode cX3_init 23 = .ok (.newarray .int, 2) := by decide +kernel
theorem dX3_init_25 : decode cX3_init 25 = .ok (.putfield 18, 3) := by decide +kernel
theorem dX3_init_28 : decode cX3_init 28 = .ok (.return_, 1) := by decide +kernel
theorem dX3_take_0 : decode cX3_take 0 = .ok (.aload_n 0, 1) := by decide +kernel
theorem dX3_take_1 : decode cX3_take 1 = .ok (.iload_n 1, 1) := by decide +kernel
theorem dX3_take_2 : decode cX3_take 2 = .ok (.bipush 6, 2) := by decide +kernel
theorem dX3_take_4 : decode cX3_take 4 = .ok (.invokestatic 21, 3) := by decide +kernel
theorem dX3_take_7 : decode cX3_take 7 = .ok (.putfield 27, 3) := by decide +kernel
theorem dX3_take_10 : decode cX3_take 10 = .ok (.aload_n 0, 1) := by decide +kernel
theorem dX3_take_11 : decode cX3_take 11 = .ok (.getfield 9, 3) := by decide +kernel
theorem dX3_take_14 : decode cX3_take 14 = .ok (.iconst 0, 1) := by decide +kernel
theorem dX3_take_15 : decode cX3_take 15 = .ok (.invokestatic 31, 3) := by decide +kernel
theorem dX3_take_18 : decode cX3_take 18 = .ok (.iconst 0, 1) := by decide +kernel
theorem dX3_take_19 : decode cX3_take 19 = .ok (.istore 6, 2) := by decide +kernel
theorem dX3_take_21 : decode cX3_take 21 = .ok (.iload 6, 2) := by decide +kernel
theorem dX3_take_23 : decode cX3_take 23 = .ok (.iload 4, 2) := by decide +kernel
theorem dX3_take_25 : decode cX3_take 25 = .ok (.if_icmp .ge 73, 3) := by decide +kernel
theorem dX3_take_28 : decode cX3_take 28 = .ok (.aload_n 2, 1) := by decide +kernel
theorem dX3_take_29 : decode cX3_take 29 = .ok (.iload_n 3, 1) := by decide +kernel
theorem dX3_take_30 : decode cX3_take 30 = .ok (.iconst 2, 1) := by decide +kernel
theorem dX3_take_31 : decode cX3_take 31 = .ok (.iload 6, 2) := by decide +kernel
theorem dX3_take_33 : decode cX3_take 33 = .ok (.imul, 1) := by decide +kernel
theorem dX3_take_34 : decode cX3_take 34 = .ok (.iadd, 1) := by decide +kernel
theorem dX3_take_35 : decode cX3_take 35 = .ok (.invokevirtual 37, 3) := by decide +kernel
theorem dX3_take_38 : decode cX3_take 38 = .ok (.istore 7, 2) := by decide +kernel
theorem dX3_take_40 : decode cX3_take 40 = .ok (.aload_n 2, 1) := by decide +kernel
theorem dX3_take_41 : decode cX3_take 41 = .ok (.iload_n 3, 1) := by decide +kernel
theorem dX3_take_42 : decode cX3_take 42 = .ok (.iconst 2, 1) := by decide +kernel
theorem dX3_take_43 : decode cX3_take 43 = .ok (.iload 6, 2) := by decide +kernel
theorem dX3_take_45 : decode cX3_take 45 = .ok (.imul, 1) := by decide +kernel
theorem dX3_take_46 : decode cX3_take 46 = .ok (.iadd, 1) := by decide +kernel
theorem dX3_take_47 : decode cX3_take 47 = .ok (.iconst 1, 1) := by decide +kernel
theorem dX3_take_48 : decode cX3_take 48 = .ok (.iadd, 1) := by decide +kernel
theorem dX3_take_49 : decode cX3_take 49 = .ok (.invokevirtual 37, 3) := by decide +kernel
theorem dX3_take_52 : decode cX3_take 52 = .ok (.istore 8, 2) := by decide +kernel
theorem dX3_take_54 : decode cX3_take 54 = .ok (.iload 5, 2) := by decide +kernel
theorem dX3_take_56 : decode cX3_take 56 = .ok (.iload 6, 2) := by decide +kernel
theorem dX3_take_58 : decode cX3_take 58 = .ok (.ishr, 1) := by decide +kernel
theorem dX3_take_59 : decode cX3_take 59 = .ok (.iconst 1, 1) := by decide +kernel
theorem dX3_take_60 : decode cX3_take 60 = .ok (.iand, 1) := by decide +kernel
theorem dX3_take_61 : decode cX3_take 61 = .ok (.ifCond .ne 31, 3) := by decide +kernel
theorem dX3_take_64 : decode cX3_take 64 = .ok (.iload 8, 2) := by decide +kernel
theorem dX3_take_66 : decode cX3_take 66 = .ok (.ifCond .lt 26, 3) := by decide +kernel
theorem dX3_take_69 : decode cX3_take 69 = .ok (.iload 8, 2) := by decide +kernel
theorem dX3_take_71 : decode cX3_take 71 = .ok (.aload_n 0, 1) := by decide +kernel
theorem dX3_take_72 : decode cX3_take 72 = .ok (.getfield 27, 3) := by decide +kernel
theorem dX3_take_75 : decode cX3_take 75 = .ok (.if_icmp .ge 17, 3) := by decide +kernel
theorem dX3_take_78 : decode cX3_take 78 = .ok (.aload_n 0, 1) := by decide +kernel
theorem dX3_take_79 : decode cX3_take 79 = .ok (.getfield 9, 3) := by decide +kernel
theorem dX3_take_82 : decode cX3_take 82 = .ok (.iload 8, 2) := by decide +kernel
theorem dX3_take_84 : decode cX3_take 84 = .ok (.dup2, 1) := by decide +kernel
theorem dX3_take_85 : decode cX3_take 85 = .ok (.iaload, 1) := by decide +kernel
theorem dX3_take_86 : decode cX3_take 86 = .ok (.iconst 1, 1) := by decide +kernel
theorem dX3_take_87 : decode cX3_take 87 = .ok (.iload 7, 2) := by decide +kernel
theorem dX3_take_89 : decode cX3_take 89 = .ok (.ishl, 1) := by decide +kernel
theorem dX3_take_90 : decode cX3_take 90 = .ok (.ior, 1) := by decide +kernel
theorem dX3_take_91 : decode cX3_take 91 = .ok (.iastore, 1) := by decide +kernel
theorem dX3_take_92 : decode cX3_take 92 = .ok (.iinc 6 1, 3) := by decide +kernel
theorem dX3_take_95 : decode cX3_take 95 = .ok (.goto (-74), 3) := by decide +kernel
theorem dX3_take_98 : decode cX3_take 98 = .ok (.return_, 1) := by decide +kernel
theorem dX3_mayFollow_0 : decode cX3_mayFollow 0 = .ok (.iload_n 2, 1) := by decide +kernel
theorem dX3_mayFollow_1 : decode cX3_mayFollow 1 = .ok (.iload_n 1, 1) := by decide +kernel
theorem dX3_mayFollow_2 : decode cX3_mayFollow 2 = .ok (.ishr, 1) := by decide +kernel
theorem dX3_mayFollow_3 : decode cX3_mayFollow 3 = .ok (.iconst 1, 1) := by decide +kernel
theorem dX3_mayFollow_4 : decode cX3_mayFollow 4 = .ok (.iand, 1) := by decide +kernel
theorem dX3_mayFollow_5 : decode cX3_mayFollow 5 = .ok (.ifCond .ne 20, 3) := by decide +kernel
theorem dX3_mayFollow_8 : decode cX3_mayFollow 8 = .ok (.aload_n 0, 1) := by decide +kernel
theorem dX3_mayFollow_9 : decode cX3_mayFollow 9 = .ok (.getfield 9, 3) := by decide +kernel
theorem dX3_mayFollow_12 : decode cX3_mayFollow 12 = .ok (.iload_n 1, 1) := by decide +kernel
theorem dX3_mayFollow_13 : decode cX3_mayFollow 13 = .ok (.iaload, 1) := by decide +kernel
theorem dX3_mayFollow_14 : decode cX3_mayFollow 14 = .ok (.iload_n 2, 1) := by decide +kernel
theorem dX3_mayFollow_15 : decode cX3_mayFollow 15 = .ok (.iconst (-1), 1) := by decide +kernel
theorem dX3_mayFollow_16 : decode cX3_mayFollow 16 = .ok (.ixor, 1) := by decide +kernel
theorem dX3_mayFollow_17 : decode cX3_mayFollow 17 = .ok (.iand, 1) := by decide +kernel
theorem dX3_mayFollow_18 : decode cX3_mayFollow 18 = .ok (.ifCond .ne 7, 3) := by decide +kernel
theorem dX3_mayFollow_21 : decode cX3_mayFollow 21 = .ok (.iconst 1, 1) := by decide +kernel
theorem dX3_mayFollow_22 : decode cX3_mayFollow 22 = .ok (.goto 4, 3) := by decide +kernel
theorem dX3_mayFollow_25 : decode cX3_mayFollow 25 = .ok (.iconst 0, 1) := by decide +kernel
theorem dX3_mayFollow_26 : decode cX3_mayFollow 26 = .ok (.ireturn, 1) := by decide +kernel
theorem dX3_howMany_0 : decode cX3_howMany 0 = .ok (.iconst 1, 1) := by decide +kernel
theorem dX3_howMany_1 : decode cX3_howMany 1 = .ok (.aload_n 0, 1) := by decide +kernel
theorem dX3_howMany_2 : decode cX3_howMany 2 = .ok (.getfield 27, 3) := by decide +kernel
theorem dX3_howMany_5 : decode cX3_howMany 5 = .ok (.ishl, 1) := by decide +kernel
theorem dX3_howMany_6 : decode cX3_howMany 6 = .ok (.iconst 1, 1) := by decide +kernel
theorem dX3_howMany_7 : decode cX3_howMany 7 = .ok (.isub, 1) := by decide +kernel
theorem dX3_howMany_8 : decode cX3_howMany 8 = .ok (.istore_n 1, 1) := by decide +kernel
theorem dX3_howMany_9 : decode cX3_howMany 9 = .ok (.aload_n 0, 1) := by decide +kernel
theorem dX3_howMany_10 : decode cX3_howMany 10 = .ok (.getfield 15, 3) := by decide +kernel
theorem dX3_howMany_13 : decode cX3_howMany 13 = .ok (.iconst 0, 1) := by decide +kernel
theorem dX3_howMany_14 : decode cX3_howMany 14 = .ok (.invokestatic 31, 3) := by decide +kernel
theorem dX3_howMany_17 : decode cX3_howMany 17 = .ok (.aload_n 0, 1) := by decide +kernel
theorem dX3_howMany_18 : decode cX3_howMany 18 = .ok (.getfield 15, 3) := by decide +kernel
theorem dX3_howMany_21 : decode cX3_howMany 21 = .ok (.iconst 0, 1) := by decide +kernel
theorem dX3_howMany_22 : decode cX3_howMany 22 = .ok (.iconst 1, 1) := by decide +kernel
theorem dX3_howMany_23 : decode cX3_howMany 23 = .ok (.iastore, 1) := by decide +kernel
theorem dX3_howMany_24 : decode cX3_howMany 24 = .ok (.iconst 0, 1) := by decide +kernel
theorem dX3_howMany_25 : decode cX3_howMany 25 = .ok (.istore_n 2, 1) := by decide +kernel
theorem dX3_howMany_26 : decode cX3_howMany 26 = .ok (.iload_n 2, 1) := by decide +kernel
theorem dX3_howMany_27 : decode cX3_howMany 27 = .ok (.iload_n 1, 1) := by decide +kernel
theorem dX3_howMany_28 : decode cX3_howMany 28 = .ok (.if_icmp .ge 53, 3) := by decide +kernel
theorem dX3_howMany_31 : decode cX3_howMany 31 = .ok (.iconst 0, 1) := by decide +kernel
theorem dX3_howMany_32 : decode cX3_howMany 32 = .ok (.istore_n 3, 1) := by decide +kernel
theorem dX3_howMany_33 : decode cX3_howMany 33 = .ok (.iload_n 3, 1) := by decide +kernel
theorem dX3_howMany_34 : decode cX3_howMany 34 = .ok (.aload_n 0, 1) := by decide +kernel
theorem dX3_howMany_35 : decode cX3_howMany 35 = .ok (.getfield 27, 3) := by decide +kernel
theorem dX3_howMany_38 : decode cX3_howMany 38 = .ok (.if_icmp .ge 37, 3) := by decide +kernel
theorem dX3_howMany_41 : decode cX3_howMany 41 = .ok (.aload_n 0, 1) := by decide +kernel
theorem dX3_howMany_42 : decode cX3_howMany 42 = .ok (.iload_n 3, 1) := by decide +kernel
theorem dX3_howMany_43 : decode cX3_howMany 43 = .ok (.iload_n 2, 1) := by decide +kernel
theorem dX3_howMany_44 : decode cX3_howMany 44 = .ok (.invokevirtual 43, 3) := by decide +kernel
theorem dX3_howMany_47 : decode cX3_howMany 47 = .ok (.ifCond .eq 22, 3) := by decide +kernel
theorem dX3_howMany_50 : decode cX3_howMany 50 = .ok (.aload_n 0, 1) := by decide +kernel
theorem dX3_howMany_51 : decode cX3_howMany 51 = .ok (.getfield 15, 3) := by decide +kernel
theorem dX3_howMany_54 : decode cX3_howMany 54 = .ok (.iload_n 2, 1) := by decide +kernel
theorem dX3_howMany_55 : decode cX3_howMany 55 = .ok (.iconst 1, 1) := by decide +kernel
theorem dX3_howMany_56 : decode cX3_howMany 56 = .ok (.iload_n 3, 1) := by decide +kernel
theorem dX3_howMany_57 : decode cX3_howMany 57 = .ok (.ishl, 1) := by decide +kernel
theorem dX3_howMany_58 : decode cX3_howMany 58 = .ok (.ior, 1) := by decide +kernel
theorem dX3_howMany_59 : decode cX3_howMany 59 = .ok (.dup2, 1) := by decide +kernel
theorem dX3_howMany_60 : decode cX3_howMany 60 = .ok (.iaload, 1) := by decide +kernel
theorem dX3_howMany_61 : decode cX3_howMany 61 = .ok (.aload_n 0, 1) := by decide +kernel
theorem dX3_howMany_62 : decode cX3_howMany 62 = .ok (.getfield 15, 3) := by decide +kernel
theorem dX3_howMany_65 : decode cX3_howMany 65 = .ok (.iload_n 2, 1) := by decide +kernel
theorem dX3_howMany_66 : decode cX3_howMany 66 = .ok (.iaload, 1) := by decide +kernel
theorem dX3_howMany_67 : decode cX3_howMany 67 = .ok (.iadd, 1) := by decide +kernel
theorem dX3_howMany_68 : decode cX3_howMany 68 = .ok (.iastore, 1) := by decide +kernel
theorem dX3_howMany_69 : decode cX3_howMany 69 = .ok (.iinc 3 1, 3) := by decide +kernel
theorem dX3_howMany_72 : decode cX3_howMany 72 = .ok (.goto (-39), 3) := by decide +kernel
theorem dX3_howMany_75 : decode cX3_howMany 75 = .ok (.iinc 2 1, 3) := by decide +kernel
theorem dX3_howMany_78 : decode cX3_howMany 78 = .ok (.goto (-52), 3) := by decide +kernel
theorem dX3_howMany_81 : decode cX3_howMany 81 = .ok (.aload_n 0, 1) := by decide +kernel
theorem dX3_howMany_82 : decode cX3_howMany 82 = .ok (.getfield 15, 3) := by decide +kernel
theorem dX3_howMany_85 : decode cX3_howMany 85 = .ok (.iload_n 1, 1) := by decide +kernel
theorem dX3_howMany_86 : decode cX3_howMany 86 = .ok (.iaload, 1) := by decide +kernel
theorem dX3_howMany_87 : decode cX3_howMany 87 = .ok (.ireturn, 1) := by decide +kernel
theorem dX3_lineUp_0 : decode cX3_lineUp 0 = .ok (.iconst 0, 1) := by decide +kernel
theorem dX3_lineUp_1 : decode cX3_lineUp 1 = .ok (.istore_n 1, 1) := by decide +kernel
theorem dX3_lineUp_2 : decode cX3_lineUp 2 = .ok (.iconst 0, 1) := by decide +kernel
theorem dX3_lineUp_3 : decode cX3_lineUp 3 = .ok (.istore_n 2, 1) := by decide +kernel
theorem dX3_lineUp_4 : decode cX3_lineUp 4 = .ok (.iload_n 2, 1) := by decide +kernel
theorem dX3_lineUp_5 : decode cX3_lineUp 5 = .ok (.aload_n 0, 1) := by decide +kernel
theorem dX3_lineUp_6 : decode cX3_lineUp 6 = .ok (.getfield 27, 3) := by decide +kernel
theorem dX3_lineUp_9 : decode cX3_lineUp 9 = .ok (.if_icmp .ge 57, 3) := by decide +kernel
theorem dX3_lineUp_12 : decode cX3_lineUp 12 = .ok (.iconst 0, 1) := by decide +kernel
theorem dX3_lineUp_13 : decode cX3_lineUp 13 = .ok (.istore_n 3, 1) := by decide +kernel
theorem dX3_lineUp_14 : decode cX3_lineUp 14 = .ok (.iload_n 3, 1) := by decide +kernel
theorem dX3_lineUp_15 : decode cX3_lineUp 15 = .ok (.aload_n 0, 1) := by decide +kernel
theorem dX3_lineUp_16 : decode cX3_lineUp 16 = .ok (.getfield 27, 3) := by decide +kernel
theorem dX3_lineUp_19 : decode cX3_lineUp 19 = .ok (.if_icmp .ge 18, 3) := by decide +kernel
theorem dX3_lineUp_22 : decode cX3_lineUp 22 = .ok (.aload_n 0, 1) := by decide +kernel
theorem dX3_lineUp_23 : decode cX3_lineUp 23 = .ok (.iload_n 3, 1) := by decide +kernel
theorem dX3_lineUp_24 : decode cX3_lineUp 24 = .ok (.iload_n 1, 1) := by decide +kernel
theorem dX3_lineUp_25 : decode cX3_lineUp 25 = .ok (.invokevirtual 43, 3) := by decide +kernel
theorem dX3_lineUp_28 : decode cX3_lineUp 28 = .ok (.ifCond .ne 9, 3) := by decide +kernel
theorem dX3_lineUp_31 : decode cX3_lineUp 31 = .ok (.iinc 3 1, 3) := by decide +kernel
theorem dX3_lineUp_34 : decode cX3_lineUp 34 = .ok (.goto (-20), 3) := by decide +kernel
theorem dX3_lineUp_37 : decode cX3_lineUp 37 = .ok (.iload_n 3, 1) := by decide +kernel
theorem dX3_lineUp_38 : decode cX3_lineUp 38 = .ok (.aload_n 0, 1) := by decide +kernel
theorem dX3_lineUp_39 : decode cX3_lineUp 39 = .ok (.getfield 27, 3) := by decide +kernel
theorem dX3_lineUp_42 : decode cX3_lineUp 42 = .ok (.if_icmp .ne 5, 3) := by decide +kernel
theorem dX3_lineUp_45 : decode cX3_lineUp 45 = .ok (.iconst 0, 1) := by decide +kernel
theorem dX3_lineUp_46 : decode cX3_lineUp 46 = .ok (.ireturn, 1) := by decide +kernel
theorem dX3_lineUp_47 : decode cX3_lineUp 47 = .ok (.aload_n 0, 1) := by decide +kernel
theorem dX3_lineUp_48 : decode cX3_lineUp 48 = .ok (.getfield 18, 3) := by decide +kernel
theorem dX3_lineUp_51 : decode cX3_lineUp 51 = .ok (.iload_n 2, 1) := by decide +kernel
theorem dX3_lineUp_52 : decode cX3_lineUp 52 = .ok (.iload_n 3, 1) := by decide +kernel
theorem dX3_lineUp_53 : decode cX3_lineUp 53 = .ok (.iastore, 1) := by decide +kernel
theorem dX3_lineUp_54 : decode cX3_lineUp 54 = .ok (.iload_n 1, 1) := by decide +kernel
theorem dX3_lineUp_55 : decode cX3_lineUp 55 = .ok (.iconst 1, 1) := by decide +kernel
theorem dX3_lineUp_56 : decode cX3_lineUp 56 = .ok (.iload_n 3, 1) := by decide +kernel
theorem dX3_lineUp_57 : decode cX3_lineUp 57 = .ok (.ishl, 1) := by decide +kernel
theorem dX3_lineUp_58 : decode cX3_lineUp 58 = .ok (.ior, 1) := by decide +kernel
theorem dX3_lineUp_59 : decode cX3_lineUp 59 = .ok (.istore_n 1, 1) := by decide +kernel
theorem dX3_lineUp_60 : decode cX3_lineUp 60 = .ok (.iinc 2 1, 3) := by decide +kernel
theorem dX3_lineUp_63 : decode cX3_lineUp 63 = .ok (.goto (-59), 3) := by decide +kernel
theorem dX3_lineUp_66 : decode cX3_lineUp 66 = .ok (.iconst 1, 1) := by decide +kernel
theorem dX3_lineUp_67 : decode cX3_lineUp 67 = .ok (.ireturn, 1) := by decide +kernel
theorem dX3_placeOfFirst_0 : decode cX3_placeOfFirst 0 = .ok (.iload_n 1, 1) := by decide +kernel
theorem dX3_placeOfFirst_1 : decode cX3_placeOfFirst 1 = .ok (.ifCond .lt 27, 3) := by decide +kernel
theorem dX3_placeOfFirst_4 : decode cX3_placeOfFirst 4 = .ok (.iload_n 1, 1) := by decide +kernel
theorem dX3_placeOfFirst_5 : decode cX3_placeOfFirst 5 = .ok (.aload_n 0, 1) := by decide +kernel
theorem dX3_placeOfFirst_6 : decode cX3_placeOfFirst 6 = .ok (.getfield 27, 3) := by decide +kernel
theorem dX3_placeOfFirst_9 : decode cX3_placeOfFirst 9 = .ok (.if_icmp .ge 19, 3) := by decide +kernel
theorem dX3_placeOfFirst_12 : decode cX3_placeOfFirst 12 = .ok (.aload_n 0, 1) := by decide +kernel
theorem dX3_placeOfFirst_13 : decode cX3_placeOfFirst 13 = .ok (.invokevirtual 47, 3) := by decide +kernel
theorem dX3_placeOfFirst_16 : decode cX3_placeOfFirst 16 = .ok (.ifCond .eq 12, 3) := by decide +kernel
theorem dX3_placeOfFirst_19 : decode cX3_placeOfFirst 19 = .ok (.aload_n 0, 1) := by decide +kernel
theorem dX3_placeOfFirst_20 : decode cX3_placeOfFirst 20 = .ok (.getfield 18, 3) := by decide +kernel
theorem dX3_placeOfFirst_23 : decode cX3_placeOfFirst 23 = .ok (.iload_n 1, 1) := by decide +kernel
theorem dX3_placeOfFirst_24 : decode cX3_placeOfFirst 24 = .ok (.iaload, 1) := by decide +kernel
theorem dX3_placeOfFirst_25 : decode cX3_placeOfFirst 25 = .ok (.goto 5, 3) := by decide +kernel
theorem dX3_placeOfFirst_28 : decode cX3_placeOfFirst 28 = .ok (.bipush (-9), 2) := by decide +kernel
theorem dX3_placeOfFirst_30 : decode cX3_placeOfFirst 30 = .ok (.ireturn, 1) := by decide +kernel
theorem dX3_fewestLeftOut_0 : decode cX3_fewestLeftOut 0 = .ok (.iconst 0, 1) := by decide +kernel
theorem dX3_fewestLeftOut_1 : decode cX3_fewestLeftOut 1 = .ok (.istore 5, 2) := by decide +kernel
theorem dX3_fewestLeftOut_3 : decode cX3_fewestLeftOut 3 = .ok (.iload 5, 2) := by decide +kernel
theorem dX3_fewestLeftOut_5 : decode cX3_fewestLeftOut 5 = .ok (.iload 4, 2) := by decide +kernel
theorem dX3_fewestLeftOut_7 : decode cX3_fewestLeftOut 7 = .ok (.if_icmp .gt 58, 3) := by decide +kernel
theorem dX3_fewestLeftOut_10 : decode cX3_fewestLeftOut 10 = .ok (.iconst 0, 1) := by decide +kernel
theorem dX3_fewestLeftOut_11 : decode cX3_fewestLeftOut 11 = .ok (.istore 6, 2) := by decide +kernel
theorem dX3_fewestLeftOut_13 : decode cX3_fewestLeftOut 13 = .ok (.iload 6, 2) := by decide +kernel
theorem dX3_fewestLeftOut_15 : decode cX3_fewestLeftOut 15 = .ok (.iconst 1, 1) := by decide +kernel
theorem dX3_fewestLeftOut_16 : decode cX3_fewestLeftOut 16 = .ok (.iload 4, 2) := by decide +kernel
theorem dX3_fewestLeftOut_18 : decode cX3_fewestLeftOut 18 = .ok (.ishl, 1) := by decide +kernel
theorem dX3_fewestLeftOut_19 : decode cX3_fewestLeftOut 19 = .ok (.if_icmp .ge 40, 3) := by decide +kernel
theorem dX3_fewestLeftOut_22 : decode cX3_fewestLeftOut 22 = .ok (.iload 6, 2) := by decide +kernel
theorem dX3_fewestLeftOut_24 : decode cX3_fewestLeftOut 24 = .ok (.invokestatic 51, 3) := by decide +kernel
theorem dX3_fewestLeftOut_27 : decode cX3_fewestLeftOut 27 = .ok (.iload 5, 2) := by decide +kernel
theorem dX3_fewestLeftOut_29 : decode cX3_fewestLeftOut 29 = .ok (.if_icmp .ne 24, 3) := by decide +kernel
theorem dX3_fewestLeftOut_32 : decode cX3_fewestLeftOut 32 = .ok (.aload_n 0, 1) := by decide +kernel
theorem dX3_fewestLeftOut_33 : decode cX3_fewestLeftOut 33 = .ok (.iload_n 1, 1) := by decide +kernel
theorem dX3_fewestLeftOut_34 : decode cX3_fewestLeftOut 34 = .ok (.aload_n 2, 1) := by decide +kernel
theorem dX3_fewestLeftOut_35 : decode cX3_fewestLeftOut 35 = .ok (.iload_n 3, 1) := by decide +kernel
theorem dX3_fewestLeftOut_36 : decode cX3_fewestLeftOut 36 = .ok (.iload 4, 2) := by decide +kernel
theorem dX3_fewestLeftOut_38 : decode cX3_fewestLeftOut 38 = .ok (.iload 6, 2) := by decide +kernel
theorem dX3_fewestLeftOut_40 : decode cX3_fewestLeftOut 40 = .ok (.invokevirtual 56, 3) := by decide +kernel
theorem dX3_fewestLeftOut_43 : decode cX3_fewestLeftOut 43 = .ok (.aload_n 0, 1) := by decide +kernel
theorem dX3_fewestLeftOut_44 : decode cX3_fewestLeftOut 44 = .ok (.invokevirtual 47, 3) := by decide +kernel
theorem dX3_fewestLeftOut_47 : decode cX3_fewestLeftOut 47 = .ok (.ifCond .eq 6, 3) := by decide +kernel
theorem dX3_fewestLeftOut_50 : decode cX3_fewestLeftOut 50 = .ok (.iload 6, 2) := by decide +kernel
theorem dX3_fewestLeftOut_52 : decode cX3_fewestLeftOut 52 = .ok (.ireturn, 1) := by decide +kernel
theorem dX3_fewestLeftOut_53 : decode cX3_fewestLeftOut 53 = .ok (.iinc 6 1, 3) := by decide +kernel
theorem dX3_fewestLeftOut_56 : decode cX3_fewestLeftOut 56 = .ok (.goto (-43), 3) := by decide +kernel
theorem dX3_fewestLeftOut_59 : decode cX3_fewestLeftOut 59 = .ok (.iinc 5 1, 3) := by decide +kernel
theorem dX3_fewestLeftOut_62 : decode cX3_fewestLeftOut 62 = .ok (.goto (-59), 3) := by decide +kernel
theorem dX3_fewestLeftOut_65 : decode cX3_fewestLeftOut 65 = .ok (.iconst 0, 1) := by decide +kernel
theorem dX3_fewestLeftOut_66 : decode cX3_fewestLeftOut 66 = .ok (.ireturn, 1) := by decide +kernel
theorem dX4_init_0 : decode cX4_init 0 = .ok (.aload_n 0, 1) := by decide +kernel
theorem dX4_init_1 : decode cX4_init 1 = .ok (.invokespecial 3, 3) := by decide +kernel
theorem dX4_init_4 : decode cX4_init 4 = .ok (.aload_n 0, 1) := by decide +kernel
theorem dX4_init_5 : decode cX4_init 5 = .ok (.new 9, 3) := by decide +kernel
theorem dX4_init_8 : decode cX4_init 8 = .ok (.dup, 1) := by decide +kernel
theorem dX4_init_9 : decode cX4_init 9 = .ok (.invokespecial 11, 3) := by decide +kernel
theorem dX4_init_12 : decode cX4_init 12 = .ok (.putfield 12, 3) := by decide +kernel
theorem dX4_init_15 : decode cX4_init 15 = .ok (.aload_n 0, 1) := by decide +kernel
theorem dX4_init_16 : decode cX4_init 16 = .ok (.bipush 6, 2) := by decide +kernel
theorem dX4_init_18 : decode cX4_init 18 = .ok (.newarray .int, 2) := by decide +kernel
theorem dX4_init_20 : decode cX4_init 20 = .ok (.putfield 18, 3) := by decide +kernel
theorem dX4_init_23 : decode cX4_init 23 = .ok (.return_, 1) := by decide +kernel
theorem dX4_isAct_0 : decode cX4_isAct 0 = .ok (.iload_n 0, 1) := by decide +kernel
theorem dX4_isAct_1 : decode cX4_isAct 1 = .ok (.ifCond .lt 9, 3) := by decide +kernel
theorem dX4_isAct_4 : decode cX4_isAct 4 = .ok (.iload_n 0, 1) := by decide +kernel
theorem dX4_isAct_5 : decode cX4_isAct 5 = .ok (.bipush 6, 2) := by decide +kernel
theorem dX4_isAct_7 : decode cX4_isAct 7 = .ok (.if_icmp .lt 21, 3) := by decide +kernel
theorem dX4_isAct_10 : decode cX4_isAct 10 = .ok (.iload_n 0, 1) := by decide +kernel
theorem dX4_isAct_11 : decode cX4_isAct 11 = .ok (.bipush 10, 2) := by decide +kernel
theorem dX4_isAct_13 : decode cX4_isAct 13 = .ok (.if_icmp .eq 15, 3) := by decide +kernel
theorem dX4_isAct_16 : decode cX4_isAct 16 = .ok (.iload_n 0, 1) := by decide +kernel
theorem dX4_isAct_17 : decode cX4_isAct 17 = .ok (.bipush 20, 2) := by decide +kernel
theorem dX4_isAct_19 : decode cX4_isAct 19 = .ok (.if_icmp .lt 13, 3) := by decide +kernel
theorem dX4_isAct_22 : decode cX4_isAct 22 = .ok (.iload_n 0, 1) := by decide +kernel
theorem dX4_isAct_23 : decode cX4_isAct 23 = .ok (.bipush 29, 2) := by decide +kernel
theorem dX4_isAct_25 : decode cX4_isAct 25 = .ok (.if_icmp .gt 7, 3) := by decide +kernel
theorem dX4_isAct_28 : decode cX4_isAct 28 = .ok (.iconst 1, 1) := by decide +kernel
theorem dX4_isAct_29 : decode cX4_isAct 29 = .ok (.goto 4, 3) := by decide +kernel
theorem dX4_isAct_32 : decode cX4_isAct 32 = .ok (.iconst 0, 1) := by decide +kernel
theorem dX4_isAct_33 : decode cX4_isAct 33 = .ok (.ireturn, 1) := by decide +kernel
theorem dX4_run_0 : decode cX4_run 0 = .ok (.aload_n 0, 1) := by decide +kernel
theorem dX4_run_1 : decode cX4_run 1 = .ok (.getfield 12, 3) := by decide +kernel
theorem dX4_run_4 : decode cX4_run 4 = .ok (.aload_n 1, 1) := by decide +kernel
theorem dX4_run_5 : decode cX4_run 5 = .ok (.invokevirtual 22, 3) := by decide +kernel
theorem dX4_run_8 : decode cX4_run 8 = .ok (.aload_n 0, 1) := by decide +kernel
theorem dX4_run_9 : decode cX4_run 9 = .ok (.getfield 18, 3) := by decide +kernel
theorem dX4_run_12 : decode cX4_run 12 = .ok (.iconst 0, 1) := by decide +kernel
theorem dX4_run_13 : decode cX4_run 13 = .ok (.invokestatic 26, 3) := by decide +kernel
theorem dX4_run_16 : decode cX4_run 16 = .ok (.aload_n 0, 1) := by decide +kernel
theorem dX4_run_17 : decode cX4_run 17 = .ok (.iconst 0, 1) := by decide +kernel
theorem dX4_run_18 : decode cX4_run 18 = .ok (.putfield 32, 3) := by decide +kernel
theorem dX4_run_21 : decode cX4_run 21 = .ok (.aload_n 0, 1) := by decide +kernel
theorem dX4_run_22 : decode cX4_run 22 = .ok (.bipush (-9), 2) := by decide +kernel
theorem dX4_run_24 : decode cX4_run 24 = .ok (.putfield 36, 3) := by decide +kernel
theorem dX4_run_27 : decode cX4_run 27 = .ok (.aload_n 0, 1) := by decide +kernel
theorem dX4_run_28 : decode cX4_run 28 = .ok (.bipush (-9), 2) := by decide +kernel
theorem dX4_run_30 : decode cX4_run 30 = .ok (.putfield 39, 3) := by decide +kernel
theorem dX4_run_33 : decode cX4_run 33 = .ok (.iconst 0, 1) := by decide +kernel
theorem dX4_run_34 : decode cX4_run 34 = .ok (.istore 5, 2) := by decide +kernel
theorem dX4_run_36 : decode cX4_run 36 = .ok (.iload 5, 2) := by decide +kernel
theorem dX4_run_38 : decode cX4_run 38 = .ok (.iload 4, 2) := by decide +kernel
theorem dX4_run_40 : decode cX4_run 40 = .ok (.if_icmp .ge 53, 3) := by decide +kernel
theorem dX4_run_43 : decode cX4_run 43 = .ok (.aload_n 0, 1) := by decide +kernel
theorem dX4_run_44 : decode cX4_run 44 = .ok (.getfield 39, 3) := by decide +kernel
theorem dX4_run_47 : decode cX4_run 47 = .ok (.bipush (-9), 2) := by decide +kernel
theorem dX4_run_49 : decode cX4_run 49 = .ok (.if_icmp .ne 44, 3) := by decide +kernel
theorem dX4_run_52 : decode cX4_run 52 = .ok (.aload_n 0, 1) := by decide +kernel
theorem dX4_run_53 : decode cX4_run 53 = .ok (.aload_n 2, 1) := by decide +kernel
theorem dX4_run_54 : decode cX4_run 54 = .ok (.iload_n 3, 1) := by decide +kernel
theorem dX4_run_55 : decode cX4_run 55 = .ok (.iconst 2, 1) := by decide +kernel
theorem dX4_run_56 : decode cX4_run 56 = .ok (.iload 5, 2) := by decide +kernel
theorem dX4_run_58 : decode cX4_run 58 = .ok (.imul, 1) := by decide +kernel
theorem dX4_run_59 : decode cX4_run 59 = .ok (.iadd, 1) := by decide +kernel
theorem dX4_run_60 : decode cX4_run 60 = .ok (.invokevirtual 42, 3) := by decide +kernel
theorem dX4_run_63 : decode cX4_run 63 = .ok (.aload_n 2, 1) := by decide +kernel
theorem dX4_run_64 : decode cX4_run 64 = .ok (.iload_n 3, 1) := by decide +kernel
theorem dX4_run_65 : decode cX4_run 65 = .ok (.iconst 2, 1) := by decide +kernel
theorem dX4_run_66 : decode cX4_run 66 = .ok (.iload 5, 2) := by decide +kernel
theorem dX4_run_68 : decode cX4_run 68 = .ok (.imul, 1) := by decide +kernel
theorem dX4_run_69 : decode cX4_run 69 = .ok (.iadd, 1) := by decide +kernel
theorem dX4_run_70 : decode cX4_run 70 = .ok (.iconst 1, 1) := by decide +kernel
theorem dX4_run_71 : decode cX4_run 71 = .ok (.iadd, 1) := by decide +kernel
theorem dX4_run_72 : decode cX4_run 72 = .ok (.invokevirtual 42, 3) := by decide +kernel
theorem dX4_run_75 : decode cX4_run 75 = .ok (.invokevirtual 48, 3) := by decide +kernel
theorem dX4_run_78 : decode cX4_run 78 = .ok (.ifCond .ne 9, 3) := by decide +kernel
theorem dX4_run_81 : decode cX4_run 81 = .ok (.aload_n 0, 1) := by decide +kernel
theorem dX4_run_82 : decode cX4_run 82 = .ok (.iload 5, 2) := by decide +kernel
theorem dX4_run_84 : decode cX4_run 84 = .ok (.putfield 39, 3) := by decide +kernel
theorem dX4_run_87 : decode cX4_run 87 = .ok (.iinc 5 1, 3) := by decide +kernel
theorem dX4_run_90 : decode cX4_run 90 = .ok (.goto (-54), 3) := by decide +kernel
theorem dX4_run_93 : decode cX4_run 93 = .ok (.return_, 1) := by decide +kernel
theorem dX4_goesOn_0 : decode cX4_goesOn 0 = .ok (.aload_n 0, 1) := by decide +kernel
theorem dX4_goesOn_1 : decode cX4_goesOn 1 = .ok (.getfield 12, 3) := by decide +kernel
theorem dX4_goesOn_4 : decode cX4_goesOn 4 = .ok (.iload_n 1, 1) := by decide +kernel
theorem dX4_goesOn_5 : decode cX4_goesOn 5 = .ok (.invokevirtual 52, 3) := by decide +kernel
theorem dX4_goesOn_8 : decode cX4_goesOn 8 = .ok (.ifCond .ne 5, 3) := by decide +kernel
theorem dX4_goesOn_11 : decode cX4_goesOn 11 = .ok (.iconst 0, 1) := by decide +kernel
theorem dX4_goesOn_12 : decode cX4_goesOn 12 = .ok (.ireturn, 1) := by decide +kernel
theorem dX4_goesOn_13 : decode cX4_goesOn 13 = .ok (.iload_n 2, 1) := by decide +kernel
theorem dX4_goesOn_14 : decode cX4_goesOn 14 = .ok (.bipush 20, 2) := by decide +kernel
theorem dX4_goesOn_16 : decode cX4_goesOn 16 = .ok (.if_icmp .lt 21, 3) := by decide +kernel
theorem dX4_goesOn_19 : decode cX4_goesOn 19 = .ok (.aload_n 0, 1) := by decide +kernel
theorem dX4_goesOn_20 : decode cX4_goesOn 20 = .ok (.getfield 12, 3) := by decide +kernel
theorem dX4_goesOn_23 : decode cX4_goesOn 23 = .ok (.getfield 56, 3) := by decide +kernel
theorem dX4_goesOn_26 : decode cX4_goesOn 26 = .ok (.iload_n 1, 1) := by decide +kernel
theorem dX4_goesOn_27 : decode cX4_goesOn 27 = .ok (.aaload, 1) := by decide +kernel
theorem dX4_goesOn_28 : decode cX4_goesOn 28 = .ok (.iload_n 2, 1) := by decide +kernel
theorem dX4_goesOn_29 : decode cX4_goesOn 29 = .ok (.bipush 20, 2) := by decide +kernel
theorem dX4_goesOn_31 : decode cX4_goesOn 31 = .ok (.isub, 1) := by decide +kernel
theorem dX4_goesOn_32 : decode cX4_goesOn 32 = .ok (.putfield 60, 3) := by decide +kernel
theorem dX4_goesOn_35 : decode cX4_goesOn 35 = .ok (.iconst 1, 1) := by decide +kernel
theorem dX4_goesOn_36 : decode cX4_goesOn 36 = .ok (.ireturn, 1) := by decide +kernel
theorem dX4_goesOn_37 : decode cX4_goesOn 37 = .ok (.iload_n 2, 1) := by decide +kernel
theorem dX4_goesOn_38 : decode cX4_goesOn 38 = .ok (.bipush 10, 2) := by decide +kernel
theorem dX4_goesOn_40 : decode cX4_goesOn 40 = .ok (.if_icmp .ne 18, 3) := by decide +kernel
theorem dX4_goesOn_43 : decode cX4_goesOn 43 = .ok (.aload_n 0, 1) := by decide +kernel
theorem dX4_goesOn_44 : decode cX4_goesOn 44 = .ok (.getfield 12, 3) := by decide +kernel
theorem dX4_goesOn_47 : decode cX4_goesOn 47 = .ok (.getfield 56, 3) := by decide +kernel
theorem dX4_goesOn_50 : decode cX4_goesOn 50 = .ok (.iload_n 1, 1) := by decide +kernel
theorem dX4_goesOn_51 : decode cX4_goesOn 51 = .ok (.aaload, 1) := by decide +kernel
theorem dX4_goesOn_52 : decode cX4_goesOn 52 = .ok (.invokestatic 65, 3) := by decide +kernel
theorem dX4_goesOn_55 : decode cX4_goesOn 55 = .ok (.goto 9, 3) := by decide +kernel
theorem dX4_goesOn_58 : decode cX4_goesOn 58 = .ok (.aload_n 0, 1) := by decide +kernel
theorem dX4_goesOn_59 : decode cX4_goesOn 59 = .ok (.iload_n 1, 1) := by decide +kernel
theorem dX4_goesOn_60 : decode cX4_goesOn 60 = .ok (.iload_n 2, 1) := by decide +kernel
theorem dX4_goesOn_61 : decode cX4_goesOn 61 = .ok (.invokevirtual 69, 3) := by decide +kernel
theorem dX4_goesOn_64 : decode cX4_goesOn 64 = .ok (.ireturn, 1) := by decide +kernel
theorem dX4_comesBack_0 : decode cX4_comesBack 0 = .ok (.aload_n 0, 1) := by decide +kernel
theorem dX4_comesBack_1 : decode cX4_comesBack 1 = .ok (.getfield 72, 3) := by decide +kernel
theorem dX4_comesBack_4 : decode cX4_comesBack 4 = .ok (.istore_n 1, 1) := by decide +kernel
theorem dX4_comesBack_5 : decode cX4_comesBack 5 = .ok (.aload_n 0, 1) := by decide +kernel
theorem dX4_comesBack_6 : decode cX4_comesBack 6 = .ok (.iconst 0, 1) := by decide +kernel
theorem dX4_comesBack_7 : decode cX4_comesBack 7 = .ok (.putfield 72, 3) := by decide +kernel
theorem dX4_comesBack_10 : decode cX4_comesBack 10 = .ok (.iload_n 1, 1) := by decide +kernel
theorem dX4_comesBack_11 : decode cX4_comesBack 11 = .ok (.ireturn, 1) := by decide +kernel
theorem dX4_playShy_0 : decode cX4_playShy 0 = .ok (.aload_n 0, 1) := by decide +kernel
theorem dX4_playShy_1 : decode cX4_playShy 1 = .ok (.getfield 12, 3) := by decide +kernel
theorem dX4_playShy_4 : decode cX4_playShy 4 = .ok (.iload_n 1, 1) := by decide +kernel
theorem dX4_playShy_5 : decode cX4_playShy 5 = .ok (.iload_n 2, 1) := by decide +kernel
theorem dX4_playShy_6 : decode cX4_playShy 6 = .ok (.invokevirtual 76, 3) := by decide +kernel
theorem dX4_playShy_9 : decode cX4_playShy 9 = .ok (.ifCond .eq 15, 3) := by decide +kernel
theorem dX4_playShy_12 : decode cX4_playShy 12 = .ok (.aload_n 0, 1) := by decide +kernel
theorem dX4_playShy_13 : decode cX4_playShy 13 = .ok (.getfield 12, 3) := by decide +kernel
theorem dX4_playShy_16 : decode cX4_playShy 16 = .ok (.iload_n 1, 1) := by decide +kernel
theorem dX4_playShy_17 : decode cX4_playShy 17 = .ok (.iload_n 2, 1) := by decide +kernel
theorem dX4_playShy_18 : decode cX4_playShy 18 = .ok (.invokevirtual 79, 3) := by decide +kernel
theorem dX4_playShy_21 : decode cX4_playShy 21 = .ok (.ifCond .ne 5, 3) := by decide +kernel
theorem dX4_playShy_24 : decode cX4_playShy 24 = .ok (.iconst 0, 1) := by decide +kernel
theorem dX4_playShy_25 : decode cX4_playShy 25 = .ok (.ireturn, 1) := by decide +kernel
theorem dX4_playShy_26 : decode cX4_playShy 26 = .ok (.aload_n 0, 1) := by decide +kernel
theorem dX4_playShy_27 : decode cX4_playShy 27 = .ok (.getfield 18, 3) := by decide +kernel
theorem dX4_playShy_30 : decode cX4_playShy 30 = .ok (.iload_n 1, 1) := by decide +kernel
theorem dX4_playShy_31 : decode cX4_playShy 31 = .ok (.dup2, 1) := by decide +kernel
theorem dX4_playShy_32 : decode cX4_playShy 32 = .ok (.iaload, 1) := by decide +kernel
theorem dX4_playShy_33 : decode cX4_playShy 33 = .ok (.iconst 1, 1) := by decide +kernel
theorem dX4_playShy_34 : decode cX4_playShy 34 = .ok (.iadd, 1) := by decide +kernel
theorem dX4_playShy_35 : decode cX4_playShy 35 = .ok (.iastore, 1) := by decide +kernel
theorem dX4_playShy_36 : decode cX4_playShy 36 = .ok (.aload_n 0, 1) := by decide +kernel
theorem dX4_playShy_37 : decode cX4_playShy 37 = .ok (.getfield 18, 3) := by decide +kernel
theorem dX4_playShy_40 : decode cX4_playShy 40 = .ok (.iload_n 2, 1) := by decide +kernel
theorem dX4_playShy_41 : decode cX4_playShy 41 = .ok (.dup2, 1) := by decide +kernel
theorem dX4_playShy_42 : decode cX4_playShy 42 = .ok (.iaload, 1) := by decide +kernel
theorem dX4_playShy_43 : decode cX4_playShy 43 = .ok (.iconst 1, 1) := by decide +kernel
theorem dX4_playShy_44 : decode cX4_playShy 44 = .ok (.iadd, 1) := by decide +kernel
theorem dX4_playShy_45 : decode cX4_playShy 45 = .ok (.iastore, 1) := by decide +kernel
theorem dX4_playShy_46 : decode cX4_playShy 46 = .ok (.aload_n 0, 1) := by decide +kernel
theorem dX4_playShy_47 : decode cX4_playShy 47 = .ok (.getfield 12, 3) := by decide +kernel
theorem dX4_playShy_50 : decode cX4_playShy 50 = .ok (.iload_n 1, 1) := by decide +kernel
theorem dX4_playShy_51 : decode cX4_playShy 51 = .ok (.iload_n 2, 1) := by decide +kernel
theorem dX4_playShy_52 : decode cX4_playShy 52 = .ok (.aload_n 0, 1) := by decide +kernel
theorem dX4_playShy_53 : decode cX4_playShy 53 = .ok (.getfield 12, 3) := by decide +kernel
theorem dX4_playShy_56 : decode cX4_playShy 56 = .ok (.getfield 56, 3) := by decide +kernel
theorem dX4_playShy_59 : decode cX4_playShy 59 = .ok (.iload_n 1, 1) := by decide +kernel
theorem dX4_playShy_60 : decode cX4_playShy 60 = .ok (.aaload, 1) := by decide +kernel
theorem dX4_playShy_61 : decode cX4_playShy 61 = .ok (.invokevirtual 82, 3) := by decide +kernel
theorem dX4_playShy_64 : decode cX4_playShy 64 = .ok (.aload_n 0, 1) := by decide +kernel
theorem dX4_playShy_65 : decode cX4_playShy 65 = .ok (.getfield 12, 3) := by decide +kernel
theorem dX4_playShy_68 : decode cX4_playShy 68 = .ok (.getfield 56, 3) := by decide +kernel
theorem dX4_playShy_71 : decode cX4_playShy 71 = .ok (.iload_n 2, 1) := by decide +kernel
theorem dX4_playShy_72 : decode cX4_playShy 72 = .ok (.aaload, 1) := by decide +kernel
theorem dX4_playShy_73 : decode cX4_playShy 73 = .ok (.invokevirtual 82, 3) := by decide +kernel
theorem dX4_playShy_76 : decode cX4_playShy 76 = .ok (.invokevirtual 86, 3) := by decide +kernel
theorem dX4_playShy_79 : decode cX4_playShy 79 = .ok (.istore_n 3, 1) := by decide +kernel
theorem dX4_playShy_80 : decode cX4_playShy 80 = .ok (.iload_n 3, 1) := by decide +kernel
theorem dX4_playShy_81 : decode cX4_playShy 81 = .ok (.bipush (-9), 2) := by decide +kernel
theorem dX4_playShy_83 : decode cX4_playShy 83 = .ok (.if_icmp .ne 16, 3) := by decide +kernel
theorem dX4_playShy_86 : decode cX4_playShy 86 = .ok (.aload_n 0, 1) := by decide +kernel
theorem dX4_playShy_87 : decode cX4_playShy 87 = .ok (.dup, 1) := by decide +kernel
theorem dX4_playShy_88 : decode cX4_playShy 88 = .ok (.getfield 32, 3) := by decide +kernel
theorem dX4_playShy_91 : decode cX4_playShy 91 = .ok (.iconst 1, 1) := by decide +kernel
theorem dX4_playShy_92 : decode cX4_playShy 92 = .ok (.iadd, 1) := by decide +kernel
theorem dX4_playShy_93 : decode cX4_playShy 93 = .ok (.putfield 32, 3) := by decide +kernel
theorem dX4_playShy_96 : decode cX4_playShy 96 = .ok (.goto 8, 3) := by decide +kernel
theorem dX4_playShy_99 : decode cX4_playShy 99 = .ok (.aload_n 0, 1) := by decide +kernel
theorem dX4_playShy_100 : decode cX4_playShy 100 = .ok (.iload_n 3, 1) := by decide +kernel
theorem dX4_playShy_101 : decode cX4_playShy 101 = .ok (.putfield 36, 3) := by decide +kernel
theorem dX4_playShy_104 : decode cX4_playShy 104 = .ok (.iconst 1, 1) := by decide +kernel
theorem dX4_playShy_105 : decode cX4_playShy 105 = .ok (.ireturn, 1) := by decide +kernel
theorem dX4_answer_0 : decode cX4_answer 0 = .ok (.iload_n 1, 1) := by decide +kernel
theorem dX4_answer_1 : decode cX4_answer 1 = .ok (.iconst 1, 1) := by decide +kernel
theorem dX4_answer_2 : decode cX4_answer 2 = .ok (.if_icmp .ne 8, 3) := by decide +kernel
theorem dX4_answer_5 : decode cX4_answer 5 = .ok (.aload_n 0, 1) := by decide +kernel
theorem dX4_answer_6 : decode cX4_answer 6 = .ok (.getfield 39, 3) := by decide +kernel
theorem dX4_answer_9 : decode cX4_answer 9 = .ok (.ireturn, 1) := by decide +kernel
theorem dX4_answer_10 : decode cX4_answer 10 = .ok (.aload_n 0, 1) := by decide +kernel
theorem dX4_answer_11 : decode cX4_answer 11 = .ok (.getfield 39, 3) := by decide +kernel
theorem dX4_answer_14 : decode cX4_answer 14 = .ok (.bipush (-9), 2) := by decide +kernel
theorem dX4_answer_16 : decode cX4_answer 16 = .ok (.if_icmp .eq 11, 3) := by decide +kernel
theorem dX4_answer_19 : decode cX4_answer 19 = .ok (.bipush (-100), 2) := by decide +kernel
theorem dX4_answer_21 : decode cX4_answer 21 = .ok (.aload_n 0, 1) := by decide +kernel
theorem dX4_answer_22 : decode cX4_answer 22 = .ok (.getfield 39, 3) := by decide +kernel
theorem dX4_answer_25 : decode cX4_answer 25 = .ok (.isub, 1) := by decide +kernel
theorem dX4_answer_26 : decode cX4_answer 26 = .ok (.ireturn, 1) := by decide +kernel
theorem dX4_answer_27 : decode cX4_answer 27 = .ok (.iload_n 1, 1) := by decide +kernel
theorem dX4_answer_28 : decode cX4_answer 28 = .ok (.tableswitch 73 0 4 #[36, 73, 55, 63, 68], 36) := by decide +kernel
theorem dX4_answer_64 : decode cX4_answer 64 = .ok (.aload_n 0, 1) := by decide +kernel
theorem dX4_answer_65 : decode cX4_answer 65 = .ok (.getfield 12, 3) := by decide +kernel
theorem dX4_answer_68 : decode cX4_answer 68 = .ok (.getfield 90, 3) := by decide +kernel
theorem dX4_answer_71 : decode cX4_answer 71 = .ok (.aload_n 0, 1) := by decide +kernel
theorem dX4_answer_72 : decode cX4_answer 72 = .ok (.getfield 12, 3) := by decide +kernel
theorem dX4_answer_75 : decode cX4_answer 75 = .ok (.invokevirtual 93, 3) := by decide +kernel
theorem dX4_answer_78 : decode cX4_answer 78 = .ok (.invokestatic 96, 3) := by decide +kernel
theorem dX4_answer_81 : decode cX4_answer 81 = .ok (.isub, 1) := by decide +kernel
theorem dX4_answer_82 : decode cX4_answer 82 = .ok (.ireturn, 1) := by decide +kernel
theorem dX4_answer_83 : decode cX4_answer 83 = .ok (.aload_n 0, 1) := by decide +kernel
theorem dX4_answer_84 : decode cX4_answer 84 = .ok (.getfield 12, 3) := by decide +kernel
theorem dX4_answer_87 : decode cX4_answer 87 = .ok (.invokevirtual 93, 3) := by decide +kernel
theorem dX4_answer_90 : decode cX4_answer 90 = .ok (.ireturn, 1) := by decide +kernel
theorem dX4_answer_91 : decode cX4_answer 91 = .ok (.aload_n 0, 1) := by decide +kernel
theorem dX4_answer_92 : decode cX4_answer 92 = .ok (.getfield 32, 3) := by decide +kernel
theorem dX4_answer_95 : decode cX4_answer 95 = .ok (.ireturn, 1) := by decide +kernel
theorem dX4_answer_96 : decode cX4_answer 96 = .ok (.aload_n 0, 1) := by decide +kernel
theorem dX4_answer_97 : decode cX4_answer 97 = .ok (.getfield 36, 3) := by decide +kernel
theorem dX4_answer_100 : decode cX4_answer 100 = .ok (.ireturn, 1) := by decide +kernel
theorem dX4_answer_101 : decode cX4_answer 101 = .ok (.aload_n 0, 1) := by decide +kernel
theorem dX4_answer_102 : decode cX4_answer 102 = .ok (.getfield 12, 3) := by decide +kernel
theorem dX4_answer_105 : decode cX4_answer 105 = .ok (.iload_n 1, 1) := by decide +kernel
theorem dX4_answer_106 : decode cX4_answer 106 = .ok (.bipush 10, 2) := by decide +kernel
theorem dX4_answer_108 : decode cX4_answer 108 = .ok (.isub, 1) := by decide +kernel
theorem dX4_answer_109 : decode cX4_answer 109 = .ok (.invokevirtual 52, 3) := by decide +kernel
theorem dX4_answer_112 : decode cX4_answer 112 = .ok (.ifCond .eq 15, 3) := by decide +kernel
theorem dX4_answer_115 : decode cX4_answer 115 = .ok (.aload_n 0, 1) := by decide +kernel
theorem dX4_answer_116 : decode cX4_answer 116 = .ok (.getfield 18, 3) := by decide +kernel
theorem dX4_answer_119 : decode cX4_answer 119 = .ok (.iload_n 1, 1) := by decide +kernel
theorem dX4_answer_120 : decode cX4_answer 120 = .ok (.bipush 10, 2) := by decide +kernel
theorem dX4_answer_122 : decode cX4_answer 122 = .ok (.isub, 1) := by decide +kernel
theorem dX4_answer_123 : decode cX4_answer 123 = .ok (.iaload, 1) := by decide +kernel
theorem dX4_answer_124 : decode cX4_answer 124 = .ok (.goto 5, 3) := by decide +kernel
theorem dX4_answer_127 : decode cX4_answer 127 = .ok (.bipush (-9), 2) := by decide +kernel
theorem dX4_answer_129 : decode cX4_answer 129 = .ok (.ireturn, 1) := by decide +kernel
theorem dX5_init_0 : decode cX5_init 0 = .ok (.aload_n 0, 1) := by decide +kernel
theorem dX5_init_1 : decode cX5_init 1 = .ok (.invokespecial 3, 3) := by decide +kernel
theorem dX5_init_4 : decode cX5_init 4 = .ok (.aload_n 0, 1) := by decide +kernel
theorem dX5_init_5 : decode cX5_init 5 = .ok (.bipush 60, 2) := by decide +kernel
theorem dX5_init_7 : decode cX5_init 7 = .ok (.newarray .int, 2) := by decide +kernel
theorem dX5_init_9 : decode cX5_init 9 = .ok (.putfield 9, 3) := by decide +kernel
theorem dX5_init_12 : decode cX5_init 12 = .ok (.return_, 1) := by decide +kernel
theorem dX5_renew_0 : decode cX5_renew 0 = .ok (.aload_n 0, 1) := by decide +kernel
theorem dX5_renew_1 : decode cX5_renew 1 = .ok (.getfield 9, 3) := by decide +kernel
theorem dX5_renew_4 : decode cX5_renew 4 = .ok (.iconst 0, 1) := by decide +kernel
theorem dX5_renew_5 : decode cX5_renew 5 = .ok (.invokestatic 15, 3) := by decide +kernel
theorem dX5_renew_8 : decode cX5_renew 8 = .ok (.aload_n 0, 1) := by decide +kernel
theorem dX5_renew_9 : decode cX5_renew 9 = .ok (.iconst 1, 1) := by decide +kernel
theorem dX5_renew_10 : decode cX5_renew 10 = .ok (.putfield 21, 3) := by decide +kernel
theorem dX5_renew_13 : decode cX5_renew 13 = .ok (.aload_n 0, 1) := by decide +kernel
theorem dX5_renew_14 : decode cX5_renew 14 = .ok (.iload_n 1, 1) := by decide +kernel
theorem dX5_renew_15 : decode cX5_renew 15 = .ok (.putfield 25, 3) := by decide +kernel
theorem dX5_renew_18 : decode cX5_renew 18 = .ok (.aload_n 0, 1) := by decide +kernel
theorem dX5_renew_19 : decode cX5_renew 19 = .ok (.iload_n 2, 1) := by decide +kernel
theorem dX5_renew_20 : decode cX5_renew 20 = .ok (.putfield 29, 3) := by decide +kernel
theorem dX5_renew_23 : decode cX5_renew 23 = .ok (.return_, 1) := by decide +kernel
theorem dX5_reaches_0 : decode cX5_reaches 0 = .ok (.iload_n 2, 1) := by decide +kernel
theorem dX5_reaches_1 : decode cX5_reaches 1 = .ok (.ifCond .lt 21, 3) := by decide +kernel
theorem dX5_reaches_4 : decode cX5_reaches 4 = .ok (.iload_n 1, 1) := by decide +kernel
theorem dX5_reaches_5 : decode cX5_reaches 5 = .ok (.ifCond .lt 17, 3) := by decide +kernel
theorem dX5_reaches_8 : decode cX5_reaches 8 = .ok (.iload_n 1, 1) := by decide +kernel
theorem dX5_reaches_9 : decode cX5_reaches 9 = .ok (.aload_n 0, 1) := by decide +kernel
theorem dX5_reaches_10 : decode cX5_reaches 10 = .ok (.getfield 29, 3) := by decide +kernel
theorem dX5_reaches_13 : decode cX5_reaches 13 = .ok (.iload_n 2, 1) := by decide +kernel
theorem dX5_reaches_14 : decode cX5_reaches 14 = .ok (.isub, 1) := by decide +kernel
theorem dX5_reaches_15 : decode cX5_reaches 15 = .ok (.if_icmp .gt 7, 3) := by decide +kernel
theorem dX5_reaches_18 : decode cX5_reaches 18 = .ok (.iconst 1, 1) := by decide +kernel
theorem dX5_reaches_19 : decode cX5_reaches 19 = .ok (.goto 4, 3) := by decide +kernel
theorem dX5_reaches_22 : decode cX5_reaches 22 = .ok (.iconst 0, 1) := by decide +kernel
theorem dX5_reaches_23 : decode cX5_reaches 23 = .ok (.ireturn, 1) := by decide +kernel
