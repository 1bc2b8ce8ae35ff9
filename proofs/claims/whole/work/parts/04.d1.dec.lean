theorem dX5_faultOfRow_0 : decode cX5_faultOfRow 0 = .ok (.aload_n 0, 1) := by decide +kernel
theorem dX5_faultOfRow_1 : decode cX5_faultOfRow 1 = .ok (.getfield 21, 3) := by decide +kernel
theorem dX5_faultOfRow_4 : decode cX5_faultOfRow 4 = .ok (.ifCond .ne 5, 3) := by decide +kernel
theorem dX5_faultOfRow_7 : decode cX5_faultOfRow 7 = .ok (.iconst 1, 1) := by decide +kernel
theorem dX5_faultOfRow_8 : decode cX5_faultOfRow 8 = .ok (.ireturn, 1) := by decide +kernel
theorem dX5_faultOfRow_9 : decode cX5_faultOfRow 9 = .ok (.aload_n 0, 1) := by decide +kernel
theorem dX5_faultOfRow_10 : decode cX5_faultOfRow 10 = .ok (.getfield 25, 3) := by decide +kernel
theorem dX5_faultOfRow_13 : decode cX5_faultOfRow 13 = .ok (.iload_n 1, 1) := by decide +kernel
theorem dX5_faultOfRow_14 : decode cX5_faultOfRow 14 = .ok (.if_icmp .eq 5, 3) := by decide +kernel
theorem dX5_faultOfRow_17 : decode cX5_faultOfRow 17 = .ok (.iconst 2, 1) := by decide +kernel
theorem dX5_faultOfRow_18 : decode cX5_faultOfRow 18 = .ok (.ireturn, 1) := by decide +kernel
theorem dX5_faultOfRow_19 : decode cX5_faultOfRow 19 = .ok (.iload_n 3, 1) := by decide +kernel
theorem dX5_faultOfRow_20 : decode cX5_faultOfRow 20 = .ok (.ifCond .ge 5, 3) := by decide +kernel
theorem dX5_faultOfRow_23 : decode cX5_faultOfRow 23 = .ok (.iconst 4, 1) := by decide +kernel
theorem dX5_faultOfRow_24 : decode cX5_faultOfRow 24 = .ok (.ireturn, 1) := by decide +kernel
theorem dX5_faultOfRow_25 : decode cX5_faultOfRow 25 = .ok (.aload_n 0, 1) := by decide +kernel
theorem dX5_faultOfRow_26 : decode cX5_faultOfRow 26 = .ok (.iload_n 2, 1) := by decide +kernel
theorem dX5_faultOfRow_27 : decode cX5_faultOfRow 27 = .ok (.iload_n 3, 1) := by decide +kernel
theorem dX5_faultOfRow_28 : decode cX5_faultOfRow 28 = .ok (.invokevirtual 32, 3) := by decide +kernel
theorem dX5_faultOfRow_31 : decode cX5_faultOfRow 31 = .ok (.ifCond .eq 7, 3) := by decide +kernel
theorem dX5_faultOfRow_34 : decode cX5_faultOfRow 34 = .ok (.iconst 0, 1) := by decide +kernel
theorem dX5_faultOfRow_35 : decode cX5_faultOfRow 35 = .ok (.goto 4, 3) := by decide +kernel
theorem dX5_faultOfRow_38 : decode cX5_faultOfRow 38 = .ok (.iconst 3, 1) := by decide +kernel
theorem dX5_faultOfRow_39 : decode cX5_faultOfRow 39 = .ok (.ireturn, 1) := by decide +kernel
theorem dX5_read_0 : decode cX5_read 0 = .ok (.aload_n 0, 1) := by decide +kernel
theorem dX5_read_1 : decode cX5_read 1 = .ok (.iload_n 1, 1) := by decide +kernel
theorem dX5_read_2 : decode cX5_read 2 = .ok (.iconst 1, 1) := by decide +kernel
theorem dX5_read_3 : decode cX5_read 3 = .ok (.invokevirtual 32, 3) := by decide +kernel
theorem dX5_read_6 : decode cX5_read 6 = .ok (.ifCond .eq 12, 3) := by decide +kernel
theorem dX5_read_9 : decode cX5_read 9 = .ok (.aload_n 0, 1) := by decide +kernel
theorem dX5_read_10 : decode cX5_read 10 = .ok (.getfield 9, 3) := by decide +kernel
theorem dX5_read_13 : decode cX5_read 13 = .ok (.iload_n 1, 1) := by decide +kernel
theorem dX5_read_14 : decode cX5_read 14 = .ok (.iaload, 1) := by decide +kernel
theorem dX5_read_15 : decode cX5_read 15 = .ok (.goto 4, 3) := by decide +kernel
theorem dX5_read_18 : decode cX5_read 18 = .ok (.iconst 0, 1) := by decide +kernel
theorem dX5_read_19 : decode cX5_read 19 = .ok (.ireturn, 1) := by decide +kernel
theorem dX5_write_0 : decode cX5_write 0 = .ok (.aload_n 0, 1) := by decide +kernel
theorem dX5_write_1 : decode cX5_write 1 = .ok (.iload_n 1, 1) := by decide +kernel
theorem dX5_write_2 : decode cX5_write 2 = .ok (.iconst 1, 1) := by decide +kernel
theorem dX5_write_3 : decode cX5_write 3 = .ok (.invokevirtual 32, 3) := by decide +kernel
theorem dX5_write_6 : decode cX5_write 6 = .ok (.ifCond .ne 4, 3) := by decide +kernel
theorem dX5_write_9 : decode cX5_write 9 = .ok (.return_, 1) := by decide +kernel
theorem dX5_write_10 : decode cX5_write 10 = .ok (.aload_n 0, 1) := by decide +kernel
theorem dX5_write_11 : decode cX5_write 11 = .ok (.getfield 25, 3) := by decide +kernel
theorem dX5_write_14 : decode cX5_write 14 = .ok (.lookupswitch 48 #[(0, 26), (1, 37)], 26) := by decide +kernel
theorem dX5_write_40 : decode cX5_write 40 = .ok (.aload_n 0, 1) := by decide +kernel
theorem dX5_write_41 : decode cX5_write 41 = .ok (.getfield 9, 3) := by decide +kernel
theorem dX5_write_44 : decode cX5_write 44 = .ok (.iload_n 1, 1) := by decide +kernel
theorem dX5_write_45 : decode cX5_write 45 = .ok (.iload_n 2, 1) := by decide +kernel
theorem dX5_write_46 : decode cX5_write 46 = .ok (.i2b, 1) := by decide +kernel
theorem dX5_write_47 : decode cX5_write 47 = .ok (.iastore, 1) := by decide +kernel
theorem dX5_write_48 : decode cX5_write 48 = .ok (.goto 21, 3) := by decide +kernel
theorem dX5_write_51 : decode cX5_write 51 = .ok (.aload_n 0, 1) := by decide +kernel
theorem dX5_write_52 : decode cX5_write 52 = .ok (.getfield 9, 3) := by decide +kernel
theorem dX5_write_55 : decode cX5_write 55 = .ok (.iload_n 1, 1) := by decide +kernel
theorem dX5_write_56 : decode cX5_write 56 = .ok (.iload_n 2, 1) := by decide +kernel
theorem dX5_write_57 : decode cX5_write 57 = .ok (.i2s, 1) := by decide +kernel
theorem dX5_write_58 : decode cX5_write 58 = .ok (.iastore, 1) := by decide +kernel
theorem dX5_write_59 : decode cX5_write 59 = .ok (.goto 10, 3) := by decide +kernel
theorem dX5_write_62 : decode cX5_write 62 = .ok (.aload_n 0, 1) := by decide +kernel
theorem dX5_write_63 : decode cX5_write 63 = .ok (.getfield 9, 3) := by decide +kernel
theorem dX5_write_66 : decode cX5_write 66 = .ok (.iload_n 1, 1) := by decide +kernel
theorem dX5_write_67 : decode cX5_write 67 = .ok (.iload_n 2, 1) := by decide +kernel
theorem dX5_write_68 : decode cX5_write 68 = .ok (.iastore, 1) := by decide +kernel
theorem dX5_write_69 : decode cX5_write 69 = .ok (.return_, 1) := by decide +kernel
theorem dX6_firstFault_0 : decode cX6_firstFault 0 = .ok (.iconst 0, 1) := by decide +kernel
theorem dX6_firstFault_1 : decode cX6_firstFault 1 = .ok (.istore_n 3, 1) := by decide +kernel
theorem dX6_firstFault_2 : decode cX6_firstFault 2 = .ok (.iload_n 3, 1) := by decide +kernel
theorem dX6_firstFault_3 : decode cX6_firstFault 3 = .ok (.iload_n 2, 1) := by decide +kernel
theorem dX6_firstFault_4 : decode cX6_firstFault 4 = .ok (.if_icmp .ge 25, 3) := by decide +kernel
theorem dX6_firstFault_7 : decode cX6_firstFault 7 = .ok (.iload_n 3, 1) := by decide +kernel
theorem dX6_firstFault_8 : decode cX6_firstFault 8 = .ok (.aload_n 0, 1) := by decide +kernel
theorem dX6_firstFault_9 : decode cX6_firstFault 9 = .ok (.iload_n 1, 1) := by decide +kernel
theorem dX6_firstFault_10 : decode cX6_firstFault 10 = .ok (.iload_n 3, 1) := by decide +kernel
theorem dX6_firstFault_11 : decode cX6_firstFault 11 = .ok (.iadd, 1) := by decide +kernel
theorem dX6_firstFault_12 : decode cX6_firstFault 12 = .ok (.invokevirtual 9, 3) := by decide +kernel
theorem dX6_firstFault_15 : decode cX6_firstFault 15 = .ok (.invokestatic 15, 3) := by decide +kernel
theorem dX6_firstFault_18 : decode cX6_firstFault 18 = .ok (.ifCond .ne 5, 3) := by decide +kernel
theorem dX6_firstFault_21 : decode cX6_firstFault 21 = .ok (.iload_n 3, 1) := by decide +kernel
theorem dX6_firstFault_22 : decode cX6_firstFault 22 = .ok (.ireturn, 1) := by decide +kernel
theorem dX6_firstFault_23 : decode cX6_firstFault 23 = .ok (.iinc 3 1, 3) := by decide +kernel
theorem dX6_firstFault_26 : decode cX6_firstFault 26 = .ok (.goto (-24), 3) := by decide +kernel
theorem dX6_firstFault_29 : decode cX6_firstFault 29 = .ok (.iload_n 2, 1) := by decide +kernel
theorem dX6_firstFault_30 : decode cX6_firstFault 30 = .ok (.bipush 9, 2) := by decide +kernel
theorem dX6_firstFault_32 : decode cX6_firstFault 32 = .ok (.if_icmp .lt 15, 3) := by decide +kernel
theorem dX6_firstFault_35 : decode cX6_firstFault 35 = .ok (.iload_n 2, 1) := by decide +kernel
theorem dX6_firstFault_36 : decode cX6_firstFault 36 = .ok (.iconst 1, 1) := by decide +kernel
theorem dX6_firstFault_37 : decode cX6_firstFault 37 = .ok (.isub, 1) := by decide +kernel
theorem dX6_firstFault_38 : decode cX6_firstFault 38 = .ok (.iconst 4, 1) := by decide +kernel
theorem dX6_firstFault_39 : decode cX6_firstFault 39 = .ok (.irem, 1) := by decide +kernel
theorem dX6_firstFault_40 : decode cX6_firstFault 40 = .ok (.ifCond .ne 7, 3) := by decide +kernel
theorem dX6_firstFault_43 : decode cX6_firstFault 43 = .ok (.iconst 1, 1) := by decide +kernel
theorem dX6_firstFault_44 : decode cX6_firstFault 44 = .ok (.goto 4, 3) := by decide +kernel
theorem dX6_firstFault_47 : decode cX6_firstFault 47 = .ok (.iconst 0, 1) := by decide +kernel
theorem dX6_firstFault_48 : decode cX6_firstFault 48 = .ok (.istore_n 3, 1) := by decide +kernel
theorem dX6_firstFault_49 : decode cX6_firstFault 49 = .ok (.iload_n 3, 1) := by decide +kernel
theorem dX6_firstFault_50 : decode cX6_firstFault 50 = .ok (.ifCond .eq 8, 3) := by decide +kernel
theorem dX6_firstFault_53 : decode cX6_firstFault 53 = .ok (.bipush (-9), 2) := by decide +kernel
theorem dX6_firstFault_55 : decode cX6_firstFault 55 = .ok (.goto 4, 3) := by decide +kernel
theorem dX6_firstFault_58 : decode cX6_firstFault 58 = .ok (.iload_n 2, 1) := by decide +kernel
theorem dX6_firstFault_59 : decode cX6_firstFault 59 = .ok (.ireturn, 1) := by decide +kernel
theorem dX6_goesOn_0 : decode cX6_goesOn 0 = .ok (.iload_n 0, 1) := by decide +kernel
theorem dX6_goesOn_1 : decode cX6_goesOn 1 = .ok (.ifCond .ne 15, 3) := by decide +kernel
theorem dX6_goesOn_4 : decode cX6_goesOn 4 = .ok (.iload_n 1, 1) := by decide +kernel
theorem dX6_goesOn_5 : decode cX6_goesOn 5 = .ok (.bipush 118, 2) := by decide +kernel
theorem dX6_goesOn_7 : decode cX6_goesOn 7 = .ok (.if_icmp .ne 7, 3) := by decide +kernel
theorem dX6_goesOn_10 : decode cX6_goesOn 10 = .ok (.iconst 1, 1) := by decide +kernel
theorem dX6_goesOn_11 : decode cX6_goesOn 11 = .ok (.goto 4, 3) := by decide +kernel
theorem dX6_goesOn_14 : decode cX6_goesOn 14 = .ok (.iconst 0, 1) := by decide +kernel
theorem dX6_goesOn_15 : decode cX6_goesOn 15 = .ok (.ireturn, 1) := by decide +kernel
theorem dX6_goesOn_16 : decode cX6_goesOn 16 = .ok (.iload_n 0, 1) := by decide +kernel
theorem dX6_goesOn_17 : decode cX6_goesOn 17 = .ok (.bipush 24, 2) := by decide +kernel
theorem dX6_goesOn_19 : decode cX6_goesOn 19 = .ok (.if_icmp .le 5, 3) := by decide +kernel
theorem dX6_goesOn_22 : decode cX6_goesOn 22 = .ok (.iconst 0, 1) := by decide +kernel
theorem dX6_goesOn_23 : decode cX6_goesOn 23 = .ok (.ireturn, 1) := by decide +kernel
theorem dX6_goesOn_24 : decode cX6_goesOn 24 = .ok (.iload_n 0, 1) := by decide +kernel
theorem dX6_goesOn_25 : decode cX6_goesOn 25 = .ok (.iconst 1, 1) := by decide +kernel
theorem dX6_goesOn_26 : decode cX6_goesOn 26 = .ok (.isub, 1) := by decide +kernel
theorem dX6_goesOn_27 : decode cX6_goesOn 27 = .ok (.iconst 4, 1) := by decide +kernel
theorem dX6_goesOn_28 : decode cX6_goesOn 28 = .ok (.irem, 1) := by decide +kernel
theorem dX6_goesOn_29 : decode cX6_goesOn 29 = .ok (.lookupswitch 54 #[(0, 27), (1, 39)], 27) := by decide +kernel
theorem dX6_goesOn_56 : decode cX6_goesOn 56 = .ok (.iload_n 1, 1) := by decide +kernel
theorem dX6_goesOn_57 : decode cX6_goesOn 57 = .ok (.bipush 59, 2) := by decide +kernel
theorem dX6_goesOn_59 : decode cX6_goesOn 59 = .ok (.if_icmp .ne 7, 3) := by decide +kernel
theorem dX6_goesOn_62 : decode cX6_goesOn 62 = .ok (.iconst 1, 1) := by decide +kernel
theorem dX6_goesOn_63 : decode cX6_goesOn 63 = .ok (.goto 4, 3) := by decide +kernel
theorem dX6_goesOn_66 : decode cX6_goesOn 66 = .ok (.iconst 0, 1) := by decide +kernel
theorem dX6_goesOn_67 : decode cX6_goesOn 67 = .ok (.ireturn, 1) := by decide +kernel
theorem dX6_goesOn_68 : decode cX6_goesOn 68 = .ok (.iload_n 1, 1) := by decide +kernel
theorem dX6_goesOn_69 : decode cX6_goesOn 69 = .ok (.invokestatic 21, 3) := by decide +kernel
theorem dX6_goesOn_72 : decode cX6_goesOn 72 = .ok (.bipush (-9), 2) := by decide +kernel
theorem dX6_goesOn_74 : decode cX6_goesOn 74 = .ok (.if_icmp .eq 7, 3) := by decide +kernel
theorem dX6_goesOn_77 : decode cX6_goesOn 77 = .ok (.iconst 1, 1) := by decide +kernel
theorem dX6_goesOn_78 : decode cX6_goesOn 78 = .ok (.goto 4, 3) := by decide +kernel
theorem dX6_goesOn_81 : decode cX6_goesOn 81 = .ok (.iconst 0, 1) := by decide +kernel
theorem dX6_goesOn_82 : decode cX6_goesOn 82 = .ok (.ireturn, 1) := by decide +kernel
theorem dX6_goesOn_83 : decode cX6_goesOn 83 = .ok (.iload_n 1, 1) := by decide +kernel
theorem dX6_goesOn_84 : decode cX6_goesOn 84 = .ok (.bipush 48, 2) := by decide +kernel
theorem dX6_goesOn_86 : decode cX6_goesOn 86 = .ok (.isub, 1) := by decide +kernel
theorem dX6_goesOn_87 : decode cX6_goesOn 87 = .ok (.invokestatic 24, 3) := by decide +kernel
theorem dX6_goesOn_90 : decode cX6_goesOn 90 = .ok (.ireturn, 1) := by decide +kernel
theorem dX6_kindOf_0 : decode cX6_kindOf 0 = .ok (.iload_n 0, 1) := by decide +kernel
theorem dX6_kindOf_1 : decode cX6_kindOf 1 = .ok (.lookupswitch 41 #[(99, 39), (108, 37), (112, 35)], 35) := by decide +kernel
theorem dX6_kindOf_36 : decode cX6_kindOf 36 = .ok (.iconst 0, 1) := by decide +kernel
theorem dX6_kindOf_37 : decode cX6_kindOf 37 = .ok (.ireturn, 1) := by decide +kernel
theorem dX6_kindOf_38 : decode cX6_kindOf 38 = .ok (.iconst 1, 1) := by decide +kernel
theorem dX6_kindOf_39 : decode cX6_kindOf 39 = .ok (.ireturn, 1) := by decide +kernel
theorem dX6_kindOf_40 : decode cX6_kindOf 40 = .ok (.iconst 2, 1) := by decide +kernel
theorem dX6_kindOf_41 : decode cX6_kindOf 41 = .ok (.ireturn, 1) := by decide +kernel
theorem dX6_kindOf_42 : decode cX6_kindOf 42 = .ok (.bipush (-9), 2) := by decide +kernel
theorem dX6_kindOf_44 : decode cX6_kindOf 44 = .ok (.ireturn, 1) := by decide +kernel
theorem dX6_settle_0 : decode cX6_settle 0 = .ok (.aload_n 3, 1) := by decide +kernel
theorem dX6_settle_1 : decode cX6_settle 1 = .ok (.iload_n 2, 1) := by decide +kernel
theorem dX6_settle_2 : decode cX6_settle 2 = .ok (.iconst 1, 1) := by decide +kernel
theorem dX6_settle_3 : decode cX6_settle 3 = .ok (.isub, 1) := by decide +kernel
theorem dX6_settle_4 : decode cX6_settle 4 = .ok (.iconst 4, 1) := by decide +kernel
theorem dX6_settle_5 : decode cX6_settle 5 = .ok (.idiv, 1) := by decide +kernel
theorem dX6_settle_6 : decode cX6_settle 6 = .ok (.bipush 6, 2) := by decide +kernel
theorem dX6_settle_8 : decode cX6_settle 8 = .ok (.invokestatic 28, 3) := by decide +kernel
theorem dX6_settle_11 : decode cX6_settle 11 = .ok (.putfield 34, 3) := by decide +kernel
theorem dX6_settle_14 : decode cX6_settle 14 = .ok (.iconst 0, 1) := by decide +kernel
theorem dX6_settle_15 : decode cX6_settle 15 = .ok (.istore 4, 2) := by decide +kernel
theorem dX6_settle_17 : decode cX6_settle 17 = .ok (.iload 4, 2) := by decide +kernel
theorem dX6_settle_19 : decode cX6_settle 19 = .ok (.aload_n 3, 1) := by decide +kernel
theorem dX6_settle_20 : decode cX6_settle 20 = .ok (.getfield 34, 3) := by decide +kernel
theorem dX6_settle_23 : decode cX6_settle 23 = .ok (.if_icmp .ge 75, 3) := by decide +kernel
theorem dX6_settle_26 : decode cX6_settle 26 = .ok (.iload_n 1, 1) := by decide +kernel
theorem dX6_settle_27 : decode cX6_settle 27 = .ok (.iconst 1, 1) := by decide +kernel
theorem dX6_settle_28 : decode cX6_settle 28 = .ok (.iadd, 1) := by decide +kernel
theorem dX6_settle_29 : decode cX6_settle 29 = .ok (.iconst 4, 1) := by decide +kernel
theorem dX6_settle_30 : decode cX6_settle 30 = .ok (.iload 4, 2) := by decide +kernel
theorem dX6_settle_32 : decode cX6_settle 32 = .ok (.imul, 1) := by decide +kernel
theorem dX6_settle_33 : decode cX6_settle 33 = .ok (.iadd, 1) := by decide +kernel
theorem dX6_settle_34 : decode cX6_settle 34 = .ok (.istore 5, 2) := by decide +kernel
theorem dX6_settle_36 : decode cX6_settle 36 = .ok (.aload_n 0, 1) := by decide +kernel
theorem dX6_settle_37 : decode cX6_settle 37 = .ok (.iload 5, 2) := by decide +kernel
theorem dX6_settle_39 : decode cX6_settle 39 = .ok (.iconst 1, 1) := by decide +kernel
theorem dX6_settle_40 : decode cX6_settle 40 = .ok (.iadd, 1) := by decide +kernel
theorem dX6_settle_41 : decode cX6_settle 41 = .ok (.invokevirtual 9, 3) := by decide +kernel
theorem dX6_settle_44 : decode cX6_settle 44 = .ok (.invokestatic 21, 3) := by decide +kernel
theorem dX6_settle_47 : decode cX6_settle 47 = .ok (.istore 6, 2) := by decide +kernel
theorem dX6_settle_49 : decode cX6_settle 49 = .ok (.aload_n 0, 1) := by decide +kernel
theorem dX6_settle_50 : decode cX6_settle 50 = .ok (.iload 5, 2) := by decide +kernel
theorem dX6_settle_52 : decode cX6_settle 52 = .ok (.iconst 2, 1) := by decide +kernel
theorem dX6_settle_53 : decode cX6_settle 53 = .ok (.iadd, 1) := by decide +kernel
theorem dX6_settle_54 : decode cX6_settle 54 = .ok (.invokevirtual 9, 3) := by decide +kernel
theorem dX6_settle_57 : decode cX6_settle 57 = .ok (.bipush 48, 2) := by decide +kernel
theorem dX6_settle_59 : decode cX6_settle 59 = .ok (.isub, 1) := by decide +kernel
theorem dX6_settle_60 : decode cX6_settle 60 = .ok (.istore 7, 2) := by decide +kernel
theorem dX6_settle_62 : decode cX6_settle 62 = .ok (.aload_n 0, 1) := by decide +kernel
theorem dX6_settle_63 : decode cX6_settle 63 = .ok (.iload 5, 2) := by decide +kernel
theorem dX6_settle_65 : decode cX6_settle 65 = .ok (.iconst 3, 1) := by decide +kernel
theorem dX6_settle_66 : decode cX6_settle 66 = .ok (.iadd, 1) := by decide +kernel
theorem dX6_settle_67 : decode cX6_settle 67 = .ok (.invokevirtual 9, 3) := by decide +kernel
theorem dX6_settle_70 : decode cX6_settle 70 = .ok (.bipush 48, 2) := by decide +kernel
theorem dX6_settle_72 : decode cX6_settle 72 = .ok (.isub, 1) := by decide +kernel
theorem dX6_settle_73 : decode cX6_settle 73 = .ok (.istore 8, 2) := by decide +kernel
theorem dX6_settle_75 : decode cX6_settle 75 = .ok (.aload_n 3, 1) := by decide +kernel
theorem dX6_settle_76 : decode cX6_settle 76 = .ok (.getfield 40, 3) := by decide +kernel
theorem dX6_settle_79 : decode cX6_settle 79 = .ok (.iload 4, 2) := by decide +kernel
theorem dX6_settle_81 : decode cX6_settle 81 = .ok (.aaload, 1) := by decide +kernel
theorem dX6_settle_82 : decode cX6_settle 82 = .ok (.iload 6, 2) := by decide +kernel
theorem dX6_settle_84 : decode cX6_settle 84 = .ok (.iload 7, 2) := by decide +kernel
theorem dX6_settle_86 : decode cX6_settle 86 = .ok (.iload 8, 2) := by decide +kernel
theorem dX6_settle_88 : decode cX6_settle 88 = .ok (.iconst 0, 1) := by decide +kernel
theorem dX6_settle_89 : decode cX6_settle 89 = .ok (.invokevirtual 44, 3) := by decide +kernel
theorem dX6_settle_92 : decode cX6_settle 92 = .ok (.iinc 4 1, 3) := by decide +kernel
theorem dX6_settle_95 : decode cX6_settle 95 = .ok (.goto (-78), 3) := by decide +kernel
theorem dX6_settle_98 : decode cX6_settle 98 = .ok (.return_, 1) := by decide +kernel
theorem dX7_init_0 : decode cX7_init 0 = .ok (.aload_n 0, 1) := by decide +kernel
theorem dX7_init_1 : decode cX7_init 1 = .ok (.invokespecial 3, 3) := by decide +kernel
theorem dX7_init_4 : decode cX7_init 4 = .ok (.aload_n 0, 1) := by decide +kernel
theorem dX7_init_5 : decode cX7_init 5 = .ok (.bipush 6, 2) := by decide +kernel
theorem dX7_init_7 : decode cX7_init 7 = .ok (.anewarray 9, 3) := by decide +kernel
theorem dX7_init_10 : decode cX7_init 10 = .ok (.putfield 11, 3) := by decide +kernel
theorem dX7_init_13 : decode cX7_init 13 = .ok (.iconst 0, 1) := by decide +kernel
theorem dX7_init_14 : decode cX7_init 14 = .ok (.istore_n 1, 1) := by decide +kernel
theorem dX7_init_15 : decode cX7_init 15 = .ok (.iload_n 1, 1) := by decide +kernel
theorem dX7_init_16 : decode cX7_init 16 = .ok (.bipush 6, 2) := by decide +kernel
theorem dX7_init_18 : decode cX7_init 18 = .ok (.if_icmp .ge 22, 3) := by decide +kernel
theorem dX7_init_21 : decode cX7_init 21 = .ok (.aload_n 0, 1) := by decide +kernel
theorem dX7_init_22 : decode cX7_init 22 = .ok (.getfield 11, 3) := by decide +kernel
theorem dX7_init_25 : decode cX7_init 25 = .ok (.iload_n 1, 1) := by decide +kernel
theorem dX7_init_26 : decode cX7_init 26 = .ok (.new 9, 3) := by decide +kernel
theorem dX7_init_29 : decode cX7_init 29 = .ok (.dup, 1) := by decide +kernel
theorem dX7_init_30 : decode cX7_init 30 = .ok (.invokespecial 17, 3) := by decide +kernel
theorem dX7_init_33 : decode cX7_init 33 = .ok (.aastore, 1) := by decide +kernel
theorem dX7_init_34 : decode cX7_init 34 = .ok (.iinc 1 1, 3) := by decide +kernel
theorem dX7_init_37 : decode cX7_init 37 = .ok (.goto (-22), 3) := by decide +kernel
theorem dX7_init_40 : decode cX7_init 40 = .ok (.return_, 1) := by decide +kernel
theorem dX7_has_0 : decode cX7_has 0 = .ok (.iload_n 1, 1) := by decide +kernel
theorem dX7_has_1 : decode cX7_has 1 = .ok (.ifCond .lt 15, 3) := by decide +kernel
theorem dX7_has_4 : decode cX7_has 4 = .ok (.iload_n 1, 1) := by decide +kernel
theorem dX7_has_5 : decode cX7_has 5 = .ok (.aload_n 0, 1) := by decide +kernel
theorem dX7_has_6 : decode cX7_has 6 = .ok (.getfield 18, 3) := by decide +kernel
theorem dX7_has_9 : decode cX7_has 9 = .ok (.if_icmp .ge 7, 3) := by decide +kernel
theorem dX7_has_12 : decode cX7_has 12 = .ok (.iconst 1, 1) := by decide +kernel
theorem dX7_has_13 : decode cX7_has 13 = .ok (.goto 4, 3) := by decide +kernel
theorem dX7_has_16 : decode cX7_has 16 = .ok (.iconst 0, 1) := by decide +kernel
theorem dX7_has_17 : decode cX7_has 17 = .ok (.ireturn, 1) := by decide +kernel
theorem dX7_hasTwo_0 : decode cX7_hasTwo 0 = .ok (.aload_n 0, 1) := by decide +kernel
theorem dX7_hasTwo_1 : decode cX7_hasTwo 1 = .ok (.iload_n 1, 1) := by decide +kernel
theorem dX7_hasTwo_2 : decode cX7_hasTwo 2 = .ok (.invokevirtual 22, 3) := by decide +kernel
theorem dX7_hasTwo_5 : decode cX7_hasTwo 5 = .ok (.ifCond .eq 20, 3) := by decide +kernel
theorem dX7_hasTwo_8 : decode cX7_hasTwo 8 = .ok (.aload_n 0, 1) := by decide +kernel
theorem dX7_hasTwo_9 : decode cX7_hasTwo 9 = .ok (.iload_n 2, 1) := by decide +kernel
theorem dX7_hasTwo_10 : decode cX7_hasTwo 10 = .ok (.invokevirtual 22, 3) := by decide +kernel
theorem dX7_hasTwo_13 : decode cX7_hasTwo 13 = .ok (.ifCond .eq 12, 3) := by decide +kernel
theorem dX7_hasTwo_16 : decode cX7_hasTwo 16 = .ok (.iload_n 1, 1) := by decide +kernel
theorem dX7_hasTwo_17 : decode cX7_hasTwo 17 = .ok (.iload_n 2, 1) := by decide +kernel
theorem dX7_hasTwo_18 : decode cX7_hasTwo 18 = .ok (.if_icmp .eq 7, 3) := by decide +kernel
theorem dX7_hasTwo_21 : decode cX7_hasTwo 21 = .ok (.iconst 1, 1) := by decide +kernel
theorem dX7_hasTwo_22 : decode cX7_hasTwo 22 = .ok (.goto 4, 3) := by decide +kernel
theorem dX7_hasTwo_25 : decode cX7_hasTwo 25 = .ok (.iconst 0, 1) := by decide +kernel
theorem dX7_hasTwo_26 : decode cX7_hasTwo 26 = .ok (.ireturn, 1) := by decide +kernel
theorem dX7_bothHere_0 : decode cX7_bothHere 0 = .ok (.aload_n 0, 1) := by decide +kernel
theorem dX7_bothHere_1 : decode cX7_bothHere 1 = .ok (.getfield 11, 3) := by decide +kernel
theorem dX7_bothHere_4 : decode cX7_bothHere 4 = .ok (.iload_n 1, 1) := by decide +kernel
theorem dX7_bothHere_5 : decode cX7_bothHere 5 = .ok (.aaload, 1) := by decide +kernel
theorem dX7_bothHere_6 : decode cX7_bothHere 6 = .ok (.getfield 26, 3) := by decide +kernel
theorem dX7_bothHere_9 : decode cX7_bothHere 9 = .ok (.ifCond .ne 19, 3) := by decide +kernel
theorem dX7_bothHere_12 : decode cX7_bothHere 12 = .ok (.aload_n 0, 1) := by decide +kernel
theorem dX7_bothHere_13 : decode cX7_bothHere 13 = .ok (.getfield 11, 3) := by decide +kernel
theorem dX7_bothHere_16 : decode cX7_bothHere 16 = .ok (.iload_n 2, 1) := by decide +kernel
theorem dX7_bothHere_17 : decode cX7_bothHere 17 = .ok (.aaload, 1) := by decide +kernel
theorem dX7_bothHere_18 : decode cX7_bothHere 18 = .ok (.getfield 26, 3) := by decide +kernel
theorem dX7_bothHere_21 : decode cX7_bothHere 21 = .ok (.ifCond .ne 7, 3) := by decide +kernel
theorem dX7_bothHere_24 : decode cX7_bothHere 24 = .ok (.iconst 1, 1) := by decide +kernel
theorem dX7_bothHere_25 : decode cX7_bothHere 25 = .ok (.goto 4, 3) := by decide +kernel
theorem dX7_bothHere_28 : decode cX7_bothHere 28 = .ok (.iconst 0, 1) := by decide +kernel
theorem dX7_bothHere_29 : decode cX7_bothHere 29 = .ok (.ireturn, 1) := by decide +kernel
theorem dX7_goneSet_0 : decode cX7_goneSet 0 = .ok (.iconst 0, 1) := by decide +kernel
theorem dX7_goneSet_1 : decode cX7_goneSet 1 = .ok (.istore_n 1, 1) := by decide +kernel
theorem dX7_goneSet_2 : decode cX7_goneSet 2 = .ok (.iconst 0, 1) := by decide +kernel
theorem dX7_goneSet_3 : decode cX7_goneSet 3 = .ok (.istore_n 2, 1) := by decide +kernel
theorem dX7_goneSet_4 : decode cX7_goneSet 4 = .ok (.iload_n 2, 1) := by decide +kernel
theorem dX7_goneSet_5 : decode cX7_goneSet 5 = .ok (.aload_n 0, 1) := by decide +kernel
theorem dX7_goneSet_6 : decode cX7_goneSet 6 = .ok (.getfield 18, 3) := by decide +kernel
theorem dX7_goneSet_9 : decode cX7_goneSet 9 = .ok (.if_icmp .ge 31, 3) := by decide +kernel
theorem dX7_goneSet_12 : decode cX7_goneSet 12 = .ok (.iload_n 1, 1) := by decide +kernel
theorem dX7_goneSet_13 : decode cX7_goneSet 13 = .ok (.aload_n 0, 1) := by decide +kernel
theorem dX7_goneSet_14 : decode cX7_goneSet 14 = .ok (.getfield 11, 3) := by decide +kernel
theorem dX7_goneSet_17 : decode cX7_goneSet 17 = .ok (.iload_n 2, 1) := by decide +kernel
theorem dX7_goneSet_18 : decode cX7_goneSet 18 = .ok (.aaload, 1) := by decide +kernel
theorem dX7_goneSet_19 : decode cX7_goneSet 19 = .ok (.getfield 26, 3) := by decide +kernel
theorem dX7_goneSet_22 : decode cX7_goneSet 22 = .ok (.ifCond .eq 9, 3) := by decide +kernel
theorem dX7_goneSet_25 : decode cX7_goneSet 25 = .ok (.iconst 1, 1) := by decide +kernel
theorem dX7_goneSet_26 : decode cX7_goneSet 26 = .ok (.iload_n 2, 1) := by decide +kernel
theorem dX7_goneSet_27 : decode cX7_goneSet 27 = .ok (.ishl, 1) := by decide +kernel
theorem dX7_goneSet_28 : decode cX7_goneSet 28 = .ok (.goto 4, 3) := by decide +kernel
theorem dX7_goneSet_31 : decode cX7_goneSet 31 = .ok (.iconst 0, 1) := by decide +kernel
theorem dX7_goneSet_32 : decode cX7_goneSet 32 = .ok (.ior, 1) := by decide +kernel
theorem dX7_goneSet_33 : decode cX7_goneSet 33 = .ok (.istore_n 1, 1) := by decide +kernel
theorem dX7_goneSet_34 : decode cX7_goneSet 34 = .ok (.iinc 2 1, 3) := by decide +kernel
theorem dX7_goneSet_37 : decode cX7_goneSet 37 = .ok (.goto (-33), 3) := by decide +kernel
theorem dX7_goneSet_40 : decode cX7_goneSet 40 = .ok (.iload_n 1, 1) := by decide +kernel
theorem dX7_goneSet_41 : decode cX7_goneSet 41 = .ok (.ireturn, 1) := by decide +kernel
theorem dX7_winnerLeaves_0 : decode cX7_winnerLeaves 0 = .ok (.iload_n 3, 1) := by decide +kernel
theorem dX7_winnerLeaves_1 : decode cX7_winnerLeaves 1 = .ok (.iload 4, 2) := by decide +kernel
theorem dX7_winnerLeaves_3 : decode cX7_winnerLeaves 3 = .ok (.if_icmp .ne 6, 3) := by decide +kernel
theorem dX7_winnerLeaves_6 : decode cX7_winnerLeaves 6 = .ok (.bipush (-9), 2) := by decide +kernel
theorem dX7_winnerLeaves_8 : decode cX7_winnerLeaves 8 = .ok (.ireturn, 1) := by decide +kernel
theorem dX7_winnerLeaves_9 : decode cX7_winnerLeaves 9 = .ok (.iload_n 3, 1) := by decide +kernel
theorem dX7_winnerLeaves_10 : decode cX7_winnerLeaves 10 = .ok (.iload 4, 2) := by decide +kernel
theorem dX7_winnerLeaves_12 : decode cX7_winnerLeaves 12 = .ok (.if_icmp .le 7, 3) := by decide +kernel
theorem dX7_winnerLeaves_15 : decode cX7_winnerLeaves 15 = .ok (.iload_n 1, 1) := by decide +kernel
theorem dX7_winnerLeaves_16 : decode cX7_winnerLeaves 16 = .ok (.goto 4, 3) := by decide +kernel
theorem dX7_winnerLeaves_19 : decode cX7_winnerLeaves 19 = .ok (.iload_n 2, 1) := by decide +kernel
theorem dX7_winnerLeaves_20 : decode cX7_winnerLeaves 20 = .ok (.istore 5, 2) := by decide +kernel
theorem dX7_winnerLeaves_22 : decode cX7_winnerLeaves 22 = .ok (.aload_n 0, 1) := by decide +kernel
theorem dX7_winnerLeaves_23 : decode cX7_winnerLeaves 23 = .ok (.getfield 11, 3) := by decide +kernel
theorem dX7_winnerLeaves_26 : decode cX7_winnerLeaves 26 = .ok (.iload 5, 2) := by decide +kernel
theorem dX7_winnerLeaves_28 : decode cX7_winnerLeaves 28 = .ok (.aaload, 1) := by decide +kernel
theorem dX7_winnerLeaves_29 : decode cX7_winnerLeaves 29 = .ok (.iconst 1, 1) := by decide +kernel
theorem dX7_winnerLeaves_30 : decode cX7_winnerLeaves 30 = .ok (.putfield 26, 3) := by decide +kernel
theorem dX7_winnerLeaves_33 : decode cX7_winnerLeaves 33 = .ok (.iload 5, 2) := by decide +kernel
theorem dX7_winnerLeaves_35 : decode cX7_winnerLeaves 35 = .ok (.ireturn, 1) := by decide +kernel
theorem dX7_becomeLike_0 : decode cX7_becomeLike 0 = .ok (.aload_n 0, 1) := by decide +kernel
theorem dX7_becomeLike_1 : decode cX7_becomeLike 1 = .ok (.aload_n 1, 1) := by decide +kernel
theorem dX7_becomeLike_2 : decode cX7_becomeLike 2 = .ok (.getfield 18, 3) := by decide +kernel
theorem dX7_becomeLike_5 : decode cX7_becomeLike 5 = .ok (.putfield 18, 3) := by decide +kernel
theorem dX7_becomeLike_8 : decode cX7_becomeLike 8 = .ok (.iconst 0, 1) := by decide +kernel
theorem dX7_becomeLike_9 : decode cX7_becomeLike 9 = .ok (.istore_n 2, 1) := by decide +kernel
theorem dX7_becomeLike_10 : decode cX7_becomeLike 10 = .ok (.iload_n 2, 1) := by decide +kernel
theorem dX7_becomeLike_11 : decode cX7_becomeLike 11 = .ok (.aload_n 0, 1) := by decide +kernel
theorem dX7_becomeLike_12 : decode cX7_becomeLike 12 = .ok (.getfield 18, 3) := by decide +kernel
theorem dX7_becomeLike_15 : decode cX7_becomeLike 15 = .ok (.if_icmp .ge 41, 3) := by decide +kernel
theorem dX7_becomeLike_18 : decode cX7_becomeLike 18 = .ok (.aload_n 1, 1) := by decide +kernel
theorem dX7_becomeLike_19 : decode cX7_becomeLike 19 = .ok (.getfield 11, 3) := by decide +kernel
theorem dX7_becomeLike_22 : decode cX7_becomeLike 22 = .ok (.iload_n 2, 1) := by decide +kernel
theorem dX7_becomeLike_23 : decode cX7_becomeLike 23 = .ok (.aaload, 1) := by decide +kernel
theorem dX7_becomeLike_24 : decode cX7_becomeLike 24 = .ok (.astore_n 3, 1) := by decide +kernel
theorem dX7_becomeLike_25 : decode cX7_becomeLike 25 = .ok (.aload_n 0, 1) := by decide +kernel
theorem dX7_becomeLike_26 : decode cX7_becomeLike 26 = .ok (.getfield 11, 3) := by decide +kernel
theorem dX7_becomeLike_29 : decode cX7_becomeLike 29 = .ok (.iload_n 2, 1) := by decide +kernel
theorem dX7_becomeLike_30 : decode cX7_becomeLike 30 = .ok (.aaload, 1) := by decide +kernel
theorem dX7_becomeLike_31 : decode cX7_becomeLike 31 = .ok (.aload_n 3, 1) := by decide +kernel
theorem dX7_becomeLike_32 : decode cX7_becomeLike 32 = .ok (.getfield 30, 3) := by decide +kernel
theorem dX7_becomeLike_35 : decode cX7_becomeLike 35 = .ok (.aload_n 3, 1) := by decide +kernel
theorem dX7_becomeLike_36 : decode cX7_becomeLike 36 = .ok (.getfield 33, 3) := by decide +kernel
theorem dX7_becomeLike_39 : decode cX7_becomeLike 39 = .ok (.aload_n 3, 1) := by decide +kernel
theorem dX7_becomeLike_40 : decode cX7_becomeLike 40 = .ok (.getfield 36, 3) := by decide +kernel
theorem dX7_becomeLike_43 : decode cX7_becomeLike 43 = .ok (.aload_n 3, 1) := by decide +kernel
theorem dX7_becomeLike_44 : decode cX7_becomeLike 44 = .ok (.getfield 26, 3) := by decide +kernel
theorem dX7_becomeLike_47 : decode cX7_becomeLike 47 = .ok (.invokevirtual 39, 3) := by decide +kernel
theorem dX7_becomeLike_50 : decode cX7_becomeLike 50 = .ok (.iinc 2 1, 3) := by decide +kernel
theorem dX7_becomeLike_53 : decode cX7_becomeLike 53 = .ok (.goto (-43), 3) := by decide +kernel
theorem dX7_becomeLike_56 : decode cX7_becomeLike 56 = .ok (.return_, 1) := by decide +kernel
theorem dX8_init_0 : decode cX8_init 0 = .ok (.aload_n 0, 1) := by decide +kernel
theorem dX8_init_1 : decode cX8_init 1 = .ok (.invokespecial 3, 3) := by decide +kernel
theorem dX8_init_4 : decode cX8_init 4 = .ok (.aload_n 0, 1) := by decide +kernel
theorem dX8_init_5 : decode cX8_init 5 = .ok (.new 9, 3) := by decide +kernel
theorem dX8_init_8 : decode cX8_init 8 = .ok (.dup, 1) := by decide +kernel
theorem dX8_init_9 : decode cX8_init 9 = .ok (.invokespecial 11, 3) := by decide +kernel
theorem dX8_init_12 : decode cX8_init 12 = .ok (.putfield 12, 3) := by decide +kernel
theorem dX8_init_15 : decode cX8_init 15 = .ok (.aload_n 0, 1) := by decide +kernel
theorem dX8_init_16 : decode cX8_init 16 = .ok (.iconst 4, 1) := by decide +kernel
theorem dX8_init_17 : decode cX8_init 17 = .ok (.anewarray 18, 3) := by decide +kernel
theorem dX8_init_20 : decode cX8_init 20 = .ok (.putfield 20, 3) := by decide +kernel
theorem dX8_init_23 : decode cX8_init 23 = .ok (.aload_n 0, 1) := by decide +kernel
theorem dX8_init_24 : decode cX8_init 24 = .ok (.new 24, 3) := by decide +kernel
theorem dX8_init_27 : decode cX8_init 27 = .ok (.dup, 1) := by decide +kernel
theorem dX8_init_28 : decode cX8_init 28 = .ok (.invokespecial 26, 3) := by decide +kernel
theorem dX8_init_31 : decode cX8_init 31 = .ok (.putfield 27, 3) := by decide +kernel
theorem dX8_init_34 : decode cX8_init 34 = .ok (.aload_n 0, 1) := by decide +kernel
theorem dX8_init_35 : decode cX8_init 35 = .ok (.new 31, 3) := by decide +kernel
theorem dX8_init_38 : decode cX8_init 38 = .ok (.dup, 1) := by decide +kernel
theorem dX8_init_39 : decode cX8_init 39 = .ok (.invokespecial 33, 3) := by decide +kernel
theorem dX8_init_42 : decode cX8_init 42 = .ok (.putfield 34, 3) := by decide +kernel
theorem dX8_init_45 : decode cX8_init 45 = .ok (.aload_n 0, 1) := by decide +kernel
theorem dX8_init_46 : decode cX8_init 46 = .ok (.new 38, 3) := by decide +kernel
theorem dX8_init_49 : decode cX8_init 49 = .ok (.dup, 1) := by decide +kernel
theorem dX8_init_50 : decode cX8_init 50 = .ok (.invokespecial 40, 3) := by decide +kernel
theorem dX8_init_53 : decode cX8_init 53 = .ok (.putfield 41, 3) := by decide +kernel
theorem dX8_init_56 : decode cX8_init 56 = .ok (.aload_n 0, 1) := by decide +kernel
theorem dX8_init_57 : decode cX8_init 57 = .ok (.new 45, 3) := by decide +kernel
theorem dX8_init_60 : decode cX8_init 60 = .ok (.dup, 1) := by decide +kernel
theorem dX8_init_61 : decode cX8_init 61 = .ok (.invokespecial 47, 3) := by decide +kernel
theorem dX8_init_64 : decode cX8_init 64 = .ok (.putfield 48, 3) := by decide +kernel
theorem dX8_init_67 : decode cX8_init 67 = .ok (.iconst 0, 1) := by decide +kernel
theorem dX8_init_68 : decode cX8_init 68 = .ok (.istore_n 1, 1) := by decide +kernel
theorem dX8_init_69 : decode cX8_init 69 = .ok (.iload_n 1, 1) := by decide +kernel
theorem dX8_init_70 : decode cX8_init 70 = .ok (.iconst 4, 1) := by decide +kernel
theorem dX8_init_71 : decode cX8_init 71 = .ok (.if_icmp .ge 22, 3) := by decide +kernel
theorem dX8_init_74 : decode cX8_init 74 = .ok (.aload_n 0, 1) := by decide +kernel
theorem dX8_init_75 : decode cX8_init 75 = .ok (.getfield 20, 3) := by decide +kernel
theorem dX8_init_78 : decode cX8_init 78 = .ok (.iload_n 1, 1) := by decide +kernel
theorem dX8_init_79 : decode cX8_init 79 = .ok (.new 18, 3) := by decide +kernel
theorem dX8_init_82 : decode cX8_init 82 = .ok (.dup, 1) := by decide +kernel
theorem dX8_init_83 : decode cX8_init 83 = .ok (.invokespecial 52, 3) := by decide +kernel
theorem dX8_init_86 : decode cX8_init 86 = .ok (.aastore, 1) := by decide +kernel
theorem dX8_init_87 : decode cX8_init 87 = .ok (.iinc 1 1, 3) := by decide +kernel
theorem dX8_init_90 : decode cX8_init 90 = .ok (.goto (-21), 3) := by decide +kernel
theorem dX8_init_93 : decode cX8_init 93 = .ok (.return_, 1) := by decide +kernel
theorem dX8_harbour_0 : decode cX8_harbour 0 = .ok (.aload_n 0, 1) := by decide +kernel
theorem dX8_harbour_1 : decode cX8_harbour 1 = .ok (.iconst 0, 1) := by decide +kernel
theorem dX8_harbour_2 : decode cX8_harbour 2 = .ok (.putfield 53, 3) := by decide +kernel
theorem dX8_harbour_5 : decode cX8_harbour 5 = .ok (.iload_n 1, 1) := by decide +kernel
theorem dX8_harbour_6 : decode cX8_harbour 6 = .ok (.invokestatic 57, 3) := by decide +kernel
theorem dX8_harbour_9 : decode cX8_harbour 9 = .ok (.ifCond .ne 5, 3) := by decide +kernel
theorem dX8_harbour_12 : decode cX8_harbour 12 = .ok (.iconst (-1), 1) := by decide +kernel
theorem dX8_harbour_13 : decode cX8_harbour 13 = .ok (.ireturn, 1) := by decide +kernel
theorem dX8_harbour_14 : decode cX8_harbour 14 = .ok (.iload_n 2, 1) := by decide +kernel
theorem dX8_harbour_15 : decode cX8_harbour 15 = .ok (.invokestatic 61, 3) := by decide +kernel
theorem dX8_harbour_18 : decode cX8_harbour 18 = .ok (.ifCond .ne 6, 3) := by decide +kernel
theorem dX8_harbour_21 : decode cX8_harbour 21 = .ok (.bipush (-2), 2) := by decide +kernel
theorem dX8_harbour_23 : decode cX8_harbour 23 = .ok (.ireturn, 1) := by decide +kernel
theorem dX8_harbour_24 : decode cX8_harbour 24 = .ok (.aload_n 0, 1) := by decide +kernel
theorem dX8_harbour_25 : decode cX8_harbour 25 = .ok (.getfield 20, 3) := by decide +kernel
theorem dX8_harbour_28 : decode cX8_harbour 28 = .ok (.iload_n 1, 1) := by decide +kernel
theorem dX8_harbour_29 : decode cX8_harbour 29 = .ok (.aaload, 1) := by decide +kernel
theorem dX8_harbour_30 : decode cX8_harbour 30 = .ok (.astore 5, 2) := by decide +kernel
theorem dX8_harbour_32 : decode cX8_harbour 32 = .ok (.aload 5, 2) := by decide +kernel
theorem dX8_harbour_34 : decode cX8_harbour 34 = .ok (.iload_n 2, 1) := by decide +kernel
theorem dX8_harbour_35 : decode cX8_harbour 35 = .ok (.iload_n 3, 1) := by decide +kernel
theorem dX8_harbour_36 : decode cX8_harbour 36 = .ok (.iload 4, 2) := by decide +kernel
theorem dX8_harbour_38 : decode cX8_harbour 38 = .ok (.invokevirtual 64, 3) := by decide +kernel
theorem dX8_harbour_41 : decode cX8_harbour 41 = .ok (.istore 6, 2) := by decide +kernel
theorem dX8_harbour_43 : decode cX8_harbour 43 = .ok (.iload 6, 2) := by decide +kernel
theorem dX8_harbour_45 : decode cX8_harbour 45 = .ok (.ifCond .eq 10, 3) := by decide +kernel
theorem dX8_harbour_48 : decode cX8_harbour 48 = .ok (.aload_n 0, 1) := by decide +kernel
theorem dX8_harbour_49 : decode cX8_harbour 49 = .ok (.iload 6, 2) := by decide +kernel
theorem dX8_harbour_51 : decode cX8_harbour 51 = .ok (.invokevirtual 68, 3) := by decide +kernel
theorem dX8_harbour_54 : decode cX8_harbour 54 = .ok (.ireturn, 1) := by decide +kernel
theorem dX8_harbour_55 : decode cX8_harbour 55 = .ok (.aload 5, 2) := by decide +kernel
theorem dX8_harbour_57 : decode cX8_harbour 57 = .ok (.iload_n 3, 1) := by decide +kernel
theorem dX8_harbour_58 : decode cX8_harbour 58 = .ok (.iload 4, 2) := by decide +kernel
theorem dX8_harbour_60 : decode cX8_harbour 60 = .ok (.invokestatic 72, 3) := by decide +kernel
theorem dX8_harbour_63 : decode cX8_harbour 63 = .ok (.istore 7, 2) := by decide +kernel
theorem dX8_harbour_65 : decode cX8_harbour 65 = .ok (.iload 7, 2) := by decide +kernel
theorem dX8_harbour_67 : decode cX8_harbour 67 = .ok (.bipush (-9), 2) := by decide +kernel
theorem dX8_harbour_69 : decode cX8_harbour 69 = .ok (.if_icmp .eq 9, 3) := by decide +kernel
theorem dX8_harbour_72 : decode cX8_harbour 72 = .ok (.bipush (-100), 2) := by decide +kernel
theorem dX8_harbour_74 : decode cX8_harbour 74 = .ok (.iload 7, 2) := by decide +kernel
theorem dX8_harbour_76 : decode cX8_harbour 76 = .ok (.isub, 1) := by decide +kernel
theorem dX8_harbour_77 : decode cX8_harbour 77 = .ok (.ireturn, 1) := by decide +kernel
theorem dX8_harbour_78 : decode cX8_harbour 78 = .ok (.aload 5, 2) := by decide +kernel
theorem dX8_harbour_80 : decode cX8_harbour 80 = .ok (.iload_n 3, 1) := by decide +kernel
theorem dX8_harbour_81 : decode cX8_harbour 81 = .ok (.iload 4, 2) := by decide +kernel
theorem dX8_harbour_83 : decode cX8_harbour 83 = .ok (.aload_n 0, 1) := by decide +kernel
theorem dX8_harbour_84 : decode cX8_harbour 84 = .ok (.getfield 12, 3) := by decide +kernel
theorem dX8_harbour_87 : decode cX8_harbour 87 = .ok (.invokestatic 78, 3) := by decide +kernel
theorem dX8_harbour_90 : decode cX8_harbour 90 = .ok (.aload_n 0, 1) := by decide +kernel
theorem dX8_harbour_91 : decode cX8_harbour 91 = .ok (.iconst 0, 1) := by decide +kernel
theorem dX8_harbour_92 : decode cX8_harbour 92 = .ok (.putfield 82, 3) := by decide +kernel
theorem dX8_harbour_95 : decode cX8_harbour 95 = .ok (.aload_n 0, 1) := by decide +kernel
theorem dX8_harbour_96 : decode cX8_harbour 96 = .ok (.getfield 27, 3) := by decide +kernel
theorem dX8_harbour_99 : decode cX8_harbour 99 = .ok (.aload_n 0, 1) := by decide +kernel
theorem dX8_harbour_100 : decode cX8_harbour 100 = .ok (.getfield 27, 3) := by decide +kernel
theorem dX8_harbour_103 : decode cX8_harbour 103 = .ok (.getfield 85, 3) := by decide +kernel
theorem dX8_harbour_106 : decode cX8_harbour 106 = .ok (.invokevirtual 88, 3) := by decide +kernel
theorem dX8_harbour_109 : decode cX8_harbour 109 = .ok (.aload_n 0, 1) := by decide +kernel
theorem dX8_harbour_110 : decode cX8_harbour 110 = .ok (.getfield 12, 3) := by decide +kernel
theorem dX8_harbour_113 : decode cX8_harbour 113 = .ok (.getfield 92, 3) := by decide +kernel
theorem dX8_harbour_116 : decode cX8_harbour 116 = .ok (.ireturn, 1) := by decide +kernel
theorem dX8_ofPerson_0 : decode cX8_ofPerson 0 = .ok (.aload_n 0, 1) := by decide +kernel
theorem dX8_ofPerson_1 : decode cX8_ofPerson 1 = .ok (.getfield 12, 3) := by decide +kernel
theorem dX8_ofPerson_4 : decode cX8_ofPerson 4 = .ok (.iload_n 1, 1) := by decide +kernel
theorem dX8_ofPerson_5 : decode cX8_ofPerson 5 = .ok (.invokevirtual 93, 3) := by decide +kernel
theorem dX8_ofPerson_8 : decode cX8_ofPerson 8 = .ok (.ifCond .ne 5, 3) := by decide +kernel
theorem dX8_ofPerson_11 : decode cX8_ofPerson 11 = .ok (.iconst (-1), 1) := by decide +kernel
theorem dX8_ofPerson_12 : decode cX8_ofPerson 12 = .ok (.ireturn, 1) := by decide +kernel
theorem dX8_ofPerson_13 : decode cX8_ofPerson 13 = .ok (.aload_n 0, 1) := by decide +kernel
theorem dX8_ofPerson_14 : decode cX8_ofPerson 14 = .ok (.getfield 12, 3) := by decide +kernel
theorem dX8_ofPerson_17 : decode cX8_ofPerson 17 = .ok (.getfield 96, 3) := by decide +kernel
theorem dX8_ofPerson_20 : decode cX8_ofPerson 20 = .ok (.iload_n 1, 1) := by decide +kernel
theorem dX8_ofPerson_21 : decode cX8_ofPerson 21 = .ok (.aaload, 1) := by decide +kernel
theorem dX8_ofPerson_22 : decode cX8_ofPerson 22 = .ok (.astore_n 3, 1) := by decide +kernel
theorem dX8_ofPerson_23 : decode cX8_ofPerson 23 = .ok (.iload_n 2, 1) := by decide +kernel
theorem dX8_ofPerson_24 : decode cX8_ofPerson 24 = .ok (.tableswitch 69 0 5 #[40, 40, 40, 46, 51, 56], 40) := by decide +kernel
theorem dX8_ofPerson_64 : decode cX8_ofPerson 64 = .ok (.aload_n 3, 1) := by decide +kernel
theorem dX8_ofPerson_65 : decode cX8_ofPerson 65 = .ok (.iload_n 2, 1) := by decide +kernel
theorem dX8_ofPerson_66 : decode cX8_ofPerson 66 = .ok (.invokevirtual 100, 3) := by decide +kernel
theorem dX8_ofPerson_69 : decode cX8_ofPerson 69 = .ok (.ireturn, 1) := by decide +kernel
theorem dX8_ofPerson_70 : decode cX8_ofPerson 70 = .ok (.aload_n 3, 1) := by decide +kernel
theorem dX8_ofPerson_71 : decode cX8_ofPerson 71 = .ok (.invokevirtual 105, 3) := by decide +kernel
theorem dX8_ofPerson_74 : decode cX8_ofPerson 74 = .ok (.ireturn, 1) := by decide +kernel
theorem dX8_ofPerson_75 : decode cX8_ofPerson 75 = .ok (.aload_n 3, 1) := by decide +kernel
theorem dX8_ofPerson_76 : decode cX8_ofPerson 76 = .ok (.invokevirtual 109, 3) := by decide +kernel
theorem dX8_ofPerson_79 : decode cX8_ofPerson 79 = .ok (.ireturn, 1) := by decide +kernel
theorem dX8_ofPerson_80 : decode cX8_ofPerson 80 = .ok (.aload_n 3, 1) := by decide +kernel
theorem dX8_ofPerson_81 : decode cX8_ofPerson 81 = .ok (.getfield 112, 3) := by decide +kernel
theorem dX8_ofPerson_84 : decode cX8_ofPerson 84 = .ok (.ifCond .eq 7, 3) := by decide +kernel
theorem dX8_ofPerson_87 : decode cX8_ofPerson 87 = .ok (.iconst 1, 1) := by decide +kernel
theorem dX8_ofPerson_88 : decode cX8_ofPerson 88 = .ok (.goto 4, 3) := by decide +kernel
theorem dX8_ofPerson_91 : decode cX8_ofPerson 91 = .ok (.iconst 0, 1) := by decide +kernel
theorem dX8_ofPerson_92 : decode cX8_ofPerson 92 = .ok (.ireturn, 1) := by decide +kernel
theorem dX8_ofPerson_93 : decode cX8_ofPerson 93 = .ok (.bipush (-2), 2) := by decide +kernel
theorem dX8_ofPerson_95 : decode cX8_ofPerson 95 = .ok (.ireturn, 1) := by decide +kernel
theorem dX8_train_0 : decode cX8_train 0 = .ok (.aload_n 0, 1) := by decide +kernel
theorem dX8_train_1 : decode cX8_train 1 = .ok (.iload_n 1, 1) := by decide +kernel
theorem dX8_train_2 : decode cX8_train 2 = .ok (.iconst 1, 1) := by decide +kernel
theorem dX8_train_3 : decode cX8_train 3 = .ok (.iload_n 2, 1) := by decide +kernel
theorem dX8_train_4 : decode cX8_train 4 = .ok (.invokevirtual 116, 3) := by decide +kernel
theorem dX8_train_7 : decode cX8_train 7 = .ok (.ireturn, 1) := by decide +kernel
theorem dX8_learn_0 : decode cX8_learn 0 = .ok (.aload_n 0, 1) := by decide +kernel
theorem dX8_learn_1 : decode cX8_learn 1 = .ok (.iload_n 1, 1) := by decide +kernel
theorem dX8_learn_2 : decode cX8_learn 2 = .ok (.iconst 2, 1) := by decide +kernel
theorem dX8_learn_3 : decode cX8_learn 3 = .ok (.iload_n 2, 1) := by decide +kernel
theorem dX8_learn_4 : decode cX8_learn 4 = .ok (.invokevirtual 116, 3) := by decide +kernel
theorem dX8_learn_7 : decode cX8_learn 7 = .ok (.ireturn, 1) := by decide +kernel
theorem dX8_game_0 : decode cX8_game 0 = .ok (.aload_n 0, 1) := by decide +kernel
theorem dX8_game_1 : decode cX8_game 1 = .ok (.getfield 12, 3) := by decide +kernel
theorem dX8_game_4 : decode cX8_game 4 = .ok (.iload_n 1, 1) := by decide +kernel
theorem dX8_game_5 : decode cX8_game 5 = .ok (.iload_n 2, 1) := by decide +kernel
theorem dX8_game_6 : decode cX8_game 6 = .ok (.invokevirtual 119, 3) := by decide +kernel
theorem dX8_game_9 : decode cX8_game 9 = .ok (.ifCond .ne 5, 3) := by decide +kernel
theorem dX8_game_12 : decode cX8_game 12 = .ok (.iconst (-1), 1) := by decide +kernel
theorem dX8_game_13 : decode cX8_game 13 = .ok (.ireturn, 1) := by decide +kernel
theorem dX8_game_14 : decode cX8_game 14 = .ok (.aload_n 0, 1) := by decide +kernel
theorem dX8_game_15 : decode cX8_game 15 = .ok (.getfield 12, 3) := by decide +kernel
theorem dX8_game_18 : decode cX8_game 18 = .ok (.getfield 96, 3) := by decide +kernel
theorem dX8_game_21 : decode cX8_game 21 = .ok (.iload_n 1, 1) := by decide +kernel
theorem dX8_game_22 : decode cX8_game 22 = .ok (.aaload, 1) := by decide +kernel
theorem dX8_game_23 : decode cX8_game 23 = .ok (.iload_n 3, 1) := by decide +kernel
theorem dX8_game_24 : decode cX8_game 24 = .ok (.invokevirtual 123, 3) := by decide +kernel
theorem dX8_game_27 : decode cX8_game 27 = .ok (.ifCond .eq 20, 3) := by decide +kernel
theorem dX8_game_30 : decode cX8_game 30 = .ok (.aload_n 0, 1) := by decide +kernel
theorem dX8_game_31 : decode cX8_game 31 = .ok (.getfield 12, 3) := by decide +kernel
theorem dX8_game_34 : decode cX8_game 34 = .ok (.getfield 96, 3) := by decide +kernel
theorem dX8_game_37 : decode cX8_game 37 = .ok (.iload_n 2, 1) := by decide +kernel
theorem dX8_game_38 : decode cX8_game 38 = .ok (.aaload, 1) := by decide +kernel
theorem dX8_game_39 : decode cX8_game 39 = .ok (.iload 4, 2) := by decide +kernel
theorem dX8_game_41 : decode cX8_game 41 = .ok (.invokevirtual 123, 3) := by decide +kernel
theorem dX8_game_44 : decode cX8_game 44 = .ok (.ifCond .ne 6, 3) := by decide +kernel
theorem dX8_game_47 : decode cX8_game 47 = .ok (.bipush (-2), 2) := by decide +kernel
theorem dX8_game_49 : decode cX8_game 49 = .ok (.ireturn, 1) := by decide +kernel
theorem dX8_game_50 : decode cX8_game 50 = .ok (.aload_n 0, 1) := by decide +kernel
theorem dX8_game_51 : decode cX8_game 51 = .ok (.getfield 12, 3) := by decide +kernel
theorem dX8_game_54 : decode cX8_game 54 = .ok (.iload_n 1, 1) := by decide +kernel
theorem dX8_game_55 : decode cX8_game 55 = .ok (.iload_n 2, 1) := by decide +kernel
theorem dX8_game_56 : decode cX8_game 56 = .ok (.invokevirtual 126, 3) := by decide +kernel
theorem dX8_game_59 : decode cX8_game 59 = .ok (.ifCond .ne 6, 3) := by decide +kernel
theorem dX8_game_62 : decode cX8_game 62 = .ok (.bipush (-3), 2) := by decide +kernel
theorem dX8_game_64 : decode cX8_game 64 = .ok (.ireturn, 1) := by decide +kernel
theorem dX8_game_65 : decode cX8_game 65 = .ok (.aload_n 0, 1) := by decide +kernel
theorem dX8_game_66 : decode cX8_game 66 = .ok (.dup, 1) := by decide +kernel
theorem dX8_game_67 : decode cX8_game 67 = .ok (.getfield 82, 3) := by decide +kernel
theorem dX8_game_70 : decode cX8_game 70 = .ok (.iconst 1, 1) := by decide +kernel
theorem dX8_game_71 : decode cX8_game 71 = .ok (.iadd, 1) := by decide +kernel
theorem dX8_game_72 : decode cX8_game 72 = .ok (.putfield 82, 3) := by decide +kernel
theorem dX8_game_75 : decode cX8_game 75 = .ok (.aload_n 0, 1) := by decide +kernel
theorem dX8_game_76 : decode cX8_game 76 = .ok (.getfield 12, 3) := by decide +kernel
theorem dX8_game_79 : decode cX8_game 79 = .ok (.iload_n 1, 1) := by decide +kernel
theorem dX8_game_80 : decode cX8_game 80 = .ok (.iload_n 2, 1) := by decide +kernel
theorem dX8_game_81 : decode cX8_game 81 = .ok (.iload_n 3, 1) := by decide +kernel
theorem dX8_game_82 : decode cX8_game 82 = .ok (.iload 4, 2) := by decide +kernel
theorem dX8_game_84 : decode cX8_game 84 = .ok (.invokevirtual 129, 3) := by decide +kernel
theorem dX8_game_87 : decode cX8_game 87 = .ok (.ireturn, 1) := by decide +kernel
theorem dX8_shy_0 : decode cX8_shy 0 = .ok (.aload_n 0, 1) := by decide +kernel
theorem dX8_shy_1 : decode cX8_shy 1 = .ok (.getfield 12, 3) := by decide +kernel
theorem dX8_shy_4 : decode cX8_shy 4 = .ok (.iload_n 1, 1) := by decide +kernel
theorem dX8_shy_5 : decode cX8_shy 5 = .ok (.iload_n 2, 1) := by decide +kernel
theorem dX8_shy_6 : decode cX8_shy 6 = .ok (.invokevirtual 119, 3) := by decide +kernel
theorem dX8_shy_9 : decode cX8_shy 9 = .ok (.ifCond .ne 5, 3) := by decide +kernel
theorem dX8_shy_12 : decode cX8_shy 12 = .ok (.iconst (-1), 1) := by decide +kernel
theorem dX8_shy_13 : decode cX8_shy 13 = .ok (.ireturn, 1) := by decide +kernel
theorem dX8_shy_14 : decode cX8_shy 14 = .ok (.aload_n 0, 1) := by decide +kernel
theorem dX8_shy_15 : decode cX8_shy 15 = .ok (.iload_n 1, 1) := by decide +kernel
theorem dX8_shy_16 : decode cX8_shy 16 = .ok (.iload_n 2, 1) := by decide +kernel
theorem dX8_shy_17 : decode cX8_shy 17 = .ok (.aload_n 0, 1) := by decide +kernel
theorem dX8_shy_18 : decode cX8_shy 18 = .ok (.getfield 12, 3) := by decide +kernel
theorem dX8_shy_21 : decode cX8_shy 21 = .ok (.getfield 96, 3) := by decide +kernel
theorem dX8_shy_24 : decode cX8_shy 24 = .ok (.iload_n 1, 1) := by decide +kernel
theorem dX8_shy_25 : decode cX8_shy 25 = .ok (.aaload, 1) := by decide +kernel
theorem dX8_shy_26 : decode cX8_shy 26 = .ok (.invokevirtual 109, 3) := by decide +kernel
theorem dX8_shy_29 : decode cX8_shy 29 = .ok (.aload_n 0, 1) := by decide +kernel
theorem dX8_shy_30 : decode cX8_shy 30 = .ok (.getfield 12, 3) := by decide +kernel
theorem dX8_shy_33 : decode cX8_shy 33 = .ok (.getfield 96, 3) := by decide +kernel
theorem dX8_shy_36 : decode cX8_shy 36 = .ok (.iload_n 2, 1) := by decide +kernel
theorem dX8_shy_37 : decode cX8_shy 37 = .ok (.aaload, 1) := by decide +kernel
theorem dX8_shy_38 : decode cX8_shy 38 = .ok (.invokevirtual 109, 3) := by decide +kernel
theorem dX8_shy_41 : decode cX8_shy 41 = .ok (.invokevirtual 133, 3) := by decide +kernel
theorem dX8_shy_44 : decode cX8_shy 44 = .ok (.ireturn, 1) := by decide +kernel
theorem dX8_fetch_0 : decode cX8_fetch 0 = .ok (.aload_n 0, 1) := by decide +kernel
theorem dX8_fetch_1 : decode cX8_fetch 1 = .ok (.getfield 12, 3) := by decide +kernel
theorem dX8_fetch_4 : decode cX8_fetch 4 = .ok (.iload_n 1, 1) := by decide +kernel
theorem dX8_fetch_5 : decode cX8_fetch 5 = .ok (.invokevirtual 93, 3) := by decide +kernel
theorem dX8_fetch_8 : decode cX8_fetch 8 = .ok (.ifCond .ne 5, 3) := by decide +kernel
theorem dX8_fetch_11 : decode cX8_fetch 11 = .ok (.iconst (-1), 1) := by decide +kernel
theorem dX8_fetch_12 : decode cX8_fetch 12 = .ok (.ireturn, 1) := by decide +kernel
theorem dX8_fetch_13 : decode cX8_fetch 13 = .ok (.aload_n 0, 1) := by decide +kernel
theorem dX8_fetch_14 : decode cX8_fetch 14 = .ok (.getfield 12, 3) := by decide +kernel
theorem dX8_fetch_17 : decode cX8_fetch 17 = .ok (.getfield 96, 3) := by decide +kernel
theorem dX8_fetch_20 : decode cX8_fetch 20 = .ok (.iload_n 1, 1) := by decide +kernel
theorem dX8_fetch_21 : decode cX8_fetch 21 = .ok (.aaload, 1) := by decide +kernel
theorem dX8_fetch_22 : decode cX8_fetch 22 = .ok (.getfield 112, 3) := by decide +kernel
theorem dX8_fetch_25 : decode cX8_fetch 25 = .ok (.ifCond .ne 6, 3) := by decide +kernel
theorem dX8_fetch_28 : decode cX8_fetch 28 = .ok (.bipush (-3), 2) := by decide +kernel
theorem dX8_fetch_30 : decode cX8_fetch 30 = .ok (.ireturn, 1) := by decide +kernel
theorem dX8_fetch_31 : decode cX8_fetch 31 = .ok (.aload_n 0, 1) := by decide +kernel
theorem dX8_fetch_32 : decode cX8_fetch 32 = .ok (.getfield 12, 3) := by decide +kernel
theorem dX8_fetch_35 : decode cX8_fetch 35 = .ok (.getfield 96, 3) := by decide +kernel
theorem dX8_fetch_38 : decode cX8_fetch 38 = .ok (.iload_n 1, 1) := by decide +kernel
theorem dX8_fetch_39 : decode cX8_fetch 39 = .ok (.aaload, 1) := by decide +kernel
theorem dX8_fetch_40 : decode cX8_fetch 40 = .ok (.iconst 0, 1) := by decide +kernel
theorem dX8_fetch_41 : decode cX8_fetch 41 = .ok (.putfield 112, 3) := by decide +kernel
theorem dX8_fetch_44 : decode cX8_fetch 44 = .ok (.aload_n 0, 1) := by decide +kernel
theorem dX8_fetch_45 : decode cX8_fetch 45 = .ok (.getfield 12, 3) := by decide +kernel
theorem dX8_fetch_48 : decode cX8_fetch 48 = .ok (.invokevirtual 136, 3) := by decide +kernel
theorem dX8_fetch_51 : decode cX8_fetch 51 = .ok (.invokestatic 139, 3) := by decide +kernel
theorem dX8_fetch_54 : decode cX8_fetch 54 = .ok (.ireturn, 1) := by decide +kernel
theorem dX8_season_0 : decode cX8_season 0 = .ok (.iload 5, 2) := by decide +kernel
theorem dX8_season_2 : decode cX8_season 2 = .ok (.ifCond .lt 9, 3) := by decide +kernel
theorem dX8_season_5 : decode cX8_season 5 = .ok (.iload 5, 2) := by decide +kernel
theorem dX8_season_7 : decode cX8_season 7 = .ok (.iconst 4, 1) := by decide +kernel
theorem dX8_season_8 : decode cX8_season 8 = .ok (.if_icmp .le 17, 3) := by decide +kernel
theorem dX8_season_11 : decode cX8_season 11 = .ok (.iload 5, 2) := by decide +kernel
theorem dX8_season_13 : decode cX8_season 13 = .ok (.bipush 10, 2) := by decide +kernel
theorem dX8_season_15 : decode cX8_season 15 = .ok (.if_icmp .lt 14, 3) := by decide +kernel
theorem dX8_season_18 : decode cX8_season 18 = .ok (.iload 5, 2) := by decide +kernel
theorem dX8_season_20 : decode cX8_season 20 = .ok (.bipush 15, 2) := by decide +kernel
theorem dX8_season_22 : decode cX8_season 22 = .ok (.if_icmp .gt 7, 3) := by decide +kernel
theorem dX8_season_25 : decode cX8_season 25 = .ok (.iconst 1, 1) := by decide +kernel
theorem dX8_season_26 : decode cX8_season 26 = .ok (.goto 4, 3) := by decide +kernel
theorem dX8_season_29 : decode cX8_season 29 = .ok (.iconst 0, 1) := by decide +kernel
theorem dX8_season_30 : decode cX8_season 30 = .ok (.istore 6, 2) := by decide +kernel
theorem dX8_season_32 : decode cX8_season 32 = .ok (.aload_n 0, 1) := by decide +kernel
theorem dX8_season_33 : decode cX8_season 33 = .ok (.iload_n 1, 1) := by decide +kernel
theorem dX8_season_34 : decode cX8_season 34 = .ok (.iload_n 2, 1) := by decide +kernel
theorem dX8_season_35 : decode cX8_season 35 = .ok (.iload_n 3, 1) := by decide +kernel
theorem dX8_season_36 : decode cX8_season 36 = .ok (.iload 4, 2) := by decide +kernel
theorem dX8_season_38 : decode cX8_season 38 = .ok (.iload 6, 2) := by decide +kernel
theorem dX8_season_40 : decode cX8_season 40 = .ok (.ifCond .eq 14, 3) := by decide +kernel
theorem dX8_season_43 : decode cX8_season 43 = .ok (.iload 4, 2) := by decide +kernel
theorem dX8_season_45 : decode cX8_season 45 = .ok (.bipush 20, 2) := by decide +kernel
theorem dX8_season_47 : decode cX8_season 47 = .ok (.if_icmp .gt 7, 3) := by decide +kernel
theorem dX8_season_50 : decode cX8_season 50 = .ok (.iconst 1, 1) := by decide +kernel
theorem dX8_season_51 : decode cX8_season 51 = .ok (.goto 4, 3) := by decide +kernel
theorem dX8_season_54 : decode cX8_season 54 = .ok (.iconst 0, 1) := by decide +kernel
theorem dX8_season_55 : decode cX8_season 55 = .ok (.invokevirtual 144, 3) := by decide +kernel
theorem dX8_season_58 : decode cX8_season 58 = .ok (.istore 7, 2) := by decide +kernel
theorem dX8_season_60 : decode cX8_season 60 = .ok (.iload 7, 2) := by decide +kernel
theorem dX8_season_62 : decode cX8_season 62 = .ok (.ifCond .eq 6, 3) := by decide +kernel
theorem dX8_season_65 : decode cX8_season 65 = .ok (.iload 7, 2) := by decide +kernel
theorem dX8_season_67 : decode cX8_season 67 = .ok (.ireturn, 1) := by decide +kernel
theorem dX8_season_68 : decode cX8_season 68 = .ok (.aload_n 0, 1) := by decide +kernel
theorem dX8_season_69 : decode cX8_season 69 = .ok (.getfield 20, 3) := by decide +kernel
theorem dX8_season_72 : decode cX8_season 72 = .ok (.iload_n 1, 1) := by decide +kernel
theorem dX8_season_73 : decode cX8_season 73 = .ok (.aaload, 1) := by decide +kernel
theorem dX8_season_74 : decode cX8_season 74 = .ok (.astore 8, 2) := by decide +kernel
theorem dX8_season_76 : decode cX8_season 76 = .ok (.aload_n 0, 1) := by decide +kernel
theorem dX8_season_77 : decode cX8_season 77 = .ok (.aload 8, 2) := by decide +kernel
theorem dX8_season_79 : decode cX8_season 79 = .ok (.iload_n 3, 1) := by decide +kernel
theorem dX8_season_80 : decode cX8_season 80 = .ok (.iload 4, 2) := by decide +kernel
theorem dX8_season_82 : decode cX8_season 82 = .ok (.invokevirtual 148, 3) := by decide +kernel
theorem dX8_season_85 : decode cX8_season 85 = .ok (.istore 7, 2) := by decide +kernel
theorem dX8_season_87 : decode cX8_season 87 = .ok (.iload 7, 2) := by decide +kernel
theorem dX8_season_89 : decode cX8_season 89 = .ok (.ifCond .eq 6, 3) := by decide +kernel
theorem dX8_season_92 : decode cX8_season 92 = .ok (.iload 7, 2) := by decide +kernel
theorem dX8_season_94 : decode cX8_season 94 = .ok (.ireturn, 1) := by decide +kernel
theorem dX8_season_95 : decode cX8_season 95 = .ok (.aload_n 0, 1) := by decide +kernel
theorem dX8_season_96 : decode cX8_season 96 = .ok (.getfield 34, 3) := by decide +kernel
theorem dX8_season_99 : decode cX8_season 99 = .ok (.aload_n 0, 1) := by decide +kernel
theorem dX8_season_100 : decode cX8_season 100 = .ok (.getfield 12, 3) := by decide +kernel
theorem dX8_season_103 : decode cX8_season 103 = .ok (.aload 8, 2) := by decide +kernel
theorem dX8_season_105 : decode cX8_season 105 = .ok (.iload_n 3, 1) := by decide +kernel
theorem dX8_season_106 : decode cX8_season 106 = .ok (.iload 4, 2) := by decide +kernel
theorem dX8_season_108 : decode cX8_season 108 = .ok (.invokevirtual 151, 3) := by decide +kernel
theorem dX8_season_111 : decode cX8_season 111 = .ok (.aload_n 0, 1) := by decide +kernel
theorem dX8_season_112 : decode cX8_season 112 = .ok (.getfield 34, 3) := by decide +kernel
theorem dX8_season_115 : decode cX8_season 115 = .ok (.iload 5, 2) := by decide +kernel
theorem dX8_season_117 : decode cX8_season 117 = .ok (.invokevirtual 155, 3) := by decide +kernel
theorem dX8_season_120 : decode cX8_season 120 = .ok (.ireturn, 1) := by decide +kernel
theorem dX8_safe_0 : decode cX8_safe 0 = .ok (.aload_n 0, 1) := by decide +kernel
theorem dX8_safe_1 : decode cX8_safe 1 = .ok (.getfield 12, 3) := by decide +kernel
theorem dX8_safe_4 : decode cX8_safe 4 = .ok (.iload_n 1, 1) := by decide +kernel
theorem dX8_safe_5 : decode cX8_safe 5 = .ok (.iload_n 2, 1) := by decide +kernel
theorem dX8_safe_6 : decode cX8_safe 6 = .ok (.invokevirtual 119, 3) := by decide +kernel
theorem dX8_safe_9 : decode cX8_safe 9 = .ok (.ifCond .ne 5, 3) := by decide +kernel
theorem dX8_safe_12 : decode cX8_safe 12 = .ok (.iconst (-1), 1) := by decide +kernel
theorem dX8_safe_13 : decode cX8_safe 13 = .ok (.ireturn, 1) := by decide +kernel
theorem dX8_safe_14 : decode cX8_safe 14 = .ok (.aload_n 0, 1) := by decide +kernel
theorem dX8_safe_15 : decode cX8_safe 15 = .ok (.getfield 12, 3) := by decide +kernel
theorem dX8_safe_18 : decode cX8_safe 18 = .ok (.getfield 96, 3) := by decide +kernel
theorem dX8_safe_21 : decode cX8_safe 21 = .ok (.iload_n 1, 1) := by decide +kernel
theorem dX8_safe_22 : decode cX8_safe 22 = .ok (.aaload, 1) := by decide +kernel
theorem dX8_safe_23 : decode cX8_safe 23 = .ok (.invokevirtual 109, 3) := by decide +kernel
theorem dX8_safe_26 : decode cX8_safe 26 = .ok (.aload_n 0, 1) := by decide +kernel
theorem dX8_safe_27 : decode cX8_safe 27 = .ok (.getfield 12, 3) := by decide +kernel
theorem dX8_safe_30 : decode cX8_safe 30 = .ok (.getfield 96, 3) := by decide +kernel
theorem dX8_safe_33 : decode cX8_safe 33 = .ok (.iload_n 2, 1) := by decide +kernel
theorem dX8_safe_34 : decode cX8_safe 34 = .ok (.aaload, 1) := by decide +kernel
theorem dX8_safe_35 : decode cX8_safe 35 = .ok (.invokevirtual 109, 3) := by decide +kernel
theorem dX8_safe_38 : decode cX8_safe 38 = .ok (.if_icmp .gt 7, 3) := by decide +kernel
theorem dX8_safe_41 : decode cX8_safe 41 = .ok (.iconst 1, 1) := by decide +kernel
theorem dX8_safe_42 : decode cX8_safe 42 = .ok (.goto 4, 3) := by decide +kernel
theorem dX8_safe_45 : decode cX8_safe 45 = .ok (.iconst 0, 1) := by decide +kernel
theorem dX8_safe_46 : decode cX8_safe 46 = .ok (.ireturn, 1) := by decide +kernel
theorem dX8_sure_0 : decode cX8_sure 0 = .ok (.aload_n 0, 1) := by decide +kernel
theorem dX8_sure_1 : decode cX8_sure 1 = .ok (.getfield 12, 3) := by decide +kernel
theorem dX8_sure_4 : decode cX8_sure 4 = .ok (.iload_n 1, 1) := by decide +kernel
theorem dX8_sure_5 : decode cX8_sure 5 = .ok (.invokevirtual 93, 3) := by decide +kernel
theorem dX8_sure_8 : decode cX8_sure 8 = .ok (.ifCond .ne 5, 3) := by decide +kernel
theorem dX8_sure_11 : decode cX8_sure 11 = .ok (.iconst (-1), 1) := by decide +kernel
theorem dX8_sure_12 : decode cX8_sure 12 = .ok (.ireturn, 1) := by decide +kernel
theorem dX8_sure_13 : decode cX8_sure 13 = .ok (.aload_n 0, 1) := by decide +kernel
theorem dX8_sure_14 : decode cX8_sure 14 = .ok (.getfield 12, 3) := by decide +kernel
theorem dX8_sure_17 : decode cX8_sure 17 = .ok (.getfield 96, 3) := by decide +kernel
theorem dX8_sure_20 : decode cX8_sure 20 = .ok (.iload_n 1, 1) := by decide +kernel
theorem dX8_sure_21 : decode cX8_sure 21 = .ok (.aaload, 1) := by decide +kernel
theorem dX8_sure_22 : decode cX8_sure 22 = .ok (.invokevirtual 109, 3) := by decide +kernel
theorem dX8_sure_25 : decode cX8_sure 25 = .ok (.istore_n 2, 1) := by decide +kernel
theorem dX8_sure_26 : decode cX8_sure 26 = .ok (.iconst 0, 1) := by decide +kernel
theorem dX8_sure_27 : decode cX8_sure 27 = .ok (.istore_n 3, 1) := by decide +kernel
theorem dX8_sure_28 : decode cX8_sure 28 = .ok (.iconst 0, 1) := by decide +kernel
theorem dX8_sure_29 : decode cX8_sure 29 = .ok (.istore 4, 2) := by decide +kernel
theorem dX8_sure_31 : decode cX8_sure 31 = .ok (.iload 4, 2) := by decide +kernel
theorem dX8_sure_33 : decode cX8_sure 33 = .ok (.aload_n 0, 1) := by decide +kernel
theorem dX8_sure_34 : decode cX8_sure 34 = .ok (.getfield 12, 3) := by decide +kernel
theorem dX8_sure_37 : decode cX8_sure 37 = .ok (.getfield 92, 3) := by decide +kernel
theorem dX8_sure_40 : decode cX8_sure 40 = .ok (.if_icmp .ge 51, 3) := by decide +kernel
theorem dX8_sure_43 : decode cX8_sure 43 = .ok (.aload_n 0, 1) := by decide +kernel
theorem dX8_sure_44 : decode cX8_sure 44 = .ok (.getfield 12, 3) := by decide +kernel
theorem dX8_sure_47 : decode cX8_sure 47 = .ok (.getfield 96, 3) := by decide +kernel
theorem dX8_sure_50 : decode cX8_sure 50 = .ok (.iload 4, 2) := by decide +kernel
theorem dX8_sure_52 : decode cX8_sure 52 = .ok (.aaload, 1) := by decide +kernel
theorem dX8_sure_53 : decode cX8_sure 53 = .ok (.astore 5, 2) := by decide +kernel
theorem dX8_sure_55 : decode cX8_sure 55 = .ok (.iload 4, 2) := by decide +kernel
theorem dX8_sure_57 : decode cX8_sure 57 = .ok (.iload_n 1, 1) := by decide +kernel
theorem dX8_sure_58 : decode cX8_sure 58 = .ok (.if_icmp .eq 27, 3) := by decide +kernel
theorem dX8_sure_61 : decode cX8_sure 61 = .ok (.aload 5, 2) := by decide +kernel
theorem dX8_sure_63 : decode cX8_sure 63 = .ok (.getfield 112, 3) := by decide +kernel
theorem dX8_sure_66 : decode cX8_sure 66 = .ok (.ifCond .ne 19, 3) := by decide +kernel
theorem dX8_sure_69 : decode cX8_sure 69 = .ok (.iload_n 2, 1) := by decide +kernel
theorem dX8_sure_70 : decode cX8_sure 70 = .ok (.aload 5, 2) := by decide +kernel
theorem dX8_sure_72 : decode cX8_sure 72 = .ok (.invokevirtual 105, 3) := by decide +kernel
theorem dX8_sure_75 : decode cX8_sure 75 = .ok (.if_icmp .le 10, 3) := by decide +kernel
theorem dX8_sure_78 : decode cX8_sure 78 = .ok (.iload_n 3, 1) := by decide +kernel
theorem dX8_sure_79 : decode cX8_sure 79 = .ok (.iconst 1, 1) := by decide +kernel
theorem dX8_sure_80 : decode cX8_sure 80 = .ok (.iload 4, 2) := by decide +kernel
theorem dX8_sure_82 : decode cX8_sure 82 = .ok (.ishl, 1) := by decide +kernel
theorem dX8_sure_83 : decode cX8_sure 83 = .ok (.ior, 1) := by decide +kernel
theorem dX8_sure_84 : decode cX8_sure 84 = .ok (.istore_n 3, 1) := by decide +kernel
theorem dX8_sure_85 : decode cX8_sure 85 = .ok (.iinc 4 1, 3) := by decide +kernel
theorem dX8_sure_88 : decode cX8_sure 88 = .ok (.goto (-57), 3) := by decide +kernel
theorem dX8_sure_91 : decode cX8_sure 91 = .ok (.iload_n 3, 1) := by decide +kernel
theorem dX8_sure_92 : decode cX8_sure 92 = .ok (.ireturn, 1) := by decide +kernel
theorem dX8_common_0 : decode cX8_common 0 = .ok (.aload_n 0, 1) := by decide +kernel
theorem dX8_common_1 : decode cX8_common 1 = .ok (.getfield 12, 3) := by decide +kernel
theorem dX8_common_4 : decode cX8_common 4 = .ok (.iload_n 1, 1) := by decide +kernel
theorem dX8_common_5 : decode cX8_common 5 = .ok (.iload_n 2, 1) := by decide +kernel
theorem dX8_common_6 : decode cX8_common 6 = .ok (.invokevirtual 119, 3) := by decide +kernel
theorem dX8_common_9 : decode cX8_common 9 = .ok (.ifCond .ne 5, 3) := by decide +kernel
theorem dX8_common_12 : decode cX8_common 12 = .ok (.iconst (-1), 1) := by decide +kernel
theorem dX8_common_13 : decode cX8_common 13 = .ok (.ireturn, 1) := by decide +kernel
theorem dX8_common_14 : decode cX8_common 14 = .ok (.aload_n 0, 1) := by decide +kernel
theorem dX8_common_15 : decode cX8_common 15 = .ok (.getfield 12, 3) := by decide +kernel
theorem dX8_common_18 : decode cX8_common 18 = .ok (.getfield 96, 3) := by decide +kernel
theorem dX8_common_21 : decode cX8_common 21 = .ok (.iload_n 1, 1) := by decide +kernel
theorem dX8_common_22 : decode cX8_common 22 = .ok (.aaload, 1) := by decide +kernel
theorem dX8_common_23 : decode cX8_common 23 = .ok (.astore_n 3, 1) := by decide +kernel
theorem dX8_common_24 : decode cX8_common 24 = .ok (.aload_n 0, 1) := by decide +kernel
theorem dX8_common_25 : decode cX8_common 25 = .ok (.getfield 12, 3) := by decide +kernel
theorem dX8_common_28 : decode cX8_common 28 = .ok (.getfield 96, 3) := by decide +kernel
theorem dX8_common_31 : decode cX8_common 31 = .ok (.iload_n 2, 1) := by decide +kernel
theorem dX8_common_32 : decode cX8_common 32 = .ok (.aaload, 1) := by decide +kernel
theorem dX8_common_33 : decode cX8_common 33 = .ok (.astore 4, 2) := by decide +kernel
theorem dX8_common_35 : decode cX8_common 35 = .ok (.aload_n 3, 1) := by decide +kernel
theorem dX8_common_36 : decode cX8_common 36 = .ok (.invokevirtual 105, 3) := by decide +kernel
theorem dX8_common_39 : decode cX8_common 39 = .ok (.aload 4, 2) := by decide +kernel
theorem dX8_common_41 : decode cX8_common 41 = .ok (.invokevirtual 105, 3) := by decide +kernel
theorem dX8_common_44 : decode cX8_common 44 = .ok (.invokestatic 158, 3) := by decide +kernel
theorem dX8_common_47 : decode cX8_common 47 = .ok (.istore 5, 2) := by decide +kernel
theorem dX8_common_49 : decode cX8_common 49 = .ok (.aload_n 3, 1) := by decide +kernel
theorem dX8_common_50 : decode cX8_common 50 = .ok (.invokevirtual 109, 3) := by decide +kernel
theorem dX8_common_53 : decode cX8_common 53 = .ok (.aload 4, 2) := by decide +kernel
theorem dX8_common_55 : decode cX8_common 55 = .ok (.invokevirtual 109, 3) := by decide +kernel
theorem dX8_common_58 : decode cX8_common 58 = .ok (.invokestatic 164, 3) := by decide +kernel
theorem dX8_common_61 : decode cX8_common 61 = .ok (.istore 6, 2) := by decide +kernel
theorem dX8_common_63 : decode cX8_common 63 = .ok (.iconst 0, 1) := by decide +kernel
theorem dX8_common_64 : decode cX8_common 64 = .ok (.iload 5, 2) := by decide +kernel
theorem dX8_common_66 : decode cX8_common 66 = .ok (.iload 6, 2) := by decide +kernel
theorem dX8_common_68 : decode cX8_common 68 = .ok (.isub, 1) := by decide +kernel
theorem dX8_common_69 : decode cX8_common 69 = .ok (.iconst 1, 1) := by decide +kernel
theorem dX8_common_70 : decode cX8_common 70 = .ok (.iadd, 1) := by decide +kernel
theorem dX8_common_71 : decode cX8_common 71 = .ok (.invokestatic 164, 3) := by decide +kernel
theorem dX8_common_74 : decode cX8_common 74 = .ok (.ireturn, 1) := by decide +kernel
theorem dX8_pairs_0 : decode cX8_pairs 0 = .ok (.iload_n 1, 1) := by decide +kernel
theorem dX8_pairs_1 : decode cX8_pairs 1 = .ok (.iconst (-1), 1) := by decide +kernel
theorem dX8_pairs_2 : decode cX8_pairs 2 = .ok (.if_icmp .lt 9, 3) := by decide +kernel
theorem dX8_pairs_5 : decode cX8_pairs 5 = .ok (.iload_n 1, 1) := by decide +kernel
theorem dX8_pairs_6 : decode cX8_pairs 6 = .ok (.bipush 6, 2) := by decide +kernel
theorem dX8_pairs_8 : decode cX8_pairs 8 = .ok (.if_icmp .lt 6, 3) := by decide +kernel
theorem dX8_pairs_11 : decode cX8_pairs 11 = .ok (.bipush (-2), 2) := by decide +kernel
theorem dX8_pairs_13 : decode cX8_pairs 13 = .ok (.ireturn, 1) := by decide +kernel
theorem dX8_pairs_14 : decode cX8_pairs 14 = .ok (.aload_n 0, 1) := by decide +kernel
theorem dX8_pairs_15 : decode cX8_pairs 15 = .ok (.getfield 12, 3) := by decide +kernel
theorem dX8_pairs_18 : decode cX8_pairs 18 = .ok (.getfield 92, 3) := by decide +kernel
theorem dX8_pairs_21 : decode cX8_pairs 21 = .ok (.ifCond .ne 6, 3) := by decide +kernel
theorem dX8_pairs_24 : decode cX8_pairs 24 = .ok (.bipush (-3), 2) := by decide +kernel
theorem dX8_pairs_26 : decode cX8_pairs 26 = .ok (.ireturn, 1) := by decide +kernel
theorem dX8_pairs_27 : decode cX8_pairs 27 = .ok (.aload_n 0, 1) := by decide +kernel
theorem dX8_pairs_28 : decode cX8_pairs 28 = .ok (.getfield 41, 3) := by decide +kernel
theorem dX8_pairs_31 : decode cX8_pairs 31 = .ok (.aload_n 0, 1) := by decide +kernel
theorem dX8_pairs_32 : decode cX8_pairs 32 = .ok (.getfield 12, 3) := by decide +kernel
theorem dX8_pairs_35 : decode cX8_pairs 35 = .ok (.invokevirtual 167, 3) := by decide +kernel
theorem dX8_pairs_38 : decode cX8_pairs 38 = .ok (.iload_n 1, 1) := by decide +kernel
theorem dX8_pairs_39 : decode cX8_pairs 39 = .ok (.ifCond .ge 13, 3) := by decide +kernel
theorem dX8_pairs_42 : decode cX8_pairs 42 = .ok (.aload_n 0, 1) := by decide +kernel
theorem dX8_pairs_43 : decode cX8_pairs 43 = .ok (.getfield 41, 3) := by decide +kernel
theorem dX8_pairs_46 : decode cX8_pairs 46 = .ok (.getfield 171, 3) := by decide +kernel
theorem dX8_pairs_49 : decode cX8_pairs 49 = .ok (.goto 11, 3) := by decide +kernel
theorem dX8_pairs_52 : decode cX8_pairs 52 = .ok (.aload_n 0, 1) := by decide +kernel
theorem dX8_pairs_53 : decode cX8_pairs 53 = .ok (.getfield 41, 3) := by decide +kernel
theorem dX8_pairs_56 : decode cX8_pairs 56 = .ok (.iload_n 1, 1) := by decide +kernel
theorem dX8_pairs_57 : decode cX8_pairs 57 = .ok (.invokevirtual 174, 3) := by decide +kernel
theorem dX8_pairs_60 : decode cX8_pairs 60 = .ok (.ireturn, 1) := by decide +kernel
theorem dX8_orders_0 : decode cX8_orders 0 = .ok (.iload 5, 2) := by decide +kernel
theorem dX8_orders_2 : decode cX8_orders 2 = .ok (.iconst (-1), 1) := by decide +kernel
theorem dX8_orders_3 : decode cX8_orders 3 = .ok (.if_icmp .lt 14, 3) := by decide +kernel
theorem dX8_orders_6 : decode cX8_orders 6 = .ok (.iload 5, 2) := by decide +kernel
theorem dX8_orders_8 : decode cX8_orders 8 = .ok (.bipush 6, 2) := by decide +kernel
theorem dX8_orders_10 : decode cX8_orders 10 = .ok (.if_icmp .ge 7, 3) := by decide +kernel
theorem dX8_orders_13 : decode cX8_orders 13 = .ok (.iconst 1, 1) := by decide +kernel
theorem dX8_orders_14 : decode cX8_orders 14 = .ok (.goto 4, 3) := by decide +kernel
theorem dX8_orders_17 : decode cX8_orders 17 = .ok (.iconst 0, 1) := by decide +kernel
theorem dX8_orders_18 : decode cX8_orders 18 = .ok (.istore 6, 2) := by decide +kernel
theorem dX8_orders_20 : decode cX8_orders 20 = .ok (.aload_n 0, 1) := by decide +kernel
theorem dX8_orders_21 : decode cX8_orders 21 = .ok (.iload_n 1, 1) := by decide +kernel
theorem dX8_orders_22 : decode cX8_orders 22 = .ok (.iload_n 2, 1) := by decide +kernel
theorem dX8_orders_23 : decode cX8_orders 23 = .ok (.iload_n 3, 1) := by decide +kernel
theorem dX8_orders_24 : decode cX8_orders 24 = .ok (.iload 4, 2) := by decide +kernel
theorem dX8_orders_26 : decode cX8_orders 26 = .ok (.iload 6, 2) := by decide +kernel
theorem dX8_orders_28 : decode cX8_orders 28 = .ok (.invokevirtual 177, 3) := by decide +kernel
theorem dX8_orders_31 : decode cX8_orders 31 = .ok (.istore 7, 2) := by decide +kernel
theorem dX8_orders_33 : decode cX8_orders 33 = .ok (.iload 7, 2) := by decide +kernel
theorem dX8_orders_35 : decode cX8_orders 35 = .ok (.ifCond .eq 6, 3) := by decide +kernel
theorem dX8_orders_38 : decode cX8_orders 38 = .ok (.iload 7, 2) := by decide +kernel
theorem dX8_orders_40 : decode cX8_orders 40 = .ok (.ireturn, 1) := by decide +kernel
theorem dX8_orders_41 : decode cX8_orders 41 = .ok (.aload_n 0, 1) := by decide +kernel
theorem dX8_orders_42 : decode cX8_orders 42 = .ok (.getfield 48, 3) := by decide +kernel
theorem dX8_orders_45 : decode cX8_orders 45 = .ok (.aload_n 0, 1) := by decide +kernel
theorem dX8_orders_46 : decode cX8_orders 46 = .ok (.getfield 12, 3) := by decide +kernel
theorem dX8_orders_49 : decode cX8_orders 49 = .ok (.getfield 92, 3) := by decide +kernel
theorem dX8_orders_52 : decode cX8_orders 52 = .ok (.aload_n 0, 1) := by decide +kernel
theorem dX8_orders_53 : decode cX8_orders 53 = .ok (.getfield 20, 3) := by decide +kernel
theorem dX8_orders_56 : decode cX8_orders 56 = .ok (.iload_n 1, 1) := by decide +kernel
theorem dX8_orders_57 : decode cX8_orders 57 = .ok (.aaload, 1) := by decide +kernel
theorem dX8_orders_58 : decode cX8_orders 58 = .ok (.iload_n 3, 1) := by decide +kernel
theorem dX8_orders_59 : decode cX8_orders 59 = .ok (.iload 4, 2) := by decide +kernel
theorem dX8_orders_61 : decode cX8_orders 61 = .ok (.iconst 0, 1) := by decide +kernel
theorem dX8_orders_62 : decode cX8_orders 62 = .ok (.invokevirtual 180, 3) := by decide +kernel
theorem dX8_orders_65 : decode cX8_orders 65 = .ok (.iload 5, 2) := by decide +kernel
theorem dX8_orders_67 : decode cX8_orders 67 = .ok (.ifCond .ge 13, 3) := by decide +kernel
theorem dX8_orders_70 : decode cX8_orders 70 = .ok (.aload_n 0, 1) := by decide +kernel
theorem dX8_orders_71 : decode cX8_orders 71 = .ok (.getfield 48, 3) := by decide +kernel
theorem dX8_orders_74 : decode cX8_orders 74 = .ok (.invokevirtual 184, 3) := by decide +kernel
theorem dX8_orders_77 : decode cX8_orders 77 = .ok (.goto 12, 3) := by decide +kernel
theorem dX8_orders_80 : decode cX8_orders 80 = .ok (.aload_n 0, 1) := by decide +kernel
theorem dX8_orders_81 : decode cX8_orders 81 = .ok (.getfield 48, 3) := by decide +kernel
theorem dX8_orders_84 : decode cX8_orders 84 = .ok (.iload 5, 2) := by decide +kernel
theorem dX8_orders_86 : decode cX8_orders 86 = .ok (.invokevirtual 187, 3) := by decide +kernel
theorem dX8_orders_89 : decode cX8_orders 89 = .ok (.ireturn, 1) := by decide +kernel
theorem dX8_drops_0 : decode cX8_drops 0 = .ok (.aload_n 0, 1) := by decide +kernel
theorem dX8_drops_1 : decode cX8_drops 1 = .ok (.iload_n 1, 1) := by decide +kernel
theorem dX8_drops_2 : decode cX8_drops 2 = .ok (.iload_n 2, 1) := by decide +kernel
theorem dX8_drops_3 : decode cX8_drops 3 = .ok (.iload_n 3, 1) := by decide +kernel
theorem dX8_drops_4 : decode cX8_drops 4 = .ok (.iload 4, 2) := by decide +kernel
theorem dX8_drops_6 : decode cX8_drops 6 = .ok (.iconst 1, 1) := by decide +kernel
theorem dX8_drops_7 : decode cX8_drops 7 = .ok (.invokevirtual 177, 3) := by decide +kernel
theorem dX8_drops_10 : decode cX8_drops 10 = .ok (.istore 5, 2) := by decide +kernel
theorem dX8_drops_12 : decode cX8_drops 12 = .ok (.iload 5, 2) := by decide +kernel
theorem dX8_drops_14 : decode cX8_drops 14 = .ok (.ifCond .eq 8, 3) := by decide +kernel
theorem dX8_drops_17 : decode cX8_drops 17 = .ok (.iload 5, 2) := by decide +kernel
theorem dX8_drops_19 : decode cX8_drops 19 = .ok (.goto 26, 3) := by decide +kernel
theorem dX8_drops_22 : decode cX8_drops 22 = .ok (.aload_n 0, 1) := by decide +kernel
theorem dX8_drops_23 : decode cX8_drops 23 = .ok (.getfield 48, 3) := by decide +kernel
theorem dX8_drops_26 : decode cX8_drops 26 = .ok (.aload_n 0, 1) := by decide +kernel
theorem dX8_drops_27 : decode cX8_drops 27 = .ok (.getfield 12, 3) := by decide +kernel
theorem dX8_drops_30 : decode cX8_drops 30 = .ok (.getfield 92, 3) := by decide +kernel
theorem dX8_drops_33 : decode cX8_drops 33 = .ok (.aload_n 0, 1) := by decide +kernel
theorem dX8_drops_34 : decode cX8_drops 34 = .ok (.getfield 20, 3) := by decide +kernel
theorem dX8_drops_37 : decode cX8_drops 37 = .ok (.iload_n 1, 1) := by decide +kernel
theorem dX8_drops_38 : decode cX8_drops 38 = .ok (.aaload, 1) := by decide +kernel
theorem dX8_drops_39 : decode cX8_drops 39 = .ok (.iload_n 3, 1) := by decide +kernel
theorem dX8_drops_40 : decode cX8_drops 40 = .ok (.iload 4, 2) := by decide +kernel
theorem dX8_drops_42 : decode cX8_drops 42 = .ok (.invokevirtual 190, 3) := by decide +kernel
theorem dX8_drops_45 : decode cX8_drops 45 = .ok (.ireturn, 1) := by decide +kernel
theorem dX8_reading_0 : decode cX8_reading 0 = .ok (.aload_n 0, 1) := by decide +kernel
theorem dX8_reading_1 : decode cX8_reading 1 = .ok (.getfield 12, 3) := by decide +kernel
theorem dX8_reading_4 : decode cX8_reading 4 = .ok (.iload_n 1, 1) := by decide +kernel
theorem dX8_reading_5 : decode cX8_reading 5 = .ok (.iload_n 2, 1) := by decide +kernel
theorem dX8_reading_6 : decode cX8_reading 6 = .ok (.invokevirtual 119, 3) := by decide +kernel
theorem dX8_reading_9 : decode cX8_reading 9 = .ok (.ifCond .ne 5, 3) := by decide +kernel
theorem dX8_reading_12 : decode cX8_reading 12 = .ok (.iconst (-1), 1) := by decide +kernel
theorem dX8_reading_13 : decode cX8_reading 13 = .ok (.ireturn, 1) := by decide +kernel
theorem dX8_reading_14 : decode cX8_reading 14 = .ok (.iload_n 3, 1) := by decide +kernel
theorem dX8_reading_15 : decode cX8_reading 15 = .ok (.ifCond .lt 19, 3) := by decide +kernel
theorem dX8_reading_18 : decode cX8_reading 18 = .ok (.iload_n 3, 1) := by decide +kernel
theorem dX8_reading_19 : decode cX8_reading 19 = .ok (.iconst 1, 1) := by decide +kernel
theorem dX8_reading_20 : decode cX8_reading 20 = .ok (.if_icmp .gt 14, 3) := by decide +kernel
theorem dX8_reading_23 : decode cX8_reading 23 = .ok (.iload 4, 2) := by decide +kernel
theorem dX8_reading_25 : decode cX8_reading 25 = .ok (.ifCond .lt 9, 3) := by decide +kernel
theorem dX8_reading_28 : decode cX8_reading 28 = .ok (.iload 4, 2) := by decide +kernel
theorem dX8_reading_30 : decode cX8_reading 30 = .ok (.iconst 2, 1) := by decide +kernel
theorem dX8_reading_31 : decode cX8_reading 31 = .ok (.if_icmp .le 6, 3) := by decide +kernel
theorem dX8_reading_34 : decode cX8_reading 34 = .ok (.bipush (-2), 2) := by decide +kernel
theorem dX8_reading_36 : decode cX8_reading 36 = .ok (.ireturn, 1) := by decide +kernel
theorem dX8_reading_37 : decode cX8_reading 37 = .ok (.aload_n 0, 1) := by decide +kernel
theorem dX8_reading_38 : decode cX8_reading 38 = .ok (.getfield 27, 3) := by decide +kernel
theorem dX8_reading_41 : decode cX8_reading 41 = .ok (.iload_n 1, 1) := by decide +kernel
theorem dX8_reading_42 : decode cX8_reading 42 = .ok (.iload_n 2, 1) := by decide +kernel
theorem dX8_reading_43 : decode cX8_reading 43 = .ok (.iload_n 3, 1) := by decide +kernel
theorem dX8_reading_44 : decode cX8_reading 44 = .ok (.iload 4, 2) := by decide +kernel
theorem dX8_reading_46 : decode cX8_reading 46 = .ok (.invokevirtual 194, 3) := by decide +kernel
theorem dX8_reading_49 : decode cX8_reading 49 = .ok (.ireturn, 1) := by decide +kernel
