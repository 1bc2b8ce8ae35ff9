theorem dX9_areTwo_0 : decode cX9_areTwo 0 = .ok (.aload_n 0, 1) := by decide +kernel
theorem dX9_areTwo_1 : decode cX9_areTwo 1 = .ok (.iload_n 1, 1) := by decide +kernel
theorem dX9_areTwo_2 : decode cX9_areTwo 2 = .ok (.invokevirtual 74, 3) := by decide +kernel
theorem dX9_areTwo_5 : decode cX9_areTwo 5 = .ok (.ifCond .eq 20, 3) := by decide +kernel
theorem dX9_areTwo_8 : decode cX9_areTwo 8 = .ok (.aload_n 0, 1) := by decide +kernel
theorem dX9_areTwo_9 : decode cX9_areTwo 9 = .ok (.iload_n 2, 1) := by decide +kernel
theorem dX9_areTwo_10 : decode cX9_areTwo 10 = .ok (.invokevirtual 74, 3) := by decide +kernel
theorem dX9_areTwo_13 : decode cX9_areTwo 13 = .ok (.ifCond .eq 12, 3) := by decide +kernel
theorem dX9_areTwo_16 : decode cX9_areTwo 16 = .ok (.iload_n 1, 1) := by decide +kernel
theorem dX9_areTwo_17 : decode cX9_areTwo 17 = .ok (.iload_n 2, 1) := by decide +kernel
theorem dX9_areTwo_18 : decode cX9_areTwo 18 = .ok (.if_icmp .eq 7, 3) := by decide +kernel
theorem dX9_areTwo_21 : decode cX9_areTwo 21 = .ok (.iconst 1, 1) := by decide +kernel
theorem dX9_areTwo_22 : decode cX9_areTwo 22 = .ok (.goto 4, 3) := by decide +kernel
theorem dX9_areTwo_25 : decode cX9_areTwo 25 = .ok (.iconst 0, 1) := by decide +kernel
theorem dX9_areTwo_26 : decode cX9_areTwo 26 = .ok (.ireturn, 1) := by decide +kernel
theorem dX9_isOf_0 : decode cX9_isOf 0 = .ok (.iload_n 0, 1) := by decide +kernel
theorem dX9_isOf_1 : decode cX9_isOf 1 = .ok (.iload_n 1, 1) := by decide +kernel
theorem dX9_isOf_2 : decode cX9_isOf 2 = .ok (.ishr, 1) := by decide +kernel
theorem dX9_isOf_3 : decode cX9_isOf 3 = .ok (.iconst 1, 1) := by decide +kernel
theorem dX9_isOf_4 : decode cX9_isOf 4 = .ok (.iand, 1) := by decide +kernel
theorem dX9_isOf_5 : decode cX9_isOf 5 = .ok (.iconst 1, 1) := by decide +kernel
theorem dX9_isOf_6 : decode cX9_isOf 6 = .ok (.if_icmp .ne 7, 3) := by decide +kernel
theorem dX9_isOf_9 : decode cX9_isOf 9 = .ok (.iconst 1, 1) := by decide +kernel
theorem dX9_isOf_10 : decode cX9_isOf 10 = .ok (.goto 4, 3) := by decide +kernel
theorem dX9_isOf_13 : decode cX9_isOf 13 = .ok (.iconst 0, 1) := by decide +kernel
theorem dX9_isOf_14 : decode cX9_isOf 14 = .ok (.ireturn, 1) := by decide +kernel
theorem dX9_size_0 : decode cX9_size 0 = .ok (.iconst 0, 1) := by decide +kernel
theorem dX9_size_1 : decode cX9_size 1 = .ok (.istore_n 1, 1) := by decide +kernel
theorem dX9_size_2 : decode cX9_size 2 = .ok (.iload_n 0, 1) := by decide +kernel
theorem dX9_size_3 : decode cX9_size 3 = .ok (.istore_n 2, 1) := by decide +kernel
theorem dX9_size_4 : decode cX9_size 4 = .ok (.iload_n 2, 1) := by decide +kernel
theorem dX9_size_5 : decode cX9_size 5 = .ok (.ifCond .le 16, 3) := by decide +kernel
theorem dX9_size_8 : decode cX9_size 8 = .ok (.iload_n 1, 1) := by decide +kernel
theorem dX9_size_9 : decode cX9_size 9 = .ok (.iload_n 2, 1) := by decide +kernel
theorem dX9_size_10 : decode cX9_size 10 = .ok (.iconst 1, 1) := by decide +kernel
theorem dX9_size_11 : decode cX9_size 11 = .ok (.iand, 1) := by decide +kernel
theorem dX9_size_12 : decode cX9_size 12 = .ok (.iadd, 1) := by decide +kernel
theorem dX9_size_13 : decode cX9_size 13 = .ok (.istore_n 1, 1) := by decide +kernel
theorem dX9_size_14 : decode cX9_size 14 = .ok (.iload_n 2, 1) := by decide +kernel
theorem dX9_size_15 : decode cX9_size 15 = .ok (.iconst 1, 1) := by decide +kernel
theorem dX9_size_16 : decode cX9_size 16 = .ok (.ishr, 1) := by decide +kernel
theorem dX9_size_17 : decode cX9_size 17 = .ok (.istore_n 2, 1) := by decide +kernel
theorem dX9_size_18 : decode cX9_size 18 = .ok (.goto (-14), 3) := by decide +kernel
theorem dX9_size_21 : decode cX9_size 21 = .ok (.iload_n 1, 1) := by decide +kernel
theorem dX9_size_22 : decode cX9_size 22 = .ok (.ireturn, 1) := by decide +kernel
theorem dX9_digit_0 : decode cX9_digit 0 = .ok (.aload_n 0, 1) := by decide +kernel
theorem dX9_digit_1 : decode cX9_digit 1 = .ok (.getfield 78, 3) := by decide +kernel
theorem dX9_digit_4 : decode cX9_digit 4 = .ok (.iload_n 1, 1) := by decide +kernel
theorem dX9_digit_5 : decode cX9_digit 5 = .ok (.if_icmp .ge 22, 3) := by decide +kernel
theorem dX9_digit_8 : decode cX9_digit 8 = .ok (.aload_n 0, 1) := by decide +kernel
theorem dX9_digit_9 : decode cX9_digit 9 = .ok (.getfield 16, 3) := by decide +kernel
theorem dX9_digit_12 : decode cX9_digit 12 = .ok (.aload_n 0, 1) := by decide +kernel
theorem dX9_digit_13 : decode cX9_digit 13 = .ok (.getfield 78, 3) := by decide +kernel
theorem dX9_digit_16 : decode cX9_digit 16 = .ok (.iaload, 1) := by decide +kernel
theorem dX9_digit_17 : decode cX9_digit 17 = .ok (.bipush 48, 2) := by decide +kernel
theorem dX9_digit_19 : decode cX9_digit 19 = .ok (.bipush 57, 2) := by decide +kernel
theorem dX9_digit_21 : decode cX9_digit 21 = .ok (.invokestatic 67, 3) := by decide +kernel
theorem dX9_digit_24 : decode cX9_digit 24 = .ok (.ifCond .ne 6, 3) := by decide +kernel
theorem dX9_digit_27 : decode cX9_digit 27 = .ok (.bipush (-9), 2) := by decide +kernel
theorem dX9_digit_29 : decode cX9_digit 29 = .ok (.ireturn, 1) := by decide +kernel
theorem dX9_digit_30 : decode cX9_digit 30 = .ok (.aload_n 0, 1) := by decide +kernel
theorem dX9_digit_31 : decode cX9_digit 31 = .ok (.dup, 1) := by decide +kernel
theorem dX9_digit_32 : decode cX9_digit 32 = .ok (.getfield 78, 3) := by decide +kernel
theorem dX9_digit_35 : decode cX9_digit 35 = .ok (.iconst 1, 1) := by decide +kernel
theorem dX9_digit_36 : decode cX9_digit 36 = .ok (.iadd, 1) := by decide +kernel
theorem dX9_digit_37 : decode cX9_digit 37 = .ok (.putfield 78, 3) := by decide +kernel
theorem dX9_digit_40 : decode cX9_digit 40 = .ok (.aload_n 0, 1) := by decide +kernel
theorem dX9_digit_41 : decode cX9_digit 41 = .ok (.getfield 16, 3) := by decide +kernel
theorem dX9_digit_44 : decode cX9_digit 44 = .ok (.aload_n 0, 1) := by decide +kernel
theorem dX9_digit_45 : decode cX9_digit 45 = .ok (.getfield 78, 3) := by decide +kernel
theorem dX9_digit_48 : decode cX9_digit 48 = .ok (.iconst 1, 1) := by decide +kernel
theorem dX9_digit_49 : decode cX9_digit 49 = .ok (.isub, 1) := by decide +kernel
theorem dX9_digit_50 : decode cX9_digit 50 = .ok (.iaload, 1) := by decide +kernel
theorem dX9_digit_51 : decode cX9_digit 51 = .ok (.bipush 48, 2) := by decide +kernel
theorem dX9_digit_53 : decode cX9_digit 53 = .ok (.isub, 1) := by decide +kernel
theorem dX9_digit_54 : decode cX9_digit 54 = .ok (.ireturn, 1) := by decide +kernel
theorem dX9_isSign_0 : decode cX9_isSign 0 = .ok (.aload_n 0, 1) := by decide +kernel
theorem dX9_isSign_1 : decode cX9_isSign 1 = .ok (.getfield 78, 3) := by decide +kernel
theorem dX9_isSign_4 : decode cX9_isSign 4 = .ok (.iload_n 1, 1) := by decide +kernel
theorem dX9_isSign_5 : decode cX9_isSign 5 = .ok (.if_icmp .ge 16, 3) := by decide +kernel
theorem dX9_isSign_8 : decode cX9_isSign 8 = .ok (.aload_n 0, 1) := by decide +kernel
theorem dX9_isSign_9 : decode cX9_isSign 9 = .ok (.getfield 16, 3) := by decide +kernel
theorem dX9_isSign_12 : decode cX9_isSign 12 = .ok (.aload_n 0, 1) := by decide +kernel
theorem dX9_isSign_13 : decode cX9_isSign 13 = .ok (.getfield 78, 3) := by decide +kernel
theorem dX9_isSign_16 : decode cX9_isSign 16 = .ok (.iaload, 1) := by decide +kernel
theorem dX9_isSign_17 : decode cX9_isSign 17 = .ok (.iload_n 2, 1) := by decide +kernel
theorem dX9_isSign_18 : decode cX9_isSign 18 = .ok (.if_icmp .eq 5, 3) := by decide +kernel
theorem dX9_isSign_21 : decode cX9_isSign 21 = .ok (.iconst 0, 1) := by decide +kernel
theorem dX9_isSign_22 : decode cX9_isSign 22 = .ok (.ireturn, 1) := by decide +kernel
theorem dX9_isSign_23 : decode cX9_isSign 23 = .ok (.aload_n 0, 1) := by decide +kernel
theorem dX9_isSign_24 : decode cX9_isSign 24 = .ok (.dup, 1) := by decide +kernel
theorem dX9_isSign_25 : decode cX9_isSign 25 = .ok (.getfield 78, 3) := by decide +kernel
theorem dX9_isSign_28 : decode cX9_isSign 28 = .ok (.iconst 1, 1) := by decide +kernel
theorem dX9_isSign_29 : decode cX9_isSign 29 = .ok (.iadd, 1) := by decide +kernel
theorem dX9_isSign_30 : decode cX9_isSign 30 = .ok (.putfield 78, 3) := by decide +kernel
theorem dX9_isSign_33 : decode cX9_isSign 33 = .ok (.iconst 1, 1) := by decide +kernel
theorem dX9_isSign_34 : decode cX9_isSign 34 = .ok (.ireturn, 1) := by decide +kernel
theorem dX9_harbour_0 : decode cX9_harbour 0 = .ok (.aload_n 0, 1) := by decide +kernel
theorem dX9_harbour_1 : decode cX9_harbour 1 = .ok (.iconst 0, 1) := by decide +kernel
theorem dX9_harbour_2 : decode cX9_harbour 2 = .ok (.putfield 61, 3) := by decide +kernel
theorem dX9_harbour_5 : decode cX9_harbour 5 = .ok (.iload_n 1, 1) := by decide +kernel
theorem dX9_harbour_6 : decode cX9_harbour 6 = .ok (.invokestatic 81, 3) := by decide +kernel
theorem dX9_harbour_9 : decode cX9_harbour 9 = .ok (.ifCond .ne 5, 3) := by decide +kernel
theorem dX9_harbour_12 : decode cX9_harbour 12 = .ok (.iconst (-1), 1) := by decide +kernel
theorem dX9_harbour_13 : decode cX9_harbour 13 = .ok (.ireturn, 1) := by decide +kernel
theorem dX9_harbour_14 : decode cX9_harbour 14 = .ok (.iload_n 2, 1) := by decide +kernel
theorem dX9_harbour_15 : decode cX9_harbour 15 = .ok (.invokestatic 84, 3) := by decide +kernel
theorem dX9_harbour_18 : decode cX9_harbour 18 = .ok (.ifCond .ne 6, 3) := by decide +kernel
theorem dX9_harbour_21 : decode cX9_harbour 21 = .ok (.bipush (-2), 2) := by decide +kernel
theorem dX9_harbour_23 : decode cX9_harbour 23 = .ok (.ireturn, 1) := by decide +kernel
theorem dX9_harbour_24 : decode cX9_harbour 24 = .ok (.aload_n 0, 1) := by decide +kernel
theorem dX9_harbour_25 : decode cX9_harbour 25 = .ok (.iload_n 1, 1) := by decide +kernel
theorem dX9_harbour_26 : decode cX9_harbour 26 = .ok (.iload_n 2, 1) := by decide +kernel
theorem dX9_harbour_27 : decode cX9_harbour 27 = .ok (.iload_n 3, 1) := by decide +kernel
theorem dX9_harbour_28 : decode cX9_harbour 28 = .ok (.iload 4, 2) := by decide +kernel
theorem dX9_harbour_30 : decode cX9_harbour 30 = .ok (.invokevirtual 87, 3) := by decide +kernel
theorem dX9_harbour_33 : decode cX9_harbour 33 = .ok (.istore 5, 2) := by decide +kernel
theorem dX9_harbour_35 : decode cX9_harbour 35 = .ok (.iload 5, 2) := by decide +kernel
theorem dX9_harbour_37 : decode cX9_harbour 37 = .ok (.ifCond .eq 10, 3) := by decide +kernel
theorem dX9_harbour_40 : decode cX9_harbour 40 = .ok (.aload_n 0, 1) := by decide +kernel
theorem dX9_harbour_41 : decode cX9_harbour 41 = .ok (.iload 5, 2) := by decide +kernel
theorem dX9_harbour_43 : decode cX9_harbour 43 = .ok (.invokevirtual 91, 3) := by decide +kernel
theorem dX9_harbour_46 : decode cX9_harbour 46 = .ok (.ireturn, 1) := by decide +kernel
theorem dX9_harbour_47 : decode cX9_harbour 47 = .ok (.bipush 60, 2) := by decide +kernel
theorem dX9_harbour_49 : decode cX9_harbour 49 = .ok (.iload_n 1, 1) := by decide +kernel
theorem dX9_harbour_50 : decode cX9_harbour 50 = .ok (.imul, 1) := by decide +kernel
theorem dX9_harbour_51 : decode cX9_harbour 51 = .ok (.iload_n 3, 1) := by decide +kernel
theorem dX9_harbour_52 : decode cX9_harbour 52 = .ok (.iadd, 1) := by decide +kernel
theorem dX9_harbour_53 : decode cX9_harbour 53 = .ok (.istore 6, 2) := by decide +kernel
theorem dX9_harbour_55 : decode cX9_harbour 55 = .ok (.aload_n 0, 1) := by decide +kernel
theorem dX9_harbour_56 : decode cX9_harbour 56 = .ok (.iload 6, 2) := by decide +kernel
theorem dX9_harbour_58 : decode cX9_harbour 58 = .ok (.putfield 78, 3) := by decide +kernel
theorem dX9_harbour_61 : decode cX9_harbour 61 = .ok (.aload_n 0, 1) := by decide +kernel
theorem dX9_harbour_62 : decode cX9_harbour 62 = .ok (.iload 6, 2) := by decide +kernel
theorem dX9_harbour_64 : decode cX9_harbour 64 = .ok (.iload 4, 2) := by decide +kernel
theorem dX9_harbour_66 : decode cX9_harbour 66 = .ok (.iadd, 1) := by decide +kernel
theorem dX9_harbour_67 : decode cX9_harbour 67 = .ok (.invokevirtual 95, 3) := by decide +kernel
theorem dX9_harbour_70 : decode cX9_harbour 70 = .ok (.ifCond .ne 14, 3) := by decide +kernel
theorem dX9_harbour_73 : decode cX9_harbour 73 = .ok (.bipush (-100), 2) := by decide +kernel
theorem dX9_harbour_75 : decode cX9_harbour 75 = .ok (.aload_n 0, 1) := by decide +kernel
theorem dX9_harbour_76 : decode cX9_harbour 76 = .ok (.getfield 78, 3) := by decide +kernel
theorem dX9_harbour_79 : decode cX9_harbour 79 = .ok (.iload 6, 2) := by decide +kernel
theorem dX9_harbour_81 : decode cX9_harbour 81 = .ok (.isub, 1) := by decide +kernel
theorem dX9_harbour_82 : decode cX9_harbour 82 = .ok (.isub, 1) := by decide +kernel
theorem dX9_harbour_83 : decode cX9_harbour 83 = .ok (.ireturn, 1) := by decide +kernel
theorem dX9_harbour_84 : decode cX9_harbour 84 = .ok (.aload_n 0, 1) := by decide +kernel
theorem dX9_harbour_85 : decode cX9_harbour 85 = .ok (.aload_n 0, 1) := by decide +kernel
theorem dX9_harbour_86 : decode cX9_harbour 86 = .ok (.getfield 98, 3) := by decide +kernel
theorem dX9_harbour_89 : decode cX9_harbour 89 = .ok (.putfield 71, 3) := by decide +kernel
theorem dX9_harbour_92 : decode cX9_harbour 92 = .ok (.iconst 0, 1) := by decide +kernel
theorem dX9_harbour_93 : decode cX9_harbour 93 = .ok (.istore 7, 2) := by decide +kernel
theorem dX9_harbour_95 : decode cX9_harbour 95 = .ok (.iload 7, 2) := by decide +kernel
theorem dX9_harbour_97 : decode cX9_harbour 97 = .ok (.aload_n 0, 1) := by decide +kernel
theorem dX9_harbour_98 : decode cX9_harbour 98 = .ok (.getfield 71, 3) := by decide +kernel
theorem dX9_harbour_101 : decode cX9_harbour 101 = .ok (.if_icmp .ge 61, 3) := by decide +kernel
theorem dX9_harbour_104 : decode cX9_harbour 104 = .ok (.aload_n 0, 1) := by decide +kernel
theorem dX9_harbour_105 : decode cX9_harbour 105 = .ok (.getfield 19, 3) := by decide +kernel
theorem dX9_harbour_108 : decode cX9_harbour 108 = .ok (.iload 7, 2) := by decide +kernel
theorem dX9_harbour_110 : decode cX9_harbour 110 = .ok (.aload_n 0, 1) := by decide +kernel
theorem dX9_harbour_111 : decode cX9_harbour 111 = .ok (.getfield 28, 3) := by decide +kernel
theorem dX9_harbour_114 : decode cX9_harbour 114 = .ok (.iconst 3, 1) := by decide +kernel
theorem dX9_harbour_115 : decode cX9_harbour 115 = .ok (.iload 7, 2) := by decide +kernel
theorem dX9_harbour_117 : decode cX9_harbour 117 = .ok (.imul, 1) := by decide +kernel
theorem dX9_harbour_118 : decode cX9_harbour 118 = .ok (.iaload, 1) := by decide +kernel
theorem dX9_harbour_119 : decode cX9_harbour 119 = .ok (.iastore, 1) := by decide +kernel
theorem dX9_harbour_120 : decode cX9_harbour 120 = .ok (.aload_n 0, 1) := by decide +kernel
theorem dX9_harbour_121 : decode cX9_harbour 121 = .ok (.getfield 22, 3) := by decide +kernel
theorem dX9_harbour_124 : decode cX9_harbour 124 = .ok (.iload 7, 2) := by decide +kernel
theorem dX9_harbour_126 : decode cX9_harbour 126 = .ok (.aload_n 0, 1) := by decide +kernel
theorem dX9_harbour_127 : decode cX9_harbour 127 = .ok (.getfield 28, 3) := by decide +kernel
theorem dX9_harbour_130 : decode cX9_harbour 130 = .ok (.iconst 3, 1) := by decide +kernel
theorem dX9_harbour_131 : decode cX9_harbour 131 = .ok (.iload 7, 2) := by decide +kernel
theorem dX9_harbour_133 : decode cX9_harbour 133 = .ok (.imul, 1) := by decide +kernel
theorem dX9_harbour_134 : decode cX9_harbour 134 = .ok (.iconst 1, 1) := by decide +kernel
theorem dX9_harbour_135 : decode cX9_harbour 135 = .ok (.iadd, 1) := by decide +kernel
theorem dX9_harbour_136 : decode cX9_harbour 136 = .ok (.iaload, 1) := by decide +kernel
theorem dX9_harbour_137 : decode cX9_harbour 137 = .ok (.iastore, 1) := by decide +kernel
theorem dX9_harbour_138 : decode cX9_harbour 138 = .ok (.aload_n 0, 1) := by decide +kernel
theorem dX9_harbour_139 : decode cX9_harbour 139 = .ok (.getfield 25, 3) := by decide +kernel
theorem dX9_harbour_142 : decode cX9_harbour 142 = .ok (.iload 7, 2) := by decide +kernel
theorem dX9_harbour_144 : decode cX9_harbour 144 = .ok (.aload_n 0, 1) := by decide +kernel
theorem dX9_harbour_145 : decode cX9_harbour 145 = .ok (.getfield 28, 3) := by decide +kernel
theorem dX9_harbour_148 : decode cX9_harbour 148 = .ok (.iconst 3, 1) := by decide +kernel
theorem dX9_harbour_149 : decode cX9_harbour 149 = .ok (.iload 7, 2) := by decide +kernel
theorem dX9_harbour_151 : decode cX9_harbour 151 = .ok (.imul, 1) := by decide +kernel
theorem dX9_harbour_152 : decode cX9_harbour 152 = .ok (.iconst 2, 1) := by decide +kernel
theorem dX9_harbour_153 : decode cX9_harbour 153 = .ok (.iadd, 1) := by decide +kernel
theorem dX9_harbour_154 : decode cX9_harbour 154 = .ok (.iaload, 1) := by decide +kernel
theorem dX9_harbour_155 : decode cX9_harbour 155 = .ok (.iastore, 1) := by decide +kernel
theorem dX9_harbour_156 : decode cX9_harbour 156 = .ok (.iinc 7 1, 3) := by decide +kernel
theorem dX9_harbour_159 : decode cX9_harbour 159 = .ok (.goto (-64), 3) := by decide +kernel
theorem dX9_harbour_162 : decode cX9_harbour 162 = .ok (.aload_n 0, 1) := by decide +kernel
theorem dX9_harbour_163 : decode cX9_harbour 163 = .ok (.iconst 0, 1) := by decide +kernel
theorem dX9_harbour_164 : decode cX9_harbour 164 = .ok (.putfield 101, 3) := by decide +kernel
theorem dX9_harbour_167 : decode cX9_harbour 167 = .ok (.aload_n 0, 1) := by decide +kernel
theorem dX9_harbour_168 : decode cX9_harbour 168 = .ok (.iconst 0, 1) := by decide +kernel
theorem dX9_harbour_169 : decode cX9_harbour 169 = .ok (.putfield 104, 3) := by decide +kernel
theorem dX9_harbour_172 : decode cX9_harbour 172 = .ok (.aload_n 0, 1) := by decide +kernel
theorem dX9_harbour_173 : decode cX9_harbour 173 = .ok (.iconst 0, 1) := by decide +kernel
theorem dX9_harbour_174 : decode cX9_harbour 174 = .ok (.putfield 107, 3) := by decide +kernel
theorem dX9_harbour_177 : decode cX9_harbour 177 = .ok (.aload_n 0, 1) := by decide +kernel
theorem dX9_harbour_178 : decode cX9_harbour 178 = .ok (.getfield 71, 3) := by decide +kernel
theorem dX9_harbour_181 : decode cX9_harbour 181 = .ok (.ireturn, 1) := by decide +kernel
theorem dX9_readHarbour_0 : decode cX9_readHarbour 0 = .ok (.aload_n 0, 1) := by decide +kernel
theorem dX9_readHarbour_1 : decode cX9_readHarbour 1 = .ok (.iconst 0, 1) := by decide +kernel
theorem dX9_readHarbour_2 : decode cX9_readHarbour 2 = .ok (.putfield 98, 3) := by decide +kernel
theorem dX9_readHarbour_5 : decode cX9_readHarbour 5 = .ok (.aload_n 0, 1) := by decide +kernel
theorem dX9_readHarbour_6 : decode cX9_readHarbour 6 = .ok (.iload_n 1, 1) := by decide +kernel
theorem dX9_readHarbour_7 : decode cX9_readHarbour 7 = .ok (.bipush 118, 2) := by decide +kernel
theorem dX9_readHarbour_9 : decode cX9_readHarbour 9 = .ok (.invokevirtual 110, 3) := by decide +kernel
theorem dX9_readHarbour_12 : decode cX9_readHarbour 12 = .ok (.ifCond .ne 5, 3) := by decide +kernel
theorem dX9_readHarbour_15 : decode cX9_readHarbour 15 = .ok (.iconst 0, 1) := by decide +kernel
theorem dX9_readHarbour_16 : decode cX9_readHarbour 16 = .ok (.ireturn, 1) := by decide +kernel
theorem dX9_readHarbour_17 : decode cX9_readHarbour 17 = .ok (.aload_n 0, 1) := by decide +kernel
theorem dX9_readHarbour_18 : decode cX9_readHarbour 18 = .ok (.getfield 98, 3) := by decide +kernel
theorem dX9_readHarbour_21 : decode cX9_readHarbour 21 = .ok (.iconst 2, 1) := by decide +kernel
theorem dX9_readHarbour_22 : decode cX9_readHarbour 22 = .ok (.if_icmp .lt 20, 3) := by decide +kernel
theorem dX9_readHarbour_25 : decode cX9_readHarbour 25 = .ok (.aload_n 0, 1) := by decide +kernel
theorem dX9_readHarbour_26 : decode cX9_readHarbour 26 = .ok (.getfield 98, 3) := by decide +kernel
theorem dX9_readHarbour_29 : decode cX9_readHarbour 29 = .ok (.bipush 6, 2) := by decide +kernel
theorem dX9_readHarbour_31 : decode cX9_readHarbour 31 = .ok (.if_icmp .ge 31, 3) := by decide +kernel
theorem dX9_readHarbour_34 : decode cX9_readHarbour 34 = .ok (.aload_n 0, 1) := by decide +kernel
theorem dX9_readHarbour_35 : decode cX9_readHarbour 35 = .ok (.getfield 78, 3) := by decide +kernel
theorem dX9_readHarbour_38 : decode cX9_readHarbour 38 = .ok (.iload_n 1, 1) := by decide +kernel
theorem dX9_readHarbour_39 : decode cX9_readHarbour 39 = .ok (.if_icmp .ge 23, 3) := by decide +kernel
theorem dX9_readHarbour_42 : decode cX9_readHarbour 42 = .ok (.aload_n 0, 1) := by decide +kernel
theorem dX9_readHarbour_43 : decode cX9_readHarbour 43 = .ok (.iload_n 1, 1) := by decide +kernel
theorem dX9_readHarbour_44 : decode cX9_readHarbour 44 = .ok (.bipush 59, 2) := by decide +kernel
theorem dX9_readHarbour_46 : decode cX9_readHarbour 46 = .ok (.invokevirtual 110, 3) := by decide +kernel
theorem dX9_readHarbour_49 : decode cX9_readHarbour 49 = .ok (.ifCond .eq 11, 3) := by decide +kernel
theorem dX9_readHarbour_52 : decode cX9_readHarbour 52 = .ok (.aload_n 0, 1) := by decide +kernel
theorem dX9_readHarbour_53 : decode cX9_readHarbour 53 = .ok (.iload_n 1, 1) := by decide +kernel
theorem dX9_readHarbour_54 : decode cX9_readHarbour 54 = .ok (.invokevirtual 114, 3) := by decide +kernel
theorem dX9_readHarbour_57 : decode cX9_readHarbour 57 = .ok (.ifCond .ne (-40), 3) := by decide +kernel
theorem dX9_readHarbour_60 : decode cX9_readHarbour 60 = .ok (.iconst 0, 1) := by decide +kernel
theorem dX9_readHarbour_61 : decode cX9_readHarbour 61 = .ok (.ireturn, 1) := by decide +kernel
theorem dX9_readHarbour_62 : decode cX9_readHarbour 62 = .ok (.aload_n 0, 1) := by decide +kernel
theorem dX9_readHarbour_63 : decode cX9_readHarbour 63 = .ok (.getfield 78, 3) := by decide +kernel
theorem dX9_readHarbour_66 : decode cX9_readHarbour 66 = .ok (.iload_n 1, 1) := by decide +kernel
theorem dX9_readHarbour_67 : decode cX9_readHarbour 67 = .ok (.if_icmp .ne 7, 3) := by decide +kernel
theorem dX9_readHarbour_70 : decode cX9_readHarbour 70 = .ok (.iconst 1, 1) := by decide +kernel
theorem dX9_readHarbour_71 : decode cX9_readHarbour 71 = .ok (.goto 4, 3) := by decide +kernel
theorem dX9_readHarbour_74 : decode cX9_readHarbour 74 = .ok (.iconst 0, 1) := by decide +kernel
theorem dX9_readHarbour_75 : decode cX9_readHarbour 75 = .ok (.ireturn, 1) := by decide +kernel
theorem dX9_readPerson_0 : decode cX9_readPerson 0 = .ok (.aload_n 0, 1) := by decide +kernel
theorem dX9_readPerson_1 : decode cX9_readPerson 1 = .ok (.getfield 78, 3) := by decide +kernel
theorem dX9_readPerson_4 : decode cX9_readPerson 4 = .ok (.iload_n 1, 1) := by decide +kernel
theorem dX9_readPerson_5 : decode cX9_readPerson 5 = .ok (.if_icmp .ge 15, 3) := by decide +kernel
theorem dX9_readPerson_8 : decode cX9_readPerson 8 = .ok (.aload_n 0, 1) := by decide +kernel
theorem dX9_readPerson_9 : decode cX9_readPerson 9 = .ok (.getfield 16, 3) := by decide +kernel
theorem dX9_readPerson_12 : decode cX9_readPerson 12 = .ok (.aload_n 0, 1) := by decide +kernel
theorem dX9_readPerson_13 : decode cX9_readPerson 13 = .ok (.getfield 78, 3) := by decide +kernel
theorem dX9_readPerson_16 : decode cX9_readPerson 16 = .ok (.iaload, 1) := by decide +kernel
theorem dX9_readPerson_17 : decode cX9_readPerson 17 = .ok (.goto 4, 3) := by decide +kernel
theorem dX9_readPerson_20 : decode cX9_readPerson 20 = .ok (.iconst 0, 1) := by decide +kernel
theorem dX9_readPerson_21 : decode cX9_readPerson 21 = .ok (.istore_n 2, 1) := by decide +kernel
theorem dX9_readPerson_22 : decode cX9_readPerson 22 = .ok (.iconst 3, 1) := by decide +kernel
theorem dX9_readPerson_23 : decode cX9_readPerson 23 = .ok (.aload_n 0, 1) := by decide +kernel
theorem dX9_readPerson_24 : decode cX9_readPerson 24 = .ok (.getfield 98, 3) := by decide +kernel
theorem dX9_readPerson_27 : decode cX9_readPerson 27 = .ok (.imul, 1) := by decide +kernel
theorem dX9_readPerson_28 : decode cX9_readPerson 28 = .ok (.istore_n 3, 1) := by decide +kernel
theorem dX9_readPerson_29 : decode cX9_readPerson 29 = .ok (.aload_n 0, 1) := by decide +kernel
theorem dX9_readPerson_30 : decode cX9_readPerson 30 = .ok (.getfield 28, 3) := by decide +kernel
theorem dX9_readPerson_33 : decode cX9_readPerson 33 = .ok (.iload_n 3, 1) := by decide +kernel
theorem dX9_readPerson_34 : decode cX9_readPerson 34 = .ok (.iload_n 2, 1) := by decide +kernel
theorem dX9_readPerson_35 : decode cX9_readPerson 35 = .ok (.bipush 112, 2) := by decide +kernel
theorem dX9_readPerson_37 : decode cX9_readPerson 37 = .ok (.if_icmp .ne 7, 3) := by decide +kernel
theorem dX9_readPerson_40 : decode cX9_readPerson 40 = .ok (.iconst 0, 1) := by decide +kernel
theorem dX9_readPerson_41 : decode cX9_readPerson 41 = .ok (.goto 25, 3) := by decide +kernel
theorem dX9_readPerson_44 : decode cX9_readPerson 44 = .ok (.iload_n 2, 1) := by decide +kernel
theorem dX9_readPerson_45 : decode cX9_readPerson 45 = .ok (.bipush 108, 2) := by decide +kernel
theorem dX9_readPerson_47 : decode cX9_readPerson 47 = .ok (.if_icmp .ne 7, 3) := by decide +kernel
theorem dX9_readPerson_50 : decode cX9_readPerson 50 = .ok (.iconst 1, 1) := by decide +kernel
theorem dX9_readPerson_51 : decode cX9_readPerson 51 = .ok (.goto 15, 3) := by decide +kernel
theorem dX9_readPerson_54 : decode cX9_readPerson 54 = .ok (.iload_n 2, 1) := by decide +kernel
theorem dX9_readPerson_55 : decode cX9_readPerson 55 = .ok (.bipush 99, 2) := by decide +kernel
theorem dX9_readPerson_57 : decode cX9_readPerson 57 = .ok (.if_icmp .ne 7, 3) := by decide +kernel
theorem dX9_readPerson_60 : decode cX9_readPerson 60 = .ok (.iconst 2, 1) := by decide +kernel
theorem dX9_readPerson_61 : decode cX9_readPerson 61 = .ok (.goto 5, 3) := by decide +kernel
theorem dX9_readPerson_64 : decode cX9_readPerson 64 = .ok (.bipush (-9), 2) := by decide +kernel
theorem dX9_readPerson_66 : decode cX9_readPerson 66 = .ok (.iastore, 1) := by decide +kernel
theorem dX9_readPerson_67 : decode cX9_readPerson 67 = .ok (.aload_n 0, 1) := by decide +kernel
theorem dX9_readPerson_68 : decode cX9_readPerson 68 = .ok (.getfield 28, 3) := by decide +kernel
theorem dX9_readPerson_71 : decode cX9_readPerson 71 = .ok (.iload_n 3, 1) := by decide +kernel
theorem dX9_readPerson_72 : decode cX9_readPerson 72 = .ok (.iaload, 1) := by decide +kernel
theorem dX9_readPerson_73 : decode cX9_readPerson 73 = .ok (.bipush (-9), 2) := by decide +kernel
theorem dX9_readPerson_75 : decode cX9_readPerson 75 = .ok (.if_icmp .ne 5, 3) := by decide +kernel
theorem dX9_readPerson_78 : decode cX9_readPerson 78 = .ok (.iconst 0, 1) := by decide +kernel
theorem dX9_readPerson_79 : decode cX9_readPerson 79 = .ok (.ireturn, 1) := by decide +kernel
theorem dX9_readPerson_80 : decode cX9_readPerson 80 = .ok (.aload_n 0, 1) := by decide +kernel
theorem dX9_readPerson_81 : decode cX9_readPerson 81 = .ok (.dup, 1) := by decide +kernel
theorem dX9_readPerson_82 : decode cX9_readPerson 82 = .ok (.getfield 78, 3) := by decide +kernel
theorem dX9_readPerson_85 : decode cX9_readPerson 85 = .ok (.iconst 1, 1) := by decide +kernel
theorem dX9_readPerson_86 : decode cX9_readPerson 86 = .ok (.iadd, 1) := by decide +kernel
theorem dX9_readPerson_87 : decode cX9_readPerson 87 = .ok (.putfield 78, 3) := by decide +kernel
theorem dX9_readPerson_90 : decode cX9_readPerson 90 = .ok (.aload_n 0, 1) := by decide +kernel
theorem dX9_readPerson_91 : decode cX9_readPerson 91 = .ok (.getfield 28, 3) := by decide +kernel
theorem dX9_readPerson_94 : decode cX9_readPerson 94 = .ok (.iload_n 3, 1) := by decide +kernel
theorem dX9_readPerson_95 : decode cX9_readPerson 95 = .ok (.iconst 1, 1) := by decide +kernel
theorem dX9_readPerson_96 : decode cX9_readPerson 96 = .ok (.iadd, 1) := by decide +kernel
theorem dX9_readPerson_97 : decode cX9_readPerson 97 = .ok (.aload_n 0, 1) := by decide +kernel
theorem dX9_readPerson_98 : decode cX9_readPerson 98 = .ok (.iload_n 1, 1) := by decide +kernel
theorem dX9_readPerson_99 : decode cX9_readPerson 99 = .ok (.invokevirtual 117, 3) := by decide +kernel
theorem dX9_readPerson_102 : decode cX9_readPerson 102 = .ok (.iastore, 1) := by decide +kernel
theorem dX9_readPerson_103 : decode cX9_readPerson 103 = .ok (.aload_n 0, 1) := by decide +kernel
theorem dX9_readPerson_104 : decode cX9_readPerson 104 = .ok (.getfield 28, 3) := by decide +kernel
theorem dX9_readPerson_107 : decode cX9_readPerson 107 = .ok (.iload_n 3, 1) := by decide +kernel
theorem dX9_readPerson_108 : decode cX9_readPerson 108 = .ok (.iconst 1, 1) := by decide +kernel
theorem dX9_readPerson_109 : decode cX9_readPerson 109 = .ok (.iadd, 1) := by decide +kernel
theorem dX9_readPerson_110 : decode cX9_readPerson 110 = .ok (.iaload, 1) := by decide +kernel
theorem dX9_readPerson_111 : decode cX9_readPerson 111 = .ok (.bipush (-9), 2) := by decide +kernel
theorem dX9_readPerson_113 : decode cX9_readPerson 113 = .ok (.if_icmp .ne 5, 3) := by decide +kernel
theorem dX9_readPerson_116 : decode cX9_readPerson 116 = .ok (.iconst 0, 1) := by decide +kernel
theorem dX9_readPerson_117 : decode cX9_readPerson 117 = .ok (.ireturn, 1) := by decide +kernel
theorem dX9_readPerson_118 : decode cX9_readPerson 118 = .ok (.aload_n 0, 1) := by decide +kernel
theorem dX9_readPerson_119 : decode cX9_readPerson 119 = .ok (.getfield 28, 3) := by decide +kernel
theorem dX9_readPerson_122 : decode cX9_readPerson 122 = .ok (.iload_n 3, 1) := by decide +kernel
theorem dX9_readPerson_123 : decode cX9_readPerson 123 = .ok (.iconst 2, 1) := by decide +kernel
theorem dX9_readPerson_124 : decode cX9_readPerson 124 = .ok (.iadd, 1) := by decide +kernel
theorem dX9_readPerson_125 : decode cX9_readPerson 125 = .ok (.aload_n 0, 1) := by decide +kernel
theorem dX9_readPerson_126 : decode cX9_readPerson 126 = .ok (.iload_n 1, 1) := by decide +kernel
theorem dX9_readPerson_127 : decode cX9_readPerson 127 = .ok (.invokevirtual 117, 3) := by decide +kernel
theorem dX9_readPerson_130 : decode cX9_readPerson 130 = .ok (.iastore, 1) := by decide +kernel
theorem dX9_readPerson_131 : decode cX9_readPerson 131 = .ok (.aload_n 0, 1) := by decide +kernel
theorem dX9_readPerson_132 : decode cX9_readPerson 132 = .ok (.dup, 1) := by decide +kernel
theorem dX9_readPerson_133 : decode cX9_readPerson 133 = .ok (.getfield 98, 3) := by decide +kernel
theorem dX9_readPerson_136 : decode cX9_readPerson 136 = .ok (.iconst 1, 1) := by decide +kernel
theorem dX9_readPerson_137 : decode cX9_readPerson 137 = .ok (.iadd, 1) := by decide +kernel
theorem dX9_readPerson_138 : decode cX9_readPerson 138 = .ok (.putfield 98, 3) := by decide +kernel
theorem dX9_readPerson_141 : decode cX9_readPerson 141 = .ok (.aload_n 0, 1) := by decide +kernel
theorem dX9_readPerson_142 : decode cX9_readPerson 142 = .ok (.getfield 28, 3) := by decide +kernel
theorem dX9_readPerson_145 : decode cX9_readPerson 145 = .ok (.iload_n 3, 1) := by decide +kernel
theorem dX9_readPerson_146 : decode cX9_readPerson 146 = .ok (.iconst 2, 1) := by decide +kernel
theorem dX9_readPerson_147 : decode cX9_readPerson 147 = .ok (.iadd, 1) := by decide +kernel
theorem dX9_readPerson_148 : decode cX9_readPerson 148 = .ok (.iaload, 1) := by decide +kernel
theorem dX9_readPerson_149 : decode cX9_readPerson 149 = .ok (.bipush (-9), 2) := by decide +kernel
theorem dX9_readPerson_151 : decode cX9_readPerson 151 = .ok (.if_icmp .eq 7, 3) := by decide +kernel
theorem dX9_readPerson_154 : decode cX9_readPerson 154 = .ok (.iconst 1, 1) := by decide +kernel
theorem dX9_readPerson_155 : decode cX9_readPerson 155 = .ok (.goto 4, 3) := by decide +kernel
theorem dX9_readPerson_158 : decode cX9_readPerson 158 = .ok (.iconst 0, 1) := by decide +kernel
theorem dX9_readPerson_159 : decode cX9_readPerson 159 = .ok (.ireturn, 1) := by decide +kernel
theorem dX9_bestOf_0 : decode cX9_bestOf 0 = .ok (.aload_n 0, 1) := by decide +kernel
theorem dX9_bestOf_1 : decode cX9_bestOf 1 = .ok (.getfield 19, 3) := by decide +kernel
theorem dX9_bestOf_4 : decode cX9_bestOf 4 = .ok (.iload_n 1, 1) := by decide +kernel
theorem dX9_bestOf_5 : decode cX9_bestOf 5 = .ok (.iaload, 1) := by decide +kernel
theorem dX9_bestOf_6 : decode cX9_bestOf 6 = .ok (.ifCond .ne 12, 3) := by decide +kernel
theorem dX9_bestOf_9 : decode cX9_bestOf 9 = .ok (.aload_n 0, 1) := by decide +kernel
theorem dX9_bestOf_10 : decode cX9_bestOf 10 = .ok (.getfield 22, 3) := by decide +kernel
theorem dX9_bestOf_13 : decode cX9_bestOf 13 = .ok (.iload_n 1, 1) := by decide +kernel
theorem dX9_bestOf_14 : decode cX9_bestOf 14 = .ok (.iaload, 1) := by decide +kernel
theorem dX9_bestOf_15 : decode cX9_bestOf 15 = .ok (.goto 32, 3) := by decide +kernel
theorem dX9_bestOf_18 : decode cX9_bestOf 18 = .ok (.aload_n 0, 1) := by decide +kernel
theorem dX9_bestOf_19 : decode cX9_bestOf 19 = .ok (.getfield 19, 3) := by decide +kernel
theorem dX9_bestOf_22 : decode cX9_bestOf 22 = .ok (.iload_n 1, 1) := by decide +kernel
theorem dX9_bestOf_23 : decode cX9_bestOf 23 = .ok (.iaload, 1) := by decide +kernel
theorem dX9_bestOf_24 : decode cX9_bestOf 24 = .ok (.iconst 1, 1) := by decide +kernel
theorem dX9_bestOf_25 : decode cX9_bestOf 25 = .ok (.if_icmp .ne 14, 3) := by decide +kernel
theorem dX9_bestOf_28 : decode cX9_bestOf 28 = .ok (.aload_n 0, 1) := by decide +kernel
theorem dX9_bestOf_29 : decode cX9_bestOf 29 = .ok (.getfield 22, 3) := by decide +kernel
theorem dX9_bestOf_32 : decode cX9_bestOf 32 = .ok (.iload_n 1, 1) := by decide +kernel
theorem dX9_bestOf_33 : decode cX9_bestOf 33 = .ok (.iaload, 1) := by decide +kernel
theorem dX9_bestOf_34 : decode cX9_bestOf 34 = .ok (.iconst 1, 1) := by decide +kernel
theorem dX9_bestOf_35 : decode cX9_bestOf 35 = .ok (.iadd, 1) := by decide +kernel
theorem dX9_bestOf_36 : decode cX9_bestOf 36 = .ok (.goto 11, 3) := by decide +kernel
theorem dX9_bestOf_39 : decode cX9_bestOf 39 = .ok (.iconst 2, 1) := by decide +kernel
theorem dX9_bestOf_40 : decode cX9_bestOf 40 = .ok (.aload_n 0, 1) := by decide +kernel
theorem dX9_bestOf_41 : decode cX9_bestOf 41 = .ok (.getfield 22, 3) := by decide +kernel
theorem dX9_bestOf_44 : decode cX9_bestOf 44 = .ok (.iload_n 1, 1) := by decide +kernel
theorem dX9_bestOf_45 : decode cX9_bestOf 45 = .ok (.iaload, 1) := by decide +kernel
theorem dX9_bestOf_46 : decode cX9_bestOf 46 = .ok (.imul, 1) := by decide +kernel
theorem dX9_bestOf_47 : decode cX9_bestOf 47 = .ok (.ireturn, 1) := by decide +kernel
theorem dX9_worstOf_0 : decode cX9_worstOf 0 = .ok (.aload_n 0, 1) := by decide +kernel
theorem dX9_worstOf_1 : decode cX9_worstOf 1 = .ok (.iload_n 1, 1) := by decide +kernel
theorem dX9_worstOf_2 : decode cX9_worstOf 2 = .ok (.invokevirtual 120, 3) := by decide +kernel
theorem dX9_worstOf_5 : decode cX9_worstOf 5 = .ok (.aload_n 0, 1) := by decide +kernel
theorem dX9_worstOf_6 : decode cX9_worstOf 6 = .ok (.getfield 25, 3) := by decide +kernel
theorem dX9_worstOf_9 : decode cX9_worstOf 9 = .ok (.iload_n 1, 1) := by decide +kernel
theorem dX9_worstOf_10 : decode cX9_worstOf 10 = .ok (.iaload, 1) := by decide +kernel
theorem dX9_worstOf_11 : decode cX9_worstOf 11 = .ok (.isub, 1) := by decide +kernel
theorem dX9_worstOf_12 : decode cX9_worstOf 12 = .ok (.istore_n 2, 1) := by decide +kernel
theorem dX9_worstOf_13 : decode cX9_worstOf 13 = .ok (.iload_n 2, 1) := by decide +kernel
theorem dX9_worstOf_14 : decode cX9_worstOf 14 = .ok (.ifCond .ge 7, 3) := by decide +kernel
theorem dX9_worstOf_17 : decode cX9_worstOf 17 = .ok (.iconst 0, 1) := by decide +kernel
theorem dX9_worstOf_18 : decode cX9_worstOf 18 = .ok (.goto 4, 3) := by decide +kernel
theorem dX9_worstOf_21 : decode cX9_worstOf 21 = .ok (.iload_n 2, 1) := by decide +kernel
theorem dX9_worstOf_22 : decode cX9_worstOf 22 = .ok (.ireturn, 1) := by decide +kernel
theorem dX9_ofPerson_0 : decode cX9_ofPerson 0 = .ok (.aload_n 0, 1) := by decide +kernel
theorem dX9_ofPerson_1 : decode cX9_ofPerson 1 = .ok (.iload_n 1, 1) := by decide +kernel
theorem dX9_ofPerson_2 : decode cX9_ofPerson 2 = .ok (.invokevirtual 74, 3) := by decide +kernel
theorem dX9_ofPerson_5 : decode cX9_ofPerson 5 = .ok (.ifCond .ne 5, 3) := by decide +kernel
theorem dX9_ofPerson_8 : decode cX9_ofPerson 8 = .ok (.iconst (-1), 1) := by decide +kernel
theorem dX9_ofPerson_9 : decode cX9_ofPerson 9 = .ok (.ireturn, 1) := by decide +kernel
theorem dX9_ofPerson_10 : decode cX9_ofPerson 10 = .ok (.iload_n 2, 1) := by decide +kernel
theorem dX9_ofPerson_11 : decode cX9_ofPerson 11 = .ok (.tableswitch 79 0 5 #[37, 44, 51, 58, 64, 70], 37) := by decide +kernel
theorem dX9_ofPerson_48 : decode cX9_ofPerson 48 = .ok (.aload_n 0, 1) := by decide +kernel
theorem dX9_ofPerson_49 : decode cX9_ofPerson 49 = .ok (.getfield 19, 3) := by decide +kernel
theorem dX9_ofPerson_52 : decode cX9_ofPerson 52 = .ok (.iload_n 1, 1) := by decide +kernel
theorem dX9_ofPerson_53 : decode cX9_ofPerson 53 = .ok (.iaload, 1) := by decide +kernel
theorem dX9_ofPerson_54 : decode cX9_ofPerson 54 = .ok (.ireturn, 1) := by decide +kernel
theorem dX9_ofPerson_55 : decode cX9_ofPerson 55 = .ok (.aload_n 0, 1) := by decide +kernel
theorem dX9_ofPerson_56 : decode cX9_ofPerson 56 = .ok (.getfield 22, 3) := by decide +kernel
theorem dX9_ofPerson_59 : decode cX9_ofPerson 59 = .ok (.iload_n 1, 1) := by decide +kernel
theorem dX9_ofPerson_60 : decode cX9_ofPerson 60 = .ok (.iaload, 1) := by decide +kernel
theorem dX9_ofPerson_61 : decode cX9_ofPerson 61 = .ok (.ireturn, 1) := by decide +kernel
theorem dX9_ofPerson_62 : decode cX9_ofPerson 62 = .ok (.aload_n 0, 1) := by decide +kernel
theorem dX9_ofPerson_63 : decode cX9_ofPerson 63 = .ok (.getfield 25, 3) := by decide +kernel
theorem dX9_ofPerson_66 : decode cX9_ofPerson 66 = .ok (.iload_n 1, 1) := by decide +kernel
theorem dX9_ofPerson_67 : decode cX9_ofPerson 67 = .ok (.iaload, 1) := by decide +kernel
theorem dX9_ofPerson_68 : decode cX9_ofPerson 68 = .ok (.ireturn, 1) := by decide +kernel
theorem dX9_ofPerson_69 : decode cX9_ofPerson 69 = .ok (.aload_n 0, 1) := by decide +kernel
theorem dX9_ofPerson_70 : decode cX9_ofPerson 70 = .ok (.iload_n 1, 1) := by decide +kernel
theorem dX9_ofPerson_71 : decode cX9_ofPerson 71 = .ok (.invokevirtual 120, 3) := by decide +kernel
theorem dX9_ofPerson_74 : decode cX9_ofPerson 74 = .ok (.ireturn, 1) := by decide +kernel
theorem dX9_ofPerson_75 : decode cX9_ofPerson 75 = .ok (.aload_n 0, 1) := by decide +kernel
theorem dX9_ofPerson_76 : decode cX9_ofPerson 76 = .ok (.iload_n 1, 1) := by decide +kernel
theorem dX9_ofPerson_77 : decode cX9_ofPerson 77 = .ok (.invokevirtual 123, 3) := by decide +kernel
theorem dX9_ofPerson_80 : decode cX9_ofPerson 80 = .ok (.ireturn, 1) := by decide +kernel
theorem dX9_ofPerson_81 : decode cX9_ofPerson 81 = .ok (.aload_n 0, 1) := by decide +kernel
theorem dX9_ofPerson_82 : decode cX9_ofPerson 82 = .ok (.getfield 101, 3) := by decide +kernel
theorem dX9_ofPerson_85 : decode cX9_ofPerson 85 = .ok (.iload_n 1, 1) := by decide +kernel
theorem dX9_ofPerson_86 : decode cX9_ofPerson 86 = .ok (.ishr, 1) := by decide +kernel
theorem dX9_ofPerson_87 : decode cX9_ofPerson 87 = .ok (.iconst 1, 1) := by decide +kernel
theorem dX9_ofPerson_88 : decode cX9_ofPerson 88 = .ok (.iand, 1) := by decide +kernel
theorem dX9_ofPerson_89 : decode cX9_ofPerson 89 = .ok (.ireturn, 1) := by decide +kernel
theorem dX9_ofPerson_90 : decode cX9_ofPerson 90 = .ok (.bipush (-2), 2) := by decide +kernel
theorem dX9_ofPerson_92 : decode cX9_ofPerson 92 = .ok (.ireturn, 1) := by decide +kernel
theorem dX9_train_0 : decode cX9_train 0 = .ok (.aload_n 0, 1) := by decide +kernel
theorem dX9_train_1 : decode cX9_train 1 = .ok (.iload_n 1, 1) := by decide +kernel
theorem dX9_train_2 : decode cX9_train 2 = .ok (.invokevirtual 74, 3) := by decide +kernel
theorem dX9_train_5 : decode cX9_train 5 = .ok (.ifCond .ne 5, 3) := by decide +kernel
theorem dX9_train_8 : decode cX9_train 8 = .ok (.iconst (-1), 1) := by decide +kernel
theorem dX9_train_9 : decode cX9_train 9 = .ok (.ireturn, 1) := by decide +kernel
theorem dX9_train_10 : decode cX9_train 10 = .ok (.iload_n 2, 1) := by decide +kernel
theorem dX9_train_11 : decode cX9_train 11 = .ok (.iconst 0, 1) := by decide +kernel
theorem dX9_train_12 : decode cX9_train 12 = .ok (.bipush 9, 2) := by decide +kernel
theorem dX9_train_14 : decode cX9_train 14 = .ok (.invokestatic 67, 3) := by decide +kernel
theorem dX9_train_17 : decode cX9_train 17 = .ok (.ifCond .ne 6, 3) := by decide +kernel
theorem dX9_train_20 : decode cX9_train 20 = .ok (.bipush (-2), 2) := by decide +kernel
theorem dX9_train_22 : decode cX9_train 22 = .ok (.ireturn, 1) := by decide +kernel
theorem dX9_train_23 : decode cX9_train 23 = .ok (.aload_n 0, 1) := by decide +kernel
theorem dX9_train_24 : decode cX9_train 24 = .ok (.getfield 22, 3) := by decide +kernel
theorem dX9_train_27 : decode cX9_train 27 = .ok (.iload_n 1, 1) := by decide +kernel
theorem dX9_train_28 : decode cX9_train 28 = .ok (.iaload, 1) := by decide +kernel
theorem dX9_train_29 : decode cX9_train 29 = .ok (.istore_n 3, 1) := by decide +kernel
theorem dX9_train_30 : decode cX9_train 30 = .ok (.aload_n 0, 1) := by decide +kernel
theorem dX9_train_31 : decode cX9_train 31 = .ok (.getfield 22, 3) := by decide +kernel
theorem dX9_train_34 : decode cX9_train 34 = .ok (.iload_n 1, 1) := by decide +kernel
theorem dX9_train_35 : decode cX9_train 35 = .ok (.iload_n 2, 1) := by decide +kernel
theorem dX9_train_36 : decode cX9_train 36 = .ok (.iastore, 1) := by decide +kernel
theorem dX9_train_37 : decode cX9_train 37 = .ok (.iload_n 3, 1) := by decide +kernel
theorem dX9_train_38 : decode cX9_train 38 = .ok (.ireturn, 1) := by decide +kernel
theorem dX9_learn_0 : decode cX9_learn 0 = .ok (.aload_n 0, 1) := by decide +kernel
theorem dX9_learn_1 : decode cX9_learn 1 = .ok (.iload_n 1, 1) := by decide +kernel
theorem dX9_learn_2 : decode cX9_learn 2 = .ok (.invokevirtual 74, 3) := by decide +kernel
theorem dX9_learn_5 : decode cX9_learn 5 = .ok (.ifCond .ne 5, 3) := by decide +kernel
theorem dX9_learn_8 : decode cX9_learn 8 = .ok (.iconst (-1), 1) := by decide +kernel
theorem dX9_learn_9 : decode cX9_learn 9 = .ok (.ireturn, 1) := by decide +kernel
theorem dX9_learn_10 : decode cX9_learn 10 = .ok (.iload_n 2, 1) := by decide +kernel
theorem dX9_learn_11 : decode cX9_learn 11 = .ok (.iconst 0, 1) := by decide +kernel
theorem dX9_learn_12 : decode cX9_learn 12 = .ok (.bipush 9, 2) := by decide +kernel
theorem dX9_learn_14 : decode cX9_learn 14 = .ok (.invokestatic 67, 3) := by decide +kernel
theorem dX9_learn_17 : decode cX9_learn 17 = .ok (.ifCond .ne 6, 3) := by decide +kernel
theorem dX9_learn_20 : decode cX9_learn 20 = .ok (.bipush (-2), 2) := by decide +kernel
theorem dX9_learn_22 : decode cX9_learn 22 = .ok (.ireturn, 1) := by decide +kernel
theorem dX9_learn_23 : decode cX9_learn 23 = .ok (.aload_n 0, 1) := by decide +kernel
theorem dX9_learn_24 : decode cX9_learn 24 = .ok (.getfield 25, 3) := by decide +kernel
theorem dX9_learn_27 : decode cX9_learn 27 = .ok (.iload_n 1, 1) := by decide +kernel
theorem dX9_learn_28 : decode cX9_learn 28 = .ok (.iaload, 1) := by decide +kernel
theorem dX9_learn_29 : decode cX9_learn 29 = .ok (.istore_n 3, 1) := by decide +kernel
theorem dX9_learn_30 : decode cX9_learn 30 = .ok (.aload_n 0, 1) := by decide +kernel
theorem dX9_learn_31 : decode cX9_learn 31 = .ok (.getfield 25, 3) := by decide +kernel
theorem dX9_learn_34 : decode cX9_learn 34 = .ok (.iload_n 1, 1) := by decide +kernel
theorem dX9_learn_35 : decode cX9_learn 35 = .ok (.iload_n 2, 1) := by decide +kernel
theorem dX9_learn_36 : decode cX9_learn 36 = .ok (.iastore, 1) := by decide +kernel
theorem dX9_learn_37 : decode cX9_learn 37 = .ok (.iload_n 3, 1) := by decide +kernel
theorem dX9_learn_38 : decode cX9_learn 38 = .ok (.ireturn, 1) := by decide +kernel
theorem dX9_isAway_0 : decode cX9_isAway 0 = .ok (.aload_n 0, 1) := by decide +kernel
theorem dX9_isAway_1 : decode cX9_isAway 1 = .ok (.getfield 101, 3) := by decide +kernel
theorem dX9_isAway_4 : decode cX9_isAway 4 = .ok (.iload_n 1, 1) := by decide +kernel
theorem dX9_isAway_5 : decode cX9_isAway 5 = .ok (.invokestatic 126, 3) := by decide +kernel
theorem dX9_isAway_8 : decode cX9_isAway 8 = .ok (.ifCond .ne 14, 3) := by decide +kernel
theorem dX9_isAway_11 : decode cX9_isAway 11 = .ok (.aload_n 0, 1) := by decide +kernel
theorem dX9_isAway_12 : decode cX9_isAway 12 = .ok (.getfield 101, 3) := by decide +kernel
theorem dX9_isAway_15 : decode cX9_isAway 15 = .ok (.iload_n 2, 1) := by decide +kernel
theorem dX9_isAway_16 : decode cX9_isAway 16 = .ok (.invokestatic 126, 3) := by decide +kernel
theorem dX9_isAway_19 : decode cX9_isAway 19 = .ok (.ifCond .eq 7, 3) := by decide +kernel
theorem dX9_isAway_22 : decode cX9_isAway 22 = .ok (.iconst 1, 1) := by decide +kernel
theorem dX9_isAway_23 : decode cX9_isAway 23 = .ok (.goto 4, 3) := by decide +kernel
theorem dX9_isAway_26 : decode cX9_isAway 26 = .ok (.iconst 0, 1) := by decide +kernel
theorem dX9_isAway_27 : decode cX9_isAway 27 = .ok (.ireturn, 1) := by decide +kernel
theorem dX9_play_0 : decode cX9_play 0 = .ok (.iload_n 3, 1) := by decide +kernel
theorem dX9_play_1 : decode cX9_play 1 = .ok (.iload 4, 2) := by decide +kernel
theorem dX9_play_3 : decode cX9_play 3 = .ok (.if_icmp .ne 6, 3) := by decide +kernel
theorem dX9_play_6 : decode cX9_play 6 = .ok (.bipush (-9), 2) := by decide +kernel
theorem dX9_play_8 : decode cX9_play 8 = .ok (.ireturn, 1) := by decide +kernel
theorem dX9_play_9 : decode cX9_play 9 = .ok (.iload_n 3, 1) := by decide +kernel
theorem dX9_play_10 : decode cX9_play 10 = .ok (.iload 4, 2) := by decide +kernel
theorem dX9_play_12 : decode cX9_play 12 = .ok (.if_icmp .le 7, 3) := by decide +kernel
theorem dX9_play_15 : decode cX9_play 15 = .ok (.iload_n 1, 1) := by decide +kernel
theorem dX9_play_16 : decode cX9_play 16 = .ok (.goto 4, 3) := by decide +kernel
theorem dX9_play_19 : decode cX9_play 19 = .ok (.iload_n 2, 1) := by decide +kernel
theorem dX9_play_20 : decode cX9_play 20 = .ok (.istore 5, 2) := by decide +kernel
theorem dX9_play_22 : decode cX9_play 22 = .ok (.aload_n 0, 1) := by decide +kernel
theorem dX9_play_23 : decode cX9_play 23 = .ok (.dup, 1) := by decide +kernel
theorem dX9_play_24 : decode cX9_play 24 = .ok (.getfield 101, 3) := by decide +kernel
theorem dX9_play_27 : decode cX9_play 27 = .ok (.iconst 1, 1) := by decide +kernel
theorem dX9_play_28 : decode cX9_play 28 = .ok (.iload 5, 2) := by decide +kernel
theorem dX9_play_30 : decode cX9_play 30 = .ok (.ishl, 1) := by decide +kernel
theorem dX9_play_31 : decode cX9_play 31 = .ok (.ior, 1) := by decide +kernel
theorem dX9_play_32 : decode cX9_play 32 = .ok (.putfield 101, 3) := by decide +kernel
theorem dX9_play_35 : decode cX9_play 35 = .ok (.iload 5, 2) := by decide +kernel
theorem dX9_play_37 : decode cX9_play 37 = .ok (.ireturn, 1) := by decide +kernel
theorem dX9_game_0 : decode cX9_game 0 = .ok (.aload_n 0, 1) := by decide +kernel
theorem dX9_game_1 : decode cX9_game 1 = .ok (.iload_n 1, 1) := by decide +kernel
theorem dX9_game_2 : decode cX9_game 2 = .ok (.iload_n 2, 1) := by decide +kernel
theorem dX9_game_3 : decode cX9_game 3 = .ok (.invokevirtual 129, 3) := by decide +kernel
theorem dX9_game_6 : decode cX9_game 6 = .ok (.ifCond .ne 5, 3) := by decide +kernel
theorem dX9_game_9 : decode cX9_game 9 = .ok (.iconst (-1), 1) := by decide +kernel
theorem dX9_game_10 : decode cX9_game 10 = .ok (.ireturn, 1) := by decide +kernel
theorem dX9_game_11 : decode cX9_game 11 = .ok (.iload_n 3, 1) := by decide +kernel
theorem dX9_game_12 : decode cX9_game 12 = .ok (.aload_n 0, 1) := by decide +kernel
theorem dX9_game_13 : decode cX9_game 13 = .ok (.iload_n 1, 1) := by decide +kernel
theorem dX9_game_14 : decode cX9_game 14 = .ok (.invokevirtual 123, 3) := by decide +kernel
theorem dX9_game_17 : decode cX9_game 17 = .ok (.aload_n 0, 1) := by decide +kernel
theorem dX9_game_18 : decode cX9_game 18 = .ok (.iload_n 1, 1) := by decide +kernel
theorem dX9_game_19 : decode cX9_game 19 = .ok (.invokevirtual 120, 3) := by decide +kernel
theorem dX9_game_22 : decode cX9_game 22 = .ok (.invokestatic 67, 3) := by decide +kernel
theorem dX9_game_25 : decode cX9_game 25 = .ok (.ifCond .eq 21, 3) := by decide +kernel
theorem dX9_game_28 : decode cX9_game 28 = .ok (.iload 4, 2) := by decide +kernel
theorem dX9_game_30 : decode cX9_game 30 = .ok (.aload_n 0, 1) := by decide +kernel
theorem dX9_game_31 : decode cX9_game 31 = .ok (.iload_n 2, 1) := by decide +kernel
theorem dX9_game_32 : decode cX9_game 32 = .ok (.invokevirtual 123, 3) := by decide +kernel
theorem dX9_game_35 : decode cX9_game 35 = .ok (.aload_n 0, 1) := by decide +kernel
theorem dX9_game_36 : decode cX9_game 36 = .ok (.iload_n 2, 1) := by decide +kernel
theorem dX9_game_37 : decode cX9_game 37 = .ok (.invokevirtual 120, 3) := by decide +kernel
theorem dX9_game_40 : decode cX9_game 40 = .ok (.invokestatic 67, 3) := by decide +kernel
theorem dX9_game_43 : decode cX9_game 43 = .ok (.ifCond .ne 6, 3) := by decide +kernel
theorem dX9_game_46 : decode cX9_game 46 = .ok (.bipush (-2), 2) := by decide +kernel
theorem dX9_game_48 : decode cX9_game 48 = .ok (.ireturn, 1) := by decide +kernel
theorem dX9_game_49 : decode cX9_game 49 = .ok (.aload_n 0, 1) := by decide +kernel
theorem dX9_game_50 : decode cX9_game 50 = .ok (.iload_n 1, 1) := by decide +kernel
theorem dX9_game_51 : decode cX9_game 51 = .ok (.iload_n 2, 1) := by decide +kernel
theorem dX9_game_52 : decode cX9_game 52 = .ok (.invokevirtual 132, 3) := by decide +kernel
theorem dX9_game_55 : decode cX9_game 55 = .ok (.ifCond .eq 6, 3) := by decide +kernel
theorem dX9_game_58 : decode cX9_game 58 = .ok (.bipush (-3), 2) := by decide +kernel
theorem dX9_game_60 : decode cX9_game 60 = .ok (.ireturn, 1) := by decide +kernel
theorem dX9_game_61 : decode cX9_game 61 = .ok (.aload_n 0, 1) := by decide +kernel
theorem dX9_game_62 : decode cX9_game 62 = .ok (.dup, 1) := by decide +kernel
theorem dX9_game_63 : decode cX9_game 63 = .ok (.getfield 104, 3) := by decide +kernel
theorem dX9_game_66 : decode cX9_game 66 = .ok (.iconst 1, 1) := by decide +kernel
theorem dX9_game_67 : decode cX9_game 67 = .ok (.iadd, 1) := by decide +kernel
theorem dX9_game_68 : decode cX9_game 68 = .ok (.putfield 104, 3) := by decide +kernel
theorem dX9_game_71 : decode cX9_game 71 = .ok (.aload_n 0, 1) := by decide +kernel
theorem dX9_game_72 : decode cX9_game 72 = .ok (.iload_n 1, 1) := by decide +kernel
theorem dX9_game_73 : decode cX9_game 73 = .ok (.iload_n 2, 1) := by decide +kernel
theorem dX9_game_74 : decode cX9_game 74 = .ok (.iload_n 3, 1) := by decide +kernel
theorem dX9_game_75 : decode cX9_game 75 = .ok (.iload 4, 2) := by decide +kernel
theorem dX9_game_77 : decode cX9_game 77 = .ok (.invokevirtual 135, 3) := by decide +kernel
theorem dX9_game_80 : decode cX9_game 80 = .ok (.ireturn, 1) := by decide +kernel
theorem dX9_shy_0 : decode cX9_shy 0 = .ok (.aload_n 0, 1) := by decide +kernel
theorem dX9_shy_1 : decode cX9_shy 1 = .ok (.iload_n 1, 1) := by decide +kernel
theorem dX9_shy_2 : decode cX9_shy 2 = .ok (.iload_n 2, 1) := by decide +kernel
theorem dX9_shy_3 : decode cX9_shy 3 = .ok (.invokevirtual 129, 3) := by decide +kernel
theorem dX9_shy_6 : decode cX9_shy 6 = .ok (.ifCond .ne 5, 3) := by decide +kernel
theorem dX9_shy_9 : decode cX9_shy 9 = .ok (.iconst (-1), 1) := by decide +kernel
theorem dX9_shy_10 : decode cX9_shy 10 = .ok (.ireturn, 1) := by decide +kernel
theorem dX9_shy_11 : decode cX9_shy 11 = .ok (.aload_n 0, 1) := by decide +kernel
theorem dX9_shy_12 : decode cX9_shy 12 = .ok (.iload_n 1, 1) := by decide +kernel
theorem dX9_shy_13 : decode cX9_shy 13 = .ok (.iload_n 2, 1) := by decide +kernel
theorem dX9_shy_14 : decode cX9_shy 14 = .ok (.invokevirtual 132, 3) := by decide +kernel
theorem dX9_shy_17 : decode cX9_shy 17 = .ok (.ifCond .eq 6, 3) := by decide +kernel
theorem dX9_shy_20 : decode cX9_shy 20 = .ok (.bipush (-3), 2) := by decide +kernel
theorem dX9_shy_22 : decode cX9_shy 22 = .ok (.ireturn, 1) := by decide +kernel
theorem dX9_shy_23 : decode cX9_shy 23 = .ok (.aload_n 0, 1) := by decide +kernel
theorem dX9_shy_24 : decode cX9_shy 24 = .ok (.dup, 1) := by decide +kernel
theorem dX9_shy_25 : decode cX9_shy 25 = .ok (.getfield 104, 3) := by decide +kernel
theorem dX9_shy_28 : decode cX9_shy 28 = .ok (.iconst 1, 1) := by decide +kernel
theorem dX9_shy_29 : decode cX9_shy 29 = .ok (.iadd, 1) := by decide +kernel
theorem dX9_shy_30 : decode cX9_shy 30 = .ok (.putfield 104, 3) := by decide +kernel
theorem dX9_shy_33 : decode cX9_shy 33 = .ok (.aload_n 0, 1) := by decide +kernel
theorem dX9_shy_34 : decode cX9_shy 34 = .ok (.iload_n 1, 1) := by decide +kernel
theorem dX9_shy_35 : decode cX9_shy 35 = .ok (.iload_n 2, 1) := by decide +kernel
theorem dX9_shy_36 : decode cX9_shy 36 = .ok (.aload_n 0, 1) := by decide +kernel
theorem dX9_shy_37 : decode cX9_shy 37 = .ok (.iload_n 1, 1) := by decide +kernel
theorem dX9_shy_38 : decode cX9_shy 38 = .ok (.invokevirtual 123, 3) := by decide +kernel
theorem dX9_shy_41 : decode cX9_shy 41 = .ok (.aload_n 0, 1) := by decide +kernel
theorem dX9_shy_42 : decode cX9_shy 42 = .ok (.iload_n 2, 1) := by decide +kernel
theorem dX9_shy_43 : decode cX9_shy 43 = .ok (.invokevirtual 123, 3) := by decide +kernel
theorem dX9_shy_46 : decode cX9_shy 46 = .ok (.invokevirtual 135, 3) := by decide +kernel
theorem dX9_shy_49 : decode cX9_shy 49 = .ok (.ireturn, 1) := by decide +kernel
theorem dX9_fetch_0 : decode cX9_fetch 0 = .ok (.aload_n 0, 1) := by decide +kernel
theorem dX9_fetch_1 : decode cX9_fetch 1 = .ok (.iload_n 1, 1) := by decide +kernel
theorem dX9_fetch_2 : decode cX9_fetch 2 = .ok (.invokevirtual 74, 3) := by decide +kernel
theorem dX9_fetch_5 : decode cX9_fetch 5 = .ok (.ifCond .ne 5, 3) := by decide +kernel
theorem dX9_fetch_8 : decode cX9_fetch 8 = .ok (.iconst (-1), 1) := by decide +kernel
theorem dX9_fetch_9 : decode cX9_fetch 9 = .ok (.ireturn, 1) := by decide +kernel
theorem dX9_fetch_10 : decode cX9_fetch 10 = .ok (.aload_n 0, 1) := by decide +kernel
theorem dX9_fetch_11 : decode cX9_fetch 11 = .ok (.getfield 101, 3) := by decide +kernel
theorem dX9_fetch_14 : decode cX9_fetch 14 = .ok (.iload_n 1, 1) := by decide +kernel
theorem dX9_fetch_15 : decode cX9_fetch 15 = .ok (.invokestatic 126, 3) := by decide +kernel
theorem dX9_fetch_18 : decode cX9_fetch 18 = .ok (.ifCond .ne 6, 3) := by decide +kernel
theorem dX9_fetch_21 : decode cX9_fetch 21 = .ok (.bipush (-3), 2) := by decide +kernel
theorem dX9_fetch_23 : decode cX9_fetch 23 = .ok (.ireturn, 1) := by decide +kernel
theorem dX9_fetch_24 : decode cX9_fetch 24 = .ok (.aload_n 0, 1) := by decide +kernel
theorem dX9_fetch_25 : decode cX9_fetch 25 = .ok (.dup, 1) := by decide +kernel
theorem dX9_fetch_26 : decode cX9_fetch 26 = .ok (.getfield 101, 3) := by decide +kernel
theorem dX9_fetch_29 : decode cX9_fetch 29 = .ok (.iconst 1, 1) := by decide +kernel
theorem dX9_fetch_30 : decode cX9_fetch 30 = .ok (.iload_n 1, 1) := by decide +kernel
theorem dX9_fetch_31 : decode cX9_fetch 31 = .ok (.ishl, 1) := by decide +kernel
theorem dX9_fetch_32 : decode cX9_fetch 32 = .ok (.iconst (-1), 1) := by decide +kernel
theorem dX9_fetch_33 : decode cX9_fetch 33 = .ok (.ixor, 1) := by decide +kernel
theorem dX9_fetch_34 : decode cX9_fetch 34 = .ok (.iand, 1) := by decide +kernel
theorem dX9_fetch_35 : decode cX9_fetch 35 = .ok (.putfield 101, 3) := by decide +kernel
theorem dX9_fetch_38 : decode cX9_fetch 38 = .ok (.aload_n 0, 1) := by decide +kernel
theorem dX9_fetch_39 : decode cX9_fetch 39 = .ok (.getfield 101, 3) := by decide +kernel
theorem dX9_fetch_42 : decode cX9_fetch 42 = .ok (.invokestatic 138, 3) := by decide +kernel
theorem dX9_fetch_45 : decode cX9_fetch 45 = .ok (.ireturn, 1) := by decide +kernel
theorem dX9_does_0 : decode cX9_does 0 = .ok (.iload_n 2, 1) := by decide +kernel
theorem dX9_does_1 : decode cX9_does 1 = .ok (.bipush 20, 2) := by decide +kernel
theorem dX9_does_3 : decode cX9_does 3 = .ok (.if_icmp .lt 15, 3) := by decide +kernel
theorem dX9_does_6 : decode cX9_does 6 = .ok (.aload_n 0, 1) := by decide +kernel
theorem dX9_does_7 : decode cX9_does 7 = .ok (.getfield 25, 3) := by decide +kernel
theorem dX9_does_10 : decode cX9_does 10 = .ok (.iload_n 1, 1) := by decide +kernel
theorem dX9_does_11 : decode cX9_does 11 = .ok (.iload_n 2, 1) := by decide +kernel
theorem dX9_does_12 : decode cX9_does 12 = .ok (.bipush 20, 2) := by decide +kernel
theorem dX9_does_14 : decode cX9_does 14 = .ok (.isub, 1) := by decide +kernel
theorem dX9_does_15 : decode cX9_does 15 = .ok (.iastore, 1) := by decide +kernel
theorem dX9_does_16 : decode cX9_does 16 = .ok (.iconst 1, 1) := by decide +kernel
theorem dX9_does_17 : decode cX9_does 17 = .ok (.ireturn, 1) := by decide +kernel
theorem dX9_does_18 : decode cX9_does 18 = .ok (.iload_n 2, 1) := by decide +kernel
theorem dX9_does_19 : decode cX9_does 19 = .ok (.bipush 10, 2) := by decide +kernel
theorem dX9_does_21 : decode cX9_does 21 = .ok (.if_icmp .ne 28, 3) := by decide +kernel
theorem dX9_does_24 : decode cX9_does 24 = .ok (.aload_n 0, 1) := by decide +kernel
theorem dX9_does_25 : decode cX9_does 25 = .ok (.getfield 101, 3) := by decide +kernel
theorem dX9_does_28 : decode cX9_does 28 = .ok (.iload_n 1, 1) := by decide +kernel
theorem dX9_does_29 : decode cX9_does 29 = .ok (.invokestatic 126, 3) := by decide +kernel
theorem dX9_does_32 : decode cX9_does 32 = .ok (.istore_n 3, 1) := by decide +kernel
theorem dX9_does_33 : decode cX9_does 33 = .ok (.aload_n 0, 1) := by decide +kernel
theorem dX9_does_34 : decode cX9_does 34 = .ok (.dup, 1) := by decide +kernel
theorem dX9_does_35 : decode cX9_does 35 = .ok (.getfield 101, 3) := by decide +kernel
theorem dX9_does_38 : decode cX9_does 38 = .ok (.iconst 1, 1) := by decide +kernel
theorem dX9_does_39 : decode cX9_does 39 = .ok (.iload_n 1, 1) := by decide +kernel
theorem dX9_does_40 : decode cX9_does 40 = .ok (.ishl, 1) := by decide +kernel
theorem dX9_does_41 : decode cX9_does 41 = .ok (.iconst (-1), 1) := by decide +kernel
theorem dX9_does_42 : decode cX9_does 42 = .ok (.ixor, 1) := by decide +kernel
theorem dX9_does_43 : decode cX9_does 43 = .ok (.iand, 1) := by decide +kernel
theorem dX9_does_44 : decode cX9_does 44 = .ok (.putfield 101, 3) := by decide +kernel
theorem dX9_does_47 : decode cX9_does 47 = .ok (.iload_n 3, 1) := by decide +kernel
theorem dX9_does_48 : decode cX9_does 48 = .ok (.ireturn, 1) := by decide +kernel
theorem dX9_does_49 : decode cX9_does 49 = .ok (.aload_n 0, 1) := by decide +kernel
theorem dX9_does_50 : decode cX9_does 50 = .ok (.iload_n 1, 1) := by decide +kernel
theorem dX9_does_51 : decode cX9_does 51 = .ok (.iload_n 2, 1) := by decide +kernel
theorem dX9_does_52 : decode cX9_does 52 = .ok (.invokevirtual 129, 3) := by decide +kernel
theorem dX9_does_55 : decode cX9_does 55 = .ok (.ifCond .eq 12, 3) := by decide +kernel
theorem dX9_does_58 : decode cX9_does 58 = .ok (.aload_n 0, 1) := by decide +kernel
theorem dX9_does_59 : decode cX9_does 59 = .ok (.iload_n 1, 1) := by decide +kernel
theorem dX9_does_60 : decode cX9_does 60 = .ok (.iload_n 2, 1) := by decide +kernel
theorem dX9_does_61 : decode cX9_does 61 = .ok (.invokevirtual 132, 3) := by decide +kernel
theorem dX9_does_64 : decode cX9_does 64 = .ok (.ifCond .eq 5, 3) := by decide +kernel
theorem dX9_does_67 : decode cX9_does 67 = .ok (.iconst 0, 1) := by decide +kernel
theorem dX9_does_68 : decode cX9_does 68 = .ok (.ireturn, 1) := by decide +kernel
theorem dX9_does_69 : decode cX9_does 69 = .ok (.aload_n 0, 1) := by decide +kernel
theorem dX9_does_70 : decode cX9_does 70 = .ok (.getfield 34, 3) := by decide +kernel
theorem dX9_does_73 : decode cX9_does 73 = .ok (.iload_n 1, 1) := by decide +kernel
theorem dX9_does_74 : decode cX9_does 74 = .ok (.dup2, 1) := by decide +kernel
theorem dX9_does_75 : decode cX9_does 75 = .ok (.iaload, 1) := by decide +kernel
theorem dX9_does_76 : decode cX9_does 76 = .ok (.iconst 1, 1) := by decide +kernel
theorem dX9_does_77 : decode cX9_does 77 = .ok (.iadd, 1) := by decide +kernel
theorem dX9_does_78 : decode cX9_does 78 = .ok (.iastore, 1) := by decide +kernel
theorem dX9_does_79 : decode cX9_does 79 = .ok (.aload_n 0, 1) := by decide +kernel
theorem dX9_does_80 : decode cX9_does 80 = .ok (.getfield 34, 3) := by decide +kernel
theorem dX9_does_83 : decode cX9_does 83 = .ok (.iload_n 2, 1) := by decide +kernel
theorem dX9_does_84 : decode cX9_does 84 = .ok (.dup2, 1) := by decide +kernel
theorem dX9_does_85 : decode cX9_does 85 = .ok (.iaload, 1) := by decide +kernel
theorem dX9_does_86 : decode cX9_does 86 = .ok (.iconst 1, 1) := by decide +kernel
theorem dX9_does_87 : decode cX9_does 87 = .ok (.iadd, 1) := by decide +kernel
theorem dX9_does_88 : decode cX9_does 88 = .ok (.iastore, 1) := by decide +kernel
theorem dX9_does_89 : decode cX9_does 89 = .ok (.aload_n 0, 1) := by decide +kernel
theorem dX9_does_90 : decode cX9_does 90 = .ok (.iload_n 1, 1) := by decide +kernel
theorem dX9_does_91 : decode cX9_does 91 = .ok (.iload_n 2, 1) := by decide +kernel
theorem dX9_does_92 : decode cX9_does 92 = .ok (.aload_n 0, 1) := by decide +kernel
theorem dX9_does_93 : decode cX9_does 93 = .ok (.iload_n 1, 1) := by decide +kernel
theorem dX9_does_94 : decode cX9_does 94 = .ok (.invokevirtual 123, 3) := by decide +kernel
theorem dX9_does_97 : decode cX9_does 97 = .ok (.aload_n 0, 1) := by decide +kernel
theorem dX9_does_98 : decode cX9_does 98 = .ok (.iload_n 2, 1) := by decide +kernel
theorem dX9_does_99 : decode cX9_does 99 = .ok (.invokevirtual 123, 3) := by decide +kernel
theorem dX9_does_102 : decode cX9_does 102 = .ok (.invokevirtual 135, 3) := by decide +kernel
theorem dX9_does_105 : decode cX9_does 105 = .ok (.istore_n 3, 1) := by decide +kernel
theorem dX9_does_106 : decode cX9_does 106 = .ok (.aload_n 0, 1) := by decide +kernel
theorem dX9_does_107 : decode cX9_does 107 = .ok (.dup, 1) := by decide +kernel
theorem dX9_does_108 : decode cX9_does 108 = .ok (.getfield 141, 3) := by decide +kernel
theorem dX9_does_111 : decode cX9_does 111 = .ok (.iload_n 3, 1) := by decide +kernel
theorem dX9_does_112 : decode cX9_does 112 = .ok (.bipush (-9), 2) := by decide +kernel
theorem dX9_does_114 : decode cX9_does 114 = .ok (.if_icmp .ne 7, 3) := by decide +kernel
theorem dX9_does_117 : decode cX9_does 117 = .ok (.iconst 1, 1) := by decide +kernel
theorem dX9_does_118 : decode cX9_does 118 = .ok (.goto 4, 3) := by decide +kernel
theorem dX9_does_121 : decode cX9_does 121 = .ok (.iconst 0, 1) := by decide +kernel
theorem dX9_does_122 : decode cX9_does 122 = .ok (.iadd, 1) := by decide +kernel
theorem dX9_does_123 : decode cX9_does 123 = .ok (.putfield 141, 3) := by decide +kernel
theorem dX9_does_126 : decode cX9_does 126 = .ok (.aload_n 0, 1) := by decide +kernel
theorem dX9_does_127 : decode cX9_does 127 = .ok (.iload_n 3, 1) := by decide +kernel
theorem dX9_does_128 : decode cX9_does 128 = .ok (.bipush (-9), 2) := by decide +kernel
theorem dX9_does_130 : decode cX9_does 130 = .ok (.if_icmp .ne 10, 3) := by decide +kernel
theorem dX9_does_133 : decode cX9_does 133 = .ok (.aload_n 0, 1) := by decide +kernel
theorem dX9_does_134 : decode cX9_does 134 = .ok (.getfield 144, 3) := by decide +kernel
theorem dX9_does_137 : decode cX9_does 137 = .ok (.goto 4, 3) := by decide +kernel
theorem dX9_does_140 : decode cX9_does 140 = .ok (.iload_n 3, 1) := by decide +kernel
theorem dX9_does_141 : decode cX9_does 141 = .ok (.putfield 144, 3) := by decide +kernel
theorem dX9_does_144 : decode cX9_does 144 = .ok (.iconst 1, 1) := by decide +kernel
theorem dX9_does_145 : decode cX9_does 145 = .ok (.ireturn, 1) := by decide +kernel
theorem dX9_goSeason_0 : decode cX9_goSeason 0 = .ok (.aload_n 0, 1) := by decide +kernel
theorem dX9_goSeason_1 : decode cX9_goSeason 1 = .ok (.iconst 0, 1) := by decide +kernel
theorem dX9_goSeason_2 : decode cX9_goSeason 2 = .ok (.putfield 141, 3) := by decide +kernel
theorem dX9_goSeason_5 : decode cX9_goSeason 5 = .ok (.aload_n 0, 1) := by decide +kernel
theorem dX9_goSeason_6 : decode cX9_goSeason 6 = .ok (.bipush (-9), 2) := by decide +kernel
theorem dX9_goSeason_8 : decode cX9_goSeason 8 = .ok (.putfield 144, 3) := by decide +kernel
theorem dX9_goSeason_11 : decode cX9_goSeason 11 = .ok (.iconst 0, 1) := by decide +kernel
theorem dX9_goSeason_12 : decode cX9_goSeason 12 = .ok (.istore_n 3, 1) := by decide +kernel
theorem dX9_goSeason_13 : decode cX9_goSeason 13 = .ok (.iload_n 3, 1) := by decide +kernel
theorem dX9_goSeason_14 : decode cX9_goSeason 14 = .ok (.bipush 6, 2) := by decide +kernel
theorem dX9_goSeason_16 : decode cX9_goSeason 16 = .ok (.if_icmp .ge 16, 3) := by decide +kernel
theorem dX9_goSeason_19 : decode cX9_goSeason 19 = .ok (.aload_n 0, 1) := by decide +kernel
theorem dX9_goSeason_20 : decode cX9_goSeason 20 = .ok (.getfield 34, 3) := by decide +kernel
theorem dX9_goSeason_23 : decode cX9_goSeason 23 = .ok (.iload_n 3, 1) := by decide +kernel
theorem dX9_goSeason_24 : decode cX9_goSeason 24 = .ok (.iconst 0, 1) := by decide +kernel
theorem dX9_goSeason_25 : decode cX9_goSeason 25 = .ok (.iastore, 1) := by decide +kernel
theorem dX9_goSeason_26 : decode cX9_goSeason 26 = .ok (.iinc 3 1, 3) := by decide +kernel
theorem dX9_goSeason_29 : decode cX9_goSeason 29 = .ok (.goto (-16), 3) := by decide +kernel
theorem dX9_goSeason_32 : decode cX9_goSeason 32 = .ok (.iconst 0, 1) := by decide +kernel
theorem dX9_goSeason_33 : decode cX9_goSeason 33 = .ok (.istore_n 3, 1) := by decide +kernel
theorem dX9_goSeason_34 : decode cX9_goSeason 34 = .ok (.iload_n 3, 1) := by decide +kernel
theorem dX9_goSeason_35 : decode cX9_goSeason 35 = .ok (.iload_n 2, 1) := by decide +kernel
theorem dX9_goSeason_36 : decode cX9_goSeason 36 = .ok (.if_icmp .ge 40, 3) := by decide +kernel
theorem dX9_goSeason_39 : decode cX9_goSeason 39 = .ok (.aload_n 0, 1) := by decide +kernel
theorem dX9_goSeason_40 : decode cX9_goSeason 40 = .ok (.aload_n 0, 1) := by decide +kernel
theorem dX9_goSeason_41 : decode cX9_goSeason 41 = .ok (.getfield 16, 3) := by decide +kernel
theorem dX9_goSeason_44 : decode cX9_goSeason 44 = .ok (.iload_n 1, 1) := by decide +kernel
theorem dX9_goSeason_45 : decode cX9_goSeason 45 = .ok (.iconst 2, 1) := by decide +kernel
theorem dX9_goSeason_46 : decode cX9_goSeason 46 = .ok (.iload_n 3, 1) := by decide +kernel
theorem dX9_goSeason_47 : decode cX9_goSeason 47 = .ok (.imul, 1) := by decide +kernel
theorem dX9_goSeason_48 : decode cX9_goSeason 48 = .ok (.iadd, 1) := by decide +kernel
theorem dX9_goSeason_49 : decode cX9_goSeason 49 = .ok (.iaload, 1) := by decide +kernel
theorem dX9_goSeason_50 : decode cX9_goSeason 50 = .ok (.aload_n 0, 1) := by decide +kernel
theorem dX9_goSeason_51 : decode cX9_goSeason 51 = .ok (.getfield 16, 3) := by decide +kernel
theorem dX9_goSeason_54 : decode cX9_goSeason 54 = .ok (.iload_n 1, 1) := by decide +kernel
theorem dX9_goSeason_55 : decode cX9_goSeason 55 = .ok (.iconst 2, 1) := by decide +kernel
theorem dX9_goSeason_56 : decode cX9_goSeason 56 = .ok (.iload_n 3, 1) := by decide +kernel
theorem dX9_goSeason_57 : decode cX9_goSeason 57 = .ok (.imul, 1) := by decide +kernel
theorem dX9_goSeason_58 : decode cX9_goSeason 58 = .ok (.iadd, 1) := by decide +kernel
theorem dX9_goSeason_59 : decode cX9_goSeason 59 = .ok (.iconst 1, 1) := by decide +kernel
theorem dX9_goSeason_60 : decode cX9_goSeason 60 = .ok (.iadd, 1) := by decide +kernel
theorem dX9_goSeason_61 : decode cX9_goSeason 61 = .ok (.iaload, 1) := by decide +kernel
theorem dX9_goSeason_62 : decode cX9_goSeason 62 = .ok (.invokevirtual 147, 3) := by decide +kernel
theorem dX9_goSeason_65 : decode cX9_goSeason 65 = .ok (.ifCond .ne 5, 3) := by decide +kernel
theorem dX9_goSeason_68 : decode cX9_goSeason 68 = .ok (.iload_n 3, 1) := by decide +kernel
theorem dX9_goSeason_69 : decode cX9_goSeason 69 = .ok (.ireturn, 1) := by decide +kernel
theorem dX9_goSeason_70 : decode cX9_goSeason 70 = .ok (.iinc 3 1, 3) := by decide +kernel
theorem dX9_goSeason_73 : decode cX9_goSeason 73 = .ok (.goto (-39), 3) := by decide +kernel
theorem dX9_goSeason_76 : decode cX9_goSeason 76 = .ok (.bipush (-9), 2) := by decide +kernel
theorem dX9_goSeason_78 : decode cX9_goSeason 78 = .ok (.ireturn, 1) := by decide +kernel
theorem dX9_refusesPair_0 : decode cX9_refusesPair 0 = .ok (.iload_n 2, 1) := by decide +kernel
theorem dX9_refusesPair_1 : decode cX9_refusesPair 1 = .ok (.iconst 0, 1) := by decide +kernel
theorem dX9_refusesPair_2 : decode cX9_refusesPair 2 = .ok (.iconst 5, 1) := by decide +kernel
theorem dX9_refusesPair_3 : decode cX9_refusesPair 3 = .ok (.invokestatic 67, 3) := by decide +kernel
theorem dX9_refusesPair_6 : decode cX9_refusesPair 6 = .ok (.ifCond .ne 23, 3) := by decide +kernel
theorem dX9_refusesPair_9 : decode cX9_refusesPair 9 = .ok (.iload_n 2, 1) := by decide +kernel
theorem dX9_refusesPair_10 : decode cX9_refusesPair 10 = .ok (.bipush 10, 2) := by decide +kernel
theorem dX9_refusesPair_12 : decode cX9_refusesPair 12 = .ok (.if_icmp .eq 17, 3) := by decide +kernel
theorem dX9_refusesPair_15 : decode cX9_refusesPair 15 = .ok (.iload_n 2, 1) := by decide +kernel
theorem dX9_refusesPair_16 : decode cX9_refusesPair 16 = .ok (.bipush 20, 2) := by decide +kernel
theorem dX9_refusesPair_18 : decode cX9_refusesPair 18 = .ok (.bipush 29, 2) := by decide +kernel
theorem dX9_refusesPair_20 : decode cX9_refusesPair 20 = .ok (.invokestatic 67, 3) := by decide +kernel
theorem dX9_refusesPair_23 : decode cX9_refusesPair 23 = .ok (.ifCond .ne 6, 3) := by decide +kernel
theorem dX9_refusesPair_26 : decode cX9_refusesPair 26 = .ok (.bipush (-2), 2) := by decide +kernel
theorem dX9_refusesPair_28 : decode cX9_refusesPair 28 = .ok (.ireturn, 1) := by decide +kernel
theorem dX9_refusesPair_29 : decode cX9_refusesPair 29 = .ok (.aload_n 0, 1) := by decide +kernel
theorem dX9_refusesPair_30 : decode cX9_refusesPair 30 = .ok (.iload_n 1, 1) := by decide +kernel
theorem dX9_refusesPair_31 : decode cX9_refusesPair 31 = .ok (.invokevirtual 74, 3) := by decide +kernel
theorem dX9_refusesPair_34 : decode cX9_refusesPair 34 = .ok (.ifCond .eq 7, 3) := by decide +kernel
theorem dX9_refusesPair_37 : decode cX9_refusesPair 37 = .ok (.iconst 0, 1) := by decide +kernel
theorem dX9_refusesPair_38 : decode cX9_refusesPair 38 = .ok (.goto 4, 3) := by decide +kernel
theorem dX9_refusesPair_41 : decode cX9_refusesPair 41 = .ok (.iconst (-1), 1) := by decide +kernel
theorem dX9_refusesPair_42 : decode cX9_refusesPair 42 = .ok (.ireturn, 1) := by decide +kernel
theorem dX9_season_0 : decode cX9_season 0 = .ok (.aload_n 0, 1) := by decide +kernel
theorem dX9_season_1 : decode cX9_season 1 = .ok (.iconst 0, 1) := by decide +kernel
theorem dX9_season_2 : decode cX9_season 2 = .ok (.putfield 61, 3) := by decide +kernel
theorem dX9_season_5 : decode cX9_season 5 = .ok (.iload_n 1, 1) := by decide +kernel
theorem dX9_season_6 : decode cX9_season 6 = .ok (.invokestatic 81, 3) := by decide +kernel
theorem dX9_season_9 : decode cX9_season 9 = .ok (.ifCond .ne 5, 3) := by decide +kernel
theorem dX9_season_12 : decode cX9_season 12 = .ok (.iconst (-1), 1) := by decide +kernel
theorem dX9_season_13 : decode cX9_season 13 = .ok (.ireturn, 1) := by decide +kernel
theorem dX9_season_14 : decode cX9_season 14 = .ok (.iload_n 2, 1) := by decide +kernel
theorem dX9_season_15 : decode cX9_season 15 = .ok (.invokestatic 84, 3) := by decide +kernel
theorem dX9_season_18 : decode cX9_season 18 = .ok (.ifCond .eq 36, 3) := by decide +kernel
theorem dX9_season_21 : decode cX9_season 21 = .ok (.iload 4, 2) := by decide +kernel
theorem dX9_season_23 : decode cX9_season 23 = .ok (.iconst 0, 1) := by decide +kernel
theorem dX9_season_24 : decode cX9_season 24 = .ok (.bipush 20, 2) := by decide +kernel
theorem dX9_season_26 : decode cX9_season 26 = .ok (.invokestatic 67, 3) := by decide +kernel
theorem dX9_season_29 : decode cX9_season 29 = .ok (.ifCond .eq 25, 3) := by decide +kernel
theorem dX9_season_32 : decode cX9_season 32 = .ok (.iload 5, 2) := by decide +kernel
theorem dX9_season_34 : decode cX9_season 34 = .ok (.iconst 0, 1) := by decide +kernel
theorem dX9_season_35 : decode cX9_season 35 = .ok (.iconst 4, 1) := by decide +kernel
theorem dX9_season_36 : decode cX9_season 36 = .ok (.invokestatic 67, 3) := by decide +kernel
theorem dX9_season_39 : decode cX9_season 39 = .ok (.ifCond .ne 18, 3) := by decide +kernel
theorem dX9_season_42 : decode cX9_season 42 = .ok (.iload 5, 2) := by decide +kernel
theorem dX9_season_44 : decode cX9_season 44 = .ok (.bipush 10, 2) := by decide +kernel
theorem dX9_season_46 : decode cX9_season 46 = .ok (.bipush 15, 2) := by decide +kernel
theorem dX9_season_48 : decode cX9_season 48 = .ok (.invokestatic 67, 3) := by decide +kernel
theorem dX9_season_51 : decode cX9_season 51 = .ok (.ifCond .ne 6, 3) := by decide +kernel
theorem dX9_season_54 : decode cX9_season 54 = .ok (.bipush (-2), 2) := by decide +kernel
theorem dX9_season_56 : decode cX9_season 56 = .ok (.ireturn, 1) := by decide +kernel
theorem dX9_season_57 : decode cX9_season 57 = .ok (.aload_n 0, 1) := by decide +kernel
theorem dX9_season_58 : decode cX9_season 58 = .ok (.iload_n 1, 1) := by decide +kernel
theorem dX9_season_59 : decode cX9_season 59 = .ok (.iload_n 2, 1) := by decide +kernel
theorem dX9_season_60 : decode cX9_season 60 = .ok (.iload_n 3, 1) := by decide +kernel
theorem dX9_season_61 : decode cX9_season 61 = .ok (.iconst 2, 1) := by decide +kernel
theorem dX9_season_62 : decode cX9_season 62 = .ok (.iload 4, 2) := by decide +kernel
theorem dX9_season_64 : decode cX9_season 64 = .ok (.imul, 1) := by decide +kernel
theorem dX9_season_65 : decode cX9_season 65 = .ok (.invokevirtual 87, 3) := by decide +kernel
theorem dX9_season_68 : decode cX9_season 68 = .ok (.istore 6, 2) := by decide +kernel
theorem dX9_season_70 : decode cX9_season 70 = .ok (.iload 6, 2) := by decide +kernel
theorem dX9_season_72 : decode cX9_season 72 = .ok (.ifCond .eq 10, 3) := by decide +kernel
theorem dX9_season_75 : decode cX9_season 75 = .ok (.aload_n 0, 1) := by decide +kernel
theorem dX9_season_76 : decode cX9_season 76 = .ok (.iload 6, 2) := by decide +kernel
theorem dX9_season_78 : decode cX9_season 78 = .ok (.invokevirtual 91, 3) := by decide +kernel
theorem dX9_season_81 : decode cX9_season 81 = .ok (.ireturn, 1) := by decide +kernel
theorem dX9_season_82 : decode cX9_season 82 = .ok (.aload_n 0, 1) := by decide +kernel
theorem dX9_season_83 : decode cX9_season 83 = .ok (.getfield 71, 3) := by decide +kernel
theorem dX9_season_86 : decode cX9_season 86 = .ok (.ifCond .ne 6, 3) := by decide +kernel
theorem dX9_season_89 : decode cX9_season 89 = .ok (.bipush (-3), 2) := by decide +kernel
theorem dX9_season_91 : decode cX9_season 91 = .ok (.ireturn, 1) := by decide +kernel
theorem dX9_season_92 : decode cX9_season 92 = .ok (.bipush 60, 2) := by decide +kernel
theorem dX9_season_94 : decode cX9_season 94 = .ok (.iload_n 1, 1) := by decide +kernel
theorem dX9_season_95 : decode cX9_season 95 = .ok (.imul, 1) := by decide +kernel
theorem dX9_season_96 : decode cX9_season 96 = .ok (.iload_n 3, 1) := by decide +kernel
theorem dX9_season_97 : decode cX9_season 97 = .ok (.iadd, 1) := by decide +kernel
theorem dX9_season_98 : decode cX9_season 98 = .ok (.istore 7, 2) := by decide +kernel
theorem dX9_season_100 : decode cX9_season 100 = .ok (.iconst 0, 1) := by decide +kernel
theorem dX9_season_101 : decode cX9_season 101 = .ok (.istore 8, 2) := by decide +kernel
theorem dX9_season_103 : decode cX9_season 103 = .ok (.iload 8, 2) := by decide +kernel
theorem dX9_season_105 : decode cX9_season 105 = .ok (.iload 4, 2) := by decide +kernel
theorem dX9_season_107 : decode cX9_season 107 = .ok (.if_icmp .ge 49, 3) := by decide +kernel
theorem dX9_season_110 : decode cX9_season 110 = .ok (.aload_n 0, 1) := by decide +kernel
theorem dX9_season_111 : decode cX9_season 111 = .ok (.aload_n 0, 1) := by decide +kernel
theorem dX9_season_112 : decode cX9_season 112 = .ok (.getfield 16, 3) := by decide +kernel
theorem dX9_season_115 : decode cX9_season 115 = .ok (.iload 7, 2) := by decide +kernel
theorem dX9_season_117 : decode cX9_season 117 = .ok (.iconst 2, 1) := by decide +kernel
theorem dX9_season_118 : decode cX9_season 118 = .ok (.iload 8, 2) := by decide +kernel
theorem dX9_season_120 : decode cX9_season 120 = .ok (.imul, 1) := by decide +kernel
theorem dX9_season_121 : decode cX9_season 121 = .ok (.iadd, 1) := by decide +kernel
theorem dX9_season_122 : decode cX9_season 122 = .ok (.iaload, 1) := by decide +kernel
theorem dX9_season_123 : decode cX9_season 123 = .ok (.aload_n 0, 1) := by decide +kernel
theorem dX9_season_124 : decode cX9_season 124 = .ok (.getfield 16, 3) := by decide +kernel
theorem dX9_season_127 : decode cX9_season 127 = .ok (.iload 7, 2) := by decide +kernel
theorem dX9_season_129 : decode cX9_season 129 = .ok (.iconst 2, 1) := by decide +kernel
theorem dX9_season_130 : decode cX9_season 130 = .ok (.iload 8, 2) := by decide +kernel
theorem dX9_season_132 : decode cX9_season 132 = .ok (.imul, 1) := by decide +kernel
theorem dX9_season_133 : decode cX9_season 133 = .ok (.iadd, 1) := by decide +kernel
theorem dX9_season_134 : decode cX9_season 134 = .ok (.iconst 1, 1) := by decide +kernel
theorem dX9_season_135 : decode cX9_season 135 = .ok (.iadd, 1) := by decide +kernel
theorem dX9_season_136 : decode cX9_season 136 = .ok (.iaload, 1) := by decide +kernel
theorem dX9_season_137 : decode cX9_season 137 = .ok (.invokevirtual 150, 3) := by decide +kernel
theorem dX9_season_140 : decode cX9_season 140 = .ok (.istore 9, 2) := by decide +kernel
theorem dX9_season_142 : decode cX9_season 142 = .ok (.iload 9, 2) := by decide +kernel
theorem dX9_season_144 : decode cX9_season 144 = .ok (.ifCond .eq 6, 3) := by decide +kernel
theorem dX9_season_147 : decode cX9_season 147 = .ok (.iload 9, 2) := by decide +kernel
theorem dX9_season_149 : decode cX9_season 149 = .ok (.ireturn, 1) := by decide +kernel
theorem dX9_season_150 : decode cX9_season 150 = .ok (.iinc 8 1, 3) := by decide +kernel
theorem dX9_season_153 : decode cX9_season 153 = .ok (.goto (-50), 3) := by decide +kernel
theorem dX9_season_156 : decode cX9_season 156 = .ok (.aload_n 0, 1) := by decide +kernel
theorem dX9_season_157 : decode cX9_season 157 = .ok (.getfield 101, 3) := by decide +kernel
theorem dX9_season_160 : decode cX9_season 160 = .ok (.istore 8, 2) := by decide +kernel
theorem dX9_season_162 : decode cX9_season 162 = .ok (.iconst 0, 1) := by decide +kernel
theorem dX9_season_163 : decode cX9_season 163 = .ok (.istore 9, 2) := by decide +kernel
theorem dX9_season_165 : decode cX9_season 165 = .ok (.iload 9, 2) := by decide +kernel
theorem dX9_season_167 : decode cX9_season 167 = .ok (.aload_n 0, 1) := by decide +kernel
theorem dX9_season_168 : decode cX9_season 168 = .ok (.getfield 71, 3) := by decide +kernel
theorem dX9_season_171 : decode cX9_season 171 = .ok (.if_icmp .ge 23, 3) := by decide +kernel
theorem dX9_season_174 : decode cX9_season 174 = .ok (.aload_n 0, 1) := by decide +kernel
theorem dX9_season_175 : decode cX9_season 175 = .ok (.getfield 31, 3) := by decide +kernel
theorem dX9_season_178 : decode cX9_season 178 = .ok (.iload 9, 2) := by decide +kernel
theorem dX9_season_180 : decode cX9_season 180 = .ok (.aload_n 0, 1) := by decide +kernel
theorem dX9_season_181 : decode cX9_season 181 = .ok (.getfield 25, 3) := by decide +kernel
theorem dX9_season_184 : decode cX9_season 184 = .ok (.iload 9, 2) := by decide +kernel
theorem dX9_season_186 : decode cX9_season 186 = .ok (.iaload, 1) := by decide +kernel
theorem dX9_season_187 : decode cX9_season 187 = .ok (.iastore, 1) := by decide +kernel
theorem dX9_season_188 : decode cX9_season 188 = .ok (.iinc 9 1, 3) := by decide +kernel
theorem dX9_season_191 : decode cX9_season 191 = .ok (.goto (-26), 3) := by decide +kernel
theorem dX9_season_194 : decode cX9_season 194 = .ok (.aload_n 0, 1) := by decide +kernel
theorem dX9_season_195 : decode cX9_season 195 = .ok (.iload 7, 2) := by decide +kernel
theorem dX9_season_197 : decode cX9_season 197 = .ok (.iload 4, 2) := by decide +kernel
theorem dX9_season_199 : decode cX9_season 199 = .ok (.invokevirtual 154, 3) := by decide +kernel
theorem dX9_season_202 : decode cX9_season 202 = .ok (.istore 9, 2) := by decide +kernel
theorem dX9_season_204 : decode cX9_season 204 = .ok (.aload_n 0, 1) := by decide +kernel
theorem dX9_season_205 : decode cX9_season 205 = .ok (.iload 5, 2) := by decide +kernel
theorem dX9_season_207 : decode cX9_season 207 = .ok (.invokevirtual 157, 3) := by decide +kernel
theorem dX9_season_210 : decode cX9_season 210 = .ok (.istore 10, 2) := by decide +kernel
theorem dX9_season_212 : decode cX9_season 212 = .ok (.aload_n 0, 1) := by decide +kernel
theorem dX9_season_213 : decode cX9_season 213 = .ok (.iload 8, 2) := by decide +kernel
theorem dX9_season_215 : decode cX9_season 215 = .ok (.putfield 101, 3) := by decide +kernel
theorem dX9_season_218 : decode cX9_season 218 = .ok (.iconst 0, 1) := by decide +kernel
theorem dX9_season_219 : decode cX9_season 219 = .ok (.istore 11, 2) := by decide +kernel
theorem dX9_season_221 : decode cX9_season 221 = .ok (.iload 11, 2) := by decide +kernel
theorem dX9_season_223 : decode cX9_season 223 = .ok (.aload_n 0, 1) := by decide +kernel
theorem dX9_season_224 : decode cX9_season 224 = .ok (.getfield 71, 3) := by decide +kernel
theorem dX9_season_227 : decode cX9_season 227 = .ok (.if_icmp .ge 23, 3) := by decide +kernel
theorem dX9_season_230 : decode cX9_season 230 = .ok (.aload_n 0, 1) := by decide +kernel
theorem dX9_season_231 : decode cX9_season 231 = .ok (.getfield 25, 3) := by decide +kernel
theorem dX9_season_234 : decode cX9_season 234 = .ok (.iload 11, 2) := by decide +kernel
theorem dX9_season_236 : decode cX9_season 236 = .ok (.aload_n 0, 1) := by decide +kernel
theorem dX9_season_237 : decode cX9_season 237 = .ok (.getfield 31, 3) := by decide +kernel
theorem dX9_season_240 : decode cX9_season 240 = .ok (.iload 11, 2) := by decide +kernel
theorem dX9_season_242 : decode cX9_season 242 = .ok (.iaload, 1) := by decide +kernel
theorem dX9_season_243 : decode cX9_season 243 = .ok (.iastore, 1) := by decide +kernel
theorem dX9_season_244 : decode cX9_season 244 = .ok (.iinc 11 1, 3) := by decide +kernel
theorem dX9_season_247 : decode cX9_season 247 = .ok (.goto (-26), 3) := by decide +kernel
theorem dX9_season_250 : decode cX9_season 250 = .ok (.iload 5, 2) := by decide +kernel
theorem dX9_season_252 : decode cX9_season 252 = .ok (.iconst 1, 1) := by decide +kernel
theorem dX9_season_253 : decode cX9_season 253 = .ok (.if_icmp .ne 8, 3) := by decide +kernel
theorem dX9_season_256 : decode cX9_season 256 = .ok (.iload 9, 2) := by decide +kernel
theorem dX9_season_258 : decode cX9_season 258 = .ok (.goto 20, 3) := by decide +kernel
theorem dX9_season_261 : decode cX9_season 261 = .ok (.iload 9, 2) := by decide +kernel
theorem dX9_season_263 : decode cX9_season 263 = .ok (.bipush (-9), 2) := by decide +kernel
theorem dX9_season_265 : decode cX9_season 265 = .ok (.if_icmp .ne 8, 3) := by decide +kernel
theorem dX9_season_268 : decode cX9_season 268 = .ok (.iload 10, 2) := by decide +kernel
theorem dX9_season_270 : decode cX9_season 270 = .ok (.goto 8, 3) := by decide +kernel
theorem dX9_season_273 : decode cX9_season 273 = .ok (.bipush (-100), 2) := by decide +kernel
theorem dX9_season_275 : decode cX9_season 275 = .ok (.iload 9, 2) := by decide +kernel
theorem dX9_season_277 : decode cX9_season 277 = .ok (.isub, 1) := by decide +kernel
theorem dX9_season_278 : decode cX9_season 278 = .ok (.ireturn, 1) := by decide +kernel
