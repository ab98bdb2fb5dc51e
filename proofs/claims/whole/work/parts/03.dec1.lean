theorem dX0_init_0 : decode cX0_init 0 = .ok (.aload_n 0, 1) := by decide +kernel
theorem dX0_init_1 : decode cX0_init 1 = .ok (.invokespecial 3, 3) := by decide +kernel
theorem dX0_init_4 : decode cX0_init 4 = .ok (.aload_n 0, 1) := by decide +kernel
theorem dX0_init_5 : decode cX0_init 5 = .ok (.iload_n 1, 1) := by decide +kernel
theorem dX0_init_6 : decode cX0_init 6 = .ok (.putfield 9, 3) := by decide +kernel
theorem dX0_init_9 : decode cX0_init 9 = .ok (.aload_n 0, 1) := by decide +kernel
theorem dX0_init_10 : decode cX0_init 10 = .ok (.iload_n 2, 1) := by decide +kernel
theorem dX0_init_11 : decode cX0_init 11 = .ok (.putfield 15, 3) := by decide +kernel
theorem dX0_init_14 : decode cX0_init 14 = .ok (.aload_n 0, 1) := by decide +kernel
theorem dX0_init_15 : decode cX0_init 15 = .ok (.iload_n 3, 1) := by decide +kernel
theorem dX0_init_16 : decode cX0_init 16 = .ok (.putfield 18, 3) := by decide +kernel
theorem dX0_init_19 : decode cX0_init 19 = .ok (.aload_n 0, 1) := by decide +kernel
theorem dX0_init_20 : decode cX0_init 20 = .ok (.iload 4, 2) := by decide +kernel
theorem dX0_init_22 : decode cX0_init 22 = .ok (.putfield 21, 3) := by decide +kernel
theorem dX0_init_25 : decode cX0_init 25 = .ok (.aload_n 0, 1) := by decide +kernel
theorem dX0_init_26 : decode cX0_init 26 = .ok (.aload 5, 2) := by decide +kernel
theorem dX0_init_28 : decode cX0_init 28 = .ok (.putfield 24, 3) := by decide +kernel
theorem dX0_init_31 : decode cX0_init 31 = .ok (.aload_n 0, 1) := by decide +kernel
theorem dX0_init_32 : decode cX0_init 32 = .ok (.aload 6, 2) := by decide +kernel
theorem dX0_init_34 : decode cX0_init 34 = .ok (.putfield 28, 3) := by decide +kernel
theorem dX0_init_37 : decode cX0_init 37 = .ok (.aload_n 0, 1) := by decide +kernel
theorem dX0_init_38 : decode cX0_init 38 = .ok (.aload 7, 2) := by decide +kernel
theorem dX0_init_40 : decode cX0_init 40 = .ok (.putfield 31, 3) := by decide +kernel
theorem dX0_init_43 : decode cX0_init 43 = .ok (.return_, 1) := by decide +kernel
theorem dX0_stake_0 : decode cX0_stake 0 = .ok (.iload_n 1, 1) := by decide +kernel
theorem dX0_stake_1 : decode cX0_stake 1 = .ok (.ifCond .ne 10, 3) := by decide +kernel
theorem dX0_stake_4 : decode cX0_stake 4 = .ok (.aload_n 0, 1) := by decide +kernel
theorem dX0_stake_5 : decode cX0_stake 5 = .ok (.getfield 18, 3) := by decide +kernel
theorem dX0_stake_8 : decode cX0_stake 8 = .ok (.goto 7, 3) := by decide +kernel
theorem dX0_stake_11 : decode cX0_stake 11 = .ok (.aload_n 0, 1) := by decide +kernel
theorem dX0_stake_12 : decode cX0_stake 12 = .ok (.getfield 21, 3) := by decide +kernel
theorem dX0_stake_15 : decode cX0_stake 15 = .ok (.ireturn, 1) := by decide +kernel
theorem dX0_outcomeIn_0 : decode cX0_outcomeIn 0 = .ok (.aload_n 0, 1) := by decide +kernel
theorem dX0_outcomeIn_1 : decode cX0_outcomeIn 1 = .ok (.getfield 28, 3) := by decide +kernel
theorem dX0_outcomeIn_4 : decode cX0_outcomeIn 4 = .ok (.ifnull 17, 3) := by decide +kernel
theorem dX0_outcomeIn_7 : decode cX0_outcomeIn 7 = .ok (.aload_n 0, 1) := by decide +kernel
theorem dX0_outcomeIn_8 : decode cX0_outcomeIn 8 = .ok (.getfield 28, 3) := by decide +kernel
theorem dX0_outcomeIn_11 : decode cX0_outcomeIn 11 = .ok (.aload_n 1, 1) := by decide +kernel
theorem dX0_outcomeIn_12 : decode cX0_outcomeIn 12 = .ok (.iconst 0, 1) := by decide +kernel
theorem dX0_outcomeIn_13 : decode cX0_outcomeIn 13 = .ok (.invokestatic 34, 3) := by decide +kernel
theorem dX0_outcomeIn_16 : decode cX0_outcomeIn 16 = .ok (.ifCond .eq 5, 3) := by decide +kernel
theorem dX0_outcomeIn_19 : decode cX0_outcomeIn 19 = .ok (.iconst 0, 1) := by decide +kernel
theorem dX0_outcomeIn_20 : decode cX0_outcomeIn 20 = .ok (.ireturn, 1) := by decide +kernel
theorem dX0_outcomeIn_21 : decode cX0_outcomeIn 21 = .ok (.aload_n 0, 1) := by decide +kernel
theorem dX0_outcomeIn_22 : decode cX0_outcomeIn 22 = .ok (.getfield 31, 3) := by decide +kernel
theorem dX0_outcomeIn_25 : decode cX0_outcomeIn 25 = .ok (.ifnull 19, 3) := by decide +kernel
theorem dX0_outcomeIn_28 : decode cX0_outcomeIn 28 = .ok (.aload_n 0, 1) := by decide +kernel
theorem dX0_outcomeIn_29 : decode cX0_outcomeIn 29 = .ok (.getfield 31, 3) := by decide +kernel
theorem dX0_outcomeIn_32 : decode cX0_outcomeIn 32 = .ok (.aload_n 1, 1) := by decide +kernel
theorem dX0_outcomeIn_33 : decode cX0_outcomeIn 33 = .ok (.iconst 0, 1) := by decide +kernel
theorem dX0_outcomeIn_34 : decode cX0_outcomeIn 34 = .ok (.invokestatic 34, 3) := by decide +kernel
theorem dX0_outcomeIn_37 : decode cX0_outcomeIn 37 = .ok (.ifCond .eq 7, 3) := by decide +kernel
theorem dX0_outcomeIn_40 : decode cX0_outcomeIn 40 = .ok (.iconst 1, 1) := by decide +kernel
theorem dX0_outcomeIn_41 : decode cX0_outcomeIn 41 = .ok (.goto 4, 3) := by decide +kernel
theorem dX0_outcomeIn_44 : decode cX0_outcomeIn 44 = .ok (.iconst 0, 1) := by decide +kernel
theorem dX0_outcomeIn_45 : decode cX0_outcomeIn 45 = .ok (.istore_n 2, 1) := by decide +kernel
theorem dX0_outcomeIn_46 : decode cX0_outcomeIn 46 = .ok (.aload_n 0, 1) := by decide +kernel
theorem dX0_outcomeIn_47 : decode cX0_outcomeIn 47 = .ok (.getfield 24, 3) := by decide +kernel
theorem dX0_outcomeIn_50 : decode cX0_outcomeIn 50 = .ok (.aload_n 1, 1) := by decide +kernel
theorem dX0_outcomeIn_51 : decode cX0_outcomeIn 51 = .ok (.iconst 0, 1) := by decide +kernel
theorem dX0_outcomeIn_52 : decode cX0_outcomeIn 52 = .ok (.invokestatic 34, 3) := by decide +kernel
theorem dX0_outcomeIn_55 : decode cX0_outcomeIn 55 = .ok (.ifCond .eq 13, 3) := by decide +kernel
theorem dX0_outcomeIn_58 : decode cX0_outcomeIn 58 = .ok (.iload_n 2, 1) := by decide +kernel
theorem dX0_outcomeIn_59 : decode cX0_outcomeIn 59 = .ok (.ifCond .eq 7, 3) := by decide +kernel
theorem dX0_outcomeIn_62 : decode cX0_outcomeIn 62 = .ok (.iconst 4, 1) := by decide +kernel
theorem dX0_outcomeIn_63 : decode cX0_outcomeIn 63 = .ok (.goto 4, 3) := by decide +kernel
theorem dX0_outcomeIn_66 : decode cX0_outcomeIn 66 = .ok (.iconst 3, 1) := by decide +kernel
theorem dX0_outcomeIn_67 : decode cX0_outcomeIn 67 = .ok (.ireturn, 1) := by decide +kernel
theorem dX0_outcomeIn_68 : decode cX0_outcomeIn 68 = .ok (.iload_n 2, 1) := by decide +kernel
theorem dX0_outcomeIn_69 : decode cX0_outcomeIn 69 = .ok (.ifCond .eq 7, 3) := by decide +kernel
theorem dX0_outcomeIn_72 : decode cX0_outcomeIn 72 = .ok (.iconst 2, 1) := by decide +kernel
theorem dX0_outcomeIn_73 : decode cX0_outcomeIn 73 = .ok (.goto 4, 3) := by decide +kernel
theorem dX0_outcomeIn_76 : decode cX0_outcomeIn 76 = .ok (.iconst 1, 1) := by decide +kernel
theorem dX0_outcomeIn_77 : decode cX0_outcomeIn 77 = .ok (.ireturn, 1) := by decide +kernel
theorem dX0_coinOf_0 : decode cX0_coinOf 0 = .ok (.iload_n 1, 1) := by decide +kernel
theorem dX0_coinOf_1 : decode cX0_coinOf 1 = .ok (.tableswitch 57 1 4 #[31, 37, 45, 50], 31) := by decide +kernel
theorem dX0_coinOf_32 : decode cX0_coinOf 32 = .ok (.aload_n 0, 1) := by decide +kernel
theorem dX0_coinOf_33 : decode cX0_coinOf 33 = .ok (.getfield 18, 3) := by decide +kernel
theorem dX0_coinOf_36 : decode cX0_coinOf 36 = .ok (.ineg, 1) := by decide +kernel
theorem dX0_coinOf_37 : decode cX0_coinOf 37 = .ok (.ireturn, 1) := by decide +kernel
theorem dX0_coinOf_38 : decode cX0_coinOf 38 = .ok (.bipush (-2), 2) := by decide +kernel
theorem dX0_coinOf_40 : decode cX0_coinOf 40 = .ok (.aload_n 0, 1) := by decide +kernel
theorem dX0_coinOf_41 : decode cX0_coinOf 41 = .ok (.getfield 18, 3) := by decide +kernel
theorem dX0_coinOf_44 : decode cX0_coinOf 44 = .ok (.imul, 1) := by decide +kernel
theorem dX0_coinOf_45 : decode cX0_coinOf 45 = .ok (.ireturn, 1) := by decide +kernel
theorem dX0_coinOf_46 : decode cX0_coinOf 46 = .ok (.aload_n 0, 1) := by decide +kernel
theorem dX0_coinOf_47 : decode cX0_coinOf 47 = .ok (.getfield 21, 3) := by decide +kernel
theorem dX0_coinOf_50 : decode cX0_coinOf 50 = .ok (.ireturn, 1) := by decide +kernel
theorem dX0_coinOf_51 : decode cX0_coinOf 51 = .ok (.iconst 2, 1) := by decide +kernel
theorem dX0_coinOf_52 : decode cX0_coinOf 52 = .ok (.aload_n 0, 1) := by decide +kernel
theorem dX0_coinOf_53 : decode cX0_coinOf 53 = .ok (.getfield 21, 3) := by decide +kernel
theorem dX0_coinOf_56 : decode cX0_coinOf 56 = .ok (.imul, 1) := by decide +kernel
theorem dX0_coinOf_57 : decode cX0_coinOf 57 = .ok (.ireturn, 1) := by decide +kernel
theorem dX0_coinOf_58 : decode cX0_coinOf 58 = .ok (.iconst 0, 1) := by decide +kernel
theorem dX0_coinOf_59 : decode cX0_coinOf 59 = .ok (.ireturn, 1) := by decide +kernel
theorem dX1_init_0 : decode cX1_init 0 = .ok (.aload_n 0, 1) := by decide +kernel
theorem dX1_init_1 : decode cX1_init 1 = .ok (.invokespecial 1, 3) := by decide +kernel
theorem dX1_init_4 : decode cX1_init 4 = .ok (.aload_n 0, 1) := by decide +kernel
theorem dX1_init_5 : decode cX1_init 5 = .ok (.iload_n 1, 1) := by decide +kernel
theorem dX1_init_6 : decode cX1_init 6 = .ok (.putfield 7, 3) := by decide +kernel
theorem dX1_init_9 : decode cX1_init 9 = .ok (.aload_n 0, 1) := by decide +kernel
theorem dX1_init_10 : decode cX1_init 10 = .ok (.iload_n 2, 1) := by decide +kernel
theorem dX1_init_11 : decode cX1_init 11 = .ok (.putfield 13, 3) := by decide +kernel
theorem dX1_init_14 : decode cX1_init 14 = .ok (.aload_n 0, 1) := by decide +kernel
theorem dX1_init_15 : decode cX1_init 15 = .ok (.iload_n 3, 1) := by decide +kernel
theorem dX1_init_16 : decode cX1_init 16 = .ok (.putfield 16, 3) := by decide +kernel
theorem dX1_init_19 : decode cX1_init 19 = .ok (.aload_n 0, 1) := by decide +kernel
theorem dX1_init_20 : decode cX1_init 20 = .ok (.aload 4, 2) := by decide +kernel
theorem dX1_init_22 : decode cX1_init 22 = .ok (.putfield 19, 3) := by decide +kernel
theorem dX1_init_25 : decode cX1_init 25 = .ok (.return_, 1) := by decide +kernel
theorem dX1_of_0 : decode cX1_of 0 = .ok (.new 8, 3) := by decide +kernel
theorem dX1_of_3 : decode cX1_of 3 = .ok (.dup, 1) := by decide +kernel
theorem dX1_of_4 : decode cX1_of 4 = .ok (.iload_n 0, 1) := by decide +kernel
theorem dX1_of_5 : decode cX1_of 5 = .ok (.iload_n 1, 1) := by decide +kernel
theorem dX1_of_6 : decode cX1_of 6 = .ok (.iload_n 2, 1) := by decide +kernel
theorem dX1_of_7 : decode cX1_of 7 = .ok (.aconst_null, 1) := by decide +kernel
theorem dX1_of_8 : decode cX1_of 8 = .ok (.invokespecial 23, 3) := by decide +kernel
theorem dX1_of_11 : decode cX1_of 11 = .ok (.areturn, 1) := by decide +kernel
theorem dX1_over_0 : decode cX1_over 0 = .ok (.new 8, 3) := by decide +kernel
theorem dX1_over_3 : decode cX1_over 3 = .ok (.dup, 1) := by decide +kernel
theorem dX1_over_4 : decode cX1_over 4 = .ok (.iload_n 0, 1) := by decide +kernel
theorem dX1_over_5 : decode cX1_over 5 = .ok (.iconst 0, 1) := by decide +kernel
theorem dX1_over_6 : decode cX1_over 6 = .ok (.iconst 0, 1) := by decide +kernel
theorem dX1_over_7 : decode cX1_over 7 = .ok (.aload_n 1, 1) := by decide +kernel
theorem dX1_over_8 : decode cX1_over 8 = .ok (.invokespecial 23, 3) := by decide +kernel
theorem dX1_over_11 : decode cX1_over 11 = .ok (.areturn, 1) := by decide +kernel
theorem dX1_isTrue_0 : decode cX1_isTrue 0 = .ok (.aload_n 0, 1) := by decide +kernel
theorem dX1_isTrue_1 : decode cX1_isTrue 1 = .ok (.ifnull 9, 3) := by decide +kernel
theorem dX1_isTrue_4 : decode cX1_isTrue 4 = .ok (.iload_n 2, 1) := by decide +kernel
theorem dX1_isTrue_5 : decode cX1_isTrue 5 = .ok (.bipush 40, 2) := by decide +kernel
theorem dX1_isTrue_7 : decode cX1_isTrue 7 = .ok (.if_icmp .le 5, 3) := by decide +kernel
theorem dX1_isTrue_10 : decode cX1_isTrue 10 = .ok (.iconst 0, 1) := by decide +kernel
theorem dX1_isTrue_11 : decode cX1_isTrue 11 = .ok (.ireturn, 1) := by decide +kernel
theorem dX1_isTrue_12 : decode cX1_isTrue 12 = .ok (.aload_n 0, 1) := by decide +kernel
theorem dX1_isTrue_13 : decode cX1_isTrue 13 = .ok (.getfield 7, 3) := by decide +kernel
theorem dX1_isTrue_16 : decode cX1_isTrue 16 = .ok (.tableswitch 109 0 3 #[32, 48, 68, 89], 32) := by decide +kernel
theorem dX1_isTrue_48 : decode cX1_isTrue 48 = .ok (.aload_n 1, 1) := by decide +kernel
theorem dX1_isTrue_49 : decode cX1_isTrue 49 = .ok (.aload_n 0, 1) := by decide +kernel
theorem dX1_isTrue_50 : decode cX1_isTrue 50 = .ok (.getfield 13, 3) := by decide +kernel
theorem dX1_isTrue_53 : decode cX1_isTrue 53 = .ok (.invokestatic 26, 3) := by decide +kernel
theorem dX1_isTrue_56 : decode cX1_isTrue 56 = .ok (.aload_n 0, 1) := by decide +kernel
theorem dX1_isTrue_57 : decode cX1_isTrue 57 = .ok (.getfield 16, 3) := by decide +kernel
theorem dX1_isTrue_60 : decode cX1_isTrue 60 = .ok (.invokestatic 32, 3) := by decide +kernel
theorem dX1_isTrue_63 : decode cX1_isTrue 63 = .ok (.ireturn, 1) := by decide +kernel
theorem dX1_isTrue_64 : decode cX1_isTrue 64 = .ok (.aload_n 1, 1) := by decide +kernel
theorem dX1_isTrue_65 : decode cX1_isTrue 65 = .ok (.aload_n 0, 1) := by decide +kernel
theorem dX1_isTrue_66 : decode cX1_isTrue 66 = .ok (.getfield 13, 3) := by decide +kernel
theorem dX1_isTrue_69 : decode cX1_isTrue 69 = .ok (.invokestatic 26, 3) := by decide +kernel
theorem dX1_isTrue_72 : decode cX1_isTrue 72 = .ok (.aload_n 1, 1) := by decide +kernel
theorem dX1_isTrue_73 : decode cX1_isTrue 73 = .ok (.aload_n 0, 1) := by decide +kernel
theorem dX1_isTrue_74 : decode cX1_isTrue 74 = .ok (.getfield 16, 3) := by decide +kernel
theorem dX1_isTrue_77 : decode cX1_isTrue 77 = .ok (.invokestatic 26, 3) := by decide +kernel
theorem dX1_isTrue_80 : decode cX1_isTrue 80 = .ok (.invokestatic 36, 3) := by decide +kernel
theorem dX1_isTrue_83 : decode cX1_isTrue 83 = .ok (.ireturn, 1) := by decide +kernel
theorem dX1_isTrue_84 : decode cX1_isTrue 84 = .ok (.aload_n 1, 1) := by decide +kernel
theorem dX1_isTrue_85 : decode cX1_isTrue 85 = .ok (.aload_n 0, 1) := by decide +kernel
theorem dX1_isTrue_86 : decode cX1_isTrue 86 = .ok (.getfield 16, 3) := by decide +kernel
theorem dX1_isTrue_89 : decode cX1_isTrue 89 = .ok (.invokestatic 39, 3) := by decide +kernel
theorem dX1_isTrue_92 : decode cX1_isTrue 92 = .ok (.aload_n 0, 1) := by decide +kernel
theorem dX1_isTrue_93 : decode cX1_isTrue 93 = .ok (.getfield 13, 3) := by decide +kernel
theorem dX1_isTrue_96 : decode cX1_isTrue 96 = .ok (.if_icmp .lt 7, 3) := by decide +kernel
theorem dX1_isTrue_99 : decode cX1_isTrue 99 = .ok (.iconst 1, 1) := by decide +kernel
theorem dX1_isTrue_100 : decode cX1_isTrue 100 = .ok (.goto 4, 3) := by decide +kernel
theorem dX1_isTrue_103 : decode cX1_isTrue 103 = .ok (.iconst 0, 1) := by decide +kernel
theorem dX1_isTrue_104 : decode cX1_isTrue 104 = .ok (.ireturn, 1) := by decide +kernel
theorem dX1_isTrue_105 : decode cX1_isTrue 105 = .ok (.aload_n 0, 1) := by decide +kernel
theorem dX1_isTrue_106 : decode cX1_isTrue 106 = .ok (.getfield 19, 3) := by decide +kernel
theorem dX1_isTrue_109 : decode cX1_isTrue 109 = .ok (.aload_n 1, 1) := by decide +kernel
theorem dX1_isTrue_110 : decode cX1_isTrue 110 = .ok (.iload_n 2, 1) := by decide +kernel
theorem dX1_isTrue_111 : decode cX1_isTrue 111 = .ok (.iconst 1, 1) := by decide +kernel
theorem dX1_isTrue_112 : decode cX1_isTrue 112 = .ok (.iadd, 1) := by decide +kernel
theorem dX1_isTrue_113 : decode cX1_isTrue 113 = .ok (.invokestatic 42, 3) := by decide +kernel
theorem dX1_isTrue_116 : decode cX1_isTrue 116 = .ok (.ifCond .ne 7, 3) := by decide +kernel
theorem dX1_isTrue_119 : decode cX1_isTrue 119 = .ok (.iconst 1, 1) := by decide +kernel
theorem dX1_isTrue_120 : decode cX1_isTrue 120 = .ok (.goto 4, 3) := by decide +kernel
theorem dX1_isTrue_123 : decode cX1_isTrue 123 = .ok (.iconst 0, 1) := by decide +kernel
theorem dX1_isTrue_124 : decode cX1_isTrue 124 = .ok (.ireturn, 1) := by decide +kernel
theorem dX1_isTrue_125 : decode cX1_isTrue 125 = .ok (.aload_n 0, 1) := by decide +kernel
theorem dX1_isTrue_126 : decode cX1_isTrue 126 = .ok (.getfield 7, 3) := by decide +kernel
theorem dX1_isTrue_129 : decode cX1_isTrue 129 = .ok (.iconst 5, 1) := by decide +kernel
theorem dX1_isTrue_130 : decode cX1_isTrue 130 = .ok (.if_icmp .ne 7, 3) := by decide +kernel
theorem dX1_isTrue_133 : decode cX1_isTrue 133 = .ok (.iconst 1, 1) := by decide +kernel
theorem dX1_isTrue_134 : decode cX1_isTrue 134 = .ok (.goto 4, 3) := by decide +kernel
theorem dX1_isTrue_137 : decode cX1_isTrue 137 = .ok (.iconst 0, 1) := by decide +kernel
theorem dX1_isTrue_138 : decode cX1_isTrue 138 = .ok (.istore_n 3, 1) := by decide +kernel
theorem dX1_isTrue_139 : decode cX1_isTrue 139 = .ok (.aload_n 0, 1) := by decide +kernel
theorem dX1_isTrue_140 : decode cX1_isTrue 140 = .ok (.getfield 19, 3) := by decide +kernel
theorem dX1_isTrue_143 : decode cX1_isTrue 143 = .ok (.astore 4, 2) := by decide +kernel
theorem dX1_isTrue_145 : decode cX1_isTrue 145 = .ok (.aload 4, 2) := by decide +kernel
theorem dX1_isTrue_147 : decode cX1_isTrue 147 = .ok (.ifnull 28, 3) := by decide +kernel
theorem dX1_isTrue_150 : decode cX1_isTrue 150 = .ok (.aload 4, 2) := by decide +kernel
theorem dX1_isTrue_152 : decode cX1_isTrue 152 = .ok (.aload_n 1, 1) := by decide +kernel
theorem dX1_isTrue_153 : decode cX1_isTrue 153 = .ok (.iload_n 2, 1) := by decide +kernel
theorem dX1_isTrue_154 : decode cX1_isTrue 154 = .ok (.iconst 1, 1) := by decide +kernel
theorem dX1_isTrue_155 : decode cX1_isTrue 155 = .ok (.iadd, 1) := by decide +kernel
theorem dX1_isTrue_156 : decode cX1_isTrue 156 = .ok (.invokestatic 42, 3) := by decide +kernel
theorem dX1_isTrue_159 : decode cX1_isTrue 159 = .ok (.iload_n 3, 1) := by decide +kernel
theorem dX1_isTrue_160 : decode cX1_isTrue 160 = .ok (.if_icmp .ne 5, 3) := by decide +kernel
theorem dX1_isTrue_163 : decode cX1_isTrue 163 = .ok (.iload_n 3, 1) := by decide +kernel
theorem dX1_isTrue_164 : decode cX1_isTrue 164 = .ok (.ireturn, 1) := by decide +kernel
theorem dX1_isTrue_165 : decode cX1_isTrue 165 = .ok (.aload 4, 2) := by decide +kernel
theorem dX1_isTrue_167 : decode cX1_isTrue 167 = .ok (.getfield 46, 3) := by decide +kernel
theorem dX1_isTrue_170 : decode cX1_isTrue 170 = .ok (.astore 4, 2) := by decide +kernel
theorem dX1_isTrue_172 : decode cX1_isTrue 172 = .ok (.goto (-27), 3) := by decide +kernel
theorem dX1_isTrue_175 : decode cX1_isTrue 175 = .ok (.iload_n 3, 1) := by decide +kernel
theorem dX1_isTrue_176 : decode cX1_isTrue 176 = .ok (.ifCond .ne 7, 3) := by decide +kernel
theorem dX1_isTrue_179 : decode cX1_isTrue 179 = .ok (.iconst 1, 1) := by decide +kernel
theorem dX1_isTrue_180 : decode cX1_isTrue 180 = .ok (.goto 4, 3) := by decide +kernel
theorem dX1_isTrue_183 : decode cX1_isTrue 183 = .ok (.iconst 0, 1) := by decide +kernel
theorem dX1_isTrue_184 : decode cX1_isTrue 184 = .ok (.ireturn, 1) := by decide +kernel
theorem dX1_comesBy_0 : decode cX1_comesBy 0 = .ok (.iload_n 0, 1) := by decide +kernel
theorem dX1_comesBy_1 : decode cX1_comesBy 1 = .ok (.ifCond .eq 14, 3) := by decide +kernel
theorem dX1_comesBy_4 : decode cX1_comesBy 4 = .ok (.iload_n 0, 1) := by decide +kernel
theorem dX1_comesBy_5 : decode cX1_comesBy 5 = .ok (.iload_n 1, 1) := by decide +kernel
theorem dX1_comesBy_6 : decode cX1_comesBy 6 = .ok (.iconst 1, 1) := by decide +kernel
theorem dX1_comesBy_7 : decode cX1_comesBy 7 = .ok (.iadd, 1) := by decide +kernel
theorem dX1_comesBy_8 : decode cX1_comesBy 8 = .ok (.if_icmp .gt 7, 3) := by decide +kernel
theorem dX1_comesBy_11 : decode cX1_comesBy 11 = .ok (.iconst 1, 1) := by decide +kernel
theorem dX1_comesBy_12 : decode cX1_comesBy 12 = .ok (.goto 4, 3) := by decide +kernel
theorem dX1_comesBy_15 : decode cX1_comesBy 15 = .ok (.iconst 0, 1) := by decide +kernel
theorem dX1_comesBy_16 : decode cX1_comesBy 16 = .ok (.ireturn, 1) := by decide +kernel
theorem dX1_comesBefore_0 : decode cX1_comesBefore 0 = .ok (.iload_n 0, 1) := by decide +kernel
theorem dX1_comesBefore_1 : decode cX1_comesBefore 1 = .ok (.ifCond .eq 16, 3) := by decide +kernel
theorem dX1_comesBefore_4 : decode cX1_comesBefore 4 = .ok (.iload_n 1, 1) := by decide +kernel
theorem dX1_comesBefore_5 : decode cX1_comesBefore 5 = .ok (.ifCond .eq 8, 3) := by decide +kernel
theorem dX1_comesBefore_8 : decode cX1_comesBefore 8 = .ok (.iload_n 0, 1) := by decide +kernel
theorem dX1_comesBefore_9 : decode cX1_comesBefore 9 = .ok (.iload_n 1, 1) := by decide +kernel
theorem dX1_comesBefore_10 : decode cX1_comesBefore 10 = .ok (.if_icmp .ge 7, 3) := by decide +kernel
theorem dX1_comesBefore_13 : decode cX1_comesBefore 13 = .ok (.iconst 1, 1) := by decide +kernel
theorem dX1_comesBefore_14 : decode cX1_comesBefore 14 = .ok (.goto 4, 3) := by decide +kernel
theorem dX1_comesBefore_17 : decode cX1_comesBefore 17 = .ok (.iconst 0, 1) := by decide +kernel
theorem dX1_comesBefore_18 : decode cX1_comesBefore 18 = .ok (.ireturn, 1) := by decide +kernel
theorem dX1_countBy_0 : decode cX1_countBy 0 = .ok (.iconst 0, 1) := by decide +kernel
theorem dX1_countBy_1 : decode cX1_countBy 1 = .ok (.istore_n 2, 1) := by decide +kernel
theorem dX1_countBy_2 : decode cX1_countBy 2 = .ok (.aload_n 0, 1) := by decide +kernel
theorem dX1_countBy_3 : decode cX1_countBy 3 = .ok (.astore_n 3, 1) := by decide +kernel
theorem dX1_countBy_4 : decode cX1_countBy 4 = .ok (.aload_n 3, 1) := by decide +kernel
theorem dX1_countBy_5 : decode cX1_countBy 5 = .ok (.arraylength, 1) := by decide +kernel
theorem dX1_countBy_6 : decode cX1_countBy 6 = .ok (.istore 4, 2) := by decide +kernel
theorem dX1_countBy_8 : decode cX1_countBy 8 = .ok (.iconst 0, 1) := by decide +kernel
theorem dX1_countBy_9 : decode cX1_countBy 9 = .ok (.istore 5, 2) := by decide +kernel
theorem dX1_countBy_11 : decode cX1_countBy 11 = .ok (.iload 5, 2) := by decide +kernel
theorem dX1_countBy_13 : decode cX1_countBy 13 = .ok (.iload 4, 2) := by decide +kernel
theorem dX1_countBy_15 : decode cX1_countBy 15 = .ok (.if_icmp .ge 27, 3) := by decide +kernel
theorem dX1_countBy_18 : decode cX1_countBy 18 = .ok (.aload_n 3, 1) := by decide +kernel
theorem dX1_countBy_19 : decode cX1_countBy 19 = .ok (.iload 5, 2) := by decide +kernel
theorem dX1_countBy_21 : decode cX1_countBy 21 = .ok (.iaload, 1) := by decide +kernel
theorem dX1_countBy_22 : decode cX1_countBy 22 = .ok (.istore 6, 2) := by decide +kernel
theorem dX1_countBy_24 : decode cX1_countBy 24 = .ok (.iload 6, 2) := by decide +kernel
theorem dX1_countBy_26 : decode cX1_countBy 26 = .ok (.iload_n 1, 1) := by decide +kernel
theorem dX1_countBy_27 : decode cX1_countBy 27 = .ok (.invokestatic 32, 3) := by decide +kernel
theorem dX1_countBy_30 : decode cX1_countBy 30 = .ok (.ifCond .eq 6, 3) := by decide +kernel
theorem dX1_countBy_33 : decode cX1_countBy 33 = .ok (.iinc 2 1, 3) := by decide +kernel
theorem dX1_countBy_36 : decode cX1_countBy 36 = .ok (.iinc 5 1, 3) := by decide +kernel
theorem dX1_countBy_39 : decode cX1_countBy 39 = .ok (.goto (-28), 3) := by decide +kernel
theorem dX1_countBy_42 : decode cX1_countBy 42 = .ok (.iload_n 2, 1) := by decide +kernel
theorem dX1_countBy_43 : decode cX1_countBy 43 = .ok (.ireturn, 1) := by decide +kernel
theorem dX2_init_0 : decode cX2_init 0 = .ok (.aload_n 0, 1) := by decide +kernel
theorem dX2_init_1 : decode cX2_init 1 = .ok (.invokespecial 3, 3) := by decide +kernel
theorem dX2_init_4 : decode cX2_init 4 = .ok (.aload_n 0, 1) := by decide +kernel
theorem dX2_init_5 : decode cX2_init 5 = .ok (.iconst 5, 1) := by decide +kernel
theorem dX2_init_6 : decode cX2_init 6 = .ok (.newarray .long, 2) := by decide +kernel
theorem dX2_init_8 : decode cX2_init 8 = .ok (.putfield 9, 3) := by decide +kernel
theorem dX2_init_11 : decode cX2_init 11 = .ok (.aload_n 0, 1) := by decide +kernel
theorem dX2_init_12 : decode cX2_init 12 = .ok (.iconst 5, 1) := by decide +kernel
theorem dX2_init_13 : decode cX2_init 13 = .ok (.newarray .int, 2) := by decide +kernel
theorem dX2_init_15 : decode cX2_init 15 = .ok (.putfield 15, 3) := by decide +kernel
theorem dX2_init_18 : decode cX2_init 18 = .ok (.aload_n 0, 1) := by decide +kernel
theorem dX2_init_19 : decode cX2_init 19 = .ok (.iconst 5, 1) := by decide +kernel
theorem dX2_init_20 : decode cX2_init 20 = .ok (.newarray .int, 2) := by decide +kernel
theorem dX2_init_22 : decode cX2_init 22 = .ok (.putfield 19, 3) := by decide +kernel
theorem dX2_init_25 : decode cX2_init 25 = .ok (.aload_n 0, 1) := by decide +kernel
theorem dX2_init_26 : decode cX2_init 26 = .ok (.bipush 6, 2) := by decide +kernel
theorem dX2_init_28 : decode cX2_init 28 = .ok (.newarray .long, 2) := by decide +kernel
theorem dX2_init_30 : decode cX2_init 30 = .ok (.putfield 22, 3) := by decide +kernel
theorem dX2_init_33 : decode cX2_init 33 = .ok (.aload_n 0, 1) := by decide +kernel
theorem dX2_init_34 : decode cX2_init 34 = .ok (.bipush 40, 2) := by decide +kernel
theorem dX2_init_36 : decode cX2_init 36 = .ok (.newarray .int, 2) := by decide +kernel
theorem dX2_init_38 : decode cX2_init 38 = .ok (.putfield 25, 3) := by decide +kernel
theorem dX2_init_41 : decode cX2_init 41 = .ok (.aload_n 0, 1) := by decide +kernel
theorem dX2_init_42 : decode cX2_init 42 = .ok (.bipush 40, 2) := by decide +kernel
theorem dX2_init_44 : decode cX2_init 44 = .ok (.newarray .int, 2) := by decide +kernel
theorem dX2_init_46 : decode cX2_init 46 = .ok (.putfield 28, 3) := by decide +kernel
theorem dX2_init_49 : decode cX2_init 49 = .ok (.aload_n 0, 1) := by decide +kernel
theorem dX2_init_50 : decode cX2_init 50 = .ok (.bipush 40, 2) := by decide +kernel
theorem dX2_init_52 : decode cX2_init 52 = .ok (.newarray .int, 2) := by decide +kernel
theorem dX2_init_54 : decode cX2_init 54 = .ok (.putfield 31, 3) := by decide +kernel
theorem dX2_init_57 : decode cX2_init 57 = .ok (.aload_n 0, 1) := by decide +kernel
theorem dX2_init_58 : decode cX2_init 58 = .ok (.bipush 12, 2) := by decide +kernel
theorem dX2_init_60 : decode cX2_init 60 = .ok (.anewarray 34, 3) := by decide +kernel
theorem dX2_init_63 : decode cX2_init 63 = .ok (.putfield 36, 3) := by decide +kernel
theorem dX2_init_66 : decode cX2_init 66 = .ok (.return_, 1) := by decide +kernel
theorem dX2_hasThing_0 : decode cX2_hasThing 0 = .ok (.iload_n 1, 1) := by decide +kernel
theorem dX2_hasThing_1 : decode cX2_hasThing 1 = .ok (.ifCond .lt 15, 3) := by decide +kernel
theorem dX2_hasThing_4 : decode cX2_hasThing 4 = .ok (.iload_n 1, 1) := by decide +kernel
theorem dX2_hasThing_5 : decode cX2_hasThing 5 = .ok (.aload_n 0, 1) := by decide +kernel
theorem dX2_hasThing_6 : decode cX2_hasThing 6 = .ok (.getfield 40, 3) := by decide +kernel
theorem dX2_hasThing_9 : decode cX2_hasThing 9 = .ok (.if_icmp .ge 7, 3) := by decide +kernel
theorem dX2_hasThing_12 : decode cX2_hasThing 12 = .ok (.iconst 1, 1) := by decide +kernel
theorem dX2_hasThing_13 : decode cX2_hasThing 13 = .ok (.goto 4, 3) := by decide +kernel
theorem dX2_hasThing_16 : decode cX2_hasThing 16 = .ok (.iconst 0, 1) := by decide +kernel
theorem dX2_hasThing_17 : decode cX2_hasThing 17 = .ok (.ireturn, 1) := by decide +kernel
theorem dX2_hasMember_0 : decode cX2_hasMember 0 = .ok (.iload_n 1, 1) := by decide +kernel
theorem dX2_hasMember_1 : decode cX2_hasMember 1 = .ok (.ifCond .lt 15, 3) := by decide +kernel
theorem dX2_hasMember_4 : decode cX2_hasMember 4 = .ok (.iload_n 1, 1) := by decide +kernel
theorem dX2_hasMember_5 : decode cX2_hasMember 5 = .ok (.aload_n 0, 1) := by decide +kernel
theorem dX2_hasMember_6 : decode cX2_hasMember 6 = .ok (.getfield 44, 3) := by decide +kernel
theorem dX2_hasMember_9 : decode cX2_hasMember 9 = .ok (.if_icmp .ge 7, 3) := by decide +kernel
theorem dX2_hasMember_12 : decode cX2_hasMember 12 = .ok (.iconst 1, 1) := by decide +kernel
theorem dX2_hasMember_13 : decode cX2_hasMember 13 = .ok (.goto 4, 3) := by decide +kernel
theorem dX2_hasMember_16 : decode cX2_hasMember 16 = .ok (.iconst 0, 1) := by decide +kernel
theorem dX2_hasMember_17 : decode cX2_hasMember 17 = .ok (.ireturn, 1) := by decide +kernel
theorem dX2_betAt_0 : decode cX2_betAt 0 = .ok (.iload_n 1, 1) := by decide +kernel
theorem dX2_betAt_1 : decode cX2_betAt 1 = .ok (.ifCond .lt 29, 3) := by decide +kernel
theorem dX2_betAt_4 : decode cX2_betAt 4 = .ok (.iload_n 1, 1) := by decide +kernel
theorem dX2_betAt_5 : decode cX2_betAt 5 = .ok (.aload_n 0, 1) := by decide +kernel
theorem dX2_betAt_6 : decode cX2_betAt 6 = .ok (.getfield 47, 3) := by decide +kernel
theorem dX2_betAt_9 : decode cX2_betAt 9 = .ok (.if_icmp .ge 21, 3) := by decide +kernel
theorem dX2_betAt_12 : decode cX2_betAt 12 = .ok (.iload_n 1, 1) := by decide +kernel
theorem dX2_betAt_13 : decode cX2_betAt 13 = .ok (.aload_n 0, 1) := by decide +kernel
theorem dX2_betAt_14 : decode cX2_betAt 14 = .ok (.getfield 36, 3) := by decide +kernel
theorem dX2_betAt_17 : decode cX2_betAt 17 = .ok (.arraylength, 1) := by decide +kernel
theorem dX2_betAt_18 : decode cX2_betAt 18 = .ok (.if_icmp .ge 12, 3) := by decide +kernel
theorem dX2_betAt_21 : decode cX2_betAt 21 = .ok (.aload_n 0, 1) := by decide +kernel
theorem dX2_betAt_22 : decode cX2_betAt 22 = .ok (.getfield 36, 3) := by decide +kernel
theorem dX2_betAt_25 : decode cX2_betAt 25 = .ok (.iload_n 1, 1) := by decide +kernel
theorem dX2_betAt_26 : decode cX2_betAt 26 = .ok (.aaload, 1) := by decide +kernel
theorem dX2_betAt_27 : decode cX2_betAt 27 = .ok (.goto 4, 3) := by decide +kernel
theorem dX2_betAt_30 : decode cX2_betAt 30 = .ok (.aconst_null, 1) := by decide +kernel
theorem dX2_betAt_31 : decode cX2_betAt 31 = .ok (.areturn, 1) := by decide +kernel
theorem dX2_isFree_0 : decode cX2_isFree 0 = .ok (.lload_n 1, 1) := by decide +kernel
theorem dX2_isFree_1 : decode cX2_isFree 1 = .ok (.lconst 0, 1) := by decide +kernel
theorem dX2_isFree_2 : decode cX2_isFree 2 = .ok (.lcmp, 1) := by decide +kernel
theorem dX2_isFree_3 : decode cX2_isFree 3 = .ok (.ifCond .eq 7, 3) := by decide +kernel
theorem dX2_isFree_6 : decode cX2_isFree 6 = .ok (.iconst 1, 1) := by decide +kernel
theorem dX2_isFree_7 : decode cX2_isFree 7 = .ok (.goto 4, 3) := by decide +kernel
theorem dX2_isFree_10 : decode cX2_isFree 10 = .ok (.iconst 0, 1) := by decide +kernel
theorem dX2_isFree_11 : decode cX2_isFree 11 = .ok (.istore_n 3, 1) := by decide +kernel
theorem dX2_isFree_12 : decode cX2_isFree 12 = .ok (.iconst 0, 1) := by decide +kernel
theorem dX2_isFree_13 : decode cX2_isFree 13 = .ok (.istore 4, 2) := by decide +kernel
theorem dX2_isFree_15 : decode cX2_isFree 15 = .ok (.iload 4, 2) := by decide +kernel
theorem dX2_isFree_17 : decode cX2_isFree 17 = .ok (.aload_n 0, 1) := by decide +kernel
theorem dX2_isFree_18 : decode cX2_isFree 18 = .ok (.getfield 40, 3) := by decide +kernel
theorem dX2_isFree_21 : decode cX2_isFree 21 = .ok (.if_icmp .ge 39, 3) := by decide +kernel
theorem dX2_isFree_24 : decode cX2_isFree 24 = .ok (.iload 4, 2) := by decide +kernel
theorem dX2_isFree_26 : decode cX2_isFree 26 = .ok (.aload_n 0, 1) := by decide +kernel
theorem dX2_isFree_27 : decode cX2_isFree 27 = .ok (.getfield 9, 3) := by decide +kernel
theorem dX2_isFree_30 : decode cX2_isFree 30 = .ok (.arraylength, 1) := by decide +kernel
theorem dX2_isFree_31 : decode cX2_isFree 31 = .ok (.if_icmp .ge 29, 3) := by decide +kernel
theorem dX2_isFree_34 : decode cX2_isFree 34 = .ok (.iload_n 3, 1) := by decide +kernel
theorem dX2_isFree_35 : decode cX2_isFree 35 = .ok (.aload_n 0, 1) := by decide +kernel
theorem dX2_isFree_36 : decode cX2_isFree 36 = .ok (.getfield 9, 3) := by decide +kernel
theorem dX2_isFree_39 : decode cX2_isFree 39 = .ok (.iload 4, 2) := by decide +kernel
theorem dX2_isFree_41 : decode cX2_isFree 41 = .ok (.laload, 1) := by decide +kernel
theorem dX2_isFree_42 : decode cX2_isFree 42 = .ok (.lload_n 1, 1) := by decide +kernel
theorem dX2_isFree_43 : decode cX2_isFree 43 = .ok (.lcmp, 1) := by decide +kernel
theorem dX2_isFree_44 : decode cX2_isFree 44 = .ok (.ifCond .eq 7, 3) := by decide +kernel
theorem dX2_isFree_47 : decode cX2_isFree 47 = .ok (.iconst 1, 1) := by decide +kernel
theorem dX2_isFree_48 : decode cX2_isFree 48 = .ok (.goto 4, 3) := by decide +kernel
theorem dX2_isFree_51 : decode cX2_isFree 51 = .ok (.iconst 0, 1) := by decide +kernel
theorem dX2_isFree_52 : decode cX2_isFree 52 = .ok (.iand, 1) := by decide +kernel
theorem dX2_isFree_53 : decode cX2_isFree 53 = .ok (.istore_n 3, 1) := by decide +kernel
theorem dX2_isFree_54 : decode cX2_isFree 54 = .ok (.iinc 4 1, 3) := by decide +kernel
theorem dX2_isFree_57 : decode cX2_isFree 57 = .ok (.goto (-42), 3) := by decide +kernel
theorem dX2_isFree_60 : decode cX2_isFree 60 = .ok (.iconst 0, 1) := by decide +kernel
theorem dX2_isFree_61 : decode cX2_isFree 61 = .ok (.istore 4, 2) := by decide +kernel
theorem dX2_isFree_63 : decode cX2_isFree 63 = .ok (.iload 4, 2) := by decide +kernel
theorem dX2_isFree_65 : decode cX2_isFree 65 = .ok (.aload_n 0, 1) := by decide +kernel
theorem dX2_isFree_66 : decode cX2_isFree 66 = .ok (.getfield 44, 3) := by decide +kernel
theorem dX2_isFree_69 : decode cX2_isFree 69 = .ok (.if_icmp .ge 39, 3) := by decide +kernel
theorem dX2_isFree_72 : decode cX2_isFree 72 = .ok (.iload 4, 2) := by decide +kernel
theorem dX2_isFree_74 : decode cX2_isFree 74 = .ok (.aload_n 0, 1) := by decide +kernel
theorem dX2_isFree_75 : decode cX2_isFree 75 = .ok (.getfield 22, 3) := by decide +kernel
theorem dX2_isFree_78 : decode cX2_isFree 78 = .ok (.arraylength, 1) := by decide +kernel
theorem dX2_isFree_79 : decode cX2_isFree 79 = .ok (.if_icmp .ge 29, 3) := by decide +kernel
theorem dX2_isFree_82 : decode cX2_isFree 82 = .ok (.iload_n 3, 1) := by decide +kernel
theorem dX2_isFree_83 : decode cX2_isFree 83 = .ok (.aload_n 0, 1) := by decide +kernel
theorem dX2_isFree_84 : decode cX2_isFree 84 = .ok (.getfield 22, 3) := by decide +kernel
theorem dX2_isFree_87 : decode cX2_isFree 87 = .ok (.iload 4, 2) := by decide +kernel
theorem dX2_isFree_89 : decode cX2_isFree 89 = .ok (.laload, 1) := by decide +kernel
theorem dX2_isFree_90 : decode cX2_isFree 90 = .ok (.lload_n 1, 1) := by decide +kernel
theorem dX2_isFree_91 : decode cX2_isFree 91 = .ok (.lcmp, 1) := by decide +kernel
theorem dX2_isFree_92 : decode cX2_isFree 92 = .ok (.ifCond .eq 7, 3) := by decide +kernel
theorem dX2_isFree_95 : decode cX2_isFree 95 = .ok (.iconst 1, 1) := by decide +kernel
theorem dX2_isFree_96 : decode cX2_isFree 96 = .ok (.goto 4, 3) := by decide +kernel
theorem dX2_isFree_99 : decode cX2_isFree 99 = .ok (.iconst 0, 1) := by decide +kernel
theorem dX2_isFree_100 : decode cX2_isFree 100 = .ok (.iand, 1) := by decide +kernel
theorem dX2_isFree_101 : decode cX2_isFree 101 = .ok (.istore_n 3, 1) := by decide +kernel
theorem dX2_isFree_102 : decode cX2_isFree 102 = .ok (.iinc 4 1, 3) := by decide +kernel
theorem dX2_isFree_105 : decode cX2_isFree 105 = .ok (.goto (-42), 3) := by decide +kernel
theorem dX2_isFree_108 : decode cX2_isFree 108 = .ok (.iload_n 3, 1) := by decide +kernel
theorem dX2_isFree_109 : decode cX2_isFree 109 = .ok (.ireturn, 1) := by decide +kernel
theorem dX2_addThing_0 : decode cX2_addThing 0 = .ok (.aload_n 0, 1) := by decide +kernel
theorem dX2_addThing_1 : decode cX2_addThing 1 = .ok (.getfield 40, 3) := by decide +kernel
theorem dX2_addThing_4 : decode cX2_addThing 4 = .ok (.aload_n 0, 1) := by decide +kernel
theorem dX2_addThing_5 : decode cX2_addThing 5 = .ok (.getfield 9, 3) := by decide +kernel
theorem dX2_addThing_8 : decode cX2_addThing 8 = .ok (.arraylength, 1) := by decide +kernel
theorem dX2_addThing_9 : decode cX2_addThing 9 = .ok (.if_icmp .ge 48, 3) := by decide +kernel
theorem dX2_addThing_12 : decode cX2_addThing 12 = .ok (.aload_n 0, 1) := by decide +kernel
theorem dX2_addThing_13 : decode cX2_addThing 13 = .ok (.getfield 9, 3) := by decide +kernel
theorem dX2_addThing_16 : decode cX2_addThing 16 = .ok (.aload_n 0, 1) := by decide +kernel
theorem dX2_addThing_17 : decode cX2_addThing 17 = .ok (.getfield 40, 3) := by decide +kernel
theorem dX2_addThing_20 : decode cX2_addThing 20 = .ok (.lload_n 1, 1) := by decide +kernel
theorem dX2_addThing_21 : decode cX2_addThing 21 = .ok (.lastore, 1) := by decide +kernel
theorem dX2_addThing_22 : decode cX2_addThing 22 = .ok (.aload_n 0, 1) := by decide +kernel
theorem dX2_addThing_23 : decode cX2_addThing 23 = .ok (.getfield 15, 3) := by decide +kernel
theorem dX2_addThing_26 : decode cX2_addThing 26 = .ok (.aload_n 0, 1) := by decide +kernel
theorem dX2_addThing_27 : decode cX2_addThing 27 = .ok (.getfield 40, 3) := by decide +kernel
theorem dX2_addThing_30 : decode cX2_addThing 30 = .ok (.iload_n 3, 1) := by decide +kernel
theorem dX2_addThing_31 : decode cX2_addThing 31 = .ok (.invokestatic 50, 3) := by decide +kernel
theorem dX2_addThing_34 : decode cX2_addThing 34 = .ok (.aload_n 0, 1) := by decide +kernel
theorem dX2_addThing_35 : decode cX2_addThing 35 = .ok (.getfield 19, 3) := by decide +kernel
theorem dX2_addThing_38 : decode cX2_addThing 38 = .ok (.aload_n 0, 1) := by decide +kernel
theorem dX2_addThing_39 : decode cX2_addThing 39 = .ok (.getfield 40, 3) := by decide +kernel
theorem dX2_addThing_42 : decode cX2_addThing 42 = .ok (.iload 4, 2) := by decide +kernel
theorem dX2_addThing_44 : decode cX2_addThing 44 = .ok (.invokestatic 50, 3) := by decide +kernel
theorem dX2_addThing_47 : decode cX2_addThing 47 = .ok (.aload_n 0, 1) := by decide +kernel
theorem dX2_addThing_48 : decode cX2_addThing 48 = .ok (.dup, 1) := by decide +kernel
theorem dX2_addThing_49 : decode cX2_addThing 49 = .ok (.getfield 40, 3) := by decide +kernel
theorem dX2_addThing_52 : decode cX2_addThing 52 = .ok (.iconst 1, 1) := by decide +kernel
theorem dX2_addThing_53 : decode cX2_addThing 53 = .ok (.iadd, 1) := by decide +kernel
theorem dX2_addThing_54 : decode cX2_addThing 54 = .ok (.putfield 40, 3) := by decide +kernel
theorem dX2_addThing_57 : decode cX2_addThing 57 = .ok (.return_, 1) := by decide +kernel
theorem dX2_addMember_0 : decode cX2_addMember 0 = .ok (.aload_n 0, 1) := by decide +kernel
theorem dX2_addMember_1 : decode cX2_addMember 1 = .ok (.getfield 44, 3) := by decide +kernel
theorem dX2_addMember_4 : decode cX2_addMember 4 = .ok (.aload_n 0, 1) := by decide +kernel
theorem dX2_addMember_5 : decode cX2_addMember 5 = .ok (.getfield 22, 3) := by decide +kernel
theorem dX2_addMember_8 : decode cX2_addMember 8 = .ok (.arraylength, 1) := by decide +kernel
theorem dX2_addMember_9 : decode cX2_addMember 9 = .ok (.if_icmp .ge 23, 3) := by decide +kernel
theorem dX2_addMember_12 : decode cX2_addMember 12 = .ok (.aload_n 0, 1) := by decide +kernel
theorem dX2_addMember_13 : decode cX2_addMember 13 = .ok (.getfield 22, 3) := by decide +kernel
theorem dX2_addMember_16 : decode cX2_addMember 16 = .ok (.aload_n 0, 1) := by decide +kernel
theorem dX2_addMember_17 : decode cX2_addMember 17 = .ok (.getfield 44, 3) := by decide +kernel
theorem dX2_addMember_20 : decode cX2_addMember 20 = .ok (.lload_n 1, 1) := by decide +kernel
theorem dX2_addMember_21 : decode cX2_addMember 21 = .ok (.lastore, 1) := by decide +kernel
theorem dX2_addMember_22 : decode cX2_addMember 22 = .ok (.aload_n 0, 1) := by decide +kernel
theorem dX2_addMember_23 : decode cX2_addMember 23 = .ok (.dup, 1) := by decide +kernel
theorem dX2_addMember_24 : decode cX2_addMember 24 = .ok (.getfield 44, 3) := by decide +kernel
theorem dX2_addMember_27 : decode cX2_addMember 27 = .ok (.iconst 1, 1) := by decide +kernel
theorem dX2_addMember_28 : decode cX2_addMember 28 = .ok (.iadd, 1) := by decide +kernel
theorem dX2_addMember_29 : decode cX2_addMember 29 = .ok (.putfield 44, 3) := by decide +kernel
theorem dX2_addMember_32 : decode cX2_addMember 32 = .ok (.return_, 1) := by decide +kernel
theorem dX2_addRule_0 : decode cX2_addRule 0 = .ok (.aload_n 0, 1) := by decide +kernel
theorem dX2_addRule_1 : decode cX2_addRule 1 = .ok (.getfield 25, 3) := by decide +kernel
theorem dX2_addRule_4 : decode cX2_addRule 4 = .ok (.aload_n 0, 1) := by decide +kernel
theorem dX2_addRule_5 : decode cX2_addRule 5 = .ok (.getfield 54, 3) := by decide +kernel
theorem dX2_addRule_8 : decode cX2_addRule 8 = .ok (.iload_n 1, 1) := by decide +kernel
theorem dX2_addRule_9 : decode cX2_addRule 9 = .ok (.invokestatic 50, 3) := by decide +kernel
theorem dX2_addRule_12 : decode cX2_addRule 12 = .ok (.aload_n 0, 1) := by decide +kernel
theorem dX2_addRule_13 : decode cX2_addRule 13 = .ok (.getfield 28, 3) := by decide +kernel
theorem dX2_addRule_16 : decode cX2_addRule 16 = .ok (.aload_n 0, 1) := by decide +kernel
theorem dX2_addRule_17 : decode cX2_addRule 17 = .ok (.getfield 54, 3) := by decide +kernel
theorem dX2_addRule_20 : decode cX2_addRule 20 = .ok (.iload_n 2, 1) := by decide +kernel
theorem dX2_addRule_21 : decode cX2_addRule 21 = .ok (.invokestatic 50, 3) := by decide +kernel
theorem dX2_addRule_24 : decode cX2_addRule 24 = .ok (.aload_n 0, 1) := by decide +kernel
theorem dX2_addRule_25 : decode cX2_addRule 25 = .ok (.getfield 31, 3) := by decide +kernel
theorem dX2_addRule_28 : decode cX2_addRule 28 = .ok (.aload_n 0, 1) := by decide +kernel
theorem dX2_addRule_29 : decode cX2_addRule 29 = .ok (.getfield 54, 3) := by decide +kernel
theorem dX2_addRule_32 : decode cX2_addRule 32 = .ok (.iload_n 3, 1) := by decide +kernel
theorem dX2_addRule_33 : decode cX2_addRule 33 = .ok (.invokestatic 50, 3) := by decide +kernel
theorem dX2_addRule_36 : decode cX2_addRule 36 = .ok (.aload_n 0, 1) := by decide +kernel
theorem dX2_addRule_37 : decode cX2_addRule 37 = .ok (.dup, 1) := by decide +kernel
theorem dX2_addRule_38 : decode cX2_addRule 38 = .ok (.getfield 54, 3) := by decide +kernel
theorem dX2_addRule_41 : decode cX2_addRule 41 = .ok (.iconst 1, 1) := by decide +kernel
theorem dX2_addRule_42 : decode cX2_addRule 42 = .ok (.iadd, 1) := by decide +kernel
theorem dX2_addRule_43 : decode cX2_addRule 43 = .ok (.putfield 54, 3) := by decide +kernel
theorem dX2_addRule_46 : decode cX2_addRule 46 = .ok (.return_, 1) := by decide +kernel
theorem dX2_addBet_0 : decode cX2_addBet 0 = .ok (.aload_n 0, 1) := by decide +kernel
theorem dX2_addBet_1 : decode cX2_addBet 1 = .ok (.getfield 47, 3) := by decide +kernel
theorem dX2_addBet_4 : decode cX2_addBet 4 = .ok (.aload_n 0, 1) := by decide +kernel
theorem dX2_addBet_5 : decode cX2_addBet 5 = .ok (.getfield 36, 3) := by decide +kernel
theorem dX2_addBet_8 : decode cX2_addBet 8 = .ok (.arraylength, 1) := by decide +kernel
theorem dX2_addBet_9 : decode cX2_addBet 9 = .ok (.if_icmp .ge 23, 3) := by decide +kernel
theorem dX2_addBet_12 : decode cX2_addBet 12 = .ok (.aload_n 0, 1) := by decide +kernel
theorem dX2_addBet_13 : decode cX2_addBet 13 = .ok (.getfield 36, 3) := by decide +kernel
theorem dX2_addBet_16 : decode cX2_addBet 16 = .ok (.aload_n 0, 1) := by decide +kernel
theorem dX2_addBet_17 : decode cX2_addBet 17 = .ok (.getfield 47, 3) := by decide +kernel
theorem dX2_addBet_20 : decode cX2_addBet 20 = .ok (.aload_n 1, 1) := by decide +kernel
theorem dX2_addBet_21 : decode cX2_addBet 21 = .ok (.aastore, 1) := by decide +kernel
theorem dX2_addBet_22 : decode cX2_addBet 22 = .ok (.aload_n 0, 1) := by decide +kernel
theorem dX2_addBet_23 : decode cX2_addBet 23 = .ok (.dup, 1) := by decide +kernel
theorem dX2_addBet_24 : decode cX2_addBet 24 = .ok (.getfield 47, 3) := by decide +kernel
theorem dX2_addBet_27 : decode cX2_addBet 27 = .ok (.iconst 1, 1) := by decide +kernel
theorem dX2_addBet_28 : decode cX2_addBet 28 = .ok (.iadd, 1) := by decide +kernel
theorem dX2_addBet_29 : decode cX2_addBet 29 = .ok (.putfield 47, 3) := by decide +kernel
theorem dX2_addBet_32 : decode cX2_addBet 32 = .ok (.return_, 1) := by decide +kernel
theorem dX2_cellOf_0 : decode cX2_cellOf 0 = .ok (.aload_n 0, 1) := by decide +kernel
theorem dX2_cellOf_1 : decode cX2_cellOf 1 = .ok (.aload_n 1, 1) := by decide +kernel
theorem dX2_cellOf_2 : decode cX2_cellOf 2 = .ok (.invokevirtual 57, 3) := by decide +kernel
theorem dX2_cellOf_5 : decode cX2_cellOf 5 = .ok (.ifCond .ne 5, 3) := by decide +kernel
theorem dX2_cellOf_8 : decode cX2_cellOf 8 = .ok (.lconst 0, 1) := by decide +kernel
theorem dX2_cellOf_9 : decode cX2_cellOf 9 = .ok (.lreturn, 1) := by decide +kernel
theorem dX2_cellOf_10 : decode cX2_cellOf 10 = .ok (.aload_n 0, 1) := by decide +kernel
theorem dX2_cellOf_11 : decode cX2_cellOf 11 = .ok (.aload_n 1, 1) := by decide +kernel
theorem dX2_cellOf_12 : decode cX2_cellOf 12 = .ok (.invokevirtual 61, 3) := by decide +kernel
theorem dX2_cellOf_15 : decode cX2_cellOf 15 = .ok (.ifCond .eq 9, 3) := by decide +kernel
theorem dX2_cellOf_18 : decode cX2_cellOf 18 = .ok (.ldc2_w 64, 3) := by decide +kernel
theorem dX2_cellOf_21 : decode cX2_cellOf 21 = .ok (.goto 6, 3) := by decide +kernel
theorem dX2_cellOf_24 : decode cX2_cellOf 24 = .ok (.ldc2_w 66, 3) := by decide +kernel
theorem dX2_cellOf_27 : decode cX2_cellOf 27 = .ok (.lstore_n 2, 1) := by decide +kernel
theorem dX2_cellOf_28 : decode cX2_cellOf 28 = .ok (.iconst 0, 1) := by decide +kernel
theorem dX2_cellOf_29 : decode cX2_cellOf 29 = .ok (.istore 4, 2) := by decide +kernel
theorem dX2_cellOf_31 : decode cX2_cellOf 31 = .ok (.iload 4, 2) := by decide +kernel
theorem dX2_cellOf_33 : decode cX2_cellOf 33 = .ok (.aload_n 0, 1) := by decide +kernel
theorem dX2_cellOf_34 : decode cX2_cellOf 34 = .ok (.getfield 47, 3) := by decide +kernel
theorem dX2_cellOf_37 : decode cX2_cellOf 37 = .ok (.if_icmp .ge 49, 3) := by decide +kernel
theorem dX2_cellOf_40 : decode cX2_cellOf 40 = .ok (.iload 4, 2) := by decide +kernel
theorem dX2_cellOf_42 : decode cX2_cellOf 42 = .ok (.aload_n 0, 1) := by decide +kernel
theorem dX2_cellOf_43 : decode cX2_cellOf 43 = .ok (.getfield 36, 3) := by decide +kernel
theorem dX2_cellOf_46 : decode cX2_cellOf 46 = .ok (.arraylength, 1) := by decide +kernel
theorem dX2_cellOf_47 : decode cX2_cellOf 47 = .ok (.if_icmp .ge 39, 3) := by decide +kernel
theorem dX2_cellOf_50 : decode cX2_cellOf 50 = .ok (.aload_n 0, 1) := by decide +kernel
theorem dX2_cellOf_51 : decode cX2_cellOf 51 = .ok (.getfield 36, 3) := by decide +kernel
theorem dX2_cellOf_54 : decode cX2_cellOf 54 = .ok (.iload 4, 2) := by decide +kernel
theorem dX2_cellOf_56 : decode cX2_cellOf 56 = .ok (.aaload, 1) := by decide +kernel
theorem dX2_cellOf_57 : decode cX2_cellOf 57 = .ok (.astore 5, 2) := by decide +kernel
theorem dX2_cellOf_59 : decode cX2_cellOf 59 = .ok (.aload 5, 2) := by decide +kernel
theorem dX2_cellOf_61 : decode cX2_cellOf 61 = .ok (.ifnull 19, 3) := by decide +kernel
theorem dX2_cellOf_64 : decode cX2_cellOf 64 = .ok (.lload_n 2, 1) := by decide +kernel
theorem dX2_cellOf_65 : decode cX2_cellOf 65 = .ok (.lconst 1, 1) := by decide +kernel
theorem dX2_cellOf_66 : decode cX2_cellOf 66 = .ok (.iconst 5, 1) := by decide +kernel
theorem dX2_cellOf_67 : decode cX2_cellOf 67 = .ok (.iload 4, 2) := by decide +kernel
theorem dX2_cellOf_69 : decode cX2_cellOf 69 = .ok (.imul, 1) := by decide +kernel
theorem dX2_cellOf_70 : decode cX2_cellOf 70 = .ok (.aload 5, 2) := by decide +kernel
theorem dX2_cellOf_72 : decode cX2_cellOf 72 = .ok (.aload_n 1, 1) := by decide +kernel
theorem dX2_cellOf_73 : decode cX2_cellOf 73 = .ok (.invokevirtual 68, 3) := by decide +kernel
theorem dX2_cellOf_76 : decode cX2_cellOf 76 = .ok (.iadd, 1) := by decide +kernel
theorem dX2_cellOf_77 : decode cX2_cellOf 77 = .ok (.lshl, 1) := by decide +kernel
theorem dX2_cellOf_78 : decode cX2_cellOf 78 = .ok (.lor, 1) := by decide +kernel
theorem dX2_cellOf_79 : decode cX2_cellOf 79 = .ok (.lstore_n 2, 1) := by decide +kernel
theorem dX2_cellOf_80 : decode cX2_cellOf 80 = .ok (.iinc 4 1, 3) := by decide +kernel
theorem dX2_cellOf_83 : decode cX2_cellOf 83 = .ok (.goto (-52), 3) := by decide +kernel
theorem dX2_cellOf_86 : decode cX2_cellOf 86 = .ok (.lload_n 2, 1) := by decide +kernel
theorem dX2_cellOf_87 : decode cX2_cellOf 87 = .ok (.lreturn, 1) := by decide +kernel
theorem dX2_isInTime_0 : decode cX2_isInTime 0 = .ok (.iconst 0, 1) := by decide +kernel
theorem dX2_isInTime_1 : decode cX2_isInTime 1 = .ok (.istore_n 2, 1) := by decide +kernel
theorem dX2_isInTime_2 : decode cX2_isInTime 2 = .ok (.iload_n 2, 1) := by decide +kernel
theorem dX2_isInTime_3 : decode cX2_isInTime 3 = .ok (.aload_n 0, 1) := by decide +kernel
theorem dX2_isInTime_4 : decode cX2_isInTime 4 = .ok (.getfield 40, 3) := by decide +kernel
theorem dX2_isInTime_7 : decode cX2_isInTime 7 = .ok (.if_icmp .ge 47, 3) := by decide +kernel
theorem dX2_isInTime_10 : decode cX2_isInTime 10 = .ok (.aload_n 1, 1) := by decide +kernel
theorem dX2_isInTime_11 : decode cX2_isInTime 11 = .ok (.iload_n 2, 1) := by decide +kernel
theorem dX2_isInTime_12 : decode cX2_isInTime 12 = .ok (.invokestatic 72, 3) := by decide +kernel
theorem dX2_isInTime_15 : decode cX2_isInTime 15 = .ok (.iconst 1, 1) := by decide +kernel
theorem dX2_isInTime_16 : decode cX2_isInTime 16 = .ok (.isub, 1) := by decide +kernel
theorem dX2_isInTime_17 : decode cX2_isInTime 17 = .ok (.istore_n 3, 1) := by decide +kernel
theorem dX2_isInTime_18 : decode cX2_isInTime 18 = .ok (.iload_n 3, 1) := by decide +kernel
theorem dX2_isInTime_19 : decode cX2_isInTime 19 = .ok (.ifCond .lt 29, 3) := by decide +kernel
theorem dX2_isInTime_22 : decode cX2_isInTime 22 = .ok (.iload_n 3, 1) := by decide +kernel
theorem dX2_isInTime_23 : decode cX2_isInTime 23 = .ok (.aload_n 0, 1) := by decide +kernel
theorem dX2_isInTime_24 : decode cX2_isInTime 24 = .ok (.getfield 15, 3) := by decide +kernel
theorem dX2_isInTime_27 : decode cX2_isInTime 27 = .ok (.iload_n 2, 1) := by decide +kernel
theorem dX2_isInTime_28 : decode cX2_isInTime 28 = .ok (.invokestatic 72, 3) := by decide +kernel
theorem dX2_isInTime_31 : decode cX2_isInTime 31 = .ok (.if_icmp .lt 15, 3) := by decide +kernel
theorem dX2_isInTime_34 : decode cX2_isInTime 34 = .ok (.iload_n 3, 1) := by decide +kernel
theorem dX2_isInTime_35 : decode cX2_isInTime 35 = .ok (.aload_n 0, 1) := by decide +kernel
theorem dX2_isInTime_36 : decode cX2_isInTime 36 = .ok (.getfield 19, 3) := by decide +kernel
theorem dX2_isInTime_39 : decode cX2_isInTime 39 = .ok (.iload_n 2, 1) := by decide +kernel
theorem dX2_isInTime_40 : decode cX2_isInTime 40 = .ok (.invokestatic 72, 3) := by decide +kernel
theorem dX2_isInTime_43 : decode cX2_isInTime 43 = .ok (.if_icmp .le 5, 3) := by decide +kernel
theorem dX2_isInTime_46 : decode cX2_isInTime 46 = .ok (.iconst 0, 1) := by decide +kernel
theorem dX2_isInTime_47 : decode cX2_isInTime 47 = .ok (.ireturn, 1) := by decide +kernel
theorem dX2_isInTime_48 : decode cX2_isInTime 48 = .ok (.iinc 2 1, 3) := by decide +kernel
theorem dX2_isInTime_51 : decode cX2_isInTime 51 = .ok (.goto (-49), 3) := by decide +kernel
theorem dX2_isInTime_54 : decode cX2_isInTime 54 = .ok (.iconst 1, 1) := by decide +kernel
theorem dX2_isInTime_55 : decode cX2_isInTime 55 = .ok (.ireturn, 1) := by decide +kernel
theorem dX2_isPossible_0 : decode cX2_isPossible 0 = .ok (.iconst 0, 1) := by decide +kernel
theorem dX2_isPossible_1 : decode cX2_isPossible 1 = .ok (.istore_n 2, 1) := by decide +kernel
theorem dX2_isPossible_2 : decode cX2_isPossible 2 = .ok (.iload_n 2, 1) := by decide +kernel
theorem dX2_isPossible_3 : decode cX2_isPossible 3 = .ok (.aload_n 0, 1) := by decide +kernel
theorem dX2_isPossible_4 : decode cX2_isPossible 4 = .ok (.getfield 54, 3) := by decide +kernel
theorem dX2_isPossible_7 : decode cX2_isPossible 7 = .ok (.if_icmp .ge 59, 3) := by decide +kernel
theorem dX2_isPossible_10 : decode cX2_isPossible 10 = .ok (.aload_n 1, 1) := by decide +kernel
theorem dX2_isPossible_11 : decode cX2_isPossible 11 = .ok (.aload_n 0, 1) := by decide +kernel
theorem dX2_isPossible_12 : decode cX2_isPossible 12 = .ok (.getfield 25, 3) := by decide +kernel
theorem dX2_isPossible_15 : decode cX2_isPossible 15 = .ok (.iload_n 2, 1) := by decide +kernel
theorem dX2_isPossible_16 : decode cX2_isPossible 16 = .ok (.invokestatic 72, 3) := by decide +kernel
theorem dX2_isPossible_19 : decode cX2_isPossible 19 = .ok (.invokestatic 72, 3) := by decide +kernel
theorem dX2_isPossible_22 : decode cX2_isPossible 22 = .ok (.istore_n 3, 1) := by decide +kernel
theorem dX2_isPossible_23 : decode cX2_isPossible 23 = .ok (.aload_n 1, 1) := by decide +kernel
theorem dX2_isPossible_24 : decode cX2_isPossible 24 = .ok (.aload_n 0, 1) := by decide +kernel
theorem dX2_isPossible_25 : decode cX2_isPossible 25 = .ok (.getfield 28, 3) := by decide +kernel
theorem dX2_isPossible_28 : decode cX2_isPossible 28 = .ok (.iload_n 2, 1) := by decide +kernel
theorem dX2_isPossible_29 : decode cX2_isPossible 29 = .ok (.invokestatic 72, 3) := by decide +kernel
theorem dX2_isPossible_32 : decode cX2_isPossible 32 = .ok (.invokestatic 72, 3) := by decide +kernel
theorem dX2_isPossible_35 : decode cX2_isPossible 35 = .ok (.istore 4, 2) := by decide +kernel
theorem dX2_isPossible_37 : decode cX2_isPossible 37 = .ok (.iload_n 3, 1) := by decide +kernel
theorem dX2_isPossible_38 : decode cX2_isPossible 38 = .ok (.ifCond .eq 22, 3) := by decide +kernel
theorem dX2_isPossible_41 : decode cX2_isPossible 41 = .ok (.iload_n 3, 1) := by decide +kernel
theorem dX2_isPossible_42 : decode cX2_isPossible 42 = .ok (.iload 4, 2) := by decide +kernel
theorem dX2_isPossible_44 : decode cX2_isPossible 44 = .ok (.aload_n 0, 1) := by decide +kernel
theorem dX2_isPossible_45 : decode cX2_isPossible 45 = .ok (.getfield 31, 3) := by decide +kernel
theorem dX2_isPossible_48 : decode cX2_isPossible 48 = .ok (.iload_n 2, 1) := by decide +kernel
theorem dX2_isPossible_49 : decode cX2_isPossible 49 = .ok (.invokestatic 72, 3) := by decide +kernel
theorem dX2_isPossible_52 : decode cX2_isPossible 52 = .ok (.invokestatic 76, 3) := by decide +kernel
theorem dX2_isPossible_55 : decode cX2_isPossible 55 = .ok (.ifCond .ne 5, 3) := by decide +kernel
theorem dX2_isPossible_58 : decode cX2_isPossible 58 = .ok (.iconst 0, 1) := by decide +kernel
theorem dX2_isPossible_59 : decode cX2_isPossible 59 = .ok (.ireturn, 1) := by decide +kernel
theorem dX2_isPossible_60 : decode cX2_isPossible 60 = .ok (.iinc 2 1, 3) := by decide +kernel
theorem dX2_isPossible_63 : decode cX2_isPossible 63 = .ok (.goto (-61), 3) := by decide +kernel
theorem dX2_isPossible_66 : decode cX2_isPossible 66 = .ok (.iconst 1, 1) := by decide +kernel
theorem dX2_isPossible_67 : decode cX2_isPossible 67 = .ok (.ireturn, 1) := by decide +kernel
theorem dX2_isKept_0 : decode cX2_isKept 0 = .ok (.iload_n 2, 1) := by decide +kernel
theorem dX2_isKept_1 : decode cX2_isKept 1 = .ok (.iconst (-1), 1) := by decide +kernel
theorem dX2_isKept_2 : decode cX2_isKept 2 = .ok (.if_icmp .ne 14, 3) := by decide +kernel
theorem dX2_isKept_5 : decode cX2_isKept 5 = .ok (.iload_n 1, 1) := by decide +kernel
theorem dX2_isKept_6 : decode cX2_isKept 6 = .ok (.iload_n 0, 1) := by decide +kernel
theorem dX2_isKept_7 : decode cX2_isKept 7 = .ok (.if_icmp .gt 7, 3) := by decide +kernel
theorem dX2_isKept_10 : decode cX2_isKept 10 = .ok (.iconst 1, 1) := by decide +kernel
theorem dX2_isKept_11 : decode cX2_isKept 11 = .ok (.goto 4, 3) := by decide +kernel
theorem dX2_isKept_14 : decode cX2_isKept 14 = .ok (.iconst 0, 1) := by decide +kernel
theorem dX2_isKept_15 : decode cX2_isKept 15 = .ok (.ireturn, 1) := by decide +kernel
theorem dX2_isKept_16 : decode cX2_isKept 16 = .ok (.iload_n 0, 1) := by decide +kernel
theorem dX2_isKept_17 : decode cX2_isKept 17 = .ok (.iload_n 2, 1) := by decide +kernel
theorem dX2_isKept_18 : decode cX2_isKept 18 = .ok (.iadd, 1) := by decide +kernel
theorem dX2_isKept_19 : decode cX2_isKept 19 = .ok (.istore_n 3, 1) := by decide +kernel
theorem dX2_isKept_20 : decode cX2_isKept 20 = .ok (.iload_n 3, 1) := by decide +kernel
theorem dX2_isKept_21 : decode cX2_isKept 21 = .ok (.bipush 8, 2) := by decide +kernel
theorem dX2_isKept_23 : decode cX2_isKept 23 = .ok (.if_icmp .gt 12, 3) := by decide +kernel
theorem dX2_isKept_26 : decode cX2_isKept 26 = .ok (.iload_n 1, 1) := by decide +kernel
theorem dX2_isKept_27 : decode cX2_isKept 27 = .ok (.ifCond .eq 12, 3) := by decide +kernel
theorem dX2_isKept_30 : decode cX2_isKept 30 = .ok (.iload_n 1, 1) := by decide +kernel
theorem dX2_isKept_31 : decode cX2_isKept 31 = .ok (.iload_n 3, 1) := by decide +kernel
theorem dX2_isKept_32 : decode cX2_isKept 32 = .ok (.if_icmp .gt 7, 3) := by decide +kernel
theorem dX2_isKept_35 : decode cX2_isKept 35 = .ok (.iconst 1, 1) := by decide +kernel
theorem dX2_isKept_36 : decode cX2_isKept 36 = .ok (.goto 4, 3) := by decide +kernel
theorem dX2_isKept_39 : decode cX2_isKept 39 = .ok (.iconst 0, 1) := by decide +kernel
theorem dX2_isKept_40 : decode cX2_isKept 40 = .ok (.ireturn, 1) := by decide +kernel
theorem dX3_init_0 : decode cX3_init 0 = .ok (.aload_n 0, 1) := by decide +kernel
theorem dX3_init_1 : decode cX3_init 1 = .ok (.invokespecial 3, 3) := by decide +kernel
theorem dX3_init_4 : decode cX3_init 4 = .ok (.aload_n 0, 1) := by decide +kernel
theorem dX3_init_5 : decode cX3_init 5 = .ok (.bipush 60, 2) := by decide +kernel
theorem dX3_init_7 : decode cX3_init 7 = .ok (.newarray .int, 2) := by decide +kernel
theorem dX3_init_9 : decode cX3_init 9 = .ok (.putfield 9, 3) := by decide +kernel
theorem dX3_init_12 : decode cX3_init 12 = .ok (.return_, 1) := by decide +kernel
theorem dX3_clear_0 : decode cX3_clear 0 = .ok (.aload_n 0, 1) := by decide +kernel
theorem dX3_clear_1 : decode cX3_clear 1 = .ok (.getfield 9, 3) := by decide +kernel
theorem dX3_clear_4 : decode cX3_clear 4 = .ok (.iconst 0, 1) := by decide +kernel
theorem dX3_clear_5 : decode cX3_clear 5 = .ok (.invokestatic 15, 3) := by decide +kernel
theorem dX3_clear_8 : decode cX3_clear 8 = .ok (.return_, 1) := by decide +kernel
theorem dX3_ofMember_0 : decode cX3_ofMember 0 = .ok (.aload_n 0, 1) := by decide +kernel
theorem dX3_ofMember_1 : decode cX3_ofMember 1 = .ok (.invokevirtual 21, 3) := by decide +kernel
theorem dX3_ofMember_4 : decode cX3_ofMember 4 = .ok (.iconst 0, 1) := by decide +kernel
theorem dX3_ofMember_5 : decode cX3_ofMember 5 = .ok (.istore 4, 2) := by decide +kernel
theorem dX3_ofMember_7 : decode cX3_ofMember 7 = .ok (.iload 4, 2) := by decide +kernel
theorem dX3_ofMember_9 : decode cX3_ofMember 9 = .ok (.aload_n 1, 1) := by decide +kernel
theorem dX3_ofMember_10 : decode cX3_ofMember 10 = .ok (.getfield 24, 3) := by decide +kernel
theorem dX3_ofMember_13 : decode cX3_ofMember 13 = .ok (.if_icmp .ge 50, 3) := by decide +kernel
theorem dX3_ofMember_16 : decode cX3_ofMember 16 = .ok (.iconst 0, 1) := by decide +kernel
theorem dX3_ofMember_17 : decode cX3_ofMember 17 = .ok (.istore 5, 2) := by decide +kernel
theorem dX3_ofMember_19 : decode cX3_ofMember 19 = .ok (.iload 5, 2) := by decide +kernel
theorem dX3_ofMember_21 : decode cX3_ofMember 21 = .ok (.iconst 2, 1) := by decide +kernel
theorem dX3_ofMember_22 : decode cX3_ofMember 22 = .ok (.if_icmp .ge 35, 3) := by decide +kernel
theorem dX3_ofMember_25 : decode cX3_ofMember 25 = .ok (.aload_n 2, 1) := by decide +kernel
theorem dX3_ofMember_26 : decode cX3_ofMember 26 = .ok (.iload 4, 2) := by decide +kernel
theorem dX3_ofMember_28 : decode cX3_ofMember 28 = .ok (.iload 5, 2) := by decide +kernel
theorem dX3_ofMember_30 : decode cX3_ofMember 30 = .ok (.invokevirtual 30, 3) := by decide +kernel
theorem dX3_ofMember_33 : decode cX3_ofMember 33 = .ok (.iload_n 3, 1) := by decide +kernel
theorem dX3_ofMember_34 : decode cX3_ofMember 34 = .ok (.if_icmp .ne 17, 3) := by decide +kernel
theorem dX3_ofMember_37 : decode cX3_ofMember 37 = .ok (.aload_n 0, 1) := by decide +kernel
theorem dX3_ofMember_38 : decode cX3_ofMember 38 = .ok (.aload_n 1, 1) := by decide +kernel
theorem dX3_ofMember_39 : decode cX3_ofMember 39 = .ok (.iload 4, 2) := by decide +kernel
theorem dX3_ofMember_41 : decode cX3_ofMember 41 = .ok (.invokevirtual 36, 3) := by decide +kernel
theorem dX3_ofMember_44 : decode cX3_ofMember 44 = .ok (.iload 4, 2) := by decide +kernel
theorem dX3_ofMember_46 : decode cX3_ofMember 46 = .ok (.iload 5, 2) := by decide +kernel
theorem dX3_ofMember_48 : decode cX3_ofMember 48 = .ok (.invokevirtual 40, 3) := by decide +kernel
theorem dX3_ofMember_51 : decode cX3_ofMember 51 = .ok (.iinc 5 1, 3) := by decide +kernel
theorem dX3_ofMember_54 : decode cX3_ofMember 54 = .ok (.goto (-35), 3) := by decide +kernel
theorem dX3_ofMember_57 : decode cX3_ofMember 57 = .ok (.iinc 4 1, 3) := by decide +kernel
theorem dX3_ofMember_60 : decode cX3_ofMember 60 = .ok (.goto (-53), 3) := by decide +kernel
theorem dX3_ofMember_63 : decode cX3_ofMember 63 = .ok (.return_, 1) := by decide +kernel
theorem dX3_addSide_0 : decode cX3_addSide 0 = .ok (.aload_n 1, 1) := by decide +kernel
theorem dX3_addSide_1 : decode cX3_addSide 1 = .ok (.ifnonnull 4, 3) := by decide +kernel
theorem dX3_addSide_4 : decode cX3_addSide 4 = .ok (.return_, 1) := by decide +kernel
theorem dX3_addSide_5 : decode cX3_addSide 5 = .ok (.iconst 0, 1) := by decide +kernel
theorem dX3_addSide_6 : decode cX3_addSide 6 = .ok (.istore 4, 2) := by decide +kernel
theorem dX3_addSide_8 : decode cX3_addSide 8 = .ok (.iload 4, 2) := by decide +kernel
theorem dX3_addSide_10 : decode cX3_addSide 10 = .ok (.iconst 5, 1) := by decide +kernel
theorem dX3_addSide_11 : decode cX3_addSide 11 = .ok (.if_icmp .ge 56, 3) := by decide +kernel
theorem dX3_addSide_14 : decode cX3_addSide 14 = .ok (.iconst 5, 1) := by decide +kernel
theorem dX3_addSide_15 : decode cX3_addSide 15 = .ok (.iload_n 2, 1) := by decide +kernel
theorem dX3_addSide_16 : decode cX3_addSide 16 = .ok (.imul, 1) := by decide +kernel
theorem dX3_addSide_17 : decode cX3_addSide 17 = .ok (.iload 4, 2) := by decide +kernel
theorem dX3_addSide_19 : decode cX3_addSide 19 = .ok (.iadd, 1) := by decide +kernel
theorem dX3_addSide_20 : decode cX3_addSide 20 = .ok (.istore 5, 2) := by decide +kernel
theorem dX3_addSide_22 : decode cX3_addSide 22 = .ok (.aload_n 1, 1) := by decide +kernel
theorem dX3_addSide_23 : decode cX3_addSide 23 = .ok (.iload 4, 2) := by decide +kernel
theorem dX3_addSide_25 : decode cX3_addSide 25 = .ok (.invokevirtual 44, 3) := by decide +kernel
theorem dX3_addSide_28 : decode cX3_addSide 28 = .ok (.istore 6, 2) := by decide +kernel
theorem dX3_addSide_30 : decode cX3_addSide 30 = .ok (.aload_n 0, 1) := by decide +kernel
theorem dX3_addSide_31 : decode cX3_addSide 31 = .ok (.getfield 9, 3) := by decide +kernel
theorem dX3_addSide_34 : decode cX3_addSide 34 = .ok (.iload 5, 2) := by decide +kernel
theorem dX3_addSide_36 : decode cX3_addSide 36 = .ok (.aload_n 0, 1) := by decide +kernel
theorem dX3_addSide_37 : decode cX3_addSide 37 = .ok (.getfield 9, 3) := by decide +kernel
theorem dX3_addSide_40 : decode cX3_addSide 40 = .ok (.iload 5, 2) := by decide +kernel
theorem dX3_addSide_42 : decode cX3_addSide 42 = .ok (.invokestatic 50, 3) := by decide +kernel
theorem dX3_addSide_45 : decode cX3_addSide 45 = .ok (.iload_n 3, 1) := by decide +kernel
theorem dX3_addSide_46 : decode cX3_addSide 46 = .ok (.ifCond .ne 8, 3) := by decide +kernel
theorem dX3_addSide_49 : decode cX3_addSide 49 = .ok (.iload 6, 2) := by decide +kernel
theorem dX3_addSide_51 : decode cX3_addSide 51 = .ok (.goto 6, 3) := by decide +kernel
theorem dX3_addSide_54 : decode cX3_addSide 54 = .ok (.iload 6, 2) := by decide +kernel
theorem dX3_addSide_56 : decode cX3_addSide 56 = .ok (.ineg, 1) := by decide +kernel
theorem dX3_addSide_57 : decode cX3_addSide 57 = .ok (.iadd, 1) := by decide +kernel
theorem dX3_addSide_58 : decode cX3_addSide 58 = .ok (.invokestatic 54, 3) := by decide +kernel
theorem dX3_addSide_61 : decode cX3_addSide 61 = .ok (.iinc 4 1, 3) := by decide +kernel
theorem dX3_addSide_64 : decode cX3_addSide 64 = .ok (.goto (-56), 3) := by decide +kernel
theorem dX3_addSide_67 : decode cX3_addSide 67 = .ok (.return_, 1) := by decide +kernel
theorem dX3_sum_0 : decode cX3_sum 0 = .ok (.iconst 0, 1) := by decide +kernel
theorem dX3_sum_1 : decode cX3_sum 1 = .ok (.istore_n 3, 1) := by decide +kernel
theorem dX3_sum_2 : decode cX3_sum 2 = .ok (.lload_n 1, 1) := by decide +kernel
theorem dX3_sum_3 : decode cX3_sum 3 = .ok (.ldc2_w 58, 3) := by decide +kernel
theorem dX3_sum_6 : decode cX3_sum 6 = .ok (.land, 1) := by decide +kernel
theorem dX3_sum_7 : decode cX3_sum 7 = .ok (.lstore 4, 2) := by decide +kernel
theorem dX3_sum_9 : decode cX3_sum 9 = .ok (.iconst 0, 1) := by decide +kernel
theorem dX3_sum_10 : decode cX3_sum 10 = .ok (.istore 6, 2) := by decide +kernel
theorem dX3_sum_12 : decode cX3_sum 12 = .ok (.iload 6, 2) := by decide +kernel
theorem dX3_sum_14 : decode cX3_sum 14 = .ok (.bipush 12, 2) := by decide +kernel
theorem dX3_sum_16 : decode cX3_sum 16 = .ok (.if_icmp .ge 40, 3) := by decide +kernel
theorem dX3_sum_19 : decode cX3_sum 19 = .ok (.lload 4, 2) := by decide +kernel
theorem dX3_sum_21 : decode cX3_sum 21 = .ok (.lconst 0, 1) := by decide +kernel
theorem dX3_sum_22 : decode cX3_sum 22 = .ok (.lcmp, 1) := by decide +kernel
theorem dX3_sum_23 : decode cX3_sum 23 = .ok (.ifCond .eq 33, 3) := by decide +kernel
theorem dX3_sum_26 : decode cX3_sum 26 = .ok (.iload_n 3, 1) := by decide +kernel
theorem dX3_sum_27 : decode cX3_sum 27 = .ok (.aload_n 0, 1) := by decide +kernel
theorem dX3_sum_28 : decode cX3_sum 28 = .ok (.getfield 9, 3) := by decide +kernel
theorem dX3_sum_31 : decode cX3_sum 31 = .ok (.lload 4, 2) := by decide +kernel
theorem dX3_sum_33 : decode cX3_sum 33 = .ok (.invokestatic 60, 3) := by decide +kernel
theorem dX3_sum_36 : decode cX3_sum 36 = .ok (.invokestatic 50, 3) := by decide +kernel
theorem dX3_sum_39 : decode cX3_sum 39 = .ok (.iadd, 1) := by decide +kernel
theorem dX3_sum_40 : decode cX3_sum 40 = .ok (.istore_n 3, 1) := by decide +kernel
theorem dX3_sum_41 : decode cX3_sum 41 = .ok (.lload 4, 2) := by decide +kernel
theorem dX3_sum_43 : decode cX3_sum 43 = .ok (.lload 4, 2) := by decide +kernel
theorem dX3_sum_45 : decode cX3_sum 45 = .ok (.lconst 1, 1) := by decide +kernel
theorem dX3_sum_46 : decode cX3_sum 46 = .ok (.lsub, 1) := by decide +kernel
theorem dX3_sum_47 : decode cX3_sum 47 = .ok (.land, 1) := by decide +kernel
theorem dX3_sum_48 : decode cX3_sum 48 = .ok (.lstore 4, 2) := by decide +kernel
theorem dX3_sum_50 : decode cX3_sum 50 = .ok (.iinc 6 1, 3) := by decide +kernel
theorem dX3_sum_53 : decode cX3_sum 53 = .ok (.goto (-41), 3) := by decide +kernel
theorem dX3_sum_56 : decode cX3_sum 56 = .ok (.iload_n 3, 1) := by decide +kernel
theorem dX3_sum_57 : decode cX3_sum 57 = .ok (.ireturn, 1) := by decide +kernel
theorem dX4_init_0 : decode cX4_init 0 = .ok (.aload_n 0, 1) := by decide +kernel
theorem dX4_init_1 : decode cX4_init 1 = .ok (.invokespecial 3, 3) := by decide +kernel
theorem dX4_init_4 : decode cX4_init 4 = .ok (.aload_n 0, 1) := by decide +kernel
theorem dX4_init_5 : decode cX4_init 5 = .ok (.iconst 5, 1) := by decide +kernel
theorem dX4_init_6 : decode cX4_init 6 = .ok (.newarray .int, 2) := by decide +kernel
theorem dX4_init_8 : decode cX4_init 8 = .ok (.putfield 9, 3) := by decide +kernel
theorem dX4_init_11 : decode cX4_init 11 = .ok (.aload_n 0, 1) := by decide +kernel
theorem dX4_init_12 : decode cX4_init 12 = .ok (.bipush 24, 2) := by decide +kernel
theorem dX4_init_14 : decode cX4_init 14 = .ok (.newarray .int, 2) := by decide +kernel
theorem dX4_init_16 : decode cX4_init 16 = .ok (.putfield 15, 3) := by decide +kernel
theorem dX4_init_19 : decode cX4_init 19 = .ok (.aload_n 0, 1) := by decide +kernel
theorem dX4_init_20 : decode cX4_init 20 = .ok (.bipush 6, 2) := by decide +kernel
theorem dX4_init_22 : decode cX4_init 22 = .ok (.newarray .int, 2) := by decide +kernel
theorem dX4_init_24 : decode cX4_init 24 = .ok (.putfield 18, 3) := by decide +kernel
theorem dX4_init_27 : decode cX4_init 27 = .ok (.return_, 1) := by decide +kernel
theorem dX4_open_0 : decode cX4_open 0 = .ok (.aload_n 0, 1) := by decide +kernel
theorem dX4_open_1 : decode cX4_open 1 = .ok (.iconst 0, 1) := by decide +kernel
theorem dX4_open_2 : decode cX4_open 2 = .ok (.putfield 21, 3) := by decide +kernel
theorem dX4_open_5 : decode cX4_open 5 = .ok (.aload_n 0, 1) := by decide +kernel
theorem dX4_open_6 : decode cX4_open 6 = .ok (.iconst 0, 1) := by decide +kernel
theorem dX4_open_7 : decode cX4_open 7 = .ok (.putfield 25, 3) := by decide +kernel
theorem dX4_open_10 : decode cX4_open 10 = .ok (.aload_n 0, 1) := by decide +kernel
theorem dX4_open_11 : decode cX4_open 11 = .ok (.getfield 9, 3) := by decide +kernel
theorem dX4_open_14 : decode cX4_open 14 = .ok (.iconst 0, 1) := by decide +kernel
theorem dX4_open_15 : decode cX4_open 15 = .ok (.invokestatic 28, 3) := by decide +kernel
theorem dX4_open_18 : decode cX4_open 18 = .ok (.aload_n 0, 1) := by decide +kernel
theorem dX4_open_19 : decode cX4_open 19 = .ok (.getfield 18, 3) := by decide +kernel
theorem dX4_open_22 : decode cX4_open 22 = .ok (.iconst 0, 1) := by decide +kernel
theorem dX4_open_23 : decode cX4_open 23 = .ok (.invokestatic 28, 3) := by decide +kernel
theorem dX4_open_26 : decode cX4_open 26 = .ok (.iconst 0, 1) := by decide +kernel
theorem dX4_open_27 : decode cX4_open 27 = .ok (.istore_n 2, 1) := by decide +kernel
theorem dX4_open_28 : decode cX4_open 28 = .ok (.iload_n 2, 1) := by decide +kernel
theorem dX4_open_29 : decode cX4_open 29 = .ok (.aload_n 1, 1) := by decide +kernel
theorem dX4_open_30 : decode cX4_open 30 = .ok (.getfield 34, 3) := by decide +kernel
theorem dX4_open_33 : decode cX4_open 33 = .ok (.if_icmp .ge 49, 3) := by decide +kernel
theorem dX4_open_36 : decode cX4_open 36 = .ok (.aload_n 1, 1) := by decide +kernel
theorem dX4_open_37 : decode cX4_open 37 = .ok (.iload_n 2, 1) := by decide +kernel
theorem dX4_open_38 : decode cX4_open 38 = .ok (.invokevirtual 39, 3) := by decide +kernel
theorem dX4_open_41 : decode cX4_open 41 = .ok (.astore_n 3, 1) := by decide +kernel
theorem dX4_open_42 : decode cX4_open 42 = .ok (.aload_n 3, 1) := by decide +kernel
theorem dX4_open_43 : decode cX4_open 43 = .ok (.ifnull 33, 3) := by decide +kernel
theorem dX4_open_46 : decode cX4_open 46 = .ok (.aload_n 0, 1) := by decide +kernel
theorem dX4_open_47 : decode cX4_open 47 = .ok (.getfield 15, 3) := by decide +kernel
theorem dX4_open_50 : decode cX4_open 50 = .ok (.iconst 2, 1) := by decide +kernel
theorem dX4_open_51 : decode cX4_open 51 = .ok (.iload_n 2, 1) := by decide +kernel
theorem dX4_open_52 : decode cX4_open 52 = .ok (.imul, 1) := by decide +kernel
theorem dX4_open_53 : decode cX4_open 53 = .ok (.aload_n 3, 1) := by decide +kernel
theorem dX4_open_54 : decode cX4_open 54 = .ok (.getfield 43, 3) := by decide +kernel
theorem dX4_open_57 : decode cX4_open 57 = .ok (.invokestatic 48, 3) := by decide +kernel
theorem dX4_open_60 : decode cX4_open 60 = .ok (.aload_n 0, 1) := by decide +kernel
theorem dX4_open_61 : decode cX4_open 61 = .ok (.getfield 15, 3) := by decide +kernel
theorem dX4_open_64 : decode cX4_open 64 = .ok (.iconst 2, 1) := by decide +kernel
theorem dX4_open_65 : decode cX4_open 65 = .ok (.iload_n 2, 1) := by decide +kernel
theorem dX4_open_66 : decode cX4_open 66 = .ok (.imul, 1) := by decide +kernel
theorem dX4_open_67 : decode cX4_open 67 = .ok (.iconst 1, 1) := by decide +kernel
theorem dX4_open_68 : decode cX4_open 68 = .ok (.iadd, 1) := by decide +kernel
theorem dX4_open_69 : decode cX4_open 69 = .ok (.aload_n 3, 1) := by decide +kernel
theorem dX4_open_70 : decode cX4_open 70 = .ok (.getfield 52, 3) := by decide +kernel
theorem dX4_open_73 : decode cX4_open 73 = .ok (.invokestatic 48, 3) := by decide +kernel
theorem dX4_open_76 : decode cX4_open 76 = .ok (.iinc 2 1, 3) := by decide +kernel
theorem dX4_open_79 : decode cX4_open 79 = .ok (.goto (-51), 3) := by decide +kernel
theorem dX4_open_82 : decode cX4_open 82 = .ok (.return_, 1) := by decide +kernel
theorem dX4_become_0 : decode cX4_become 0 = .ok (.aload_n 0, 1) := by decide +kernel
theorem dX4_become_1 : decode cX4_become 1 = .ok (.aload_n 1, 1) := by decide +kernel
theorem dX4_become_2 : decode cX4_become 2 = .ok (.getfield 21, 3) := by decide +kernel
theorem dX4_become_5 : decode cX4_become 5 = .ok (.putfield 21, 3) := by decide +kernel
theorem dX4_become_8 : decode cX4_become 8 = .ok (.aload_n 0, 1) := by decide +kernel
theorem dX4_become_9 : decode cX4_become 9 = .ok (.aload_n 1, 1) := by decide +kernel
theorem dX4_become_10 : decode cX4_become 10 = .ok (.getfield 25, 3) := by decide +kernel
theorem dX4_become_13 : decode cX4_become 13 = .ok (.putfield 25, 3) := by decide +kernel
theorem dX4_become_16 : decode cX4_become 16 = .ok (.aload_n 1, 1) := by decide +kernel
theorem dX4_become_17 : decode cX4_become 17 = .ok (.getfield 9, 3) := by decide +kernel
theorem dX4_become_20 : decode cX4_become 20 = .ok (.aload_n 0, 1) := by decide +kernel
theorem dX4_become_21 : decode cX4_become 21 = .ok (.getfield 9, 3) := by decide +kernel
theorem dX4_become_24 : decode cX4_become 24 = .ok (.invokestatic 55, 3) := by decide +kernel
theorem dX4_become_27 : decode cX4_become 27 = .ok (.aload_n 1, 1) := by decide +kernel
theorem dX4_become_28 : decode cX4_become 28 = .ok (.getfield 15, 3) := by decide +kernel
theorem dX4_become_31 : decode cX4_become 31 = .ok (.aload_n 0, 1) := by decide +kernel
theorem dX4_become_32 : decode cX4_become 32 = .ok (.getfield 15, 3) := by decide +kernel
theorem dX4_become_35 : decode cX4_become 35 = .ok (.invokestatic 55, 3) := by decide +kernel
theorem dX4_become_38 : decode cX4_become 38 = .ok (.aload_n 1, 1) := by decide +kernel
theorem dX4_become_39 : decode cX4_become 39 = .ok (.getfield 18, 3) := by decide +kernel
theorem dX4_become_42 : decode cX4_become 42 = .ok (.aload_n 0, 1) := by decide +kernel
theorem dX4_become_43 : decode cX4_become 43 = .ok (.getfield 18, 3) := by decide +kernel
theorem dX4_become_46 : decode cX4_become 46 = .ok (.invokestatic 55, 3) := by decide +kernel
theorem dX4_become_49 : decode cX4_become 49 = .ok (.return_, 1) := by decide +kernel
theorem dX4_holder_0 : decode cX4_holder 0 = .ok (.aload_n 0, 1) := by decide +kernel
theorem dX4_holder_1 : decode cX4_holder 1 = .ok (.getfield 15, 3) := by decide +kernel
theorem dX4_holder_4 : decode cX4_holder 4 = .ok (.iconst 2, 1) := by decide +kernel
theorem dX4_holder_5 : decode cX4_holder 5 = .ok (.iload_n 1, 1) := by decide +kernel
theorem dX4_holder_6 : decode cX4_holder 6 = .ok (.imul, 1) := by decide +kernel
theorem dX4_holder_7 : decode cX4_holder 7 = .ok (.iload_n 2, 1) := by decide +kernel
theorem dX4_holder_8 : decode cX4_holder 8 = .ok (.iadd, 1) := by decide +kernel
theorem dX4_holder_9 : decode cX4_holder 9 = .ok (.invokestatic 59, 3) := by decide +kernel
theorem dX4_holder_12 : decode cX4_holder 12 = .ok (.ireturn, 1) := by decide +kernel
theorem dX4_sellSide_0 : decode cX4_sellSide 0 = .ok (.aload_n 0, 1) := by decide +kernel
theorem dX4_sellSide_1 : decode cX4_sellSide 1 = .ok (.aload_n 0, 1) := by decide +kernel
theorem dX4_sellSide_2 : decode cX4_sellSide 2 = .ok (.iload_n 1, 1) := by decide +kernel
theorem dX4_sellSide_3 : decode cX4_sellSide 3 = .ok (.iload_n 2, 1) := by decide +kernel
theorem dX4_sellSide_4 : decode cX4_sellSide 4 = .ok (.invokevirtual 63, 3) := by decide +kernel
theorem dX4_sellSide_7 : decode cX4_sellSide 7 = .ok (.iload_n 3, 1) := by decide +kernel
theorem dX4_sellSide_8 : decode cX4_sellSide 8 = .ok (.iload 4, 2) := by decide +kernel
theorem dX4_sellSide_10 : decode cX4_sellSide 10 = .ok (.invokevirtual 67, 3) := by decide +kernel
theorem dX4_sellSide_13 : decode cX4_sellSide 13 = .ok (.aload_n 0, 1) := by decide +kernel
theorem dX4_sellSide_14 : decode cX4_sellSide 14 = .ok (.getfield 15, 3) := by decide +kernel
theorem dX4_sellSide_17 : decode cX4_sellSide 17 = .ok (.iconst 2, 1) := by decide +kernel
theorem dX4_sellSide_18 : decode cX4_sellSide 18 = .ok (.iload_n 1, 1) := by decide +kernel
theorem dX4_sellSide_19 : decode cX4_sellSide 19 = .ok (.imul, 1) := by decide +kernel
theorem dX4_sellSide_20 : decode cX4_sellSide 20 = .ok (.iload_n 2, 1) := by decide +kernel
theorem dX4_sellSide_21 : decode cX4_sellSide 21 = .ok (.iadd, 1) := by decide +kernel
theorem dX4_sellSide_22 : decode cX4_sellSide 22 = .ok (.iload_n 3, 1) := by decide +kernel
theorem dX4_sellSide_23 : decode cX4_sellSide 23 = .ok (.invokestatic 48, 3) := by decide +kernel
theorem dX4_sellSide_26 : decode cX4_sellSide 26 = .ok (.aload_n 0, 1) := by decide +kernel
theorem dX4_sellSide_27 : decode cX4_sellSide 27 = .ok (.dup, 1) := by decide +kernel
theorem dX4_sellSide_28 : decode cX4_sellSide 28 = .ok (.getfield 25, 3) := by decide +kernel
theorem dX4_sellSide_31 : decode cX4_sellSide 31 = .ok (.iconst 1, 1) := by decide +kernel
theorem dX4_sellSide_32 : decode cX4_sellSide 32 = .ok (.iadd, 1) := by decide +kernel
theorem dX4_sellSide_33 : decode cX4_sellSide 33 = .ok (.putfield 25, 3) := by decide +kernel
theorem dX4_sellSide_36 : decode cX4_sellSide 36 = .ok (.return_, 1) := by decide +kernel
theorem dX4_credit_0 : decode cX4_credit 0 = .ok (.aload_n 0, 1) := by decide +kernel
theorem dX4_credit_1 : decode cX4_credit 1 = .ok (.getfield 18, 3) := by decide +kernel
theorem dX4_credit_4 : decode cX4_credit 4 = .ok (.iload_n 1, 1) := by decide +kernel
theorem dX4_credit_5 : decode cX4_credit 5 = .ok (.aload_n 0, 1) := by decide +kernel
theorem dX4_credit_6 : decode cX4_credit 6 = .ok (.getfield 18, 3) := by decide +kernel
theorem dX4_credit_9 : decode cX4_credit 9 = .ok (.iload_n 1, 1) := by decide +kernel
theorem dX4_credit_10 : decode cX4_credit 10 = .ok (.invokestatic 59, 3) := by decide +kernel
theorem dX4_credit_13 : decode cX4_credit 13 = .ok (.iload_n 3, 1) := by decide +kernel
theorem dX4_credit_14 : decode cX4_credit 14 = .ok (.iadd, 1) := by decide +kernel
theorem dX4_credit_15 : decode cX4_credit 15 = .ok (.invokestatic 48, 3) := by decide +kernel
theorem dX4_credit_18 : decode cX4_credit 18 = .ok (.aload_n 0, 1) := by decide +kernel
theorem dX4_credit_19 : decode cX4_credit 19 = .ok (.getfield 18, 3) := by decide +kernel
theorem dX4_credit_22 : decode cX4_credit 22 = .ok (.iload_n 2, 1) := by decide +kernel
theorem dX4_credit_23 : decode cX4_credit 23 = .ok (.aload_n 0, 1) := by decide +kernel
theorem dX4_credit_24 : decode cX4_credit 24 = .ok (.getfield 18, 3) := by decide +kernel
theorem dX4_credit_27 : decode cX4_credit 27 = .ok (.iload_n 2, 1) := by decide +kernel
theorem dX4_credit_28 : decode cX4_credit 28 = .ok (.invokestatic 59, 3) := by decide +kernel
theorem dX4_credit_31 : decode cX4_credit 31 = .ok (.iload_n 3, 1) := by decide +kernel
theorem dX4_credit_32 : decode cX4_credit 32 = .ok (.isub, 1) := by decide +kernel
theorem dX4_credit_33 : decode cX4_credit 33 = .ok (.invokestatic 48, 3) := by decide +kernel
theorem dX4_credit_36 : decode cX4_credit 36 = .ok (.return_, 1) := by decide +kernel
theorem dX4_cameBits_0 : decode cX4_cameBits 0 = .ok (.iconst 0, 1) := by decide +kernel
theorem dX4_cameBits_1 : decode cX4_cameBits 1 = .ok (.istore_n 1, 1) := by decide +kernel
theorem dX4_cameBits_2 : decode cX4_cameBits 2 = .ok (.iconst 0, 1) := by decide +kernel
theorem dX4_cameBits_3 : decode cX4_cameBits 3 = .ok (.istore_n 2, 1) := by decide +kernel
theorem dX4_cameBits_4 : decode cX4_cameBits 4 = .ok (.iload_n 2, 1) := by decide +kernel
theorem dX4_cameBits_5 : decode cX4_cameBits 5 = .ok (.aload_n 0, 1) := by decide +kernel
theorem dX4_cameBits_6 : decode cX4_cameBits 6 = .ok (.getfield 9, 3) := by decide +kernel
theorem dX4_cameBits_9 : decode cX4_cameBits 9 = .ok (.arraylength, 1) := by decide +kernel
theorem dX4_cameBits_10 : decode cX4_cameBits 10 = .ok (.if_icmp .ge 24, 3) := by decide +kernel
theorem dX4_cameBits_13 : decode cX4_cameBits 13 = .ok (.aload_n 0, 1) := by decide +kernel
theorem dX4_cameBits_14 : decode cX4_cameBits 14 = .ok (.getfield 9, 3) := by decide +kernel
theorem dX4_cameBits_17 : decode cX4_cameBits 17 = .ok (.iload_n 2, 1) := by decide +kernel
theorem dX4_cameBits_18 : decode cX4_cameBits 18 = .ok (.iaload, 1) := by decide +kernel
theorem dX4_cameBits_19 : decode cX4_cameBits 19 = .ok (.ifCond .eq 9, 3) := by decide +kernel
theorem dX4_cameBits_22 : decode cX4_cameBits 22 = .ok (.iload_n 1, 1) := by decide +kernel
theorem dX4_cameBits_23 : decode cX4_cameBits 23 = .ok (.iconst 1, 1) := by decide +kernel
theorem dX4_cameBits_24 : decode cX4_cameBits 24 = .ok (.iload_n 2, 1) := by decide +kernel
theorem dX4_cameBits_25 : decode cX4_cameBits 25 = .ok (.ishl, 1) := by decide +kernel
theorem dX4_cameBits_26 : decode cX4_cameBits 26 = .ok (.ior, 1) := by decide +kernel
theorem dX4_cameBits_27 : decode cX4_cameBits 27 = .ok (.istore_n 1, 1) := by decide +kernel
theorem dX4_cameBits_28 : decode cX4_cameBits 28 = .ok (.iinc 2 1, 3) := by decide +kernel
theorem dX4_cameBits_31 : decode cX4_cameBits 31 = .ok (.goto (-27), 3) := by decide +kernel
theorem dX4_cameBits_34 : decode cX4_cameBits 34 = .ok (.iload_n 1, 1) := by decide +kernel
theorem dX4_cameBits_35 : decode cX4_cameBits 35 = .ok (.ireturn, 1) := by decide +kernel
theorem dX4_allowedDigits_0 : decode cX4_allowedDigits 0 = .ok (.aload_n 0, 1) := by decide +kernel
theorem dX4_allowedDigits_1 : decode cX4_allowedDigits 1 = .ok (.getfield 9, 3) := by decide +kernel
theorem dX4_allowedDigits_4 : decode cX4_allowedDigits 4 = .ok (.iload_n 1, 1) := by decide +kernel
theorem dX4_allowedDigits_5 : decode cX4_allowedDigits 5 = .ok (.invokestatic 59, 3) := by decide +kernel
theorem dX4_allowedDigits_8 : decode cX4_allowedDigits 8 = .ok (.istore_n 2, 1) := by decide +kernel
theorem dX4_allowedDigits_9 : decode cX4_allowedDigits 9 = .ok (.iload_n 2, 1) := by decide +kernel
theorem dX4_allowedDigits_10 : decode cX4_allowedDigits 10 = .ok (.ifCond .eq 7, 3) := by decide +kernel
theorem dX4_allowedDigits_13 : decode cX4_allowedDigits 13 = .ok (.iconst 1, 1) := by decide +kernel
theorem dX4_allowedDigits_14 : decode cX4_allowedDigits 14 = .ok (.iload_n 2, 1) := by decide +kernel
theorem dX4_allowedDigits_15 : decode cX4_allowedDigits 15 = .ok (.ishl, 1) := by decide +kernel
theorem dX4_allowedDigits_16 : decode cX4_allowedDigits 16 = .ok (.ireturn, 1) := by decide +kernel
theorem dX4_allowedDigits_17 : decode cX4_allowedDigits 17 = .ok (.sipush 511, 3) := by decide +kernel
theorem dX4_allowedDigits_20 : decode cX4_allowedDigits 20 = .ok (.istore_n 3, 1) := by decide +kernel
theorem dX4_allowedDigits_21 : decode cX4_allowedDigits 21 = .ok (.iconst 1, 1) := by decide +kernel
theorem dX4_allowedDigits_22 : decode cX4_allowedDigits 22 = .ok (.aload_n 0, 1) := by decide +kernel
theorem dX4_allowedDigits_23 : decode cX4_allowedDigits 23 = .ok (.getfield 21, 3) := by decide +kernel
theorem dX4_allowedDigits_26 : decode cX4_allowedDigits 26 = .ok (.iconst 1, 1) := by decide +kernel
theorem dX4_allowedDigits_27 : decode cX4_allowedDigits 27 = .ok (.iadd, 1) := by decide +kernel
theorem dX4_allowedDigits_28 : decode cX4_allowedDigits 28 = .ok (.ishl, 1) := by decide +kernel
theorem dX4_allowedDigits_29 : decode cX4_allowedDigits 29 = .ok (.iconst 1, 1) := by decide +kernel
theorem dX4_allowedDigits_30 : decode cX4_allowedDigits 30 = .ok (.isub, 1) := by decide +kernel
theorem dX4_allowedDigits_31 : decode cX4_allowedDigits 31 = .ok (.istore 4, 2) := by decide +kernel
theorem dX4_allowedDigits_33 : decode cX4_allowedDigits 33 = .ok (.iload_n 3, 1) := by decide +kernel
theorem dX4_allowedDigits_34 : decode cX4_allowedDigits 34 = .ok (.iload 4, 2) := by decide +kernel
theorem dX4_allowedDigits_36 : decode cX4_allowedDigits 36 = .ok (.iconst (-1), 1) := by decide +kernel
theorem dX4_allowedDigits_37 : decode cX4_allowedDigits 37 = .ok (.ixor, 1) := by decide +kernel
theorem dX4_allowedDigits_38 : decode cX4_allowedDigits 38 = .ok (.iand, 1) := by decide +kernel
theorem dX4_allowedDigits_39 : decode cX4_allowedDigits 39 = .ok (.iconst 1, 1) := by decide +kernel
theorem dX4_allowedDigits_40 : decode cX4_allowedDigits 40 = .ok (.ior, 1) := by decide +kernel
theorem dX4_allowedDigits_41 : decode cX4_allowedDigits 41 = .ok (.ireturn, 1) := by decide +kernel
theorem dX4_copyRow_0 : decode cX4_copyRow 0 = .ok (.iconst 0, 1) := by decide +kernel
theorem dX4_copyRow_1 : decode cX4_copyRow 1 = .ok (.istore_n 2, 1) := by decide +kernel
theorem dX4_copyRow_2 : decode cX4_copyRow 2 = .ok (.iload_n 2, 1) := by decide +kernel
theorem dX4_copyRow_3 : decode cX4_copyRow 3 = .ok (.aload_n 1, 1) := by decide +kernel
theorem dX4_copyRow_4 : decode cX4_copyRow 4 = .ok (.arraylength, 1) := by decide +kernel
theorem dX4_copyRow_5 : decode cX4_copyRow 5 = .ok (.if_icmp .ge 17, 3) := by decide +kernel
theorem dX4_copyRow_8 : decode cX4_copyRow 8 = .ok (.aload_n 1, 1) := by decide +kernel
theorem dX4_copyRow_9 : decode cX4_copyRow 9 = .ok (.iload_n 2, 1) := by decide +kernel
theorem dX4_copyRow_10 : decode cX4_copyRow 10 = .ok (.aload_n 0, 1) := by decide +kernel
theorem dX4_copyRow_11 : decode cX4_copyRow 11 = .ok (.iload_n 2, 1) := by decide +kernel
theorem dX4_copyRow_12 : decode cX4_copyRow 12 = .ok (.invokestatic 59, 3) := by decide +kernel
theorem dX4_copyRow_15 : decode cX4_copyRow 15 = .ok (.iastore, 1) := by decide +kernel
theorem dX4_copyRow_16 : decode cX4_copyRow 16 = .ok (.iinc 2 1, 3) := by decide +kernel
theorem dX4_copyRow_19 : decode cX4_copyRow 19 = .ok (.goto (-17), 3) := by decide +kernel
theorem dX4_copyRow_22 : decode cX4_copyRow 22 = .ok (.return_, 1) := by decide +kernel
theorem dX5_init_0 : decode cX5_init 0 = .ok (.aload_n 0, 1) := by decide +kernel
theorem dX5_init_1 : decode cX5_init 1 = .ok (.invokespecial 3, 3) := by decide +kernel
theorem dX5_init_4 : decode cX5_init 4 = .ok (.aload_n 0, 1) := by decide +kernel
theorem dX5_init_5 : decode cX5_init 5 = .ok (.bipush 45, 2) := by decide +kernel
theorem dX5_init_7 : decode cX5_init 7 = .ok (.newarray .int, 2) := by decide +kernel
theorem dX5_init_9 : decode cX5_init 9 = .ok (.putfield 9, 3) := by decide +kernel
theorem dX5_init_12 : decode cX5_init 12 = .ok (.return_, 1) := by decide +kernel
theorem dX5_clear_0 : decode cX5_clear 0 = .ok (.aload_n 0, 1) := by decide +kernel
theorem dX5_clear_1 : decode cX5_clear 1 = .ok (.getfield 9, 3) := by decide +kernel
theorem dX5_clear_4 : decode cX5_clear 4 = .ok (.iconst 0, 1) := by decide +kernel
theorem dX5_clear_5 : decode cX5_clear 5 = .ok (.invokestatic 15, 3) := by decide +kernel
theorem dX5_clear_8 : decode cX5_clear 8 = .ok (.return_, 1) := by decide +kernel
theorem dX5_setParts_0 : decode cX5_setParts 0 = .ok (.aload_n 0, 1) := by decide +kernel
theorem dX5_setParts_1 : decode cX5_setParts 1 = .ok (.getfield 9, 3) := by decide +kernel
theorem dX5_setParts_4 : decode cX5_setParts 4 = .ok (.bipush 9, 2) := by decide +kernel
theorem dX5_setParts_6 : decode cX5_setParts 6 = .ok (.iload_n 1, 1) := by decide +kernel
theorem dX5_setParts_7 : decode cX5_setParts 7 = .ok (.imul, 1) := by decide +kernel
theorem dX5_setParts_8 : decode cX5_setParts 8 = .ok (.iload_n 2, 1) := by decide +kernel
theorem dX5_setParts_9 : decode cX5_setParts 9 = .ok (.iadd, 1) := by decide +kernel
theorem dX5_setParts_10 : decode cX5_setParts 10 = .ok (.iload_n 3, 1) := by decide +kernel
theorem dX5_setParts_11 : decode cX5_setParts 11 = .ok (.invokestatic 21, 3) := by decide +kernel
theorem dX5_setParts_14 : decode cX5_setParts 14 = .ok (.return_, 1) := by decide +kernel
theorem dX5_areWhole_0 : decode cX5_areWhole 0 = .ok (.iconst 0, 1) := by decide +kernel
theorem dX5_areWhole_1 : decode cX5_areWhole 1 = .ok (.istore_n 2, 1) := by decide +kernel
theorem dX5_areWhole_2 : decode cX5_areWhole 2 = .ok (.iload_n 2, 1) := by decide +kernel
theorem dX5_areWhole_3 : decode cX5_areWhole 3 = .ok (.iload_n 1, 1) := by decide +kernel
theorem dX5_areWhole_4 : decode cX5_areWhole 4 = .ok (.if_icmp .ge 52, 3) := by decide +kernel
theorem dX5_areWhole_7 : decode cX5_areWhole 7 = .ok (.iconst 0, 1) := by decide +kernel
theorem dX5_areWhole_8 : decode cX5_areWhole 8 = .ok (.istore_n 3, 1) := by decide +kernel
theorem dX5_areWhole_9 : decode cX5_areWhole 9 = .ok (.iconst 0, 1) := by decide +kernel
theorem dX5_areWhole_10 : decode cX5_areWhole 10 = .ok (.istore 4, 2) := by decide +kernel
theorem dX5_areWhole_12 : decode cX5_areWhole 12 = .ok (.iload 4, 2) := by decide +kernel
theorem dX5_areWhole_14 : decode cX5_areWhole 14 = .ok (.bipush 9, 2) := by decide +kernel
theorem dX5_areWhole_16 : decode cX5_areWhole 16 = .ok (.if_icmp .ge 26, 3) := by decide +kernel
theorem dX5_areWhole_19 : decode cX5_areWhole 19 = .ok (.iload_n 3, 1) := by decide +kernel
theorem dX5_areWhole_20 : decode cX5_areWhole 20 = .ok (.aload_n 0, 1) := by decide +kernel
theorem dX5_areWhole_21 : decode cX5_areWhole 21 = .ok (.getfield 9, 3) := by decide +kernel
theorem dX5_areWhole_24 : decode cX5_areWhole 24 = .ok (.bipush 9, 2) := by decide +kernel
theorem dX5_areWhole_26 : decode cX5_areWhole 26 = .ok (.iload_n 2, 1) := by decide +kernel
theorem dX5_areWhole_27 : decode cX5_areWhole 27 = .ok (.imul, 1) := by decide +kernel
theorem dX5_areWhole_28 : decode cX5_areWhole 28 = .ok (.iload 4, 2) := by decide +kernel
theorem dX5_areWhole_30 : decode cX5_areWhole 30 = .ok (.iadd, 1) := by decide +kernel
theorem dX5_areWhole_31 : decode cX5_areWhole 31 = .ok (.invokestatic 25, 3) := by decide +kernel
theorem dX5_areWhole_34 : decode cX5_areWhole 34 = .ok (.iadd, 1) := by decide +kernel
theorem dX5_areWhole_35 : decode cX5_areWhole 35 = .ok (.istore_n 3, 1) := by decide +kernel
theorem dX5_areWhole_36 : decode cX5_areWhole 36 = .ok (.iinc 4 1, 3) := by decide +kernel
theorem dX5_areWhole_39 : decode cX5_areWhole 39 = .ok (.goto (-27), 3) := by decide +kernel
theorem dX5_areWhole_42 : decode cX5_areWhole 42 = .ok (.iload_n 3, 1) := by decide +kernel
theorem dX5_areWhole_43 : decode cX5_areWhole 43 = .ok (.bipush 100, 2) := by decide +kernel
theorem dX5_areWhole_45 : decode cX5_areWhole 45 = .ok (.if_icmp .eq 5, 3) := by decide +kernel
theorem dX5_areWhole_48 : decode cX5_areWhole 48 = .ok (.iconst 0, 1) := by decide +kernel
theorem dX5_areWhole_49 : decode cX5_areWhole 49 = .ok (.ireturn, 1) := by decide +kernel
theorem dX5_areWhole_50 : decode cX5_areWhole 50 = .ok (.iinc 2 1, 3) := by decide +kernel
theorem dX5_areWhole_53 : decode cX5_areWhole 53 = .ok (.goto (-51), 3) := by decide +kernel
theorem dX5_areWhole_56 : decode cX5_areWhole 56 = .ok (.iconst 1, 1) := by decide +kernel
theorem dX5_areWhole_57 : decode cX5_areWhole 57 = .ok (.ireturn, 1) := by decide +kernel
theorem dX5_worthOf_0 : decode cX5_worthOf 0 = .ok (.iload_n 3, 1) := by decide +kernel
theorem dX5_worthOf_1 : decode cX5_worthOf 1 = .ok (.ifCond .lt 19, 3) := by decide +kernel
theorem dX5_worthOf_4 : decode cX5_worthOf 4 = .ok (.iload_n 3, 1) := by decide +kernel
theorem dX5_worthOf_5 : decode cX5_worthOf 5 = .ok (.iconst 1, 1) := by decide +kernel
theorem dX5_worthOf_6 : decode cX5_worthOf 6 = .ok (.if_icmp .gt 14, 3) := by decide +kernel
theorem dX5_worthOf_9 : decode cX5_worthOf 9 = .ok (.aload_n 0, 1) := by decide +kernel
theorem dX5_worthOf_10 : decode cX5_worthOf 10 = .ok (.aload_n 1, 1) := by decide +kernel
theorem dX5_worthOf_11 : decode cX5_worthOf 11 = .ok (.getfield 29, 3) := by decide +kernel
theorem dX5_worthOf_14 : decode cX5_worthOf 14 = .ok (.invokevirtual 35, 3) := by decide +kernel
theorem dX5_worthOf_17 : decode cX5_worthOf 17 = .ok (.ifCond .ne 7, 3) := by decide +kernel
theorem dX5_worthOf_20 : decode cX5_worthOf 20 = .ok (.ldc2_w 39, 3) := by decide +kernel
theorem dX5_worthOf_23 : decode cX5_worthOf 23 = .ok (.lreturn, 1) := by decide +kernel
theorem dX5_worthOf_24 : decode cX5_worthOf 24 = .ok (.lconst 0, 1) := by decide +kernel
theorem dX5_worthOf_25 : decode cX5_worthOf 25 = .ok (.lstore 4, 2) := by decide +kernel
theorem dX5_worthOf_27 : decode cX5_worthOf 27 = .ok (.lconst 0, 1) := by decide +kernel
theorem dX5_worthOf_28 : decode cX5_worthOf 28 = .ok (.lstore 6, 2) := by decide +kernel
theorem dX5_worthOf_30 : decode cX5_worthOf 30 = .ok (.iconst 0, 1) := by decide +kernel
theorem dX5_worthOf_31 : decode cX5_worthOf 31 = .ok (.istore 8, 2) := by decide +kernel
theorem dX5_worthOf_33 : decode cX5_worthOf 33 = .ok (.iload 8, 2) := by decide +kernel
theorem dX5_worthOf_35 : decode cX5_worthOf 35 = .ok (.aload_n 1, 1) := by decide +kernel
theorem dX5_worthOf_36 : decode cX5_worthOf 36 = .ok (.getfield 41, 3) := by decide +kernel
theorem dX5_worthOf_39 : decode cX5_worthOf 39 = .ok (.if_icmp .ge 73, 3) := by decide +kernel
theorem dX5_worthOf_42 : decode cX5_worthOf 42 = .ok (.aload_n 1, 1) := by decide +kernel
theorem dX5_worthOf_43 : decode cX5_worthOf 43 = .ok (.iload 8, 2) := by decide +kernel
theorem dX5_worthOf_45 : decode cX5_worthOf 45 = .ok (.invokevirtual 44, 3) := by decide +kernel
theorem dX5_worthOf_48 : decode cX5_worthOf 48 = .ok (.lstore 9, 2) := by decide +kernel
theorem dX5_worthOf_50 : decode cX5_worthOf 50 = .ok (.lload 9, 2) := by decide +kernel
theorem dX5_worthOf_52 : decode cX5_worthOf 52 = .ok (.ldc2_w 48, 3) := by decide +kernel
theorem dX5_worthOf_55 : decode cX5_worthOf 55 = .ok (.land, 1) := by decide +kernel
theorem dX5_worthOf_56 : decode cX5_worthOf 56 = .ok (.lconst 0, 1) := by decide +kernel
theorem dX5_worthOf_57 : decode cX5_worthOf 57 = .ok (.lcmp, 1) := by decide +kernel
theorem dX5_worthOf_58 : decode cX5_worthOf 58 = .ok (.ifCond .ne 7, 3) := by decide +kernel
theorem dX5_worthOf_61 : decode cX5_worthOf 61 = .ok (.lconst 0, 1) := by decide +kernel
theorem dX5_worthOf_62 : decode cX5_worthOf 62 = .ok (.goto 13, 3) := by decide +kernel
theorem dX5_worthOf_65 : decode cX5_worthOf 65 = .ok (.aload_n 0, 1) := by decide +kernel
theorem dX5_worthOf_66 : decode cX5_worthOf 66 = .ok (.iload 8, 2) := by decide +kernel
theorem dX5_worthOf_68 : decode cX5_worthOf 68 = .ok (.aload_n 1, 1) := by decide +kernel
theorem dX5_worthOf_69 : decode cX5_worthOf 69 = .ok (.getfield 29, 3) := by decide +kernel
theorem dX5_worthOf_72 : decode cX5_worthOf 72 = .ok (.invokevirtual 50, 3) := by decide +kernel
theorem dX5_worthOf_75 : decode cX5_worthOf 75 = .ok (.lstore 11, 2) := by decide +kernel
theorem dX5_worthOf_77 : decode cX5_worthOf 77 = .ok (.lload 11, 2) := by decide +kernel
theorem dX5_worthOf_79 : decode cX5_worthOf 79 = .ok (.lconst 0, 1) := by decide +kernel
theorem dX5_worthOf_80 : decode cX5_worthOf 80 = .ok (.lcmp, 1) := by decide +kernel
theorem dX5_worthOf_81 : decode cX5_worthOf 81 = .ok (.ifCond .eq 25, 3) := by decide +kernel
theorem dX5_worthOf_84 : decode cX5_worthOf 84 = .ok (.lload 4, 2) := by decide +kernel
theorem dX5_worthOf_86 : decode cX5_worthOf 86 = .ok (.lload 11, 2) := by decide +kernel
theorem dX5_worthOf_88 : decode cX5_worthOf 88 = .ok (.aload_n 2, 1) := by decide +kernel
theorem dX5_worthOf_89 : decode cX5_worthOf 89 = .ok (.lload 9, 2) := by decide +kernel
theorem dX5_worthOf_91 : decode cX5_worthOf 91 = .ok (.invokevirtual 54, 3) := by decide +kernel
theorem dX5_worthOf_94 : decode cX5_worthOf 94 = .ok (.i2l, 1) := by decide +kernel
theorem dX5_worthOf_95 : decode cX5_worthOf 95 = .ok (.lmul, 1) := by decide +kernel
theorem dX5_worthOf_96 : decode cX5_worthOf 96 = .ok (.ladd, 1) := by decide +kernel
theorem dX5_worthOf_97 : decode cX5_worthOf 97 = .ok (.lstore 4, 2) := by decide +kernel
theorem dX5_worthOf_99 : decode cX5_worthOf 99 = .ok (.lload 6, 2) := by decide +kernel
theorem dX5_worthOf_101 : decode cX5_worthOf 101 = .ok (.lload 11, 2) := by decide +kernel
theorem dX5_worthOf_103 : decode cX5_worthOf 103 = .ok (.ladd, 1) := by decide +kernel
theorem dX5_worthOf_104 : decode cX5_worthOf 104 = .ok (.lstore 6, 2) := by decide +kernel
theorem dX5_worthOf_106 : decode cX5_worthOf 106 = .ok (.iinc 8 1, 3) := by decide +kernel
theorem dX5_worthOf_109 : decode cX5_worthOf 109 = .ok (.goto (-76), 3) := by decide +kernel
theorem dX5_worthOf_112 : decode cX5_worthOf 112 = .ok (.lload 4, 2) := by decide +kernel
theorem dX5_worthOf_114 : decode cX5_worthOf 114 = .ok (.lload 6, 2) := by decide +kernel
theorem dX5_worthOf_116 : decode cX5_worthOf 116 = .ok (.invokestatic 60, 3) := by decide +kernel
theorem dX5_worthOf_119 : decode cX5_worthOf 119 = .ok (.lstore 8, 2) := by decide +kernel
theorem dX5_worthOf_121 : decode cX5_worthOf 121 = .ok (.lload 6, 2) := by decide +kernel
theorem dX5_worthOf_123 : decode cX5_worthOf 123 = .ok (.lconst 0, 1) := by decide +kernel
theorem dX5_worthOf_124 : decode cX5_worthOf 124 = .ok (.lcmp, 1) := by decide +kernel
theorem dX5_worthOf_125 : decode cX5_worthOf 125 = .ok (.ifCond .eq 10, 3) := by decide +kernel
theorem dX5_worthOf_128 : decode cX5_worthOf 128 = .ok (.lload 8, 2) := by decide +kernel
theorem dX5_worthOf_130 : decode cX5_worthOf 130 = .ok (.lconst 0, 1) := by decide +kernel
theorem dX5_worthOf_131 : decode cX5_worthOf 131 = .ok (.lcmp, 1) := by decide +kernel
theorem dX5_worthOf_132 : decode cX5_worthOf 132 = .ok (.ifCond .ne 7, 3) := by decide +kernel
theorem dX5_worthOf_135 : decode cX5_worthOf 135 = .ok (.ldc2_w 39, 3) := by decide +kernel
theorem dX5_worthOf_138 : decode cX5_worthOf 138 = .ok (.lreturn, 1) := by decide +kernel
theorem dX5_worthOf_139 : decode cX5_worthOf 139 = .ok (.iload_n 3, 1) := by decide +kernel
theorem dX5_worthOf_140 : decode cX5_worthOf 140 = .ok (.ifCond .ne 8, 3) := by decide +kernel
theorem dX5_worthOf_143 : decode cX5_worthOf 143 = .ok (.lload 4, 2) := by decide +kernel
theorem dX5_worthOf_145 : decode cX5_worthOf 145 = .ok (.goto 5, 3) := by decide +kernel
theorem dX5_worthOf_148 : decode cX5_worthOf 148 = .ok (.lload 6, 2) := by decide +kernel
theorem dX5_worthOf_150 : decode cX5_worthOf 150 = .ok (.lload 8, 2) := by decide +kernel
theorem dX5_worthOf_152 : decode cX5_worthOf 152 = .ok (.ldiv, 1) := by decide +kernel
theorem dX5_worthOf_153 : decode cX5_worthOf 153 = .ok (.lreturn, 1) := by decide +kernel
theorem dX5_weightOf_0 : decode cX5_weightOf 0 = .ok (.lconst 1, 1) := by decide +kernel
theorem dX5_weightOf_1 : decode cX5_weightOf 1 = .ok (.lstore_n 3, 1) := by decide +kernel
theorem dX5_weightOf_2 : decode cX5_weightOf 2 = .ok (.iload_n 1, 1) := by decide +kernel
theorem dX5_weightOf_3 : decode cX5_weightOf 3 = .ok (.istore 5, 2) := by decide +kernel
theorem dX5_weightOf_5 : decode cX5_weightOf 5 = .ok (.iconst 0, 1) := by decide +kernel
theorem dX5_weightOf_6 : decode cX5_weightOf 6 = .ok (.istore 6, 2) := by decide +kernel
theorem dX5_weightOf_8 : decode cX5_weightOf 8 = .ok (.iload 6, 2) := by decide +kernel
theorem dX5_weightOf_10 : decode cX5_weightOf 10 = .ok (.iload_n 2, 1) := by decide +kernel
theorem dX5_weightOf_11 : decode cX5_weightOf 11 = .ok (.if_icmp .ge 38, 3) := by decide +kernel
theorem dX5_weightOf_14 : decode cX5_weightOf 14 = .ok (.lload_n 3, 1) := by decide +kernel
theorem dX5_weightOf_15 : decode cX5_weightOf 15 = .ok (.aload_n 0, 1) := by decide +kernel
theorem dX5_weightOf_16 : decode cX5_weightOf 16 = .ok (.getfield 9, 3) := by decide +kernel
theorem dX5_weightOf_19 : decode cX5_weightOf 19 = .ok (.bipush 9, 2) := by decide +kernel
theorem dX5_weightOf_21 : decode cX5_weightOf 21 = .ok (.iload 6, 2) := by decide +kernel
theorem dX5_weightOf_23 : decode cX5_weightOf 23 = .ok (.imul, 1) := by decide +kernel
theorem dX5_weightOf_24 : decode cX5_weightOf 24 = .ok (.iload 5, 2) := by decide +kernel
theorem dX5_weightOf_26 : decode cX5_weightOf 26 = .ok (.bipush 9, 2) := by decide +kernel
theorem dX5_weightOf_28 : decode cX5_weightOf 28 = .ok (.irem, 1) := by decide +kernel
theorem dX5_weightOf_29 : decode cX5_weightOf 29 = .ok (.iadd, 1) := by decide +kernel
theorem dX5_weightOf_30 : decode cX5_weightOf 30 = .ok (.invokestatic 25, 3) := by decide +kernel
theorem dX5_weightOf_33 : decode cX5_weightOf 33 = .ok (.i2l, 1) := by decide +kernel
theorem dX5_weightOf_34 : decode cX5_weightOf 34 = .ok (.lmul, 1) := by decide +kernel
theorem dX5_weightOf_35 : decode cX5_weightOf 35 = .ok (.lstore_n 3, 1) := by decide +kernel
theorem dX5_weightOf_36 : decode cX5_weightOf 36 = .ok (.iload 5, 2) := by decide +kernel
theorem dX5_weightOf_38 : decode cX5_weightOf 38 = .ok (.bipush 9, 2) := by decide +kernel
theorem dX5_weightOf_40 : decode cX5_weightOf 40 = .ok (.idiv, 1) := by decide +kernel
theorem dX5_weightOf_41 : decode cX5_weightOf 41 = .ok (.istore 5, 2) := by decide +kernel
theorem dX5_weightOf_43 : decode cX5_weightOf 43 = .ok (.iinc 6 1, 3) := by decide +kernel
theorem dX5_weightOf_46 : decode cX5_weightOf 46 = .ok (.goto (-38), 3) := by decide +kernel
theorem dX5_weightOf_49 : decode cX5_weightOf 49 = .ok (.lload_n 3, 1) := by decide +kernel
theorem dX5_weightOf_50 : decode cX5_weightOf 50 = .ok (.lreturn, 1) := by decide +kernel
theorem dX5_commonDivisor_0 : decode cX5_commonDivisor 0 = .ok (.lload_n 0, 1) := by decide +kernel
theorem dX5_commonDivisor_1 : decode cX5_commonDivisor 1 = .ok (.invokestatic 64, 3) := by decide +kernel
theorem dX5_commonDivisor_4 : decode cX5_commonDivisor 4 = .ok (.lstore 4, 2) := by decide +kernel
theorem dX5_commonDivisor_6 : decode cX5_commonDivisor 6 = .ok (.lload_n 2, 1) := by decide +kernel
theorem dX5_commonDivisor_7 : decode cX5_commonDivisor 7 = .ok (.invokestatic 64, 3) := by decide +kernel
theorem dX5_commonDivisor_10 : decode cX5_commonDivisor 10 = .ok (.lstore 6, 2) := by decide +kernel
theorem dX5_commonDivisor_12 : decode cX5_commonDivisor 12 = .ok (.iconst 0, 1) := by decide +kernel
theorem dX5_commonDivisor_13 : decode cX5_commonDivisor 13 = .ok (.istore 8, 2) := by decide +kernel
theorem dX5_commonDivisor_15 : decode cX5_commonDivisor 15 = .ok (.iload 8, 2) := by decide +kernel
theorem dX5_commonDivisor_17 : decode cX5_commonDivisor 17 = .ok (.bipush 100, 2) := by decide +kernel
theorem dX5_commonDivisor_19 : decode cX5_commonDivisor 19 = .ok (.if_icmp .ge 31, 3) := by decide +kernel
theorem dX5_commonDivisor_22 : decode cX5_commonDivisor 22 = .ok (.lload 6, 2) := by decide +kernel
theorem dX5_commonDivisor_24 : decode cX5_commonDivisor 24 = .ok (.lconst 0, 1) := by decide +kernel
theorem dX5_commonDivisor_25 : decode cX5_commonDivisor 25 = .ok (.lcmp, 1) := by decide +kernel
theorem dX5_commonDivisor_26 : decode cX5_commonDivisor 26 = .ok (.ifCond .eq 24, 3) := by decide +kernel
theorem dX5_commonDivisor_29 : decode cX5_commonDivisor 29 = .ok (.lload 4, 2) := by decide +kernel
theorem dX5_commonDivisor_31 : decode cX5_commonDivisor 31 = .ok (.lload 6, 2) := by decide +kernel
theorem dX5_commonDivisor_33 : decode cX5_commonDivisor 33 = .ok (.lrem, 1) := by decide +kernel
theorem dX5_commonDivisor_34 : decode cX5_commonDivisor 34 = .ok (.lstore 9, 2) := by decide +kernel
theorem dX5_commonDivisor_36 : decode cX5_commonDivisor 36 = .ok (.lload 6, 2) := by decide +kernel
theorem dX5_commonDivisor_38 : decode cX5_commonDivisor 38 = .ok (.lstore 4, 2) := by decide +kernel
theorem dX5_commonDivisor_40 : decode cX5_commonDivisor 40 = .ok (.lload 9, 2) := by decide +kernel
theorem dX5_commonDivisor_42 : decode cX5_commonDivisor 42 = .ok (.lstore 6, 2) := by decide +kernel
theorem dX5_commonDivisor_44 : decode cX5_commonDivisor 44 = .ok (.iinc 8 1, 3) := by decide +kernel
theorem dX5_commonDivisor_47 : decode cX5_commonDivisor 47 = .ok (.goto (-32), 3) := by decide +kernel
theorem dX5_commonDivisor_50 : decode cX5_commonDivisor 50 = .ok (.lload 4, 2) := by decide +kernel
theorem dX5_commonDivisor_52 : decode cX5_commonDivisor 52 = .ok (.lreturn, 1) := by decide +kernel
theorem dX6_init_0 : decode cX6_init 0 = .ok (.aload_n 0, 1) := by decide +kernel
theorem dX6_init_1 : decode cX6_init 1 = .ok (.invokespecial 3, 3) := by decide +kernel
theorem dX6_init_4 : decode cX6_init 4 = .ok (.aload_n 0, 1) := by decide +kernel
theorem dX6_init_5 : decode cX6_init 5 = .ok (.iconst 0, 1) := by decide +kernel
theorem dX6_init_6 : decode cX6_init 6 = .ok (.newarray .long, 2) := by decide +kernel
theorem dX6_init_8 : decode cX6_init 8 = .ok (.putfield 9, 3) := by decide +kernel
theorem dX6_init_11 : decode cX6_init 11 = .ok (.aload_n 0, 1) := by decide +kernel
theorem dX6_init_12 : decode cX6_init 12 = .ok (.iconst 0, 1) := by decide +kernel
theorem dX6_init_13 : decode cX6_init 13 = .ok (.newarray .byte, 2) := by decide +kernel
theorem dX6_init_15 : decode cX6_init 15 = .ok (.putfield 15, 3) := by decide +kernel
theorem dX6_init_18 : decode cX6_init 18 = .ok (.aload_n 0, 1) := by decide +kernel
theorem dX6_init_19 : decode cX6_init 19 = .ok (.iconst 5, 1) := by decide +kernel
theorem dX6_init_20 : decode cX6_init 20 = .ok (.newarray .int, 2) := by decide +kernel
theorem dX6_init_22 : decode cX6_init 22 = .ok (.putfield 19, 3) := by decide +kernel
theorem dX6_init_25 : decode cX6_init 25 = .ok (.aload_n 0, 1) := by decide +kernel
theorem dX6_init_26 : decode cX6_init 26 = .ok (.iconst 5, 1) := by decide +kernel
theorem dX6_init_27 : decode cX6_init 27 = .ok (.newarray .int, 2) := by decide +kernel
theorem dX6_init_29 : decode cX6_init 29 = .ok (.putfield 23, 3) := by decide +kernel
theorem dX6_init_32 : decode cX6_init 32 = .ok (.return_, 1) := by decide +kernel
theorem dX6_fill_0 : decode cX6_fill 0 = .ok (.aload_n 0, 1) := by decide +kernel
theorem dX6_fill_1 : decode cX6_fill 1 = .ok (.aload_n 1, 1) := by decide +kernel
theorem dX6_fill_2 : decode cX6_fill 2 = .ok (.getfield 26, 3) := by decide +kernel
theorem dX6_fill_5 : decode cX6_fill 5 = .ok (.putfield 32, 3) := by decide +kernel
theorem dX6_fill_8 : decode cX6_fill 8 = .ok (.aload_n 0, 1) := by decide +kernel
theorem dX6_fill_9 : decode cX6_fill 9 = .ok (.bipush 9, 2) := by decide +kernel
theorem dX6_fill_11 : decode cX6_fill 11 = .ok (.aload_n 0, 1) := by decide +kernel
theorem dX6_fill_12 : decode cX6_fill 12 = .ok (.getfield 32, 3) := by decide +kernel
theorem dX6_fill_15 : decode cX6_fill 15 = .ok (.invokestatic 33, 3) := by decide +kernel
theorem dX6_fill_18 : decode cX6_fill 18 = .ok (.putfield 37, 3) := by decide +kernel
theorem dX6_fill_21 : decode cX6_fill 21 = .ok (.aload_n 0, 1) := by decide +kernel
theorem dX6_fill_22 : decode cX6_fill 22 = .ok (.getfield 9, 3) := by decide +kernel
theorem dX6_fill_25 : decode cX6_fill 25 = .ok (.arraylength, 1) := by decide +kernel
theorem dX6_fill_26 : decode cX6_fill 26 = .ok (.aload_n 0, 1) := by decide +kernel
theorem dX6_fill_27 : decode cX6_fill 27 = .ok (.getfield 37, 3) := by decide +kernel
theorem dX6_fill_30 : decode cX6_fill 30 = .ok (.if_icmp .ge 33, 3) := by decide +kernel
theorem dX6_fill_33 : decode cX6_fill 33 = .ok (.aload_n 0, 1) := by decide +kernel
theorem dX6_fill_34 : decode cX6_fill 34 = .ok (.aload_n 0, 1) := by decide +kernel
theorem dX6_fill_35 : decode cX6_fill 35 = .ok (.getfield 37, 3) := by decide +kernel
theorem dX6_fill_38 : decode cX6_fill 38 = .ok (.newarray .long, 2) := by decide +kernel
theorem dX6_fill_40 : decode cX6_fill 40 = .ok (.putfield 9, 3) := by decide +kernel
theorem dX6_fill_43 : decode cX6_fill 43 = .ok (.aload_n 0, 1) := by decide +kernel
theorem dX6_fill_44 : decode cX6_fill 44 = .ok (.aload_n 0, 1) := by decide +kernel
theorem dX6_fill_45 : decode cX6_fill 45 = .ok (.getfield 37, 3) := by decide +kernel
theorem dX6_fill_48 : decode cX6_fill 48 = .ok (.aload_n 0, 1) := by decide +kernel
theorem dX6_fill_49 : decode cX6_fill 49 = .ok (.getfield 37, 3) := by decide +kernel
theorem dX6_fill_52 : decode cX6_fill 52 = .ok (.bipush 8, 2) := by decide +kernel
theorem dX6_fill_54 : decode cX6_fill 54 = .ok (.idiv, 1) := by decide +kernel
theorem dX6_fill_55 : decode cX6_fill 55 = .ok (.iadd, 1) := by decide +kernel
theorem dX6_fill_56 : decode cX6_fill 56 = .ok (.iconst 1, 1) := by decide +kernel
theorem dX6_fill_57 : decode cX6_fill 57 = .ok (.iadd, 1) := by decide +kernel
theorem dX6_fill_58 : decode cX6_fill 58 = .ok (.newarray .byte, 2) := by decide +kernel
theorem dX6_fill_60 : decode cX6_fill 60 = .ok (.putfield 15, 3) := by decide +kernel
theorem dX6_fill_63 : decode cX6_fill 63 = .ok (.aload_n 0, 1) := by decide +kernel
theorem dX6_fill_64 : decode cX6_fill 64 = .ok (.iconst 0, 1) := by decide +kernel
theorem dX6_fill_65 : decode cX6_fill 65 = .ok (.putfield 40, 3) := by decide +kernel
theorem dX6_fill_68 : decode cX6_fill 68 = .ok (.aload_n 0, 1) := by decide +kernel
theorem dX6_fill_69 : decode cX6_fill 69 = .ok (.getfield 19, 3) := by decide +kernel
theorem dX6_fill_72 : decode cX6_fill 72 = .ok (.iconst 0, 1) := by decide +kernel
theorem dX6_fill_73 : decode cX6_fill 73 = .ok (.invokestatic 43, 3) := by decide +kernel
theorem dX6_fill_76 : decode cX6_fill 76 = .ok (.iconst 0, 1) := by decide +kernel
theorem dX6_fill_77 : decode cX6_fill 77 = .ok (.istore_n 2, 1) := by decide +kernel
theorem dX6_fill_78 : decode cX6_fill 78 = .ok (.iload_n 2, 1) := by decide +kernel
theorem dX6_fill_79 : decode cX6_fill 79 = .ok (.aload_n 0, 1) := by decide +kernel
theorem dX6_fill_80 : decode cX6_fill 80 = .ok (.getfield 37, 3) := by decide +kernel
theorem dX6_fill_83 : decode cX6_fill 83 = .ok (.if_icmp .ge 61, 3) := by decide +kernel
theorem dX6_fill_86 : decode cX6_fill 86 = .ok (.iload_n 2, 1) := by decide +kernel
theorem dX6_fill_87 : decode cX6_fill 87 = .ok (.aload_n 0, 1) := by decide +kernel
theorem dX6_fill_88 : decode cX6_fill 88 = .ok (.getfield 9, 3) := by decide +kernel
theorem dX6_fill_91 : decode cX6_fill 91 = .ok (.arraylength, 1) := by decide +kernel
theorem dX6_fill_92 : decode cX6_fill 92 = .ok (.if_icmp .ge 52, 3) := by decide +kernel
theorem dX6_fill_95 : decode cX6_fill 95 = .ok (.aload_n 0, 1) := by decide +kernel
theorem dX6_fill_96 : decode cX6_fill 96 = .ok (.getfield 9, 3) := by decide +kernel
theorem dX6_fill_99 : decode cX6_fill 99 = .ok (.iload_n 2, 1) := by decide +kernel
theorem dX6_fill_100 : decode cX6_fill 100 = .ok (.aload_n 1, 1) := by decide +kernel
theorem dX6_fill_101 : decode cX6_fill 101 = .ok (.aload_n 0, 1) := by decide +kernel
theorem dX6_fill_102 : decode cX6_fill 102 = .ok (.getfield 19, 3) := by decide +kernel
theorem dX6_fill_105 : decode cX6_fill 105 = .ok (.invokevirtual 49, 3) := by decide +kernel
theorem dX6_fill_108 : decode cX6_fill 108 = .ok (.lastore, 1) := by decide +kernel
theorem dX6_fill_109 : decode cX6_fill 109 = .ok (.aload_n 0, 1) := by decide +kernel
theorem dX6_fill_110 : decode cX6_fill 110 = .ok (.getfield 9, 3) := by decide +kernel
theorem dX6_fill_113 : decode cX6_fill 113 = .ok (.iload_n 2, 1) := by decide +kernel
theorem dX6_fill_114 : decode cX6_fill 114 = .ok (.laload, 1) := by decide +kernel
theorem dX6_fill_115 : decode cX6_fill 115 = .ok (.ldc2_w 53, 3) := by decide +kernel
theorem dX6_fill_118 : decode cX6_fill 118 = .ok (.land, 1) := by decide +kernel
theorem dX6_fill_119 : decode cX6_fill 119 = .ok (.lconst 0, 1) := by decide +kernel
theorem dX6_fill_120 : decode cX6_fill 120 = .ok (.lcmp, 1) := by decide +kernel
theorem dX6_fill_121 : decode cX6_fill 121 = .ok (.ifCond .eq 13, 3) := by decide +kernel
theorem dX6_fill_124 : decode cX6_fill 124 = .ok (.aload_n 0, 1) := by decide +kernel
theorem dX6_fill_125 : decode cX6_fill 125 = .ok (.dup, 1) := by decide +kernel
theorem dX6_fill_126 : decode cX6_fill 126 = .ok (.getfield 40, 3) := by decide +kernel
theorem dX6_fill_129 : decode cX6_fill 129 = .ok (.iconst 1, 1) := by decide +kernel
theorem dX6_fill_130 : decode cX6_fill 130 = .ok (.iadd, 1) := by decide +kernel
theorem dX6_fill_131 : decode cX6_fill 131 = .ok (.putfield 40, 3) := by decide +kernel
theorem dX6_fill_134 : decode cX6_fill 134 = .ok (.aload_n 0, 1) := by decide +kernel
theorem dX6_fill_135 : decode cX6_fill 135 = .ok (.invokevirtual 55, 3) := by decide +kernel
theorem dX6_fill_138 : decode cX6_fill 138 = .ok (.iinc 2 1, 3) := by decide +kernel
theorem dX6_fill_141 : decode cX6_fill 141 = .ok (.goto (-63), 3) := by decide +kernel
theorem dX6_fill_144 : decode cX6_fill 144 = .ok (.return_, 1) := by decide +kernel
theorem dX6_mark_0 : decode cX6_mark 0 = .ok (.iconst 0, 1) := by decide +kernel
theorem dX6_mark_1 : decode cX6_mark 1 = .ok (.istore_n 2, 1) := by decide +kernel
theorem dX6_mark_2 : decode cX6_mark 2 = .ok (.iload_n 2, 1) := by decide +kernel
theorem dX6_mark_3 : decode cX6_mark 3 = .ok (.aload_n 0, 1) := by decide +kernel
theorem dX6_mark_4 : decode cX6_mark 4 = .ok (.getfield 32, 3) := by decide +kernel
theorem dX6_mark_7 : decode cX6_mark 7 = .ok (.if_icmp .ge 22, 3) := by decide +kernel
theorem dX6_mark_10 : decode cX6_mark 10 = .ok (.aload_n 0, 1) := by decide +kernel
theorem dX6_mark_11 : decode cX6_mark 11 = .ok (.getfield 23, 3) := by decide +kernel
theorem dX6_mark_14 : decode cX6_mark 14 = .ok (.iload_n 2, 1) := by decide +kernel
theorem dX6_mark_15 : decode cX6_mark 15 = .ok (.aload_n 1, 1) := by decide +kernel
theorem dX6_mark_16 : decode cX6_mark 16 = .ok (.iload_n 2, 1) := by decide +kernel
theorem dX6_mark_17 : decode cX6_mark 17 = .ok (.invokevirtual 58, 3) := by decide +kernel
theorem dX6_mark_20 : decode cX6_mark 20 = .ok (.invokestatic 64, 3) := by decide +kernel
theorem dX6_mark_23 : decode cX6_mark 23 = .ok (.iinc 2 1, 3) := by decide +kernel
theorem dX6_mark_26 : decode cX6_mark 26 = .ok (.goto (-24), 3) := by decide +kernel
theorem dX6_mark_29 : decode cX6_mark 29 = .ok (.aload_n 0, 1) := by decide +kernel
theorem dX6_mark_30 : decode cX6_mark 30 = .ok (.iconst 0, 1) := by decide +kernel
theorem dX6_mark_31 : decode cX6_mark 31 = .ok (.putfield 68, 3) := by decide +kernel
theorem dX6_mark_34 : decode cX6_mark 34 = .ok (.lconst 0, 1) := by decide +kernel
theorem dX6_mark_35 : decode cX6_mark 35 = .ok (.lstore_n 2, 1) := by decide +kernel
theorem dX6_mark_36 : decode cX6_mark 36 = .ok (.aload_n 0, 1) := by decide +kernel
theorem dX6_mark_37 : decode cX6_mark 37 = .ok (.getfield 19, 3) := by decide +kernel
theorem dX6_mark_40 : decode cX6_mark 40 = .ok (.iconst 0, 1) := by decide +kernel
theorem dX6_mark_41 : decode cX6_mark 41 = .ok (.invokestatic 43, 3) := by decide +kernel
theorem dX6_mark_44 : decode cX6_mark 44 = .ok (.iconst 0, 1) := by decide +kernel
theorem dX6_mark_45 : decode cX6_mark 45 = .ok (.istore 4, 2) := by decide +kernel
theorem dX6_mark_47 : decode cX6_mark 47 = .ok (.iload 4, 2) := by decide +kernel
theorem dX6_mark_49 : decode cX6_mark 49 = .ok (.aload_n 0, 1) := by decide +kernel
theorem dX6_mark_50 : decode cX6_mark 50 = .ok (.getfield 37, 3) := by decide +kernel
theorem dX6_mark_53 : decode cX6_mark 53 = .ok (.if_icmp .ge 86, 3) := by decide +kernel
theorem dX6_mark_56 : decode cX6_mark 56 = .ok (.iload 4, 2) := by decide +kernel
theorem dX6_mark_58 : decode cX6_mark 58 = .ok (.aload_n 0, 1) := by decide +kernel
theorem dX6_mark_59 : decode cX6_mark 59 = .ok (.getfield 9, 3) := by decide +kernel
theorem dX6_mark_62 : decode cX6_mark 62 = .ok (.arraylength, 1) := by decide +kernel
theorem dX6_mark_63 : decode cX6_mark 63 = .ok (.if_icmp .ge 76, 3) := by decide +kernel
theorem dX6_mark_66 : decode cX6_mark 66 = .ok (.aload_n 0, 1) := by decide +kernel
theorem dX6_mark_67 : decode cX6_mark 67 = .ok (.getfield 9, 3) := by decide +kernel
theorem dX6_mark_70 : decode cX6_mark 70 = .ok (.iload 4, 2) := by decide +kernel
theorem dX6_mark_72 : decode cX6_mark 72 = .ok (.laload, 1) := by decide +kernel
theorem dX6_mark_73 : decode cX6_mark 73 = .ok (.ldc2_w 71, 3) := by decide +kernel
theorem dX6_mark_76 : decode cX6_mark 76 = .ok (.land, 1) := by decide +kernel
theorem dX6_mark_77 : decode cX6_mark 77 = .ok (.lstore 5, 2) := by decide +kernel
theorem dX6_mark_79 : decode cX6_mark 79 = .ok (.lload 5, 2) := by decide +kernel
theorem dX6_mark_81 : decode cX6_mark 81 = .ok (.ldc2_w 53, 3) := by decide +kernel
theorem dX6_mark_84 : decode cX6_mark 84 = .ok (.land, 1) := by decide +kernel
theorem dX6_mark_85 : decode cX6_mark 85 = .ok (.lconst 0, 1) := by decide +kernel
theorem dX6_mark_86 : decode cX6_mark 86 = .ok (.lcmp, 1) := by decide +kernel
theorem dX6_mark_87 : decode cX6_mark 87 = .ok (.ifCond .eq 33, 3) := by decide +kernel
theorem dX6_mark_90 : decode cX6_mark 90 = .ok (.aload_n 0, 1) := by decide +kernel
theorem dX6_mark_91 : decode cX6_mark 91 = .ok (.invokevirtual 73, 3) := by decide +kernel
theorem dX6_mark_94 : decode cX6_mark 94 = .ok (.ifCond .eq 26, 3) := by decide +kernel
theorem dX6_mark_97 : decode cX6_mark 97 = .ok (.lload 5, 2) := by decide +kernel
theorem dX6_mark_99 : decode cX6_mark 99 = .ok (.ldc2_w 77, 3) := by decide +kernel
theorem dX6_mark_102 : decode cX6_mark 102 = .ok (.lor, 1) := by decide +kernel
theorem dX6_mark_103 : decode cX6_mark 103 = .ok (.lstore 5, 2) := by decide +kernel
theorem dX6_mark_105 : decode cX6_mark 105 = .ok (.lload_n 2, 1) := by decide +kernel
theorem dX6_mark_106 : decode cX6_mark 106 = .ok (.lload 5, 2) := by decide +kernel
theorem dX6_mark_108 : decode cX6_mark 108 = .ok (.lor, 1) := by decide +kernel
theorem dX6_mark_109 : decode cX6_mark 109 = .ok (.lstore_n 2, 1) := by decide +kernel
theorem dX6_mark_110 : decode cX6_mark 110 = .ok (.aload_n 0, 1) := by decide +kernel
theorem dX6_mark_111 : decode cX6_mark 111 = .ok (.dup, 1) := by decide +kernel
theorem dX6_mark_112 : decode cX6_mark 112 = .ok (.getfield 68, 3) := by decide +kernel
theorem dX6_mark_115 : decode cX6_mark 115 = .ok (.iconst 1, 1) := by decide +kernel
theorem dX6_mark_116 : decode cX6_mark 116 = .ok (.iadd, 1) := by decide +kernel
theorem dX6_mark_117 : decode cX6_mark 117 = .ok (.putfield 68, 3) := by decide +kernel
theorem dX6_mark_120 : decode cX6_mark 120 = .ok (.aload_n 0, 1) := by decide +kernel
theorem dX6_mark_121 : decode cX6_mark 121 = .ok (.getfield 9, 3) := by decide +kernel
theorem dX6_mark_124 : decode cX6_mark 124 = .ok (.iload 4, 2) := by decide +kernel
theorem dX6_mark_126 : decode cX6_mark 126 = .ok (.lload 5, 2) := by decide +kernel
theorem dX6_mark_128 : decode cX6_mark 128 = .ok (.lastore, 1) := by decide +kernel
theorem dX6_mark_129 : decode cX6_mark 129 = .ok (.aload_n 0, 1) := by decide +kernel
theorem dX6_mark_130 : decode cX6_mark 130 = .ok (.invokevirtual 55, 3) := by decide +kernel
theorem dX6_mark_133 : decode cX6_mark 133 = .ok (.iinc 4 1, 3) := by decide +kernel
theorem dX6_mark_136 : decode cX6_mark 136 = .ok (.goto (-89), 3) := by decide +kernel
theorem dX6_mark_139 : decode cX6_mark 139 = .ok (.aload_n 0, 1) := by decide +kernel
theorem dX6_mark_140 : decode cX6_mark 140 = .ok (.lload_n 2, 1) := by decide +kernel
theorem dX6_mark_141 : decode cX6_mark 141 = .ok (.invokestatic 79, 3) := by decide +kernel
theorem dX6_mark_144 : decode cX6_mark 144 = .ok (.putfield 83, 3) := by decide +kernel
theorem dX6_mark_147 : decode cX6_mark 147 = .ok (.aload_n 0, 1) := by decide +kernel
theorem dX6_mark_148 : decode cX6_mark 148 = .ok (.getfield 68, 3) := by decide +kernel
theorem dX6_mark_151 : decode cX6_mark 151 = .ok (.ireturn, 1) := by decide +kernel
theorem dX6_cellAt_0 : decode cX6_cellAt 0 = .ok (.iload_n 1, 1) := by decide +kernel
theorem dX6_cellAt_1 : decode cX6_cellAt 1 = .ok (.ifCond .lt 29, 3) := by decide +kernel
theorem dX6_cellAt_4 : decode cX6_cellAt 4 = .ok (.iload_n 1, 1) := by decide +kernel
theorem dX6_cellAt_5 : decode cX6_cellAt 5 = .ok (.aload_n 0, 1) := by decide +kernel
theorem dX6_cellAt_6 : decode cX6_cellAt 6 = .ok (.getfield 37, 3) := by decide +kernel
theorem dX6_cellAt_9 : decode cX6_cellAt 9 = .ok (.if_icmp .ge 21, 3) := by decide +kernel
theorem dX6_cellAt_12 : decode cX6_cellAt 12 = .ok (.iload_n 1, 1) := by decide +kernel
theorem dX6_cellAt_13 : decode cX6_cellAt 13 = .ok (.aload_n 0, 1) := by decide +kernel
theorem dX6_cellAt_14 : decode cX6_cellAt 14 = .ok (.getfield 9, 3) := by decide +kernel
theorem dX6_cellAt_17 : decode cX6_cellAt 17 = .ok (.arraylength, 1) := by decide +kernel
theorem dX6_cellAt_18 : decode cX6_cellAt 18 = .ok (.if_icmp .ge 12, 3) := by decide +kernel
theorem dX6_cellAt_21 : decode cX6_cellAt 21 = .ok (.aload_n 0, 1) := by decide +kernel
theorem dX6_cellAt_22 : decode cX6_cellAt 22 = .ok (.getfield 9, 3) := by decide +kernel
theorem dX6_cellAt_25 : decode cX6_cellAt 25 = .ok (.iload_n 1, 1) := by decide +kernel
theorem dX6_cellAt_26 : decode cX6_cellAt 26 = .ok (.laload, 1) := by decide +kernel
theorem dX6_cellAt_27 : decode cX6_cellAt 27 = .ok (.goto 4, 3) := by decide +kernel
theorem dX6_cellAt_30 : decode cX6_cellAt 30 = .ok (.lconst 0, 1) := by decide +kernel
theorem dX6_cellAt_31 : decode cX6_cellAt 31 = .ok (.lreturn, 1) := by decide +kernel
theorem dX6_isSure_0 : decode cX6_isSure 0 = .ok (.aload_n 0, 1) := by decide +kernel
theorem dX6_isSure_1 : decode cX6_isSure 1 = .ok (.getfield 83, 3) := by decide +kernel
theorem dX6_isSure_4 : decode cX6_isSure 4 = .ok (.iload_n 1, 1) := by decide +kernel
theorem dX6_isSure_5 : decode cX6_isSure 5 = .ok (.invokestatic 87, 3) := by decide +kernel
theorem dX6_isSure_8 : decode cX6_isSure 8 = .ok (.ifCond .eq 7, 3) := by decide +kernel
theorem dX6_isSure_11 : decode cX6_isSure 11 = .ok (.iconst 1, 1) := by decide +kernel
theorem dX6_isSure_12 : decode cX6_isSure 12 = .ok (.goto 4, 3) := by decide +kernel
theorem dX6_isSure_15 : decode cX6_isSure 15 = .ok (.iconst 0, 1) := by decide +kernel
theorem dX6_isSure_16 : decode cX6_isSure 16 = .ok (.ireturn, 1) := by decide +kernel
theorem dX6_leftCode_0 : decode cX6_leftCode 0 = .ok (.iconst 0, 1) := by decide +kernel
theorem dX6_leftCode_1 : decode cX6_leftCode 1 = .ok (.istore_n 2, 1) := by decide +kernel
theorem dX6_leftCode_2 : decode cX6_leftCode 2 = .ok (.iconst 0, 1) := by decide +kernel
theorem dX6_leftCode_3 : decode cX6_leftCode 3 = .ok (.istore_n 3, 1) := by decide +kernel
theorem dX6_leftCode_4 : decode cX6_leftCode 4 = .ok (.iload_n 3, 1) := by decide +kernel
theorem dX6_leftCode_5 : decode cX6_leftCode 5 = .ok (.aload_n 0, 1) := by decide +kernel
theorem dX6_leftCode_6 : decode cX6_leftCode 6 = .ok (.getfield 37, 3) := by decide +kernel
theorem dX6_leftCode_9 : decode cX6_leftCode 9 = .ok (.if_icmp .ge 33, 3) := by decide +kernel
theorem dX6_leftCode_12 : decode cX6_leftCode 12 = .ok (.aload_n 0, 1) := by decide +kernel
theorem dX6_leftCode_13 : decode cX6_leftCode 13 = .ok (.iload_n 3, 1) := by decide +kernel
theorem dX6_leftCode_14 : decode cX6_leftCode 14 = .ok (.invokevirtual 91, 3) := by decide +kernel
theorem dX6_leftCode_17 : decode cX6_leftCode 17 = .ok (.ldc2_w 77, 3) := by decide +kernel
theorem dX6_leftCode_20 : decode cX6_leftCode 20 = .ok (.land, 1) := by decide +kernel
theorem dX6_leftCode_21 : decode cX6_leftCode 21 = .ok (.lconst 0, 1) := by decide +kernel
theorem dX6_leftCode_22 : decode cX6_leftCode 22 = .ok (.lcmp, 1) := by decide +kernel
theorem dX6_leftCode_23 : decode cX6_leftCode 23 = .ok (.ifCond .eq 13, 3) := by decide +kernel
theorem dX6_leftCode_26 : decode cX6_leftCode 26 = .ok (.iload_n 2, 1) := by decide +kernel
theorem dX6_leftCode_27 : decode cX6_leftCode 27 = .ok (.iload_n 1, 1) := by decide +kernel
theorem dX6_leftCode_28 : decode cX6_leftCode 28 = .ok (.if_icmp .ne 5, 3) := by decide +kernel
theorem dX6_leftCode_31 : decode cX6_leftCode 31 = .ok (.iload_n 3, 1) := by decide +kernel
theorem dX6_leftCode_32 : decode cX6_leftCode 32 = .ok (.ireturn, 1) := by decide +kernel
theorem dX6_leftCode_33 : decode cX6_leftCode 33 = .ok (.iinc 2 1, 3) := by decide +kernel
theorem dX6_leftCode_36 : decode cX6_leftCode 36 = .ok (.iinc 3 1, 3) := by decide +kernel
theorem dX6_leftCode_39 : decode cX6_leftCode 39 = .ok (.goto (-35), 3) := by decide +kernel
theorem dX6_leftCode_42 : decode cX6_leftCode 42 = .ok (.iconst (-1), 1) := by decide +kernel
theorem dX6_leftCode_43 : decode cX6_leftCode 43 = .ok (.ireturn, 1) := by decide +kernel
theorem dX6_countLeft_0 : decode cX6_countLeft 0 = .ok (.iconst 0, 1) := by decide +kernel
theorem dX6_countLeft_1 : decode cX6_countLeft 1 = .ok (.istore_n 3, 1) := by decide +kernel
theorem dX6_countLeft_2 : decode cX6_countLeft 2 = .ok (.iconst 0, 1) := by decide +kernel
theorem dX6_countLeft_3 : decode cX6_countLeft 3 = .ok (.istore 4, 2) := by decide +kernel
theorem dX6_countLeft_5 : decode cX6_countLeft 5 = .ok (.iload 4, 2) := by decide +kernel
theorem dX6_countLeft_7 : decode cX6_countLeft 7 = .ok (.aload_n 0, 1) := by decide +kernel
theorem dX6_countLeft_8 : decode cX6_countLeft 8 = .ok (.getfield 37, 3) := by decide +kernel
theorem dX6_countLeft_11 : decode cX6_countLeft 11 = .ok (.if_icmp .ge 42, 3) := by decide +kernel
theorem dX6_countLeft_14 : decode cX6_countLeft 14 = .ok (.aload_n 0, 1) := by decide +kernel
theorem dX6_countLeft_15 : decode cX6_countLeft 15 = .ok (.iload 4, 2) := by decide +kernel
theorem dX6_countLeft_17 : decode cX6_countLeft 17 = .ok (.invokevirtual 91, 3) := by decide +kernel
theorem dX6_countLeft_20 : decode cX6_countLeft 20 = .ok (.lstore 5, 2) := by decide +kernel
theorem dX6_countLeft_22 : decode cX6_countLeft 22 = .ok (.lload 5, 2) := by decide +kernel
theorem dX6_countLeft_24 : decode cX6_countLeft 24 = .ok (.ldc2_w 77, 3) := by decide +kernel
theorem dX6_countLeft_27 : decode cX6_countLeft 27 = .ok (.land, 1) := by decide +kernel
theorem dX6_countLeft_28 : decode cX6_countLeft 28 = .ok (.lconst 0, 1) := by decide +kernel
theorem dX6_countLeft_29 : decode cX6_countLeft 29 = .ok (.lcmp, 1) := by decide +kernel
theorem dX6_countLeft_30 : decode cX6_countLeft 30 = .ok (.ifCond .eq 17, 3) := by decide +kernel
theorem dX6_countLeft_33 : decode cX6_countLeft 33 = .ok (.lload 5, 2) := by decide +kernel
theorem dX6_countLeft_35 : decode cX6_countLeft 35 = .ok (.iload_n 1, 1) := by decide +kernel
theorem dX6_countLeft_36 : decode cX6_countLeft 36 = .ok (.invokestatic 87, 3) := by decide +kernel
theorem dX6_countLeft_39 : decode cX6_countLeft 39 = .ok (.iload_n 2, 1) := by decide +kernel
theorem dX6_countLeft_40 : decode cX6_countLeft 40 = .ok (.iand, 1) := by decide +kernel
theorem dX6_countLeft_41 : decode cX6_countLeft 41 = .ok (.ifCond .eq 6, 3) := by decide +kernel
theorem dX6_countLeft_44 : decode cX6_countLeft 44 = .ok (.iinc 3 1, 3) := by decide +kernel
theorem dX6_countLeft_47 : decode cX6_countLeft 47 = .ok (.iinc 4 1, 3) := by decide +kernel
theorem dX6_countLeft_50 : decode cX6_countLeft 50 = .ok (.goto (-45), 3) := by decide +kernel
theorem dX6_countLeft_53 : decode cX6_countLeft 53 = .ok (.iload_n 3, 1) := by decide +kernel
theorem dX6_countLeft_54 : decode cX6_countLeft 54 = .ok (.ireturn, 1) := by decide +kernel
theorem dX6_decidedOn_0 : decode cX6_decidedOn 0 = .ok (.aload_n 0, 1) := by decide +kernel
theorem dX6_decidedOn_1 : decode cX6_decidedOn 1 = .ok (.iload_n 2, 1) := by decide +kernel
theorem dX6_decidedOn_2 : decode cX6_decidedOn 2 = .ok (.invokevirtual 91, 3) := by decide +kernel
theorem dX6_decidedOn_5 : decode cX6_decidedOn 5 = .ok (.iload_n 1, 1) := by decide +kernel
theorem dX6_decidedOn_6 : decode cX6_decidedOn 6 = .ok (.invokestatic 87, 3) := by decide +kernel
theorem dX6_decidedOn_9 : decode cX6_decidedOn 9 = .ok (.istore_n 3, 1) := by decide +kernel
theorem dX6_decidedOn_10 : decode cX6_decidedOn 10 = .ok (.iconst 0, 1) := by decide +kernel
theorem dX6_decidedOn_11 : decode cX6_decidedOn 11 = .ok (.istore 4, 2) := by decide +kernel
theorem dX6_decidedOn_13 : decode cX6_decidedOn 13 = .ok (.iconst 0, 1) := by decide +kernel
theorem dX6_decidedOn_14 : decode cX6_decidedOn 14 = .ok (.istore 5, 2) := by decide +kernel
theorem dX6_decidedOn_16 : decode cX6_decidedOn 16 = .ok (.iload 5, 2) := by decide +kernel
theorem dX6_decidedOn_18 : decode cX6_decidedOn 18 = .ok (.aload_n 0, 1) := by decide +kernel
theorem dX6_decidedOn_19 : decode cX6_decidedOn 19 = .ok (.getfield 37, 3) := by decide +kernel
theorem dX6_decidedOn_22 : decode cX6_decidedOn 22 = .ok (.if_icmp .ge 52, 3) := by decide +kernel
theorem dX6_decidedOn_25 : decode cX6_decidedOn 25 = .ok (.aload_n 0, 1) := by decide +kernel
theorem dX6_decidedOn_26 : decode cX6_decidedOn 26 = .ok (.iload 5, 2) := by decide +kernel
theorem dX6_decidedOn_28 : decode cX6_decidedOn 28 = .ok (.invokevirtual 91, 3) := by decide +kernel
theorem dX6_decidedOn_31 : decode cX6_decidedOn 31 = .ok (.lstore 6, 2) := by decide +kernel
theorem dX6_decidedOn_33 : decode cX6_decidedOn 33 = .ok (.lload 6, 2) := by decide +kernel
theorem dX6_decidedOn_35 : decode cX6_decidedOn 35 = .ok (.ldc2_w 53, 3) := by decide +kernel
theorem dX6_decidedOn_38 : decode cX6_decidedOn 38 = .ok (.land, 1) := by decide +kernel
theorem dX6_decidedOn_39 : decode cX6_decidedOn 39 = .ok (.lconst 0, 1) := by decide +kernel
theorem dX6_decidedOn_40 : decode cX6_decidedOn 40 = .ok (.lcmp, 1) := by decide +kernel
theorem dX6_decidedOn_41 : decode cX6_decidedOn 41 = .ok (.ifCond .eq 27, 3) := by decide +kernel
theorem dX6_decidedOn_44 : decode cX6_decidedOn 44 = .ok (.lload 6, 2) := by decide +kernel
theorem dX6_decidedOn_46 : decode cX6_decidedOn 46 = .ok (.iload_n 1, 1) := by decide +kernel
theorem dX6_decidedOn_47 : decode cX6_decidedOn 47 = .ok (.invokestatic 87, 3) := by decide +kernel
theorem dX6_decidedOn_50 : decode cX6_decidedOn 50 = .ok (.iload_n 3, 1) := by decide +kernel
theorem dX6_decidedOn_51 : decode cX6_decidedOn 51 = .ok (.if_icmp .eq 17, 3) := by decide +kernel
theorem dX6_decidedOn_54 : decode cX6_decidedOn 54 = .ok (.iload 4, 2) := by decide +kernel
theorem dX6_decidedOn_56 : decode cX6_decidedOn 56 = .ok (.aload_n 0, 1) := by decide +kernel
theorem dX6_decidedOn_57 : decode cX6_decidedOn 57 = .ok (.iload_n 2, 1) := by decide +kernel
theorem dX6_decidedOn_58 : decode cX6_decidedOn 58 = .ok (.iload 5, 2) := by decide +kernel
theorem dX6_decidedOn_60 : decode cX6_decidedOn 60 = .ok (.invokevirtual 95, 3) := by decide +kernel
theorem dX6_decidedOn_63 : decode cX6_decidedOn 63 = .ok (.invokestatic 98, 3) := by decide +kernel
theorem dX6_decidedOn_66 : decode cX6_decidedOn 66 = .ok (.istore 4, 2) := by decide +kernel
theorem dX6_decidedOn_68 : decode cX6_decidedOn 68 = .ok (.iinc 5 1, 3) := by decide +kernel
theorem dX6_decidedOn_71 : decode cX6_decidedOn 71 = .ok (.goto (-55), 3) := by decide +kernel
theorem dX6_decidedOn_74 : decode cX6_decidedOn 74 = .ok (.iload 4, 2) := by decide +kernel
theorem dX6_decidedOn_76 : decode cX6_decidedOn 76 = .ok (.ireturn, 1) := by decide +kernel
theorem dX6_lastDecided_0 : decode cX6_lastDecided 0 = .ok (.iconst 0, 1) := by decide +kernel
theorem dX6_lastDecided_1 : decode cX6_lastDecided 1 = .ok (.istore_n 2, 1) := by decide +kernel
theorem dX6_lastDecided_2 : decode cX6_lastDecided 2 = .ok (.iload_n 2, 1) := by decide +kernel
theorem dX6_lastDecided_3 : decode cX6_lastDecided 3 = .ok (.aload_n 0, 1) := by decide +kernel
theorem dX6_lastDecided_4 : decode cX6_lastDecided 4 = .ok (.getfield 37, 3) := by decide +kernel
theorem dX6_lastDecided_7 : decode cX6_lastDecided 7 = .ok (.if_icmp .ge 61, 3) := by decide +kernel
theorem dX6_lastDecided_10 : decode cX6_lastDecided 10 = .ok (.aload_n 0, 1) := by decide +kernel
theorem dX6_lastDecided_11 : decode cX6_lastDecided 11 = .ok (.iload_n 2, 1) := by decide +kernel
theorem dX6_lastDecided_12 : decode cX6_lastDecided 12 = .ok (.invokevirtual 91, 3) := by decide +kernel
theorem dX6_lastDecided_15 : decode cX6_lastDecided 15 = .ok (.lstore_n 3, 1) := by decide +kernel
theorem dX6_lastDecided_16 : decode cX6_lastDecided 16 = .ok (.lload_n 3, 1) := by decide +kernel
theorem dX6_lastDecided_17 : decode cX6_lastDecided 17 = .ok (.ldc2_w 53, 3) := by decide +kernel
theorem dX6_lastDecided_20 : decode cX6_lastDecided 20 = .ok (.land, 1) := by decide +kernel
theorem dX6_lastDecided_21 : decode cX6_lastDecided 21 = .ok (.lconst 0, 1) := by decide +kernel
theorem dX6_lastDecided_22 : decode cX6_lastDecided 22 = .ok (.lcmp, 1) := by decide +kernel
theorem dX6_lastDecided_23 : decode cX6_lastDecided 23 = .ok (.ifCond .ne 7, 3) := by decide +kernel
theorem dX6_lastDecided_26 : decode cX6_lastDecided 26 = .ok (.iconst 0, 1) := by decide +kernel
theorem dX6_lastDecided_27 : decode cX6_lastDecided 27 = .ok (.goto 8, 3) := by decide +kernel
theorem dX6_lastDecided_30 : decode cX6_lastDecided 30 = .ok (.lload_n 3, 1) := by decide +kernel
theorem dX6_lastDecided_31 : decode cX6_lastDecided 31 = .ok (.iload_n 1, 1) := by decide +kernel
theorem dX6_lastDecided_32 : decode cX6_lastDecided 32 = .ok (.invokestatic 87, 3) := by decide +kernel
theorem dX6_lastDecided_35 : decode cX6_lastDecided 35 = .ok (.istore 5, 2) := by decide +kernel
theorem dX6_lastDecided_37 : decode cX6_lastDecided 37 = .ok (.aload_n 0, 1) := by decide +kernel
theorem dX6_lastDecided_38 : decode cX6_lastDecided 38 = .ok (.iload_n 2, 1) := by decide +kernel
theorem dX6_lastDecided_39 : decode cX6_lastDecided 39 = .ok (.lload_n 3, 1) := by decide +kernel
theorem dX6_lastDecided_40 : decode cX6_lastDecided 40 = .ok (.ldc2_w 77, 3) := by decide +kernel
theorem dX6_lastDecided_43 : decode cX6_lastDecided 43 = .ok (.land, 1) := by decide +kernel
theorem dX6_lastDecided_44 : decode cX6_lastDecided 44 = .ok (.lconst 0, 1) := by decide +kernel
theorem dX6_lastDecided_45 : decode cX6_lastDecided 45 = .ok (.lcmp, 1) := by decide +kernel
theorem dX6_lastDecided_46 : decode cX6_lastDecided 46 = .ok (.ifCond .ne 8, 3) := by decide +kernel
theorem dX6_lastDecided_49 : decode cX6_lastDecided 49 = .ok (.iload 5, 2) := by decide +kernel
theorem dX6_lastDecided_51 : decode cX6_lastDecided 51 = .ok (.goto 8, 3) := by decide +kernel
theorem dX6_lastDecided_54 : decode cX6_lastDecided 54 = .ok (.iload 5, 2) := by decide +kernel
theorem dX6_lastDecided_56 : decode cX6_lastDecided 56 = .ok (.bipush 32, 2) := by decide +kernel
theorem dX6_lastDecided_58 : decode cX6_lastDecided 58 = .ok (.ior, 1) := by decide +kernel
theorem dX6_lastDecided_59 : decode cX6_lastDecided 59 = .ok (.invokevirtual 103, 3) := by decide +kernel
theorem dX6_lastDecided_62 : decode cX6_lastDecided 62 = .ok (.iinc 2 1, 3) := by decide +kernel
theorem dX6_lastDecided_65 : decode cX6_lastDecided 65 = .ok (.goto (-63), 3) := by decide +kernel
theorem dX6_lastDecided_68 : decode cX6_lastDecided 68 = .ok (.bipush 7, 2) := by decide +kernel
theorem dX6_lastDecided_70 : decode cX6_lastDecided 70 = .ok (.istore_n 2, 1) := by decide +kernel
theorem dX6_lastDecided_71 : decode cX6_lastDecided 71 = .ok (.iload_n 2, 1) := by decide +kernel
theorem dX6_lastDecided_72 : decode cX6_lastDecided 72 = .ok (.ifCond .le 19, 3) := by decide +kernel
theorem dX6_lastDecided_75 : decode cX6_lastDecided 75 = .ok (.aload_n 0, 1) := by decide +kernel
theorem dX6_lastDecided_76 : decode cX6_lastDecided 76 = .ok (.iload_n 2, 1) := by decide +kernel
theorem dX6_lastDecided_77 : decode cX6_lastDecided 77 = .ok (.invokevirtual 107, 3) := by decide +kernel
theorem dX6_lastDecided_80 : decode cX6_lastDecided 80 = .ok (.ifCond .ne 5, 3) := by decide +kernel
theorem dX6_lastDecided_83 : decode cX6_lastDecided 83 = .ok (.iload_n 2, 1) := by decide +kernel
theorem dX6_lastDecided_84 : decode cX6_lastDecided 84 = .ok (.ireturn, 1) := by decide +kernel
theorem dX6_lastDecided_85 : decode cX6_lastDecided 85 = .ok (.iinc 2 (-1), 3) := by decide +kernel
theorem dX6_lastDecided_88 : decode cX6_lastDecided 88 = .ok (.goto (-17), 3) := by decide +kernel
theorem dX6_lastDecided_91 : decode cX6_lastDecided 91 = .ok (.iconst 0, 1) := by decide +kernel
theorem dX6_lastDecided_92 : decode cX6_lastDecided 92 = .ok (.ireturn, 1) := by decide +kernel
theorem dX6_hangingOn_0 : decode cX6_hangingOn 0 = .ok (.iconst 0, 1) := by decide +kernel
theorem dX6_hangingOn_1 : decode cX6_hangingOn 1 = .ok (.istore_n 2, 1) := by decide +kernel
theorem dX6_hangingOn_2 : decode cX6_hangingOn 2 = .ok (.iload_n 2, 1) := by decide +kernel
theorem dX6_hangingOn_3 : decode cX6_hangingOn 3 = .ok (.aload_n 0, 1) := by decide +kernel
theorem dX6_hangingOn_4 : decode cX6_hangingOn 4 = .ok (.getfield 37, 3) := by decide +kernel
theorem dX6_hangingOn_7 : decode cX6_hangingOn 7 = .ok (.if_icmp .ge 39, 3) := by decide +kernel
theorem dX6_hangingOn_10 : decode cX6_hangingOn 10 = .ok (.aload_n 0, 1) := by decide +kernel
theorem dX6_hangingOn_11 : decode cX6_hangingOn 11 = .ok (.iload_n 2, 1) := by decide +kernel
theorem dX6_hangingOn_12 : decode cX6_hangingOn 12 = .ok (.invokevirtual 91, 3) := by decide +kernel
theorem dX6_hangingOn_15 : decode cX6_hangingOn 15 = .ok (.lstore_n 3, 1) := by decide +kernel
theorem dX6_hangingOn_16 : decode cX6_hangingOn 16 = .ok (.aload_n 0, 1) := by decide +kernel
theorem dX6_hangingOn_17 : decode cX6_hangingOn 17 = .ok (.iload_n 2, 1) := by decide +kernel
theorem dX6_hangingOn_18 : decode cX6_hangingOn 18 = .ok (.lload_n 3, 1) := by decide +kernel
theorem dX6_hangingOn_19 : decode cX6_hangingOn 19 = .ok (.ldc2_w 77, 3) := by decide +kernel
theorem dX6_hangingOn_22 : decode cX6_hangingOn 22 = .ok (.land, 1) := by decide +kernel
theorem dX6_hangingOn_23 : decode cX6_hangingOn 23 = .ok (.lconst 0, 1) := by decide +kernel
theorem dX6_hangingOn_24 : decode cX6_hangingOn 24 = .ok (.lcmp, 1) := by decide +kernel
theorem dX6_hangingOn_25 : decode cX6_hangingOn 25 = .ok (.ifCond .ne 7, 3) := by decide +kernel
theorem dX6_hangingOn_28 : decode cX6_hangingOn 28 = .ok (.iconst 0, 1) := by decide +kernel
theorem dX6_hangingOn_29 : decode cX6_hangingOn 29 = .ok (.goto 8, 3) := by decide +kernel
theorem dX6_hangingOn_32 : decode cX6_hangingOn 32 = .ok (.lload_n 3, 1) := by decide +kernel
theorem dX6_hangingOn_33 : decode cX6_hangingOn 33 = .ok (.iload_n 1, 1) := by decide +kernel
theorem dX6_hangingOn_34 : decode cX6_hangingOn 34 = .ok (.invokestatic 87, 3) := by decide +kernel
theorem dX6_hangingOn_37 : decode cX6_hangingOn 37 = .ok (.invokevirtual 103, 3) := by decide +kernel
theorem dX6_hangingOn_40 : decode cX6_hangingOn 40 = .ok (.iinc 2 1, 3) := by decide +kernel
theorem dX6_hangingOn_43 : decode cX6_hangingOn 43 = .ok (.goto (-41), 3) := by decide +kernel
theorem dX6_hangingOn_46 : decode cX6_hangingOn 46 = .ok (.aload_n 0, 1) := by decide +kernel
theorem dX6_hangingOn_47 : decode cX6_hangingOn 47 = .ok (.iconst 0, 1) := by decide +kernel
theorem dX6_hangingOn_48 : decode cX6_hangingOn 48 = .ok (.aload_n 0, 1) := by decide +kernel
theorem dX6_hangingOn_49 : decode cX6_hangingOn 49 = .ok (.getfield 37, 3) := by decide +kernel
theorem dX6_hangingOn_52 : decode cX6_hangingOn 52 = .ok (.iconst 0, 1) := by decide +kernel
theorem dX6_hangingOn_53 : decode cX6_hangingOn 53 = .ok (.iconst 1, 1) := by decide +kernel
theorem dX6_hangingOn_54 : decode cX6_hangingOn 54 = .ok (.aload_n 0, 1) := by decide +kernel
theorem dX6_hangingOn_55 : decode cX6_hangingOn 55 = .ok (.getfield 32, 3) := by decide +kernel
theorem dX6_hangingOn_58 : decode cX6_hangingOn 58 = .ok (.ishl, 1) := by decide +kernel
theorem dX6_hangingOn_59 : decode cX6_hangingOn 59 = .ok (.iconst 1, 1) := by decide +kernel
theorem dX6_hangingOn_60 : decode cX6_hangingOn 60 = .ok (.isub, 1) := by decide +kernel
theorem dX6_hangingOn_61 : decode cX6_hangingOn 61 = .ok (.invokestatic 111, 3) := by decide +kernel
theorem dX6_hangingOn_64 : decode cX6_hangingOn 64 = .ok (.ireturn, 1) := by decide +kernel
theorem dX6_fewestThings_0 : decode cX6_fewestThings 0 = .ok (.iload 4, 2) := by decide +kernel
theorem dX6_fewestThings_2 : decode cX6_fewestThings 2 = .ok (.istore 5, 2) := by decide +kernel
theorem dX6_fewestThings_4 : decode cX6_fewestThings 4 = .ok (.aload_n 0, 1) := by decide +kernel
theorem dX6_fewestThings_5 : decode cX6_fewestThings 5 = .ok (.getfield 32, 3) := by decide +kernel
theorem dX6_fewestThings_8 : decode cX6_fewestThings 8 = .ok (.iload 4, 2) := by decide +kernel
theorem dX6_fewestThings_10 : decode cX6_fewestThings 10 = .ok (.invokestatic 115, 3) := by decide +kernel
theorem dX6_fewestThings_13 : decode cX6_fewestThings 13 = .ok (.isub, 1) := by decide +kernel
theorem dX6_fewestThings_14 : decode cX6_fewestThings 14 = .ok (.istore 6, 2) := by decide +kernel
theorem dX6_fewestThings_16 : decode cX6_fewestThings 16 = .ok (.iload_n 3, 1) := by decide +kernel
theorem dX6_fewestThings_17 : decode cX6_fewestThings 17 = .ok (.istore 7, 2) := by decide +kernel
theorem dX6_fewestThings_19 : decode cX6_fewestThings 19 = .ok (.iload 7, 2) := by decide +kernel
theorem dX6_fewestThings_21 : decode cX6_fewestThings 21 = .ok (.aload_n 0, 1) := by decide +kernel
theorem dX6_fewestThings_22 : decode cX6_fewestThings 22 = .ok (.getfield 32, 3) := by decide +kernel
theorem dX6_fewestThings_25 : decode cX6_fewestThings 25 = .ok (.if_icmp .ge 69, 3) := by decide +kernel
theorem dX6_fewestThings_28 : decode cX6_fewestThings 28 = .ok (.iload 7, 2) := by decide +kernel
theorem dX6_fewestThings_30 : decode cX6_fewestThings 30 = .ok (.iconst 5, 1) := by decide +kernel
theorem dX6_fewestThings_31 : decode cX6_fewestThings 31 = .ok (.if_icmp .ge 63, 3) := by decide +kernel
theorem dX6_fewestThings_34 : decode cX6_fewestThings 34 = .ok (.aload_n 0, 1) := by decide +kernel
theorem dX6_fewestThings_35 : decode cX6_fewestThings 35 = .ok (.iload_n 1, 1) := by decide +kernel
theorem dX6_fewestThings_36 : decode cX6_fewestThings 36 = .ok (.iload_n 2, 1) := by decide +kernel
theorem dX6_fewestThings_37 : decode cX6_fewestThings 37 = .ok (.bipush 9, 2) := by decide +kernel
theorem dX6_fewestThings_39 : decode cX6_fewestThings 39 = .ok (.iload 7, 2) := by decide +kernel
theorem dX6_fewestThings_41 : decode cX6_fewestThings 41 = .ok (.iload 6, 2) := by decide +kernel
theorem dX6_fewestThings_43 : decode cX6_fewestThings 43 = .ok (.isub, 1) := by decide +kernel
theorem dX6_fewestThings_44 : decode cX6_fewestThings 44 = .ok (.invokestatic 33, 3) := by decide +kernel
theorem dX6_fewestThings_47 : decode cX6_fewestThings 47 = .ok (.invokevirtual 120, 3) := by decide +kernel
theorem dX6_fewestThings_50 : decode cX6_fewestThings 50 = .ok (.ifCond .eq 38, 3) := by decide +kernel
theorem dX6_fewestThings_53 : decode cX6_fewestThings 53 = .ok (.iload 4, 2) := by decide +kernel
theorem dX6_fewestThings_55 : decode cX6_fewestThings 55 = .ok (.iconst 1, 1) := by decide +kernel
theorem dX6_fewestThings_56 : decode cX6_fewestThings 56 = .ok (.iload 7, 2) := by decide +kernel
theorem dX6_fewestThings_58 : decode cX6_fewestThings 58 = .ok (.ishl, 1) := by decide +kernel
theorem dX6_fewestThings_59 : decode cX6_fewestThings 59 = .ok (.iconst (-1), 1) := by decide +kernel
theorem dX6_fewestThings_60 : decode cX6_fewestThings 60 = .ok (.ixor, 1) := by decide +kernel
theorem dX6_fewestThings_61 : decode cX6_fewestThings 61 = .ok (.iand, 1) := by decide +kernel
theorem dX6_fewestThings_62 : decode cX6_fewestThings 62 = .ok (.istore 8, 2) := by decide +kernel
theorem dX6_fewestThings_64 : decode cX6_fewestThings 64 = .ok (.iload 5, 2) := by decide +kernel
theorem dX6_fewestThings_66 : decode cX6_fewestThings 66 = .ok (.aload_n 0, 1) := by decide +kernel
theorem dX6_fewestThings_67 : decode cX6_fewestThings 67 = .ok (.iload_n 1, 1) := by decide +kernel
theorem dX6_fewestThings_68 : decode cX6_fewestThings 68 = .ok (.iload_n 2, 1) := by decide +kernel
theorem dX6_fewestThings_69 : decode cX6_fewestThings 69 = .ok (.iadd, 1) := by decide +kernel
theorem dX6_fewestThings_70 : decode cX6_fewestThings 70 = .ok (.iload_n 2, 1) := by decide +kernel
theorem dX6_fewestThings_71 : decode cX6_fewestThings 71 = .ok (.bipush 9, 2) := by decide +kernel
theorem dX6_fewestThings_73 : decode cX6_fewestThings 73 = .ok (.idiv, 1) := by decide +kernel
theorem dX6_fewestThings_74 : decode cX6_fewestThings 74 = .ok (.iload 7, 2) := by decide +kernel
theorem dX6_fewestThings_76 : decode cX6_fewestThings 76 = .ok (.iconst 1, 1) := by decide +kernel
theorem dX6_fewestThings_77 : decode cX6_fewestThings 77 = .ok (.iadd, 1) := by decide +kernel
theorem dX6_fewestThings_78 : decode cX6_fewestThings 78 = .ok (.iload 8, 2) := by decide +kernel
theorem dX6_fewestThings_80 : decode cX6_fewestThings 80 = .ok (.invokestatic 111, 3) := by decide +kernel
theorem dX6_fewestThings_83 : decode cX6_fewestThings 83 = .ok (.invokestatic 124, 3) := by decide +kernel
theorem dX6_fewestThings_86 : decode cX6_fewestThings 86 = .ok (.istore 5, 2) := by decide +kernel
theorem dX6_fewestThings_88 : decode cX6_fewestThings 88 = .ok (.iinc 7 1, 3) := by decide +kernel
theorem dX6_fewestThings_91 : decode cX6_fewestThings 91 = .ok (.goto (-72), 3) := by decide +kernel
theorem dX6_fewestThings_94 : decode cX6_fewestThings 94 = .ok (.iload 5, 2) := by decide +kernel
theorem dX6_fewestThings_96 : decode cX6_fewestThings 96 = .ok (.ireturn, 1) := by decide +kernel
theorem dX6_fewer_0 : decode cX6_fewer 0 = .ok (.iload_n 0, 1) := by decide +kernel
theorem dX6_fewer_1 : decode cX6_fewer 1 = .ok (.invokestatic 115, 3) := by decide +kernel
theorem dX6_fewer_4 : decode cX6_fewer 4 = .ok (.iload_n 1, 1) := by decide +kernel
theorem dX6_fewer_5 : decode cX6_fewer 5 = .ok (.invokestatic 115, 3) := by decide +kernel
theorem dX6_fewer_8 : decode cX6_fewer 8 = .ok (.invokestatic 127, 3) := by decide +kernel
theorem dX6_fewer_11 : decode cX6_fewer 11 = .ok (.istore_n 2, 1) := by decide +kernel
theorem dX6_fewer_12 : decode cX6_fewer 12 = .ok (.iload_n 2, 1) := by decide +kernel
theorem dX6_fewer_13 : decode cX6_fewer 13 = .ok (.ifCond .ne 9, 3) := by decide +kernel
theorem dX6_fewer_16 : decode cX6_fewer 16 = .ok (.iload_n 0, 1) := by decide +kernel
theorem dX6_fewer_17 : decode cX6_fewer 17 = .ok (.iload_n 1, 1) := by decide +kernel
theorem dX6_fewer_18 : decode cX6_fewer 18 = .ok (.invokestatic 130, 3) := by decide +kernel
theorem dX6_fewer_21 : decode cX6_fewer 21 = .ok (.ireturn, 1) := by decide +kernel
theorem dX6_fewer_22 : decode cX6_fewer 22 = .ok (.iload_n 2, 1) := by decide +kernel
theorem dX6_fewer_23 : decode cX6_fewer 23 = .ok (.ifCond .ge 7, 3) := by decide +kernel
theorem dX6_fewer_26 : decode cX6_fewer 26 = .ok (.iload_n 0, 1) := by decide +kernel
theorem dX6_fewer_27 : decode cX6_fewer 27 = .ok (.goto 4, 3) := by decide +kernel
theorem dX6_fewer_30 : decode cX6_fewer 30 = .ok (.iload_n 1, 1) := by decide +kernel
theorem dX6_fewer_31 : decode cX6_fewer 31 = .ok (.ireturn, 1) := by decide +kernel
theorem dX6_dropThing_0 : decode cX6_dropThing 0 = .ok (.iload_n 3, 1) := by decide +kernel
theorem dX6_dropThing_1 : decode cX6_dropThing 1 = .ok (.ifCond .le 12, 3) := by decide +kernel
theorem dX6_dropThing_4 : decode cX6_dropThing 4 = .ok (.iload_n 2, 1) := by decide +kernel
theorem dX6_dropThing_5 : decode cX6_dropThing 5 = .ok (.bipush 9, 2) := by decide +kernel
theorem dX6_dropThing_7 : decode cX6_dropThing 7 = .ok (.iload_n 3, 1) := by decide +kernel
theorem dX6_dropThing_8 : decode cX6_dropThing 8 = .ok (.imul, 1) := by decide +kernel
theorem dX6_dropThing_9 : decode cX6_dropThing 9 = .ok (.idiv, 1) := by decide +kernel
theorem dX6_dropThing_10 : decode cX6_dropThing 10 = .ok (.goto 4, 3) := by decide +kernel
theorem dX6_dropThing_13 : decode cX6_dropThing 13 = .ok (.iconst 0, 1) := by decide +kernel
theorem dX6_dropThing_14 : decode cX6_dropThing 14 = .ok (.istore 4, 2) := by decide +kernel
theorem dX6_dropThing_16 : decode cX6_dropThing 16 = .ok (.iconst 0, 1) := by decide +kernel
theorem dX6_dropThing_17 : decode cX6_dropThing 17 = .ok (.istore 5, 2) := by decide +kernel
theorem dX6_dropThing_19 : decode cX6_dropThing 19 = .ok (.iload 5, 2) := by decide +kernel
theorem dX6_dropThing_21 : decode cX6_dropThing 21 = .ok (.iload 4, 2) := by decide +kernel
theorem dX6_dropThing_23 : decode cX6_dropThing 23 = .ok (.if_icmp .ge 94, 3) := by decide +kernel
theorem dX6_dropThing_26 : decode cX6_dropThing 26 = .ok (.iconst 0, 1) := by decide +kernel
theorem dX6_dropThing_27 : decode cX6_dropThing 27 = .ok (.istore 6, 2) := by decide +kernel
theorem dX6_dropThing_29 : decode cX6_dropThing 29 = .ok (.iload 6, 2) := by decide +kernel
theorem dX6_dropThing_31 : decode cX6_dropThing 31 = .ok (.iload_n 3, 1) := by decide +kernel
theorem dX6_dropThing_32 : decode cX6_dropThing 32 = .ok (.if_icmp .ge 79, 3) := by decide +kernel
theorem dX6_dropThing_35 : decode cX6_dropThing 35 = .ok (.iconst 0, 1) := by decide +kernel
theorem dX6_dropThing_36 : decode cX6_dropThing 36 = .ok (.istore 7, 2) := by decide +kernel
theorem dX6_dropThing_38 : decode cX6_dropThing 38 = .ok (.iconst 0, 1) := by decide +kernel
theorem dX6_dropThing_39 : decode cX6_dropThing 39 = .ok (.istore 8, 2) := by decide +kernel
theorem dX6_dropThing_41 : decode cX6_dropThing 41 = .ok (.iload 8, 2) := by decide +kernel
theorem dX6_dropThing_43 : decode cX6_dropThing 43 = .ok (.bipush 9, 2) := by decide +kernel
theorem dX6_dropThing_45 : decode cX6_dropThing 45 = .ok (.if_icmp .ge 33, 3) := by decide +kernel
theorem dX6_dropThing_48 : decode cX6_dropThing 48 = .ok (.iload 7, 2) := by decide +kernel
theorem dX6_dropThing_50 : decode cX6_dropThing 50 = .ok (.aload_n 0, 1) := by decide +kernel
theorem dX6_dropThing_51 : decode cX6_dropThing 51 = .ok (.iload_n 1, 1) := by decide +kernel
theorem dX6_dropThing_52 : decode cX6_dropThing 52 = .ok (.iload 5, 2) := by decide +kernel
theorem dX6_dropThing_54 : decode cX6_dropThing 54 = .ok (.bipush 9, 2) := by decide +kernel
theorem dX6_dropThing_56 : decode cX6_dropThing 56 = .ok (.imul, 1) := by decide +kernel
theorem dX6_dropThing_57 : decode cX6_dropThing 57 = .ok (.iload 8, 2) := by decide +kernel
theorem dX6_dropThing_59 : decode cX6_dropThing 59 = .ok (.iadd, 1) := by decide +kernel
theorem dX6_dropThing_60 : decode cX6_dropThing 60 = .ok (.iload_n 3, 1) := by decide +kernel
theorem dX6_dropThing_61 : decode cX6_dropThing 61 = .ok (.imul, 1) := by decide +kernel
theorem dX6_dropThing_62 : decode cX6_dropThing 62 = .ok (.iadd, 1) := by decide +kernel
theorem dX6_dropThing_63 : decode cX6_dropThing 63 = .ok (.iload 6, 2) := by decide +kernel
theorem dX6_dropThing_65 : decode cX6_dropThing 65 = .ok (.iadd, 1) := by decide +kernel
theorem dX6_dropThing_66 : decode cX6_dropThing 66 = .ok (.invokevirtual 133, 3) := by decide +kernel
theorem dX6_dropThing_69 : decode cX6_dropThing 69 = .ok (.ior, 1) := by decide +kernel
theorem dX6_dropThing_70 : decode cX6_dropThing 70 = .ok (.istore 7, 2) := by decide +kernel
theorem dX6_dropThing_72 : decode cX6_dropThing 72 = .ok (.iinc 8 1, 3) := by decide +kernel
theorem dX6_dropThing_75 : decode cX6_dropThing 75 = .ok (.goto (-34), 3) := by decide +kernel
theorem dX6_dropThing_78 : decode cX6_dropThing 78 = .ok (.iload 7, 2) := by decide +kernel
theorem dX6_dropThing_80 : decode cX6_dropThing 80 = .ok (.invokestatic 136, 3) := by decide +kernel
theorem dX6_dropThing_83 : decode cX6_dropThing 83 = .ok (.ifCond .eq 5, 3) := by decide +kernel
theorem dX6_dropThing_86 : decode cX6_dropThing 86 = .ok (.iconst 0, 1) := by decide +kernel
theorem dX6_dropThing_87 : decode cX6_dropThing 87 = .ok (.ireturn, 1) := by decide +kernel
theorem dX6_dropThing_88 : decode cX6_dropThing 88 = .ok (.aload_n 0, 1) := by decide +kernel
theorem dX6_dropThing_89 : decode cX6_dropThing 89 = .ok (.iload_n 1, 1) := by decide +kernel
theorem dX6_dropThing_90 : decode cX6_dropThing 90 = .ok (.iload_n 2, 1) := by decide +kernel
theorem dX6_dropThing_91 : decode cX6_dropThing 91 = .ok (.iadd, 1) := by decide +kernel
theorem dX6_dropThing_92 : decode cX6_dropThing 92 = .ok (.iload 5, 2) := by decide +kernel
theorem dX6_dropThing_94 : decode cX6_dropThing 94 = .ok (.iload_n 3, 1) := by decide +kernel
theorem dX6_dropThing_95 : decode cX6_dropThing 95 = .ok (.imul, 1) := by decide +kernel
theorem dX6_dropThing_96 : decode cX6_dropThing 96 = .ok (.iadd, 1) := by decide +kernel
theorem dX6_dropThing_97 : decode cX6_dropThing 97 = .ok (.iload 6, 2) := by decide +kernel
theorem dX6_dropThing_99 : decode cX6_dropThing 99 = .ok (.iadd, 1) := by decide +kernel
theorem dX6_dropThing_100 : decode cX6_dropThing 100 = .ok (.iload 7, 2) := by decide +kernel
theorem dX6_dropThing_102 : decode cX6_dropThing 102 = .ok (.invokevirtual 103, 3) := by decide +kernel
theorem dX6_dropThing_105 : decode cX6_dropThing 105 = .ok (.iinc 6 1, 3) := by decide +kernel
theorem dX6_dropThing_108 : decode cX6_dropThing 108 = .ok (.goto (-79), 3) := by decide +kernel
theorem dX6_dropThing_111 : decode cX6_dropThing 111 = .ok (.iinc 5 1, 3) := by decide +kernel
theorem dX6_dropThing_114 : decode cX6_dropThing 114 = .ok (.goto (-95), 3) := by decide +kernel
theorem dX6_dropThing_117 : decode cX6_dropThing 117 = .ok (.iconst 1, 1) := by decide +kernel
theorem dX6_dropThing_118 : decode cX6_dropThing 118 = .ok (.ireturn, 1) := by decide +kernel
theorem dX6_forgetDay_0 : decode cX6_forgetDay 0 = .ok (.iconst 1, 1) := by decide +kernel
theorem dX6_forgetDay_1 : decode cX6_forgetDay 1 = .ok (.istore_n 2, 1) := by decide +kernel
theorem dX6_forgetDay_2 : decode cX6_forgetDay 2 = .ok (.iconst 0, 1) := by decide +kernel
theorem dX6_forgetDay_3 : decode cX6_forgetDay 3 = .ok (.istore_n 3, 1) := by decide +kernel
theorem dX6_forgetDay_4 : decode cX6_forgetDay 4 = .ok (.iload_n 3, 1) := by decide +kernel
theorem dX6_forgetDay_5 : decode cX6_forgetDay 5 = .ok (.aload_n 0, 1) := by decide +kernel
theorem dX6_forgetDay_6 : decode cX6_forgetDay 6 = .ok (.getfield 32, 3) := by decide +kernel
theorem dX6_forgetDay_9 : decode cX6_forgetDay 9 = .ok (.if_icmp .ge 51, 3) := by decide +kernel
theorem dX6_forgetDay_12 : decode cX6_forgetDay 12 = .ok (.iconst 0, 1) := by decide +kernel
theorem dX6_forgetDay_13 : decode cX6_forgetDay 13 = .ok (.istore 4, 2) := by decide +kernel
theorem dX6_forgetDay_15 : decode cX6_forgetDay 15 = .ok (.iload 4, 2) := by decide +kernel
theorem dX6_forgetDay_17 : decode cX6_forgetDay 17 = .ok (.aload_n 0, 1) := by decide +kernel
theorem dX6_forgetDay_18 : decode cX6_forgetDay 18 = .ok (.getfield 37, 3) := by decide +kernel
theorem dX6_forgetDay_21 : decode cX6_forgetDay 21 = .ok (.if_icmp .ge 28, 3) := by decide +kernel
theorem dX6_forgetDay_24 : decode cX6_forgetDay 24 = .ok (.aload_n 0, 1) := by decide +kernel
theorem dX6_forgetDay_25 : decode cX6_forgetDay 25 = .ok (.iload 4, 2) := by decide +kernel
theorem dX6_forgetDay_27 : decode cX6_forgetDay 27 = .ok (.iload_n 2, 1) := by decide +kernel
theorem dX6_forgetDay_28 : decode cX6_forgetDay 28 = .ok (.iload_n 1, 1) := by decide +kernel
theorem dX6_forgetDay_29 : decode cX6_forgetDay 29 = .ok (.invokevirtual 139, 3) := by decide +kernel
theorem dX6_forgetDay_32 : decode cX6_forgetDay 32 = .ok (.ifCond .ne 5, 3) := by decide +kernel
theorem dX6_forgetDay_35 : decode cX6_forgetDay 35 = .ok (.iconst 0, 1) := by decide +kernel
theorem dX6_forgetDay_36 : decode cX6_forgetDay 36 = .ok (.ireturn, 1) := by decide +kernel
theorem dX6_forgetDay_37 : decode cX6_forgetDay 37 = .ok (.iload 4, 2) := by decide +kernel
theorem dX6_forgetDay_39 : decode cX6_forgetDay 39 = .ok (.bipush 9, 2) := by decide +kernel
theorem dX6_forgetDay_41 : decode cX6_forgetDay 41 = .ok (.iload_n 2, 1) := by decide +kernel
theorem dX6_forgetDay_42 : decode cX6_forgetDay 42 = .ok (.imul, 1) := by decide +kernel
theorem dX6_forgetDay_43 : decode cX6_forgetDay 43 = .ok (.iadd, 1) := by decide +kernel
theorem dX6_forgetDay_44 : decode cX6_forgetDay 44 = .ok (.istore 4, 2) := by decide +kernel
theorem dX6_forgetDay_46 : decode cX6_forgetDay 46 = .ok (.goto (-31), 3) := by decide +kernel
theorem dX6_forgetDay_49 : decode cX6_forgetDay 49 = .ok (.iload_n 2, 1) := by decide +kernel
theorem dX6_forgetDay_50 : decode cX6_forgetDay 50 = .ok (.bipush 9, 2) := by decide +kernel
theorem dX6_forgetDay_52 : decode cX6_forgetDay 52 = .ok (.imul, 1) := by decide +kernel
theorem dX6_forgetDay_53 : decode cX6_forgetDay 53 = .ok (.istore_n 2, 1) := by decide +kernel
theorem dX6_forgetDay_54 : decode cX6_forgetDay 54 = .ok (.iinc 3 1, 3) := by decide +kernel
theorem dX6_forgetDay_57 : decode cX6_forgetDay 57 = .ok (.goto (-53), 3) := by decide +kernel
theorem dX6_forgetDay_60 : decode cX6_forgetDay 60 = .ok (.iconst 1, 1) := by decide +kernel
theorem dX6_forgetDay_61 : decode cX6_forgetDay 61 = .ok (.ireturn, 1) := by decide +kernel
theorem dX6_joinDay_0 : decode cX6_joinDay 0 = .ok (.iload_n 1, 1) := by decide +kernel
theorem dX6_joinDay_1 : decode cX6_joinDay 1 = .ok (.istore 4, 2) := by decide +kernel
theorem dX6_joinDay_3 : decode cX6_joinDay 3 = .ok (.iload 4, 2) := by decide +kernel
theorem dX6_joinDay_5 : decode cX6_joinDay 5 = .ok (.iload_n 1, 1) := by decide +kernel
theorem dX6_joinDay_6 : decode cX6_joinDay 6 = .ok (.iload_n 2, 1) := by decide +kernel
theorem dX6_joinDay_7 : decode cX6_joinDay 7 = .ok (.iadd, 1) := by decide +kernel
theorem dX6_joinDay_8 : decode cX6_joinDay 8 = .ok (.if_icmp .ge 59, 3) := by decide +kernel
theorem dX6_joinDay_11 : decode cX6_joinDay 11 = .ok (.aload_n 0, 1) := by decide +kernel
theorem dX6_joinDay_12 : decode cX6_joinDay 12 = .ok (.iload 4, 2) := by decide +kernel
theorem dX6_joinDay_14 : decode cX6_joinDay 14 = .ok (.invokevirtual 133, 3) := by decide +kernel
theorem dX6_joinDay_17 : decode cX6_joinDay 17 = .ok (.aload_n 0, 1) := by decide +kernel
theorem dX6_joinDay_18 : decode cX6_joinDay 18 = .ok (.iload 4, 2) := by decide +kernel
theorem dX6_joinDay_20 : decode cX6_joinDay 20 = .ok (.iload_n 3, 1) := by decide +kernel
theorem dX6_joinDay_21 : decode cX6_joinDay 21 = .ok (.iconst 1, 1) := by decide +kernel
theorem dX6_joinDay_22 : decode cX6_joinDay 22 = .ok (.iadd, 1) := by decide +kernel
theorem dX6_joinDay_23 : decode cX6_joinDay 23 = .ok (.iload_n 2, 1) := by decide +kernel
theorem dX6_joinDay_24 : decode cX6_joinDay 24 = .ok (.imul, 1) := by decide +kernel
theorem dX6_joinDay_25 : decode cX6_joinDay 25 = .ok (.iadd, 1) := by decide +kernel
theorem dX6_joinDay_26 : decode cX6_joinDay 26 = .ok (.invokevirtual 133, 3) := by decide +kernel
theorem dX6_joinDay_29 : decode cX6_joinDay 29 = .ok (.ior, 1) := by decide +kernel
theorem dX6_joinDay_30 : decode cX6_joinDay 30 = .ok (.istore 5, 2) := by decide +kernel
theorem dX6_joinDay_32 : decode cX6_joinDay 32 = .ok (.iload 5, 2) := by decide +kernel
theorem dX6_joinDay_34 : decode cX6_joinDay 34 = .ok (.bipush 32, 2) := by decide +kernel
theorem dX6_joinDay_36 : decode cX6_joinDay 36 = .ok (.iand, 1) := by decide +kernel
theorem dX6_joinDay_37 : decode cX6_joinDay 37 = .ok (.ifCond .eq 16, 3) := by decide +kernel
theorem dX6_joinDay_40 : decode cX6_joinDay 40 = .ok (.iload 5, 2) := by decide +kernel
theorem dX6_joinDay_42 : decode cX6_joinDay 42 = .ok (.bipush 31, 2) := by decide +kernel
theorem dX6_joinDay_44 : decode cX6_joinDay 44 = .ok (.iand, 1) := by decide +kernel
theorem dX6_joinDay_45 : decode cX6_joinDay 45 = .ok (.invokestatic 136, 3) := by decide +kernel
theorem dX6_joinDay_48 : decode cX6_joinDay 48 = .ok (.ifCond .eq 5, 3) := by decide +kernel
theorem dX6_joinDay_51 : decode cX6_joinDay 51 = .ok (.iconst 0, 1) := by decide +kernel
theorem dX6_joinDay_52 : decode cX6_joinDay 52 = .ok (.ireturn, 1) := by decide +kernel
theorem dX6_joinDay_53 : decode cX6_joinDay 53 = .ok (.aload_n 0, 1) := by decide +kernel
theorem dX6_joinDay_54 : decode cX6_joinDay 54 = .ok (.iload 4, 2) := by decide +kernel
theorem dX6_joinDay_56 : decode cX6_joinDay 56 = .ok (.iload 5, 2) := by decide +kernel
theorem dX6_joinDay_58 : decode cX6_joinDay 58 = .ok (.invokevirtual 103, 3) := by decide +kernel
theorem dX6_joinDay_61 : decode cX6_joinDay 61 = .ok (.iinc 4 1, 3) := by decide +kernel
theorem dX6_joinDay_64 : decode cX6_joinDay 64 = .ok (.goto (-61), 3) := by decide +kernel
theorem dX6_joinDay_67 : decode cX6_joinDay 67 = .ok (.iconst 1, 1) := by decide +kernel
theorem dX6_joinDay_68 : decode cX6_joinDay 68 = .ok (.ireturn, 1) := by decide +kernel
theorem dX6_isMixed_0 : decode cX6_isMixed 0 = .ok (.iload_n 0, 1) := by decide +kernel
theorem dX6_isMixed_1 : decode cX6_isMixed 1 = .ok (.iload_n 0, 1) := by decide +kernel
theorem dX6_isMixed_2 : decode cX6_isMixed 2 = .ok (.iconst 1, 1) := by decide +kernel
theorem dX6_isMixed_3 : decode cX6_isMixed 3 = .ok (.isub, 1) := by decide +kernel
theorem dX6_isMixed_4 : decode cX6_isMixed 4 = .ok (.iand, 1) := by decide +kernel
theorem dX6_isMixed_5 : decode cX6_isMixed 5 = .ok (.ifCond .eq 7, 3) := by decide +kernel
theorem dX6_isMixed_8 : decode cX6_isMixed 8 = .ok (.iconst 1, 1) := by decide +kernel
theorem dX6_isMixed_9 : decode cX6_isMixed 9 = .ok (.goto 4, 3) := by decide +kernel
theorem dX6_isMixed_12 : decode cX6_isMixed 12 = .ok (.iconst 0, 1) := by decide +kernel
theorem dX6_isMixed_13 : decode cX6_isMixed 13 = .ok (.ireturn, 1) := by decide +kernel
theorem dX6_classAt_0 : decode cX6_classAt 0 = .ok (.iload_n 1, 1) := by decide +kernel
theorem dX6_classAt_1 : decode cX6_classAt 1 = .ok (.ifCond .lt 21, 3) := by decide +kernel
theorem dX6_classAt_4 : decode cX6_classAt 4 = .ok (.iload_n 1, 1) := by decide +kernel
theorem dX6_classAt_5 : decode cX6_classAt 5 = .ok (.aload_n 0, 1) := by decide +kernel
theorem dX6_classAt_6 : decode cX6_classAt 6 = .ok (.getfield 15, 3) := by decide +kernel
theorem dX6_classAt_9 : decode cX6_classAt 9 = .ok (.arraylength, 1) := by decide +kernel
theorem dX6_classAt_10 : decode cX6_classAt 10 = .ok (.if_icmp .ge 12, 3) := by decide +kernel
theorem dX6_classAt_13 : decode cX6_classAt 13 = .ok (.aload_n 0, 1) := by decide +kernel
theorem dX6_classAt_14 : decode cX6_classAt 14 = .ok (.getfield 15, 3) := by decide +kernel
theorem dX6_classAt_17 : decode cX6_classAt 17 = .ok (.iload_n 1, 1) := by decide +kernel
theorem dX6_classAt_18 : decode cX6_classAt 18 = .ok (.baload, 1) := by decide +kernel
theorem dX6_classAt_19 : decode cX6_classAt 19 = .ok (.goto 4, 3) := by decide +kernel
theorem dX6_classAt_22 : decode cX6_classAt 22 = .ok (.iconst 0, 1) := by decide +kernel
theorem dX6_classAt_23 : decode cX6_classAt 23 = .ok (.ireturn, 1) := by decide +kernel
theorem dX6_setClass_0 : decode cX6_setClass 0 = .ok (.iload_n 1, 1) := by decide +kernel
theorem dX6_setClass_1 : decode cX6_setClass 1 = .ok (.ifCond .lt 20, 3) := by decide +kernel
theorem dX6_setClass_4 : decode cX6_setClass 4 = .ok (.iload_n 1, 1) := by decide +kernel
theorem dX6_setClass_5 : decode cX6_setClass 5 = .ok (.aload_n 0, 1) := by decide +kernel
theorem dX6_setClass_6 : decode cX6_setClass 6 = .ok (.getfield 15, 3) := by decide +kernel
theorem dX6_setClass_9 : decode cX6_setClass 9 = .ok (.arraylength, 1) := by decide +kernel
theorem dX6_setClass_10 : decode cX6_setClass 10 = .ok (.if_icmp .ge 11, 3) := by decide +kernel
theorem dX6_setClass_13 : decode cX6_setClass 13 = .ok (.aload_n 0, 1) := by decide +kernel
theorem dX6_setClass_14 : decode cX6_setClass 14 = .ok (.getfield 15, 3) := by decide +kernel
theorem dX6_setClass_17 : decode cX6_setClass 17 = .ok (.iload_n 1, 1) := by decide +kernel
theorem dX6_setClass_18 : decode cX6_setClass 18 = .ok (.iload_n 2, 1) := by decide +kernel
theorem dX6_setClass_19 : decode cX6_setClass 19 = .ok (.i2b, 1) := by decide +kernel
theorem dX6_setClass_20 : decode cX6_setClass 20 = .ok (.bastore, 1) := by decide +kernel
theorem dX6_setClass_21 : decode cX6_setClass 21 = .ok (.return_, 1) := by decide +kernel
theorem dX6_partingDay_0 : decode cX6_partingDay 0 = .ok (.bipush 9, 2) := by decide +kernel
theorem dX6_partingDay_2 : decode cX6_partingDay 2 = .ok (.istore_n 3, 1) := by decide +kernel
theorem dX6_partingDay_3 : decode cX6_partingDay 3 = .ok (.iload_n 1, 1) := by decide +kernel
theorem dX6_partingDay_4 : decode cX6_partingDay 4 = .ok (.istore 4, 2) := by decide +kernel
theorem dX6_partingDay_6 : decode cX6_partingDay 6 = .ok (.iload_n 2, 1) := by decide +kernel
theorem dX6_partingDay_7 : decode cX6_partingDay 7 = .ok (.istore 5, 2) := by decide +kernel
theorem dX6_partingDay_9 : decode cX6_partingDay 9 = .ok (.iconst 0, 1) := by decide +kernel
theorem dX6_partingDay_10 : decode cX6_partingDay 10 = .ok (.istore 6, 2) := by decide +kernel
theorem dX6_partingDay_12 : decode cX6_partingDay 12 = .ok (.iload 6, 2) := by decide +kernel
theorem dX6_partingDay_14 : decode cX6_partingDay 14 = .ok (.aload_n 0, 1) := by decide +kernel
theorem dX6_partingDay_15 : decode cX6_partingDay 15 = .ok (.getfield 32, 3) := by decide +kernel
theorem dX6_partingDay_18 : decode cX6_partingDay 18 = .ok (.if_icmp .ge 78, 3) := by decide +kernel
theorem dX6_partingDay_21 : decode cX6_partingDay 21 = .ok (.iload 4, 2) := by decide +kernel
theorem dX6_partingDay_23 : decode cX6_partingDay 23 = .ok (.bipush 9, 2) := by decide +kernel
theorem dX6_partingDay_25 : decode cX6_partingDay 25 = .ok (.irem, 1) := by decide +kernel
theorem dX6_partingDay_26 : decode cX6_partingDay 26 = .ok (.istore 7, 2) := by decide +kernel
theorem dX6_partingDay_28 : decode cX6_partingDay 28 = .ok (.iload 5, 2) := by decide +kernel
theorem dX6_partingDay_30 : decode cX6_partingDay 30 = .ok (.bipush 9, 2) := by decide +kernel
theorem dX6_partingDay_32 : decode cX6_partingDay 32 = .ok (.irem, 1) := by decide +kernel
theorem dX6_partingDay_33 : decode cX6_partingDay 33 = .ok (.istore 8, 2) := by decide +kernel
theorem dX6_partingDay_35 : decode cX6_partingDay 35 = .ok (.iload 7, 2) := by decide +kernel
theorem dX6_partingDay_37 : decode cX6_partingDay 37 = .ok (.iload 8, 2) := by decide +kernel
theorem dX6_partingDay_39 : decode cX6_partingDay 39 = .ok (.if_icmp .eq 37, 3) := by decide +kernel
theorem dX6_partingDay_42 : decode cX6_partingDay 42 = .ok (.iload_n 3, 1) := by decide +kernel
theorem dX6_partingDay_43 : decode cX6_partingDay 43 = .ok (.iload 7, 2) := by decide +kernel
theorem dX6_partingDay_45 : decode cX6_partingDay 45 = .ok (.ifCond .ne 8, 3) := by decide +kernel
theorem dX6_partingDay_48 : decode cX6_partingDay 48 = .ok (.iload 8, 2) := by decide +kernel
theorem dX6_partingDay_50 : decode cX6_partingDay 50 = .ok (.goto 5, 3) := by decide +kernel
theorem dX6_partingDay_53 : decode cX6_partingDay 53 = .ok (.iload 7, 2) := by decide +kernel
theorem dX6_partingDay_55 : decode cX6_partingDay 55 = .ok (.invokestatic 130, 3) := by decide +kernel
theorem dX6_partingDay_58 : decode cX6_partingDay 58 = .ok (.istore_n 3, 1) := by decide +kernel
theorem dX6_partingDay_59 : decode cX6_partingDay 59 = .ok (.iload_n 3, 1) := by decide +kernel
theorem dX6_partingDay_60 : decode cX6_partingDay 60 = .ok (.iload 8, 2) := by decide +kernel
theorem dX6_partingDay_62 : decode cX6_partingDay 62 = .ok (.ifCond .ne 8, 3) := by decide +kernel
theorem dX6_partingDay_65 : decode cX6_partingDay 65 = .ok (.iload 7, 2) := by decide +kernel
theorem dX6_partingDay_67 : decode cX6_partingDay 67 = .ok (.goto 5, 3) := by decide +kernel
theorem dX6_partingDay_70 : decode cX6_partingDay 70 = .ok (.iload 8, 2) := by decide +kernel
theorem dX6_partingDay_72 : decode cX6_partingDay 72 = .ok (.invokestatic 130, 3) := by decide +kernel
theorem dX6_partingDay_75 : decode cX6_partingDay 75 = .ok (.istore_n 3, 1) := by decide +kernel
theorem dX6_partingDay_76 : decode cX6_partingDay 76 = .ok (.iload 4, 2) := by decide +kernel
theorem dX6_partingDay_78 : decode cX6_partingDay 78 = .ok (.bipush 9, 2) := by decide +kernel
theorem dX6_partingDay_80 : decode cX6_partingDay 80 = .ok (.idiv, 1) := by decide +kernel
theorem dX6_partingDay_81 : decode cX6_partingDay 81 = .ok (.istore 4, 2) := by decide +kernel
theorem dX6_partingDay_83 : decode cX6_partingDay 83 = .ok (.iload 5, 2) := by decide +kernel
theorem dX6_partingDay_85 : decode cX6_partingDay 85 = .ok (.bipush 9, 2) := by decide +kernel
theorem dX6_partingDay_87 : decode cX6_partingDay 87 = .ok (.idiv, 1) := by decide +kernel
theorem dX6_partingDay_88 : decode cX6_partingDay 88 = .ok (.istore 5, 2) := by decide +kernel
theorem dX6_partingDay_90 : decode cX6_partingDay 90 = .ok (.iinc 6 1, 3) := by decide +kernel
theorem dX6_partingDay_93 : decode cX6_partingDay 93 = .ok (.goto (-81), 3) := by decide +kernel
theorem dX6_partingDay_96 : decode cX6_partingDay 96 = .ok (.iload_n 3, 1) := by decide +kernel
theorem dX6_partingDay_97 : decode cX6_partingDay 97 = .ok (.iconst 1, 1) := by decide +kernel
theorem dX6_partingDay_98 : decode cX6_partingDay 98 = .ok (.isub, 1) := by decide +kernel
theorem dX6_partingDay_99 : decode cX6_partingDay 99 = .ok (.ireturn, 1) := by decide +kernel
theorem dX6_areAllowed_0 : decode cX6_areAllowed 0 = .ok (.iconst 0, 1) := by decide +kernel
theorem dX6_areAllowed_1 : decode cX6_areAllowed 1 = .ok (.istore_n 1, 1) := by decide +kernel
theorem dX6_areAllowed_2 : decode cX6_areAllowed 2 = .ok (.iload_n 1, 1) := by decide +kernel
theorem dX6_areAllowed_3 : decode cX6_areAllowed 3 = .ok (.aload_n 0, 1) := by decide +kernel
theorem dX6_areAllowed_4 : decode cX6_areAllowed 4 = .ok (.getfield 32, 3) := by decide +kernel
theorem dX6_areAllowed_7 : decode cX6_areAllowed 7 = .ok (.if_icmp .ge 33, 3) := by decide +kernel
theorem dX6_areAllowed_10 : decode cX6_areAllowed 10 = .ok (.aload_n 0, 1) := by decide +kernel
theorem dX6_areAllowed_11 : decode cX6_areAllowed 11 = .ok (.getfield 23, 3) := by decide +kernel
theorem dX6_areAllowed_14 : decode cX6_areAllowed 14 = .ok (.iload_n 1, 1) := by decide +kernel
theorem dX6_areAllowed_15 : decode cX6_areAllowed 15 = .ok (.invokestatic 142, 3) := by decide +kernel
theorem dX6_areAllowed_18 : decode cX6_areAllowed 18 = .ok (.aload_n 0, 1) := by decide +kernel
theorem dX6_areAllowed_19 : decode cX6_areAllowed 19 = .ok (.getfield 19, 3) := by decide +kernel
theorem dX6_areAllowed_22 : decode cX6_areAllowed 22 = .ok (.iload_n 1, 1) := by decide +kernel
theorem dX6_areAllowed_23 : decode cX6_areAllowed 23 = .ok (.invokestatic 142, 3) := by decide +kernel
theorem dX6_areAllowed_26 : decode cX6_areAllowed 26 = .ok (.ishr, 1) := by decide +kernel
theorem dX6_areAllowed_27 : decode cX6_areAllowed 27 = .ok (.iconst 1, 1) := by decide +kernel
theorem dX6_areAllowed_28 : decode cX6_areAllowed 28 = .ok (.iand, 1) := by decide +kernel
theorem dX6_areAllowed_29 : decode cX6_areAllowed 29 = .ok (.ifCond .ne 5, 3) := by decide +kernel
theorem dX6_areAllowed_32 : decode cX6_areAllowed 32 = .ok (.iconst 0, 1) := by decide +kernel
theorem dX6_areAllowed_33 : decode cX6_areAllowed 33 = .ok (.ireturn, 1) := by decide +kernel
theorem dX6_areAllowed_34 : decode cX6_areAllowed 34 = .ok (.iinc 1 1, 3) := by decide +kernel
theorem dX6_areAllowed_37 : decode cX6_areAllowed 37 = .ok (.goto (-35), 3) := by decide +kernel
theorem dX6_areAllowed_40 : decode cX6_areAllowed 40 = .ok (.iconst 1, 1) := by decide +kernel
theorem dX6_areAllowed_41 : decode cX6_areAllowed 41 = .ok (.ireturn, 1) := by decide +kernel
theorem dX6_stepDigits_0 : decode cX6_stepDigits 0 = .ok (.iconst 0, 1) := by decide +kernel
theorem dX6_stepDigits_1 : decode cX6_stepDigits 1 = .ok (.istore_n 1, 1) := by decide +kernel
theorem dX6_stepDigits_2 : decode cX6_stepDigits 2 = .ok (.iload_n 1, 1) := by decide +kernel
theorem dX6_stepDigits_3 : decode cX6_stepDigits 3 = .ok (.aload_n 0, 1) := by decide +kernel
theorem dX6_stepDigits_4 : decode cX6_stepDigits 4 = .ok (.getfield 19, 3) := by decide +kernel
theorem dX6_stepDigits_7 : decode cX6_stepDigits 7 = .ok (.arraylength, 1) := by decide +kernel
theorem dX6_stepDigits_8 : decode cX6_stepDigits 8 = .ok (.if_icmp .ge 38, 3) := by decide +kernel
theorem dX6_stepDigits_11 : decode cX6_stepDigits 11 = .ok (.aload_n 0, 1) := by decide +kernel
theorem dX6_stepDigits_12 : decode cX6_stepDigits 12 = .ok (.getfield 19, 3) := by decide +kernel
theorem dX6_stepDigits_15 : decode cX6_stepDigits 15 = .ok (.iload_n 1, 1) := by decide +kernel
theorem dX6_stepDigits_16 : decode cX6_stepDigits 16 = .ok (.dup2, 1) := by decide +kernel
theorem dX6_stepDigits_17 : decode cX6_stepDigits 17 = .ok (.iaload, 1) := by decide +kernel
theorem dX6_stepDigits_18 : decode cX6_stepDigits 18 = .ok (.iconst 1, 1) := by decide +kernel
theorem dX6_stepDigits_19 : decode cX6_stepDigits 19 = .ok (.iadd, 1) := by decide +kernel
theorem dX6_stepDigits_20 : decode cX6_stepDigits 20 = .ok (.iastore, 1) := by decide +kernel
theorem dX6_stepDigits_21 : decode cX6_stepDigits 21 = .ok (.aload_n 0, 1) := by decide +kernel
theorem dX6_stepDigits_22 : decode cX6_stepDigits 22 = .ok (.getfield 19, 3) := by decide +kernel
theorem dX6_stepDigits_25 : decode cX6_stepDigits 25 = .ok (.iload_n 1, 1) := by decide +kernel
theorem dX6_stepDigits_26 : decode cX6_stepDigits 26 = .ok (.iaload, 1) := by decide +kernel
theorem dX6_stepDigits_27 : decode cX6_stepDigits 27 = .ok (.bipush 9, 2) := by decide +kernel
theorem dX6_stepDigits_29 : decode cX6_stepDigits 29 = .ok (.if_icmp .ge 4, 3) := by decide +kernel
theorem dX6_stepDigits_32 : decode cX6_stepDigits 32 = .ok (.return_, 1) := by decide +kernel
theorem dX6_stepDigits_33 : decode cX6_stepDigits 33 = .ok (.aload_n 0, 1) := by decide +kernel
theorem dX6_stepDigits_34 : decode cX6_stepDigits 34 = .ok (.getfield 19, 3) := by decide +kernel
theorem dX6_stepDigits_37 : decode cX6_stepDigits 37 = .ok (.iload_n 1, 1) := by decide +kernel
theorem dX6_stepDigits_38 : decode cX6_stepDigits 38 = .ok (.iconst 0, 1) := by decide +kernel
theorem dX6_stepDigits_39 : decode cX6_stepDigits 39 = .ok (.iastore, 1) := by decide +kernel
theorem dX6_stepDigits_40 : decode cX6_stepDigits 40 = .ok (.iinc 1 1, 3) := by decide +kernel
theorem dX6_stepDigits_43 : decode cX6_stepDigits 43 = .ok (.goto (-41), 3) := by decide +kernel
theorem dX6_stepDigits_46 : decode cX6_stepDigits 46 = .ok (.return_, 1) := by decide +kernel
theorem dX6_singleOutcomes_0 : decode cX6_singleOutcomes 0 = .ok (.lconst 0, 1) := by decide +kernel
theorem dX6_singleOutcomes_1 : decode cX6_singleOutcomes 1 = .ok (.lstore_n 2, 1) := by decide +kernel
theorem dX6_singleOutcomes_2 : decode cX6_singleOutcomes 2 = .ok (.iconst 0, 1) := by decide +kernel
theorem dX6_singleOutcomes_3 : decode cX6_singleOutcomes 3 = .ok (.istore 4, 2) := by decide +kernel
theorem dX6_singleOutcomes_5 : decode cX6_singleOutcomes 5 = .ok (.iload 4, 2) := by decide +kernel
theorem dX6_singleOutcomes_7 : decode cX6_singleOutcomes 7 = .ok (.bipush 12, 2) := by decide +kernel
theorem dX6_singleOutcomes_9 : decode cX6_singleOutcomes 9 = .ok (.if_icmp .ge 36, 3) := by decide +kernel
theorem dX6_singleOutcomes_12 : decode cX6_singleOutcomes 12 = .ok (.lload_n 0, 1) := by decide +kernel
theorem dX6_singleOutcomes_13 : decode cX6_singleOutcomes 13 = .ok (.iload 4, 2) := by decide +kernel
theorem dX6_singleOutcomes_15 : decode cX6_singleOutcomes 15 = .ok (.invokestatic 87, 3) := by decide +kernel
theorem dX6_singleOutcomes_18 : decode cX6_singleOutcomes 18 = .ok (.istore 5, 2) := by decide +kernel
theorem dX6_singleOutcomes_20 : decode cX6_singleOutcomes 20 = .ok (.iload 5, 2) := by decide +kernel
theorem dX6_singleOutcomes_22 : decode cX6_singleOutcomes 22 = .ok (.invokestatic 136, 3) := by decide +kernel
theorem dX6_singleOutcomes_25 : decode cX6_singleOutcomes 25 = .ok (.ifCond .ne 14, 3) := by decide +kernel
theorem dX6_singleOutcomes_28 : decode cX6_singleOutcomes 28 = .ok (.lload_n 2, 1) := by decide +kernel
theorem dX6_singleOutcomes_29 : decode cX6_singleOutcomes 29 = .ok (.iload 5, 2) := by decide +kernel
theorem dX6_singleOutcomes_31 : decode cX6_singleOutcomes 31 = .ok (.i2l, 1) := by decide +kernel
theorem dX6_singleOutcomes_32 : decode cX6_singleOutcomes 32 = .ok (.iconst 5, 1) := by decide +kernel
theorem dX6_singleOutcomes_33 : decode cX6_singleOutcomes 33 = .ok (.iload 4, 2) := by decide +kernel
theorem dX6_singleOutcomes_35 : decode cX6_singleOutcomes 35 = .ok (.imul, 1) := by decide +kernel
theorem dX6_singleOutcomes_36 : decode cX6_singleOutcomes 36 = .ok (.lshl, 1) := by decide +kernel
theorem dX6_singleOutcomes_37 : decode cX6_singleOutcomes 37 = .ok (.lor, 1) := by decide +kernel
theorem dX6_singleOutcomes_38 : decode cX6_singleOutcomes 38 = .ok (.lstore_n 2, 1) := by decide +kernel
theorem dX6_singleOutcomes_39 : decode cX6_singleOutcomes 39 = .ok (.iinc 4 1, 3) := by decide +kernel
theorem dX6_singleOutcomes_42 : decode cX6_singleOutcomes 42 = .ok (.goto (-37), 3) := by decide +kernel
theorem dX6_singleOutcomes_45 : decode cX6_singleOutcomes 45 = .ok (.lload_n 2, 1) := by decide +kernel
theorem dX6_singleOutcomes_46 : decode cX6_singleOutcomes 46 = .ok (.lreturn, 1) := by decide +kernel
theorem dX7_init_0 : decode cX7_init 0 = .ok (.aload_n 0, 1) := by decide +kernel
theorem dX7_init_1 : decode cX7_init 1 = .ok (.invokespecial 3, 3) := by decide +kernel
theorem dX7_init_4 : decode cX7_init 4 = .ok (.aload_n 0, 1) := by decide +kernel
theorem dX7_init_5 : decode cX7_init 5 = .ok (.aload_n 1, 1) := by decide +kernel
theorem dX7_init_6 : decode cX7_init 6 = .ok (.putfield 9, 3) := by decide +kernel
theorem dX7_init_9 : decode cX7_init 9 = .ok (.aload_n 0, 1) := by decide +kernel
theorem dX7_init_10 : decode cX7_init 10 = .ok (.aload_n 2, 1) := by decide +kernel
theorem dX7_init_11 : decode cX7_init 11 = .ok (.putfield 15, 3) := by decide +kernel
theorem dX7_init_14 : decode cX7_init 14 = .ok (.return_, 1) := by decide +kernel
theorem dX7_tellAll_0 : decode cX7_tellAll 0 = .ok (.iconst 0, 1) := by decide +kernel
theorem dX7_tellAll_1 : decode cX7_tellAll 1 = .ok (.istore_n 1, 1) := by decide +kernel
theorem dX7_tellAll_2 : decode cX7_tellAll 2 = .ok (.iload_n 1, 1) := by decide +kernel
theorem dX7_tellAll_3 : decode cX7_tellAll 3 = .ok (.bipush 40, 2) := by decide +kernel
theorem dX7_tellAll_5 : decode cX7_tellAll 5 = .ok (.if_icmp .ge 170, 3) := by decide +kernel
theorem dX7_tellAll_8 : decode cX7_tellAll 8 = .ok (.aload_n 0, 1) := by decide +kernel
theorem dX7_tellAll_9 : decode cX7_tellAll 9 = .ok (.getfield 9, 3) := by decide +kernel
theorem dX7_tellAll_12 : decode cX7_tellAll 12 = .ok (.invokevirtual 19, 3) := by decide +kernel
theorem dX7_tellAll_15 : decode cX7_tellAll 15 = .ok (.ifCond .ne 160, 3) := by decide +kernel
theorem dX7_tellAll_18 : decode cX7_tellAll 18 = .ok (.aload_n 0, 1) := by decide +kernel
theorem dX7_tellAll_19 : decode cX7_tellAll 19 = .ok (.getfield 9, 3) := by decide +kernel
theorem dX7_tellAll_22 : decode cX7_tellAll 22 = .ok (.getstatic 25, 3) := by decide +kernel
theorem dX7_tellAll_25 : decode cX7_tellAll 25 = .ok (.invokevirtual 31, 3) := by decide +kernel
theorem dX7_tellAll_28 : decode cX7_tellAll 28 = .ok (.ifCond .eq 10, 3) := by decide +kernel
theorem dX7_tellAll_31 : decode cX7_tellAll 31 = .ok (.aload_n 0, 1) := by decide +kernel
theorem dX7_tellAll_32 : decode cX7_tellAll 32 = .ok (.invokevirtual 35, 3) := by decide +kernel
theorem dX7_tellAll_35 : decode cX7_tellAll 35 = .ok (.goto 102, 3) := by decide +kernel
theorem dX7_tellAll_38 : decode cX7_tellAll 38 = .ok (.aload_n 0, 1) := by decide +kernel
theorem dX7_tellAll_39 : decode cX7_tellAll 39 = .ok (.getfield 9, 3) := by decide +kernel
theorem dX7_tellAll_42 : decode cX7_tellAll 42 = .ok (.getstatic 38, 3) := by decide +kernel
theorem dX7_tellAll_45 : decode cX7_tellAll 45 = .ok (.invokevirtual 31, 3) := by decide +kernel
theorem dX7_tellAll_48 : decode cX7_tellAll 48 = .ok (.ifCond .eq 10, 3) := by decide +kernel
theorem dX7_tellAll_51 : decode cX7_tellAll 51 = .ok (.aload_n 0, 1) := by decide +kernel
theorem dX7_tellAll_52 : decode cX7_tellAll 52 = .ok (.invokevirtual 41, 3) := by decide +kernel
theorem dX7_tellAll_55 : decode cX7_tellAll 55 = .ok (.goto 82, 3) := by decide +kernel
theorem dX7_tellAll_58 : decode cX7_tellAll 58 = .ok (.aload_n 0, 1) := by decide +kernel
theorem dX7_tellAll_59 : decode cX7_tellAll 59 = .ok (.getfield 9, 3) := by decide +kernel
theorem dX7_tellAll_62 : decode cX7_tellAll 62 = .ok (.getstatic 44, 3) := by decide +kernel
theorem dX7_tellAll_65 : decode cX7_tellAll 65 = .ok (.invokevirtual 31, 3) := by decide +kernel
theorem dX7_tellAll_68 : decode cX7_tellAll 68 = .ok (.ifCond .eq 11, 3) := by decide +kernel
theorem dX7_tellAll_71 : decode cX7_tellAll 71 = .ok (.aload_n 0, 1) := by decide +kernel
theorem dX7_tellAll_72 : decode cX7_tellAll 72 = .ok (.iconst 0, 1) := by decide +kernel
theorem dX7_tellAll_73 : decode cX7_tellAll 73 = .ok (.invokevirtual 47, 3) := by decide +kernel
theorem dX7_tellAll_76 : decode cX7_tellAll 76 = .ok (.goto 61, 3) := by decide +kernel
theorem dX7_tellAll_79 : decode cX7_tellAll 79 = .ok (.aload_n 0, 1) := by decide +kernel
theorem dX7_tellAll_80 : decode cX7_tellAll 80 = .ok (.getfield 9, 3) := by decide +kernel
theorem dX7_tellAll_83 : decode cX7_tellAll 83 = .ok (.getstatic 51, 3) := by decide +kernel
theorem dX7_tellAll_86 : decode cX7_tellAll 86 = .ok (.invokevirtual 31, 3) := by decide +kernel
theorem dX7_tellAll_89 : decode cX7_tellAll 89 = .ok (.ifCond .eq 11, 3) := by decide +kernel
theorem dX7_tellAll_92 : decode cX7_tellAll 92 = .ok (.aload_n 0, 1) := by decide +kernel
theorem dX7_tellAll_93 : decode cX7_tellAll 93 = .ok (.iconst 1, 1) := by decide +kernel
theorem dX7_tellAll_94 : decode cX7_tellAll 94 = .ok (.invokevirtual 47, 3) := by decide +kernel
theorem dX7_tellAll_97 : decode cX7_tellAll 97 = .ok (.goto 40, 3) := by decide +kernel
theorem dX7_tellAll_100 : decode cX7_tellAll 100 = .ok (.aload_n 0, 1) := by decide +kernel
theorem dX7_tellAll_101 : decode cX7_tellAll 101 = .ok (.getfield 15, 3) := by decide +kernel
theorem dX7_tellAll_104 : decode cX7_tellAll 104 = .ok (.getfield 54, 3) := by decide +kernel
theorem dX7_tellAll_107 : decode cX7_tellAll 107 = .ok (.bipush 12, 2) := by decide +kernel
theorem dX7_tellAll_109 : decode cX7_tellAll 109 = .ok (.if_icmp .ge 27, 3) := by decide +kernel
theorem dX7_tellAll_112 : decode cX7_tellAll 112 = .ok (.aload_n 0, 1) := by decide +kernel
theorem dX7_tellAll_113 : decode cX7_tellAll 113 = .ok (.getfield 9, 3) := by decide +kernel
theorem dX7_tellAll_116 : decode cX7_tellAll 116 = .ok (.getstatic 60, 3) := by decide +kernel
theorem dX7_tellAll_119 : decode cX7_tellAll 119 = .ok (.invokevirtual 31, 3) := by decide +kernel
theorem dX7_tellAll_122 : decode cX7_tellAll 122 = .ok (.ifCond .eq 14, 3) := by decide +kernel
theorem dX7_tellAll_125 : decode cX7_tellAll 125 = .ok (.aload_n 0, 1) := by decide +kernel
theorem dX7_tellAll_126 : decode cX7_tellAll 126 = .ok (.invokevirtual 63, 3) := by decide +kernel
theorem dX7_tellAll_129 : decode cX7_tellAll 129 = .ok (.ifCond .eq 7, 3) := by decide +kernel
theorem dX7_tellAll_132 : decode cX7_tellAll 132 = .ok (.iconst 1, 1) := by decide +kernel
theorem dX7_tellAll_133 : decode cX7_tellAll 133 = .ok (.goto 4, 3) := by decide +kernel
theorem dX7_tellAll_136 : decode cX7_tellAll 136 = .ok (.iconst 0, 1) := by decide +kernel
theorem dX7_tellAll_137 : decode cX7_tellAll 137 = .ok (.istore_n 2, 1) := by decide +kernel
theorem dX7_tellAll_138 : decode cX7_tellAll 138 = .ok (.iload_n 2, 1) := by decide +kernel
theorem dX7_tellAll_139 : decode cX7_tellAll 139 = .ok (.ifCond .eq 15, 3) := by decide +kernel
theorem dX7_tellAll_142 : decode cX7_tellAll 142 = .ok (.aload_n 0, 1) := by decide +kernel
theorem dX7_tellAll_143 : decode cX7_tellAll 143 = .ok (.getfield 9, 3) := by decide +kernel
theorem dX7_tellAll_146 : decode cX7_tellAll 146 = .ok (.bipush 59, 2) := by decide +kernel
theorem dX7_tellAll_148 : decode cX7_tellAll 148 = .ok (.invokevirtual 66, 3) := by decide +kernel
theorem dX7_tellAll_151 : decode cX7_tellAll 151 = .ok (.ifCond .ne 5, 3) := by decide +kernel
theorem dX7_tellAll_154 : decode cX7_tellAll 154 = .ok (.iconst 0, 1) := by decide +kernel
theorem dX7_tellAll_155 : decode cX7_tellAll 155 = .ok (.ireturn, 1) := by decide +kernel
theorem dX7_tellAll_156 : decode cX7_tellAll 156 = .ok (.aload_n 0, 1) := by decide +kernel
theorem dX7_tellAll_157 : decode cX7_tellAll 157 = .ok (.getfield 15, 3) := by decide +kernel
theorem dX7_tellAll_160 : decode cX7_tellAll 160 = .ok (.dup, 1) := by decide +kernel
theorem dX7_tellAll_161 : decode cX7_tellAll 161 = .ok (.getfield 69, 3) := by decide +kernel
theorem dX7_tellAll_164 : decode cX7_tellAll 164 = .ok (.iconst 1, 1) := by decide +kernel
theorem dX7_tellAll_165 : decode cX7_tellAll 165 = .ok (.iadd, 1) := by decide +kernel
theorem dX7_tellAll_166 : decode cX7_tellAll 166 = .ok (.putfield 69, 3) := by decide +kernel
theorem dX7_tellAll_169 : decode cX7_tellAll 169 = .ok (.iinc 1 1, 3) := by decide +kernel
