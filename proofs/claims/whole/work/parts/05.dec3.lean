theorem dX11_same_32 : decode cX11_same 32 = .ok (.istore 5, 2) := by decide +kernel
theorem dX11_same_34 : decode cX11_same 34 = .ok (.iload 5, 2) := by decide +kernel
theorem dX11_same_36 : decode cX11_same 36 = .ok (.aload_n 0, 1) := by decide +kernel
theorem dX11_same_37 : decode cX11_same 37 = .ok (.getfield 34, 3) := by decide +kernel
theorem dX11_same_40 : decode cX11_same 40 = .ok (.getfield 233, 3) := by decide +kernel
theorem dX11_same_43 : decode cX11_same 43 = .ok (.if_icmp .ge 58, 3) := by decide +kernel
theorem dX11_same_46 : decode cX11_same 46 = .ok (.aload_n 0, 1) := by decide +kernel
theorem dX11_same_47 : decode cX11_same 47 = .ok (.getfield 34, 3) := by decide +kernel
theorem dX11_same_50 : decode cX11_same 50 = .ok (.iload 5, 2) := by decide +kernel
theorem dX11_same_52 : decode cX11_same 52 = .ok (.invokevirtual 201, 3) := by decide +kernel
theorem dX11_same_55 : decode cX11_same 55 = .ok (.lstore 6, 2) := by decide +kernel
theorem dX11_same_57 : decode cX11_same 57 = .ok (.lload 6, 2) := by decide +kernel
theorem dX11_same_59 : decode cX11_same 59 = .ok (.ldc2_w 207, 3) := by decide +kernel
theorem dX11_same_62 : decode cX11_same 62 = .ok (.land, 1) := by decide +kernel
theorem dX11_same_63 : decode cX11_same 63 = .ok (.lconst 0, 1) := by decide +kernel
theorem dX11_same_64 : decode cX11_same 64 = .ok (.lcmp, 1) := by decide +kernel
theorem dX11_same_65 : decode cX11_same 65 = .ok (.ifCond .eq 30, 3) := by decide +kernel
theorem dX11_same_68 : decode cX11_same 68 = .ok (.aload_n 3, 1) := by decide +kernel
theorem dX11_same_69 : decode cX11_same 69 = .ok (.lload 6, 2) := by decide +kernel
theorem dX11_same_71 : decode cX11_same 71 = .ok (.iload_n 1, 1) := by decide +kernel
theorem dX11_same_72 : decode cX11_same 72 = .ok (.invokestatic 210, 3) := by decide +kernel
theorem dX11_same_75 : decode cX11_same 75 = .ok (.invokevirtual 214, 3) := by decide +kernel
theorem dX11_same_78 : decode cX11_same 78 = .ok (.aload 4, 2) := by decide +kernel
theorem dX11_same_80 : decode cX11_same 80 = .ok (.lload 6, 2) := by decide +kernel
theorem dX11_same_82 : decode cX11_same 82 = .ok (.iload_n 2, 1) := by decide +kernel
theorem dX11_same_83 : decode cX11_same 83 = .ok (.invokestatic 210, 3) := by decide +kernel
theorem dX11_same_86 : decode cX11_same 86 = .ok (.invokevirtual 214, 3) := by decide +kernel
theorem dX11_same_89 : decode cX11_same 89 = .ok (.if_icmp .eq 6, 3) := by decide +kernel
theorem dX11_same_92 : decode cX11_same 92 = .ok (.iload 5, 2) := by decide +kernel
theorem dX11_same_94 : decode cX11_same 94 = .ok (.ireturn, 1) := by decide +kernel
theorem dX11_same_95 : decode cX11_same 95 = .ok (.iinc 5 1, 3) := by decide +kernel
theorem dX11_same_98 : decode cX11_same 98 = .ok (.goto (-64), 3) := by decide +kernel
theorem dX11_same_101 : decode cX11_same 101 = .ok (.iconst (-1), 1) := by decide +kernel
theorem dX11_same_102 : decode cX11_same 102 = .ok (.ireturn, 1) := by decide +kernel
theorem dX11_has_0 : decode cX11_has 0 = .ok (.aload_n 0, 1) := by decide +kernel
theorem dX11_has_1 : decode cX11_has 1 = .ok (.getfield 27, 3) := by decide +kernel
theorem dX11_has_4 : decode cX11_has 4 = .ok (.iload_n 1, 1) := by decide +kernel
theorem dX11_has_5 : decode cX11_has 5 = .ok (.invokevirtual 185, 3) := by decide +kernel
theorem dX11_has_8 : decode cX11_has 8 = .ok (.ifCond .eq 11, 3) := by decide +kernel
theorem dX11_has_11 : decode cX11_has 11 = .ok (.aload_n 0, 1) := by decide +kernel
theorem dX11_has_12 : decode cX11_has 12 = .ok (.iload_n 1, 1) := by decide +kernel
theorem dX11_has_13 : decode cX11_has 13 = .ok (.invokevirtual 236, 3) := by decide +kernel
theorem dX11_has_16 : decode cX11_has 16 = .ok (.goto 5, 3) := by decide +kernel
theorem dX11_has_19 : decode cX11_has 19 = .ok (.ldc 209, 2) := by decide +kernel
theorem dX11_has_21 : decode cX11_has 21 = .ok (.ireturn, 1) := by decide +kernel
theorem dX11_may_0 : decode cX11_may 0 = .ok (.aload_n 0, 1) := by decide +kernel
theorem dX11_may_1 : decode cX11_may 1 = .ok (.getfield 27, 3) := by decide +kernel
theorem dX11_may_4 : decode cX11_may 4 = .ok (.iload_n 1, 1) := by decide +kernel
theorem dX11_may_5 : decode cX11_may 5 = .ok (.invokevirtual 185, 3) := by decide +kernel
theorem dX11_may_8 : decode cX11_may 8 = .ok (.ifCond .eq 12, 3) := by decide +kernel
theorem dX11_may_11 : decode cX11_may 11 = .ok (.iload_n 2, 1) := by decide +kernel
theorem dX11_may_12 : decode cX11_may 12 = .ok (.ifCond .lt 8, 3) := by decide +kernel
theorem dX11_may_15 : decode cX11_may 15 = .ok (.iload_n 2, 1) := by decide +kernel
theorem dX11_may_16 : decode cX11_may 16 = .ok (.iconst 1, 1) := by decide +kernel
theorem dX11_may_17 : decode cX11_may 17 = .ok (.if_icmp .le 6, 3) := by decide +kernel
theorem dX11_may_20 : decode cX11_may 20 = .ok (.ldc 209, 2) := by decide +kernel
theorem dX11_may_22 : decode cX11_may 22 = .ok (.ireturn, 1) := by decide +kernel
theorem dX11_may_23 : decode cX11_may 23 = .ok (.aload_n 0, 1) := by decide +kernel
theorem dX11_may_24 : decode cX11_may 24 = .ok (.getfield 59, 3) := by decide +kernel
theorem dX11_may_27 : decode cX11_may 27 = .ok (.aload_n 0, 1) := by decide +kernel
theorem dX11_may_28 : decode cX11_may 28 = .ok (.getfield 27, 3) := by decide +kernel
theorem dX11_may_31 : decode cX11_may 31 = .ok (.aload_n 0, 1) := by decide +kernel
theorem dX11_may_32 : decode cX11_may 32 = .ok (.getfield 41, 3) := by decide +kernel
theorem dX11_may_35 : decode cX11_may 35 = .ok (.iload_n 1, 1) := by decide +kernel
theorem dX11_may_36 : decode cX11_may 36 = .ok (.invokevirtual 239, 3) := by decide +kernel
theorem dX11_may_39 : decode cX11_may 39 = .ok (.iconst 0, 1) := by decide +kernel
theorem dX11_may_40 : decode cX11_may 40 = .ok (.istore_n 3, 1) := by decide +kernel
theorem dX11_may_41 : decode cX11_may 41 = .ok (.iconst 0, 1) := by decide +kernel
theorem dX11_may_42 : decode cX11_may 42 = .ok (.istore 4, 2) := by decide +kernel
theorem dX11_may_44 : decode cX11_may 44 = .ok (.iconst 1, 1) := by decide +kernel
theorem dX11_may_45 : decode cX11_may 45 = .ok (.istore 5, 2) := by decide +kernel
theorem dX11_may_47 : decode cX11_may 47 = .ok (.iconst 0, 1) := by decide +kernel
theorem dX11_may_48 : decode cX11_may 48 = .ok (.istore 6, 2) := by decide +kernel
theorem dX11_may_50 : decode cX11_may 50 = .ok (.iload 6, 2) := by decide +kernel
theorem dX11_may_52 : decode cX11_may 52 = .ok (.aload_n 0, 1) := by decide +kernel
theorem dX11_may_53 : decode cX11_may 53 = .ok (.getfield 34, 3) := by decide +kernel
theorem dX11_may_56 : decode cX11_may 56 = .ok (.getfield 233, 3) := by decide +kernel
theorem dX11_may_59 : decode cX11_may 59 = .ok (.if_icmp .ge 81, 3) := by decide +kernel
theorem dX11_may_62 : decode cX11_may 62 = .ok (.aload_n 0, 1) := by decide +kernel
theorem dX11_may_63 : decode cX11_may 63 = .ok (.getfield 34, 3) := by decide +kernel
theorem dX11_may_66 : decode cX11_may 66 = .ok (.iload 6, 2) := by decide +kernel
theorem dX11_may_68 : decode cX11_may 68 = .ok (.invokevirtual 201, 3) := by decide +kernel
theorem dX11_may_71 : decode cX11_may 71 = .ok (.lstore 7, 2) := by decide +kernel
theorem dX11_may_73 : decode cX11_may 73 = .ok (.lload 7, 2) := by decide +kernel
theorem dX11_may_75 : decode cX11_may 75 = .ok (.ldc2_w 205, 3) := by decide +kernel
theorem dX11_may_78 : decode cX11_may 78 = .ok (.land, 1) := by decide +kernel
theorem dX11_may_79 : decode cX11_may 79 = .ok (.lconst 0, 1) := by decide +kernel
theorem dX11_may_80 : decode cX11_may 80 = .ok (.lcmp, 1) := by decide +kernel
theorem dX11_may_81 : decode cX11_may 81 = .ok (.ifCond .eq 53, 3) := by decide +kernel
theorem dX11_may_84 : decode cX11_may 84 = .ok (.aload_n 0, 1) := by decide +kernel
theorem dX11_may_85 : decode cX11_may 85 = .ok (.getfield 59, 3) := by decide +kernel
theorem dX11_may_88 : decode cX11_may 88 = .ok (.lload 7, 2) := by decide +kernel
theorem dX11_may_90 : decode cX11_may 90 = .ok (.invokevirtual 243, 3) := by decide +kernel
theorem dX11_may_93 : decode cX11_may 93 = .ok (.istore 9, 2) := by decide +kernel
theorem dX11_may_95 : decode cX11_may 95 = .ok (.iload 5, 2) := by decide +kernel
theorem dX11_may_97 : decode cX11_may 97 = .ok (.ifCond .eq 8, 3) := by decide +kernel
theorem dX11_may_100 : decode cX11_may 100 = .ok (.iload 9, 2) := by decide +kernel
theorem dX11_may_102 : decode cX11_may 102 = .ok (.goto 9, 3) := by decide +kernel
theorem dX11_may_105 : decode cX11_may 105 = .ok (.iload_n 3, 1) := by decide +kernel
theorem dX11_may_106 : decode cX11_may 106 = .ok (.iload 9, 2) := by decide +kernel
theorem dX11_may_108 : decode cX11_may 108 = .ok (.invokestatic 247, 3) := by decide +kernel
theorem dX11_may_111 : decode cX11_may 111 = .ok (.istore_n 3, 1) := by decide +kernel
theorem dX11_may_112 : decode cX11_may 112 = .ok (.iload 5, 2) := by decide +kernel
theorem dX11_may_114 : decode cX11_may 114 = .ok (.ifCond .eq 8, 3) := by decide +kernel
theorem dX11_may_117 : decode cX11_may 117 = .ok (.iload 9, 2) := by decide +kernel
theorem dX11_may_119 : decode cX11_may 119 = .ok (.goto 10, 3) := by decide +kernel
theorem dX11_may_122 : decode cX11_may 122 = .ok (.iload 4, 2) := by decide +kernel
theorem dX11_may_124 : decode cX11_may 124 = .ok (.iload 9, 2) := by decide +kernel
theorem dX11_may_126 : decode cX11_may 126 = .ok (.invokestatic 252, 3) := by decide +kernel
theorem dX11_may_129 : decode cX11_may 129 = .ok (.istore 4, 2) := by decide +kernel
theorem dX11_may_131 : decode cX11_may 131 = .ok (.iconst 0, 1) := by decide +kernel
theorem dX11_may_132 : decode cX11_may 132 = .ok (.istore 5, 2) := by decide +kernel
theorem dX11_may_134 : decode cX11_may 134 = .ok (.iinc 6 1, 3) := by decide +kernel
theorem dX11_may_137 : decode cX11_may 137 = .ok (.goto (-87), 3) := by decide +kernel
theorem dX11_may_140 : decode cX11_may 140 = .ok (.aload_n 0, 1) := by decide +kernel
theorem dX11_may_141 : decode cX11_may 141 = .ok (.getfield 41, 3) := by decide +kernel
theorem dX11_may_144 : decode cX11_may 144 = .ok (.getfield 255, 3) := by decide +kernel
theorem dX11_may_147 : decode cX11_may 147 = .ok (.iload_n 1, 1) := by decide +kernel
theorem dX11_may_148 : decode cX11_may 148 = .ok (.invokestatic 140, 3) := by decide +kernel
theorem dX11_may_151 : decode cX11_may 151 = .ok (.iload_n 2, 1) := by decide +kernel
theorem dX11_may_152 : decode cX11_may 152 = .ok (.ifCond .ne 7, 3) := by decide +kernel
theorem dX11_may_155 : decode cX11_may 155 = .ok (.iload_n 3, 1) := by decide +kernel
theorem dX11_may_156 : decode cX11_may 156 = .ok (.goto 5, 3) := by decide +kernel
theorem dX11_may_159 : decode cX11_may 159 = .ok (.iload 4, 2) := by decide +kernel
theorem dX11_may_161 : decode cX11_may 161 = .ok (.iadd, 1) := by decide +kernel
theorem dX11_may_162 : decode cX11_may 162 = .ok (.ireturn, 1) := by decide +kernel
theorem dX11_end_0 : decode cX11_end 0 = .ok (.aload_n 0, 1) := by decide +kernel
theorem dX11_end_1 : decode cX11_end 1 = .ok (.getfield 34, 3) := by decide +kernel
theorem dX11_end_4 : decode cX11_end 4 = .ok (.iload_n 2, 1) := by decide +kernel
theorem dX11_end_5 : decode cX11_end 5 = .ok (.invokevirtual 201, 3) := by decide +kernel
theorem dX11_end_8 : decode cX11_end 8 = .ok (.lstore_n 3, 1) := by decide +kernel
theorem dX11_end_9 : decode cX11_end 9 = .ok (.aload_n 0, 1) := by decide +kernel
theorem dX11_end_10 : decode cX11_end 10 = .ok (.getfield 27, 3) := by decide +kernel
theorem dX11_end_13 : decode cX11_end 13 = .ok (.iload_n 1, 1) := by decide +kernel
theorem dX11_end_14 : decode cX11_end 14 = .ok (.invokevirtual 185, 3) := by decide +kernel
theorem dX11_end_17 : decode cX11_end 17 = .ok (.ifCond .eq 9, 3) := by decide +kernel
theorem dX11_end_20 : decode cX11_end 20 = .ok (.lload_n 3, 1) := by decide +kernel
theorem dX11_end_21 : decode cX11_end 21 = .ok (.lconst 0, 1) := by decide +kernel
theorem dX11_end_22 : decode cX11_end 22 = .ok (.lcmp, 1) := by decide +kernel
theorem dX11_end_23 : decode cX11_end 23 = .ok (.ifCond .ne 6, 3) := by decide +kernel
theorem dX11_end_26 : decode cX11_end 26 = .ok (.ldc 209, 2) := by decide +kernel
theorem dX11_end_28 : decode cX11_end 28 = .ok (.ireturn, 1) := by decide +kernel
theorem dX11_end_29 : decode cX11_end 29 = .ok (.aload_n 0, 1) := by decide +kernel
theorem dX11_end_30 : decode cX11_end 30 = .ok (.getfield 59, 3) := by decide +kernel
theorem dX11_end_33 : decode cX11_end 33 = .ok (.aload_n 0, 1) := by decide +kernel
theorem dX11_end_34 : decode cX11_end 34 = .ok (.getfield 27, 3) := by decide +kernel
theorem dX11_end_37 : decode cX11_end 37 = .ok (.aload_n 0, 1) := by decide +kernel
theorem dX11_end_38 : decode cX11_end 38 = .ok (.getfield 41, 3) := by decide +kernel
theorem dX11_end_41 : decode cX11_end 41 = .ok (.iload_n 1, 1) := by decide +kernel
theorem dX11_end_42 : decode cX11_end 42 = .ok (.invokevirtual 239, 3) := by decide +kernel
theorem dX11_end_45 : decode cX11_end 45 = .ok (.aload_n 0, 1) := by decide +kernel
theorem dX11_end_46 : decode cX11_end 46 = .ok (.getfield 41, 3) := by decide +kernel
theorem dX11_end_49 : decode cX11_end 49 = .ok (.getfield 255, 3) := by decide +kernel
theorem dX11_end_52 : decode cX11_end 52 = .ok (.iload_n 1, 1) := by decide +kernel
theorem dX11_end_53 : decode cX11_end 53 = .ok (.invokestatic 140, 3) := by decide +kernel
theorem dX11_end_56 : decode cX11_end 56 = .ok (.aload_n 0, 1) := by decide +kernel
theorem dX11_end_57 : decode cX11_end 57 = .ok (.getfield 59, 3) := by decide +kernel
theorem dX11_end_60 : decode cX11_end 60 = .ok (.lload_n 3, 1) := by decide +kernel
theorem dX11_end_61 : decode cX11_end 61 = .ok (.invokevirtual 243, 3) := by decide +kernel
theorem dX11_end_64 : decode cX11_end 64 = .ok (.iadd, 1) := by decide +kernel
theorem dX11_end_65 : decode cX11_end 65 = .ok (.ireturn, 1) := by decide +kernel
theorem dX11_settle_0 : decode cX11_settle 0 = .ok (.aload_n 0, 1) := by decide +kernel
theorem dX11_settle_1 : decode cX11_settle 1 = .ok (.getfield 27, 3) := by decide +kernel
theorem dX11_settle_4 : decode cX11_settle 4 = .ok (.getfield 127, 3) := by decide +kernel
theorem dX11_settle_7 : decode cX11_settle 7 = .ok (.istore_n 1, 1) := by decide +kernel
theorem dX11_settle_8 : decode cX11_settle 8 = .ok (.iconst 0, 1) := by decide +kernel
theorem dX11_settle_9 : decode cX11_settle 9 = .ok (.istore_n 2, 1) := by decide +kernel
theorem dX11_settle_10 : decode cX11_settle 10 = .ok (.iload_n 2, 1) := by decide +kernel
theorem dX11_settle_11 : decode cX11_settle 11 = .ok (.iload_n 1, 1) := by decide +kernel
theorem dX11_settle_12 : decode cX11_settle 12 = .ok (.if_icmp .ge 22, 3) := by decide +kernel
theorem dX11_settle_15 : decode cX11_settle 15 = .ok (.aload_n 0, 1) := by decide +kernel
theorem dX11_settle_16 : decode cX11_settle 16 = .ok (.getfield 70, 3) := by decide +kernel
theorem dX11_settle_19 : decode cX11_settle 19 = .ok (.iload_n 2, 1) := by decide +kernel
theorem dX11_settle_20 : decode cX11_settle 20 = .ok (.aload_n 0, 1) := by decide +kernel
theorem dX11_settle_21 : decode cX11_settle 21 = .ok (.iload_n 2, 1) := by decide +kernel
theorem dX11_settle_22 : decode cX11_settle 22 = .ok (.invokevirtual 236, 3) := by decide +kernel
theorem dX11_settle_25 : decode cX11_settle 25 = .ok (.invokestatic 177, 3) := by decide +kernel
theorem dX11_settle_28 : decode cX11_settle 28 = .ok (.iinc 2 1, 3) := by decide +kernel
theorem dX11_settle_31 : decode cX11_settle 31 = .ok (.goto (-21), 3) := by decide +kernel
theorem dX11_settle_34 : decode cX11_settle 34 = .ok (.iconst 1, 1) := by decide +kernel
theorem dX11_settle_35 : decode cX11_settle 35 = .ok (.iload_n 1, 1) := by decide +kernel
theorem dX11_settle_36 : decode cX11_settle 36 = .ok (.ishl, 1) := by decide +kernel
theorem dX11_settle_37 : decode cX11_settle 37 = .ok (.iconst 1, 1) := by decide +kernel
theorem dX11_settle_38 : decode cX11_settle 38 = .ok (.isub, 1) := by decide +kernel
theorem dX11_settle_39 : decode cX11_settle 39 = .ok (.istore_n 2, 1) := by decide +kernel
theorem dX11_settle_40 : decode cX11_settle 40 = .ok (.aload_n 0, 1) := by decide +kernel
theorem dX11_settle_41 : decode cX11_settle 41 = .ok (.getfield 74, 3) := by decide +kernel
theorem dX11_settle_44 : decode cX11_settle 44 = .ok (.iconst 0, 1) := by decide +kernel
theorem dX11_settle_45 : decode cX11_settle 45 = .ok (.iconst 0, 1) := by decide +kernel
theorem dX11_settle_46 : decode cX11_settle 46 = .ok (.invokestatic 177, 3) := by decide +kernel
theorem dX11_settle_49 : decode cX11_settle 49 = .ok (.iconst 1, 1) := by decide +kernel
theorem dX11_settle_50 : decode cX11_settle 50 = .ok (.istore_n 3, 1) := by decide +kernel
theorem dX11_settle_51 : decode cX11_settle 51 = .ok (.iload_n 3, 1) := by decide +kernel
theorem dX11_settle_52 : decode cX11_settle 52 = .ok (.iload_n 2, 1) := by decide +kernel
theorem dX11_settle_53 : decode cX11_settle 53 = .ok (.if_icmp .gt 97, 3) := by decide +kernel
theorem dX11_settle_56 : decode cX11_settle 56 = .ok (.iconst 0, 1) := by decide +kernel
theorem dX11_settle_57 : decode cX11_settle 57 = .ok (.istore 4, 2) := by decide +kernel
theorem dX11_settle_59 : decode cX11_settle 59 = .ok (.iconst 0, 1) := by decide +kernel
theorem dX11_settle_60 : decode cX11_settle 60 = .ok (.istore 5, 2) := by decide +kernel
theorem dX11_settle_62 : decode cX11_settle 62 = .ok (.iconst 0, 1) := by decide +kernel
theorem dX11_settle_63 : decode cX11_settle 63 = .ok (.istore 6, 2) := by decide +kernel
theorem dX11_settle_65 : decode cX11_settle 65 = .ok (.iload 6, 2) := by decide +kernel
theorem dX11_settle_67 : decode cX11_settle 67 = .ok (.iload_n 1, 1) := by decide +kernel
theorem dX11_settle_68 : decode cX11_settle 68 = .ok (.if_icmp .ge 54, 3) := by decide +kernel
theorem dX11_settle_71 : decode cX11_settle 71 = .ok (.iload_n 3, 1) := by decide +kernel
theorem dX11_settle_72 : decode cX11_settle 72 = .ok (.iload 6, 2) := by decide +kernel
theorem dX11_settle_74 : decode cX11_settle 74 = .ok (.ishr, 1) := by decide +kernel
theorem dX11_settle_75 : decode cX11_settle 75 = .ok (.iconst 1, 1) := by decide +kernel
theorem dX11_settle_76 : decode cX11_settle 76 = .ok (.iand, 1) := by decide +kernel
theorem dX11_settle_77 : decode cX11_settle 77 = .ok (.ifCond .eq 39, 3) := by decide +kernel
theorem dX11_settle_80 : decode cX11_settle 80 = .ok (.iload 4, 2) := by decide +kernel
theorem dX11_settle_82 : decode cX11_settle 82 = .ok (.aload_n 0, 1) := by decide +kernel
theorem dX11_settle_83 : decode cX11_settle 83 = .ok (.getfield 70, 3) := by decide +kernel
theorem dX11_settle_86 : decode cX11_settle 86 = .ok (.iload 6, 2) := by decide +kernel
theorem dX11_settle_88 : decode cX11_settle 88 = .ok (.invokestatic 140, 3) := by decide +kernel
theorem dX11_settle_91 : decode cX11_settle 91 = .ok (.iadd, 1) := by decide +kernel
theorem dX11_settle_92 : decode cX11_settle 92 = .ok (.istore 4, 2) := by decide +kernel
theorem dX11_settle_94 : decode cX11_settle 94 = .ok (.iload 5, 2) := by decide +kernel
theorem dX11_settle_96 : decode cX11_settle 96 = .ok (.aload_n 0, 1) := by decide +kernel
theorem dX11_settle_97 : decode cX11_settle 97 = .ok (.getfield 74, 3) := by decide +kernel
theorem dX11_settle_100 : decode cX11_settle 100 = .ok (.iload_n 3, 1) := by decide +kernel
theorem dX11_settle_101 : decode cX11_settle 101 = .ok (.iconst 1, 1) := by decide +kernel
theorem dX11_settle_102 : decode cX11_settle 102 = .ok (.iload 6, 2) := by decide +kernel
theorem dX11_settle_104 : decode cX11_settle 104 = .ok (.ishl, 1) := by decide +kernel
theorem dX11_settle_105 : decode cX11_settle 105 = .ok (.iconst (-1), 1) := by decide +kernel
theorem dX11_settle_106 : decode cX11_settle 106 = .ok (.ixor, 1) := by decide +kernel
theorem dX11_settle_107 : decode cX11_settle 107 = .ok (.iand, 1) := by decide +kernel
theorem dX11_settle_108 : decode cX11_settle 108 = .ok (.invokestatic 140, 3) := by decide +kernel
theorem dX11_settle_111 : decode cX11_settle 111 = .ok (.invokestatic 252, 3) := by decide +kernel
theorem dX11_settle_114 : decode cX11_settle 114 = .ok (.istore 5, 2) := by decide +kernel
theorem dX11_settle_116 : decode cX11_settle 116 = .ok (.iinc 6 1, 3) := by decide +kernel
theorem dX11_settle_119 : decode cX11_settle 119 = .ok (.goto (-54), 3) := by decide +kernel
theorem dX11_settle_122 : decode cX11_settle 122 = .ok (.aload_n 0, 1) := by decide +kernel
theorem dX11_settle_123 : decode cX11_settle 123 = .ok (.getfield 74, 3) := by decide +kernel
theorem dX11_settle_126 : decode cX11_settle 126 = .ok (.iload_n 3, 1) := by decide +kernel
theorem dX11_settle_127 : decode cX11_settle 127 = .ok (.iload 4, 2) := by decide +kernel
theorem dX11_settle_129 : decode cX11_settle 129 = .ok (.ifCond .ne 10, 3) := by decide +kernel
theorem dX11_settle_132 : decode cX11_settle 132 = .ok (.iload 5, 2) := by decide +kernel
theorem dX11_settle_134 : decode cX11_settle 134 = .ok (.iconst 1, 1) := by decide +kernel
theorem dX11_settle_135 : decode cX11_settle 135 = .ok (.iadd, 1) := by decide +kernel
theorem dX11_settle_136 : decode cX11_settle 136 = .ok (.goto 5, 3) := by decide +kernel
theorem dX11_settle_139 : decode cX11_settle 139 = .ok (.iload 5, 2) := by decide +kernel
theorem dX11_settle_141 : decode cX11_settle 141 = .ok (.invokestatic 177, 3) := by decide +kernel
theorem dX11_settle_144 : decode cX11_settle 144 = .ok (.iinc 3 1, 3) := by decide +kernel
theorem dX11_settle_147 : decode cX11_settle 147 = .ok (.goto (-96), 3) := by decide +kernel
theorem dX11_settle_150 : decode cX11_settle 150 = .ok (.iload_n 1, 1) := by decide +kernel
theorem dX11_settle_151 : decode cX11_settle 151 = .ok (.aload_n 0, 1) := by decide +kernel
theorem dX11_settle_152 : decode cX11_settle 152 = .ok (.getfield 74, 3) := by decide +kernel
theorem dX11_settle_155 : decode cX11_settle 155 = .ok (.iload_n 2, 1) := by decide +kernel
theorem dX11_settle_156 : decode cX11_settle 156 = .ok (.invokestatic 140, 3) := by decide +kernel
theorem dX11_settle_159 : decode cX11_settle 159 = .ok (.isub, 1) := by decide +kernel
theorem dX11_settle_160 : decode cX11_settle 160 = .ok (.ireturn, 1) := by decide +kernel
theorem dX11_best_0 : decode cX11_best 0 = .ok (.iload_n 1, 1) := by decide +kernel
theorem dX11_best_1 : decode cX11_best 1 = .ok (.ifCond .lt 8, 3) := by decide +kernel
theorem dX11_best_4 : decode cX11_best 4 = .ok (.iload_n 1, 1) := by decide +kernel
theorem dX11_best_5 : decode cX11_best 5 = .ok (.iconst 1, 1) := by decide +kernel
theorem dX11_best_6 : decode cX11_best 6 = .ok (.if_icmp .le 5, 3) := by decide +kernel
theorem dX11_best_9 : decode cX11_best 9 = .ok (.iconst (-1), 1) := by decide +kernel
theorem dX11_best_10 : decode cX11_best 10 = .ok (.ireturn, 1) := by decide +kernel
theorem dX11_best_11 : decode cX11_best 11 = .ok (.iconst (-1), 1) := by decide +kernel
theorem dX11_best_12 : decode cX11_best 12 = .ok (.istore_n 2, 1) := by decide +kernel
theorem dX11_best_13 : decode cX11_best 13 = .ok (.iconst 0, 1) := by decide +kernel
theorem dX11_best_14 : decode cX11_best 14 = .ok (.istore_n 3, 1) := by decide +kernel
theorem dX11_best_15 : decode cX11_best 15 = .ok (.iconst 0, 1) := by decide +kernel
theorem dX11_best_16 : decode cX11_best 16 = .ok (.istore 4, 2) := by decide +kernel
theorem dX11_best_18 : decode cX11_best 18 = .ok (.iload 4, 2) := by decide +kernel
theorem dX11_best_20 : decode cX11_best 20 = .ok (.aload_n 0, 1) := by decide +kernel
theorem dX11_best_21 : decode cX11_best 21 = .ok (.getfield 27, 3) := by decide +kernel
theorem dX11_best_24 : decode cX11_best 24 = .ok (.getfield 127, 3) := by decide +kernel
theorem dX11_best_27 : decode cX11_best 27 = .ok (.if_icmp .ge 48, 3) := by decide +kernel
theorem dX11_best_30 : decode cX11_best 30 = .ok (.iload_n 1, 1) := by decide +kernel
theorem dX11_best_31 : decode cX11_best 31 = .ok (.ifCond .ne 12, 3) := by decide +kernel
theorem dX11_best_34 : decode cX11_best 34 = .ok (.aload_n 0, 1) := by decide +kernel
theorem dX11_best_35 : decode cX11_best 35 = .ok (.iload 4, 2) := by decide +kernel
theorem dX11_best_37 : decode cX11_best 37 = .ok (.invokevirtual 236, 3) := by decide +kernel
theorem dX11_best_40 : decode cX11_best 40 = .ok (.goto 10, 3) := by decide +kernel
theorem dX11_best_43 : decode cX11_best 43 = .ok (.aload_n 0, 1) := by decide +kernel
theorem dX11_best_44 : decode cX11_best 44 = .ok (.iload 4, 2) := by decide +kernel
theorem dX11_best_46 : decode cX11_best 46 = .ok (.invokevirtual 236, 3) := by decide +kernel
theorem dX11_best_49 : decode cX11_best 49 = .ok (.ineg, 1) := by decide +kernel
theorem dX11_best_50 : decode cX11_best 50 = .ok (.istore 5, 2) := by decide +kernel
theorem dX11_best_52 : decode cX11_best 52 = .ok (.iload_n 2, 1) := by decide +kernel
theorem dX11_best_53 : decode cX11_best 53 = .ok (.iconst (-1), 1) := by decide +kernel
theorem dX11_best_54 : decode cX11_best 54 = .ok (.if_icmp .eq 9, 3) := by decide +kernel
theorem dX11_best_57 : decode cX11_best 57 = .ok (.iload 5, 2) := by decide +kernel
theorem dX11_best_59 : decode cX11_best 59 = .ok (.iload_n 3, 1) := by decide +kernel
theorem dX11_best_60 : decode cX11_best 60 = .ok (.if_icmp .le 9, 3) := by decide +kernel
theorem dX11_best_63 : decode cX11_best 63 = .ok (.iload 4, 2) := by decide +kernel
theorem dX11_best_65 : decode cX11_best 65 = .ok (.istore_n 2, 1) := by decide +kernel
theorem dX11_best_66 : decode cX11_best 66 = .ok (.iload 5, 2) := by decide +kernel
theorem dX11_best_68 : decode cX11_best 68 = .ok (.istore_n 3, 1) := by decide +kernel
theorem dX11_best_69 : decode cX11_best 69 = .ok (.iinc 4 1, 3) := by decide +kernel
theorem dX11_best_72 : decode cX11_best 72 = .ok (.goto (-54), 3) := by decide +kernel
theorem dX11_best_75 : decode cX11_best 75 = .ok (.iload_n 2, 1) := by decide +kernel
theorem dX11_best_76 : decode cX11_best 76 = .ok (.ireturn, 1) := by decide +kernel
theorem dX11_win_0 : decode cX11_win 0 = .ok (.iload_n 1, 1) := by decide +kernel
theorem dX11_win_1 : decode cX11_win 1 = .ok (.ifCond .lt 25, 3) := by decide +kernel
theorem dX11_win_4 : decode cX11_win 4 = .ok (.iload_n 1, 1) := by decide +kernel
theorem dX11_win_5 : decode cX11_win 5 = .ok (.iconst 1, 1) := by decide +kernel
theorem dX11_win_6 : decode cX11_win 6 = .ok (.aload_n 0, 1) := by decide +kernel
theorem dX11_win_7 : decode cX11_win 7 = .ok (.getfield 27, 3) := by decide +kernel
theorem dX11_win_10 : decode cX11_win 10 = .ok (.getfield 121, 3) := by decide +kernel
theorem dX11_win_13 : decode cX11_win 13 = .ok (.ishl, 1) := by decide +kernel
theorem dX11_win_14 : decode cX11_win 14 = .ok (.if_icmp .ge 12, 3) := by decide +kernel
theorem dX11_win_17 : decode cX11_win 17 = .ok (.iload_n 2, 1) := by decide +kernel
theorem dX11_win_18 : decode cX11_win 18 = .ok (.ifCond .lt 8, 3) := by decide +kernel
theorem dX11_win_21 : decode cX11_win 21 = .ok (.iload_n 2, 1) := by decide +kernel
theorem dX11_win_22 : decode cX11_win 22 = .ok (.iconst 1, 1) := by decide +kernel
theorem dX11_win_23 : decode cX11_win 23 = .ok (.if_icmp .le 5, 3) := by decide +kernel
theorem dX11_win_26 : decode cX11_win 26 = .ok (.iconst (-1), 1) := by decide +kernel
theorem dX11_win_27 : decode cX11_win 27 = .ok (.ireturn, 1) := by decide +kernel
theorem dX11_win_28 : decode cX11_win 28 = .ok (.aload_n 0, 1) := by decide +kernel
theorem dX11_win_29 : decode cX11_win 29 = .ok (.getfield 66, 3) := by decide +kernel
theorem dX11_win_32 : decode cX11_win 32 = .ok (.aload_n 0, 1) := by decide +kernel
theorem dX11_win_33 : decode cX11_win 33 = .ok (.getfield 27, 3) := by decide +kernel
theorem dX11_win_36 : decode cX11_win 36 = .ok (.aload_n 0, 1) := by decide +kernel
theorem dX11_win_37 : decode cX11_win 37 = .ok (.getfield 34, 3) := by decide +kernel
theorem dX11_win_40 : decode cX11_win 40 = .ok (.iload_n 1, 1) := by decide +kernel
theorem dX11_win_41 : decode cX11_win 41 = .ok (.invokevirtual 258, 3) := by decide +kernel
theorem dX11_win_44 : decode cX11_win 44 = .ok (.ifCond .ne 5, 3) := by decide +kernel
theorem dX11_win_47 : decode cX11_win 47 = .ok (.iconst (-1), 1) := by decide +kernel
theorem dX11_win_48 : decode cX11_win 48 = .ok (.ireturn, 1) := by decide +kernel
theorem dX11_win_49 : decode cX11_win 49 = .ok (.aload_n 0, 1) := by decide +kernel
theorem dX11_win_50 : decode cX11_win 50 = .ok (.getfield 66, 3) := by decide +kernel
theorem dX11_win_53 : decode cX11_win 53 = .ok (.aload_n 0, 1) := by decide +kernel
theorem dX11_win_54 : decode cX11_win 54 = .ok (.getfield 59, 3) := by decide +kernel
theorem dX11_win_57 : decode cX11_win 57 = .ok (.invokevirtual 262, 3) := by decide +kernel
theorem dX11_win_60 : decode cX11_win 60 = .ok (.iload_n 2, 1) := by decide +kernel
theorem dX11_win_61 : decode cX11_win 61 = .ok (.ifCond .ne 13, 3) := by decide +kernel
theorem dX11_win_64 : decode cX11_win 64 = .ok (.aload_n 0, 1) := by decide +kernel
theorem dX11_win_65 : decode cX11_win 65 = .ok (.getfield 66, 3) := by decide +kernel
theorem dX11_win_68 : decode cX11_win 68 = .ok (.getfield 266, 3) := by decide +kernel
theorem dX11_win_71 : decode cX11_win 71 = .ok (.goto 10, 3) := by decide +kernel
theorem dX11_win_74 : decode cX11_win 74 = .ok (.aload_n 0, 1) := by decide +kernel
theorem dX11_win_75 : decode cX11_win 75 = .ok (.getfield 66, 3) := by decide +kernel
theorem dX11_win_78 : decode cX11_win 78 = .ok (.getfield 269, 3) := by decide +kernel
theorem dX11_win_81 : decode cX11_win 81 = .ok (.ireturn, 1) := by decide +kernel
theorem dX11_worth_0 : decode cX11_worth 0 = .ok (.aload_n 0, 1) := by decide +kernel
theorem dX11_worth_1 : decode cX11_worth 1 = .ok (.getfield 27, 3) := by decide +kernel
theorem dX11_worth_4 : decode cX11_worth 4 = .ok (.iload_n 1, 1) := by decide +kernel
theorem dX11_worth_5 : decode cX11_worth 5 = .ok (.invokevirtual 147, 3) := by decide +kernel
theorem dX11_worth_8 : decode cX11_worth 8 = .ok (.ifnonnull 7, 3) := by decide +kernel
theorem dX11_worth_11 : decode cX11_worth 11 = .ok (.ldc2_w 272, 3) := by decide +kernel
theorem dX11_worth_14 : decode cX11_worth 14 = .ok (.lreturn, 1) := by decide +kernel
theorem dX11_worth_15 : decode cX11_worth 15 = .ok (.aload_n 0, 1) := by decide +kernel
theorem dX11_worth_16 : decode cX11_worth 16 = .ok (.getfield 59, 3) := by decide +kernel
theorem dX11_worth_19 : decode cX11_worth 19 = .ok (.invokevirtual 274, 3) := by decide +kernel
theorem dX11_worth_22 : decode cX11_worth 22 = .ok (.aload_n 0, 1) := by decide +kernel
theorem dX11_worth_23 : decode cX11_worth 23 = .ok (.getfield 59, 3) := by decide +kernel
theorem dX11_worth_26 : decode cX11_worth 26 = .ok (.aload_n 0, 1) := by decide +kernel
theorem dX11_worth_27 : decode cX11_worth 27 = .ok (.getfield 27, 3) := by decide +kernel
theorem dX11_worth_30 : decode cX11_worth 30 = .ok (.iload_n 1, 1) := by decide +kernel
theorem dX11_worth_31 : decode cX11_worth 31 = .ok (.invokevirtual 147, 3) := by decide +kernel
theorem dX11_worth_34 : decode cX11_worth 34 = .ok (.iload_n 1, 1) := by decide +kernel
theorem dX11_worth_35 : decode cX11_worth 35 = .ok (.iconst 0, 1) := by decide +kernel
theorem dX11_worth_36 : decode cX11_worth 36 = .ok (.invokevirtual 275, 3) := by decide +kernel
theorem dX11_worth_39 : decode cX11_worth 39 = .ok (.aload_n 0, 1) := by decide +kernel
theorem dX11_worth_40 : decode cX11_worth 40 = .ok (.getfield 52, 3) := by decide +kernel
theorem dX11_worth_43 : decode cX11_worth 43 = .ok (.aload_n 0, 1) := by decide +kernel
theorem dX11_worth_44 : decode cX11_worth 44 = .ok (.getfield 34, 3) := by decide +kernel
theorem dX11_worth_47 : decode cX11_worth 47 = .ok (.aload_n 0, 1) := by decide +kernel
theorem dX11_worth_48 : decode cX11_worth 48 = .ok (.getfield 59, 3) := by decide +kernel
theorem dX11_worth_51 : decode cX11_worth 51 = .ok (.iload_n 2, 1) := by decide +kernel
theorem dX11_worth_52 : decode cX11_worth 52 = .ok (.invokevirtual 279, 3) := by decide +kernel
theorem dX11_worth_55 : decode cX11_worth 55 = .ok (.lreturn, 1) := by decide +kernel
theorem dX11_holds_0 : decode cX11_holds 0 = .ok (.aload_n 0, 1) := by decide +kernel
theorem dX11_holds_1 : decode cX11_holds 1 = .ok (.getfield 27, 3) := by decide +kernel
theorem dX11_holds_4 : decode cX11_holds 4 = .ok (.iload_n 1, 1) := by decide +kernel
theorem dX11_holds_5 : decode cX11_holds 5 = .ok (.invokevirtual 185, 3) := by decide +kernel
theorem dX11_holds_8 : decode cX11_holds 8 = .ok (.ifCond .ne 7, 3) := by decide +kernel
theorem dX11_holds_11 : decode cX11_holds 11 = .ok (.ldc2_w 272, 3) := by decide +kernel
theorem dX11_holds_14 : decode cX11_holds 14 = .ok (.lreturn, 1) := by decide +kernel
theorem dX11_holds_15 : decode cX11_holds 15 = .ok (.aload_n 0, 1) := by decide +kernel
theorem dX11_holds_16 : decode cX11_holds 16 = .ok (.getfield 59, 3) := by decide +kernel
theorem dX11_holds_19 : decode cX11_holds 19 = .ok (.aload_n 0, 1) := by decide +kernel
theorem dX11_holds_20 : decode cX11_holds 20 = .ok (.getfield 27, 3) := by decide +kernel
theorem dX11_holds_23 : decode cX11_holds 23 = .ok (.aload_n 0, 1) := by decide +kernel
theorem dX11_holds_24 : decode cX11_holds 24 = .ok (.getfield 41, 3) := by decide +kernel
theorem dX11_holds_27 : decode cX11_holds 27 = .ok (.iload_n 1, 1) := by decide +kernel
theorem dX11_holds_28 : decode cX11_holds 28 = .ok (.invokevirtual 239, 3) := by decide +kernel
theorem dX11_holds_31 : decode cX11_holds 31 = .ok (.aload_n 0, 1) := by decide +kernel
theorem dX11_holds_32 : decode cX11_holds 32 = .ok (.getfield 52, 3) := by decide +kernel
theorem dX11_holds_35 : decode cX11_holds 35 = .ok (.aload_n 0, 1) := by decide +kernel
theorem dX11_holds_36 : decode cX11_holds 36 = .ok (.getfield 34, 3) := by decide +kernel
theorem dX11_holds_39 : decode cX11_holds 39 = .ok (.aload_n 0, 1) := by decide +kernel
theorem dX11_holds_40 : decode cX11_holds 40 = .ok (.getfield 59, 3) := by decide +kernel
theorem dX11_holds_43 : decode cX11_holds 43 = .ok (.iload_n 2, 1) := by decide +kernel
theorem dX11_holds_44 : decode cX11_holds 44 = .ok (.invokevirtual 279, 3) := by decide +kernel
theorem dX11_holds_47 : decode cX11_holds 47 = .ok (.lreturn, 1) := by decide +kernel
theorem dX11_luck_0 : decode cX11_luck 0 = .ok (.aload_n 0, 1) := by decide +kernel
theorem dX11_luck_1 : decode cX11_luck 1 = .ok (.getfield 27, 3) := by decide +kernel
theorem dX11_luck_4 : decode cX11_luck 4 = .ok (.iload_n 1, 1) := by decide +kernel
theorem dX11_luck_5 : decode cX11_luck 5 = .ok (.invokevirtual 185, 3) := by decide +kernel
theorem dX11_luck_8 : decode cX11_luck 8 = .ok (.ifCond .eq 23, 3) := by decide +kernel
theorem dX11_luck_11 : decode cX11_luck 11 = .ok (.aload_n 0, 1) := by decide +kernel
theorem dX11_luck_12 : decode cX11_luck 12 = .ok (.getfield 34, 3) := by decide +kernel
theorem dX11_luck_15 : decode cX11_luck 15 = .ok (.getfield 171, 3) := by decide +kernel
theorem dX11_luck_18 : decode cX11_luck 18 = .ok (.iconst 1, 1) := by decide +kernel
theorem dX11_luck_19 : decode cX11_luck 19 = .ok (.if_icmp .ne 12, 3) := by decide +kernel
theorem dX11_luck_22 : decode cX11_luck 22 = .ok (.iload_n 2, 1) := by decide +kernel
theorem dX11_luck_23 : decode cX11_luck 23 = .ok (.ifCond .lt 8, 3) := by decide +kernel
theorem dX11_luck_26 : decode cX11_luck 26 = .ok (.iload_n 2, 1) := by decide +kernel
theorem dX11_luck_27 : decode cX11_luck 27 = .ok (.iconst 1, 1) := by decide +kernel
theorem dX11_luck_28 : decode cX11_luck 28 = .ok (.if_icmp .le 5, 3) := by decide +kernel
theorem dX11_luck_31 : decode cX11_luck 31 = .ok (.iconst (-1), 1) := by decide +kernel
theorem dX11_luck_32 : decode cX11_luck 32 = .ok (.ireturn, 1) := by decide +kernel
theorem dX11_luck_33 : decode cX11_luck 33 = .ok (.iload_n 2, 1) := by decide +kernel
theorem dX11_luck_34 : decode cX11_luck 34 = .ok (.iconst 1, 1) := by decide +kernel
theorem dX11_luck_35 : decode cX11_luck 35 = .ok (.if_icmp .ne 11, 3) := by decide +kernel
theorem dX11_luck_38 : decode cX11_luck 38 = .ok (.aload_n 0, 1) := by decide +kernel
theorem dX11_luck_39 : decode cX11_luck 39 = .ok (.getfield 34, 3) := by decide +kernel
theorem dX11_luck_42 : decode cX11_luck 42 = .ok (.getfield 283, 3) := by decide +kernel
theorem dX11_luck_45 : decode cX11_luck 45 = .ok (.ireturn, 1) := by decide +kernel
theorem dX11_luck_46 : decode cX11_luck 46 = .ok (.aload_n 0, 1) := by decide +kernel
theorem dX11_luck_47 : decode cX11_luck 47 = .ok (.getfield 59, 3) := by decide +kernel
theorem dX11_luck_50 : decode cX11_luck 50 = .ok (.aload_n 0, 1) := by decide +kernel
theorem dX11_luck_51 : decode cX11_luck 51 = .ok (.getfield 27, 3) := by decide +kernel
theorem dX11_luck_54 : decode cX11_luck 54 = .ok (.aload_n 0, 1) := by decide +kernel
theorem dX11_luck_55 : decode cX11_luck 55 = .ok (.getfield 41, 3) := by decide +kernel
theorem dX11_luck_58 : decode cX11_luck 58 = .ok (.iload_n 1, 1) := by decide +kernel
theorem dX11_luck_59 : decode cX11_luck 59 = .ok (.invokevirtual 239, 3) := by decide +kernel
theorem dX11_luck_62 : decode cX11_luck 62 = .ok (.aload_n 0, 1) := by decide +kernel
theorem dX11_luck_63 : decode cX11_luck 63 = .ok (.getfield 59, 3) := by decide +kernel
theorem dX11_luck_66 : decode cX11_luck 66 = .ok (.aload_n 0, 1) := by decide +kernel
theorem dX11_luck_67 : decode cX11_luck 67 = .ok (.getfield 34, 3) := by decide +kernel
theorem dX11_luck_70 : decode cX11_luck 70 = .ok (.aload_n 0, 1) := by decide +kernel
theorem dX11_luck_71 : decode cX11_luck 71 = .ok (.getfield 34, 3) := by decide +kernel
theorem dX11_luck_74 : decode cX11_luck 74 = .ok (.iconst 0, 1) := by decide +kernel
theorem dX11_luck_75 : decode cX11_luck 75 = .ok (.invokevirtual 198, 3) := by decide +kernel
theorem dX11_luck_78 : decode cX11_luck 78 = .ok (.invokevirtual 201, 3) := by decide +kernel
theorem dX11_luck_81 : decode cX11_luck 81 = .ok (.invokevirtual 243, 3) := by decide +kernel
theorem dX11_luck_84 : decode cX11_luck 84 = .ok (.istore_n 3, 1) := by decide +kernel
theorem dX11_luck_85 : decode cX11_luck 85 = .ok (.iconst 0, 1) := by decide +kernel
theorem dX11_luck_86 : decode cX11_luck 86 = .ok (.istore 4, 2) := by decide +kernel
theorem dX11_luck_88 : decode cX11_luck 88 = .ok (.iconst 0, 1) := by decide +kernel
theorem dX11_luck_89 : decode cX11_luck 89 = .ok (.istore 5, 2) := by decide +kernel
theorem dX11_luck_91 : decode cX11_luck 91 = .ok (.iload 5, 2) := by decide +kernel
theorem dX11_luck_93 : decode cX11_luck 93 = .ok (.aload_n 0, 1) := by decide +kernel
theorem dX11_luck_94 : decode cX11_luck 94 = .ok (.getfield 34, 3) := by decide +kernel
theorem dX11_luck_97 : decode cX11_luck 97 = .ok (.getfield 233, 3) := by decide +kernel
theorem dX11_luck_100 : decode cX11_luck 100 = .ok (.if_icmp .ge 47, 3) := by decide +kernel
theorem dX11_luck_103 : decode cX11_luck 103 = .ok (.aload_n 0, 1) := by decide +kernel
theorem dX11_luck_104 : decode cX11_luck 104 = .ok (.getfield 34, 3) := by decide +kernel
theorem dX11_luck_107 : decode cX11_luck 107 = .ok (.iload 5, 2) := by decide +kernel
theorem dX11_luck_109 : decode cX11_luck 109 = .ok (.invokevirtual 201, 3) := by decide +kernel
theorem dX11_luck_112 : decode cX11_luck 112 = .ok (.lstore 6, 2) := by decide +kernel
theorem dX11_luck_114 : decode cX11_luck 114 = .ok (.lload 6, 2) := by decide +kernel
theorem dX11_luck_116 : decode cX11_luck 116 = .ok (.ldc2_w 207, 3) := by decide +kernel
theorem dX11_luck_119 : decode cX11_luck 119 = .ok (.land, 1) := by decide +kernel
theorem dX11_luck_120 : decode cX11_luck 120 = .ok (.lconst 0, 1) := by decide +kernel
theorem dX11_luck_121 : decode cX11_luck 121 = .ok (.lcmp, 1) := by decide +kernel
theorem dX11_luck_122 : decode cX11_luck 122 = .ok (.ifCond .eq 19, 3) := by decide +kernel
theorem dX11_luck_125 : decode cX11_luck 125 = .ok (.aload_n 0, 1) := by decide +kernel
theorem dX11_luck_126 : decode cX11_luck 126 = .ok (.getfield 59, 3) := by decide +kernel
theorem dX11_luck_129 : decode cX11_luck 129 = .ok (.lload 6, 2) := by decide +kernel
theorem dX11_luck_131 : decode cX11_luck 131 = .ok (.invokevirtual 243, 3) := by decide +kernel
theorem dX11_luck_134 : decode cX11_luck 134 = .ok (.iload_n 3, 1) := by decide +kernel
theorem dX11_luck_135 : decode cX11_luck 135 = .ok (.if_icmp .lt 6, 3) := by decide +kernel
theorem dX11_luck_138 : decode cX11_luck 138 = .ok (.iinc 4 1, 3) := by decide +kernel
theorem dX11_luck_141 : decode cX11_luck 141 = .ok (.iinc 5 1, 3) := by decide +kernel
theorem dX11_luck_144 : decode cX11_luck 144 = .ok (.goto (-53), 3) := by decide +kernel
theorem dX11_luck_147 : decode cX11_luck 147 = .ok (.iload 4, 2) := by decide +kernel
theorem dX11_luck_149 : decode cX11_luck 149 = .ok (.ireturn, 1) := by decide +kernel
theorem dX11_image_0 : decode cX11_image 0 = .ok (.aload_n 0, 1) := by decide +kernel
theorem dX11_image_1 : decode cX11_image 1 = .ok (.getfield 112, 3) := by decide +kernel
theorem dX11_image_4 : decode cX11_image 4 = .ok (.aload_n 0, 1) := by decide +kernel
theorem dX11_image_5 : decode cX11_image 5 = .ok (.getfield 45, 3) := by decide +kernel
theorem dX11_image_8 : decode cX11_image 8 = .ok (.arraylength, 1) := by decide +kernel
theorem dX11_image_9 : decode cX11_image 9 = .ok (.if_icmp .lt 5, 3) := by decide +kernel
theorem dX11_image_12 : decode cX11_image 12 = .ok (.iconst (-1), 1) := by decide +kernel
theorem dX11_image_13 : decode cX11_image 13 = .ok (.ireturn, 1) := by decide +kernel
theorem dX11_image_14 : decode cX11_image 14 = .ok (.aload_n 0, 1) := by decide +kernel
theorem dX11_image_15 : decode cX11_image 15 = .ok (.getfield 45, 3) := by decide +kernel
theorem dX11_image_18 : decode cX11_image 18 = .ok (.aload_n 0, 1) := by decide +kernel
theorem dX11_image_19 : decode cX11_image 19 = .ok (.getfield 112, 3) := by decide +kernel
theorem dX11_image_22 : decode cX11_image 22 = .ok (.aaload, 1) := by decide +kernel
theorem dX11_image_23 : decode cX11_image 23 = .ok (.astore_n 1, 1) := by decide +kernel
theorem dX11_image_24 : decode cX11_image 24 = .ok (.aload_n 1, 1) := by decide +kernel
theorem dX11_image_25 : decode cX11_image 25 = .ok (.ifnull 11, 3) := by decide +kernel
theorem dX11_image_28 : decode cX11_image 28 = .ok (.aload_n 1, 1) := by decide +kernel
theorem dX11_image_29 : decode cX11_image 29 = .ok (.aload_n 0, 1) := by decide +kernel
theorem dX11_image_30 : decode cX11_image 30 = .ok (.getfield 41, 3) := by decide +kernel
theorem dX11_image_33 : decode cX11_image 33 = .ok (.invokevirtual 286, 3) := by decide +kernel
theorem dX11_image_36 : decode cX11_image 36 = .ok (.aload_n 0, 1) := by decide +kernel
theorem dX11_image_37 : decode cX11_image 37 = .ok (.dup, 1) := by decide +kernel
theorem dX11_image_38 : decode cX11_image 38 = .ok (.getfield 112, 3) := by decide +kernel
theorem dX11_image_41 : decode cX11_image 41 = .ok (.dup_x1, 1) := by decide +kernel
theorem dX11_image_42 : decode cX11_image 42 = .ok (.iconst 1, 1) := by decide +kernel
theorem dX11_image_43 : decode cX11_image 43 = .ok (.iadd, 1) := by decide +kernel
theorem dX11_image_44 : decode cX11_image 44 = .ok (.putfield 112, 3) := by decide +kernel
theorem dX11_image_47 : decode cX11_image 47 = .ok (.ireturn, 1) := by decide +kernel
theorem dX11_back_0 : decode cX11_back 0 = .ok (.iload_n 1, 1) := by decide +kernel
theorem dX11_back_1 : decode cX11_back 1 = .ok (.ifCond .lt 29, 3) := by decide +kernel
theorem dX11_back_4 : decode cX11_back 4 = .ok (.iload_n 1, 1) := by decide +kernel
theorem dX11_back_5 : decode cX11_back 5 = .ok (.aload_n 0, 1) := by decide +kernel
theorem dX11_back_6 : decode cX11_back 6 = .ok (.getfield 112, 3) := by decide +kernel
theorem dX11_back_9 : decode cX11_back 9 = .ok (.if_icmp .ge 21, 3) := by decide +kernel
theorem dX11_back_12 : decode cX11_back 12 = .ok (.iload_n 1, 1) := by decide +kernel
theorem dX11_back_13 : decode cX11_back 13 = .ok (.aload_n 0, 1) := by decide +kernel
theorem dX11_back_14 : decode cX11_back 14 = .ok (.getfield 45, 3) := by decide +kernel
theorem dX11_back_17 : decode cX11_back 17 = .ok (.arraylength, 1) := by decide +kernel
theorem dX11_back_18 : decode cX11_back 18 = .ok (.if_icmp .ge 12, 3) := by decide +kernel
theorem dX11_back_21 : decode cX11_back 21 = .ok (.aload_n 0, 1) := by decide +kernel
theorem dX11_back_22 : decode cX11_back 22 = .ok (.getfield 45, 3) := by decide +kernel
theorem dX11_back_25 : decode cX11_back 25 = .ok (.iload_n 1, 1) := by decide +kernel
theorem dX11_back_26 : decode cX11_back 26 = .ok (.aaload, 1) := by decide +kernel
theorem dX11_back_27 : decode cX11_back 27 = .ok (.ifnonnull 5, 3) := by decide +kernel
theorem dX11_back_30 : decode cX11_back 30 = .ok (.iconst 0, 1) := by decide +kernel
theorem dX11_back_31 : decode cX11_back 31 = .ok (.ireturn, 1) := by decide +kernel
theorem dX11_back_32 : decode cX11_back 32 = .ok (.aload_n 0, 1) := by decide +kernel
theorem dX11_back_33 : decode cX11_back 33 = .ok (.getfield 41, 3) := by decide +kernel
theorem dX11_back_36 : decode cX11_back 36 = .ok (.aload_n 0, 1) := by decide +kernel
theorem dX11_back_37 : decode cX11_back 37 = .ok (.getfield 45, 3) := by decide +kernel
theorem dX11_back_40 : decode cX11_back 40 = .ok (.iload_n 1, 1) := by decide +kernel
theorem dX11_back_41 : decode cX11_back 41 = .ok (.aaload, 1) := by decide +kernel
theorem dX11_back_42 : decode cX11_back 42 = .ok (.invokevirtual 286, 3) := by decide +kernel
theorem dX11_back_45 : decode cX11_back 45 = .ok (.aload_n 0, 1) := by decide +kernel
theorem dX11_back_46 : decode cX11_back 46 = .ok (.getfield 34, 3) := by decide +kernel
theorem dX11_back_49 : decode cX11_back 49 = .ok (.aload_n 0, 1) := by decide +kernel
theorem dX11_back_50 : decode cX11_back 50 = .ok (.getfield 41, 3) := by decide +kernel
theorem dX11_back_53 : decode cX11_back 53 = .ok (.invokevirtual 81, 3) := by decide +kernel
theorem dX11_back_56 : decode cX11_back 56 = .ok (.pop, 1) := by decide +kernel
theorem dX11_back_57 : decode cX11_back 57 = .ok (.iconst 1, 1) := by decide +kernel
theorem dX11_back_58 : decode cX11_back 58 = .ok (.ireturn, 1) := by decide +kernel
theorem dX11_count_0 : decode cX11_count 0 = .ok (.iload_n 1, 1) := by decide +kernel
theorem dX11_count_1 : decode cX11_count 1 = .ok (.tableswitch 132 0 8 #[51, 56, 64, 72, 77, 82, 93, 101, 124], 51) := by decide +kernel
theorem dX11_count_52 : decode cX11_count 52 = .ok (.aload_n 0, 1) := by decide +kernel
theorem dX11_count_53 : decode cX11_count 53 = .ok (.getfield 109, 3) := by decide +kernel
theorem dX11_count_56 : decode cX11_count 56 = .ok (.ireturn, 1) := by decide +kernel
theorem dX11_count_57 : decode cX11_count 57 = .ok (.aload_n 0, 1) := by decide +kernel
theorem dX11_count_58 : decode cX11_count 58 = .ok (.getfield 41, 3) := by decide +kernel
theorem dX11_count_61 : decode cX11_count 61 = .ok (.getfield 168, 3) := by decide +kernel
theorem dX11_count_64 : decode cX11_count 64 = .ok (.ireturn, 1) := by decide +kernel
theorem dX11_count_65 : decode cX11_count 65 = .ok (.aload_n 0, 1) := by decide +kernel
theorem dX11_count_66 : decode cX11_count 66 = .ok (.getfield 41, 3) := by decide +kernel
theorem dX11_count_69 : decode cX11_count 69 = .ok (.invokevirtual 290, 3) := by decide +kernel
theorem dX11_count_72 : decode cX11_count 72 = .ok (.ireturn, 1) := by decide +kernel
theorem dX11_count_73 : decode cX11_count 73 = .ok (.aload_n 0, 1) := by decide +kernel
theorem dX11_count_74 : decode cX11_count 74 = .ok (.getfield 85, 3) := by decide +kernel
theorem dX11_count_77 : decode cX11_count 77 = .ok (.ireturn, 1) := by decide +kernel
theorem dX11_count_78 : decode cX11_count 78 = .ok (.aload_n 0, 1) := by decide +kernel
theorem dX11_count_79 : decode cX11_count 79 = .ok (.getfield 112, 3) := by decide +kernel
theorem dX11_count_82 : decode cX11_count 82 = .ok (.ireturn, 1) := by decide +kernel
theorem dX11_count_83 : decode cX11_count 83 = .ok (.aload_n 0, 1) := by decide +kernel
theorem dX11_count_84 : decode cX11_count 84 = .ok (.getfield 34, 3) := by decide +kernel
theorem dX11_count_87 : decode cX11_count 87 = .ok (.getfield 217, 3) := by decide +kernel
theorem dX11_count_90 : decode cX11_count 90 = .ok (.invokestatic 293, 3) := by decide +kernel
theorem dX11_count_93 : decode cX11_count 93 = .ok (.ireturn, 1) := by decide +kernel
theorem dX11_count_94 : decode cX11_count 94 = .ok (.aload_n 0, 1) := by decide +kernel
theorem dX11_count_95 : decode cX11_count 95 = .ok (.getfield 34, 3) := by decide +kernel
theorem dX11_count_98 : decode cX11_count 98 = .ok (.getfield 283, 3) := by decide +kernel
theorem dX11_count_101 : decode cX11_count 101 = .ok (.ireturn, 1) := by decide +kernel
theorem dX11_count_102 : decode cX11_count 102 = .ok (.aload_n 0, 1) := by decide +kernel
theorem dX11_count_103 : decode cX11_count 103 = .ok (.getfield 52, 3) := by decide +kernel
theorem dX11_count_106 : decode cX11_count 106 = .ok (.aload_n 0, 1) := by decide +kernel
theorem dX11_count_107 : decode cX11_count 107 = .ok (.getfield 34, 3) := by decide +kernel
theorem dX11_count_110 : decode cX11_count 110 = .ok (.getfield 298, 3) := by decide +kernel
theorem dX11_count_113 : decode cX11_count 113 = .ok (.invokevirtual 299, 3) := by decide +kernel
theorem dX11_count_116 : decode cX11_count 116 = .ok (.ifCond .eq 7, 3) := by decide +kernel
theorem dX11_count_119 : decode cX11_count 119 = .ok (.iconst 1, 1) := by decide +kernel
theorem dX11_count_120 : decode cX11_count 120 = .ok (.goto 4, 3) := by decide +kernel
theorem dX11_count_123 : decode cX11_count 123 = .ok (.iconst 0, 1) := by decide +kernel
theorem dX11_count_124 : decode cX11_count 124 = .ok (.ireturn, 1) := by decide +kernel
theorem dX11_count_125 : decode cX11_count 125 = .ok (.aload_n 0, 1) := by decide +kernel
theorem dX11_count_126 : decode cX11_count 126 = .ok (.getfield 41, 3) := by decide +kernel
theorem dX11_count_129 : decode cX11_count 129 = .ok (.getfield 302, 3) := by decide +kernel
theorem dX11_count_132 : decode cX11_count 132 = .ok (.ireturn, 1) := by decide +kernel
theorem dX11_count_133 : decode cX11_count 133 = .ok (.iconst (-1), 1) := by decide +kernel
theorem dX11_count_134 : decode cX11_count 134 = .ok (.ireturn, 1) := by decide +kernel
theorem dX11_putBytes_0 : decode cX11_putBytes 0 = .ok (.bipush 24, 2) := by decide +kernel
theorem dX11_putBytes_2 : decode cX11_putBytes 2 = .ok (.istore_n 2, 1) := by decide +kernel
theorem dX11_putBytes_3 : decode cX11_putBytes 3 = .ok (.iload_n 2, 1) := by decide +kernel
theorem dX11_putBytes_4 : decode cX11_putBytes 4 = .ok (.ifCond .lt 51, 3) := by decide +kernel
theorem dX11_putBytes_7 : decode cX11_putBytes 7 = .ok (.aload_n 0, 1) := by decide +kernel
theorem dX11_putBytes_8 : decode cX11_putBytes 8 = .ok (.getfield 85, 3) := by decide +kernel
theorem dX11_putBytes_11 : decode cX11_putBytes 11 = .ok (.ifCond .lt 38, 3) := by decide +kernel
theorem dX11_putBytes_14 : decode cX11_putBytes 14 = .ok (.aload_n 0, 1) := by decide +kernel
theorem dX11_putBytes_15 : decode cX11_putBytes 15 = .ok (.getfield 85, 3) := by decide +kernel
theorem dX11_putBytes_18 : decode cX11_putBytes 18 = .ok (.aload_n 0, 1) := by decide +kernel
theorem dX11_putBytes_19 : decode cX11_putBytes 19 = .ok (.getfield 9, 3) := by decide +kernel
theorem dX11_putBytes_22 : decode cX11_putBytes 22 = .ok (.arraylength, 1) := by decide +kernel
theorem dX11_putBytes_23 : decode cX11_putBytes 23 = .ok (.if_icmp .ge 26, 3) := by decide +kernel
theorem dX11_putBytes_26 : decode cX11_putBytes 26 = .ok (.aload_n 0, 1) := by decide +kernel
theorem dX11_putBytes_27 : decode cX11_putBytes 27 = .ok (.getfield 9, 3) := by decide +kernel
theorem dX11_putBytes_30 : decode cX11_putBytes 30 = .ok (.aload_n 0, 1) := by decide +kernel
theorem dX11_putBytes_31 : decode cX11_putBytes 31 = .ok (.getfield 85, 3) := by decide +kernel
theorem dX11_putBytes_34 : decode cX11_putBytes 34 = .ok (.iload_n 1, 1) := by decide +kernel
theorem dX11_putBytes_35 : decode cX11_putBytes 35 = .ok (.iload_n 2, 1) := by decide +kernel
theorem dX11_putBytes_36 : decode cX11_putBytes 36 = .ok (.iushr, 1) := by decide +kernel
theorem dX11_putBytes_37 : decode cX11_putBytes 37 = .ok (.i2b, 1) := by decide +kernel
theorem dX11_putBytes_38 : decode cX11_putBytes 38 = .ok (.bastore, 1) := by decide +kernel
theorem dX11_putBytes_39 : decode cX11_putBytes 39 = .ok (.aload_n 0, 1) := by decide +kernel
theorem dX11_putBytes_40 : decode cX11_putBytes 40 = .ok (.dup, 1) := by decide +kernel
theorem dX11_putBytes_41 : decode cX11_putBytes 41 = .ok (.getfield 85, 3) := by decide +kernel
theorem dX11_putBytes_44 : decode cX11_putBytes 44 = .ok (.iconst 1, 1) := by decide +kernel
theorem dX11_putBytes_45 : decode cX11_putBytes 45 = .ok (.iadd, 1) := by decide +kernel
theorem dX11_putBytes_46 : decode cX11_putBytes 46 = .ok (.putfield 85, 3) := by decide +kernel
theorem dX11_putBytes_49 : decode cX11_putBytes 49 = .ok (.iinc 2 (-8), 3) := by decide +kernel
theorem dX11_putBytes_52 : decode cX11_putBytes 52 = .ok (.goto (-49), 3) := by decide +kernel
theorem dX11_putBytes_55 : decode cX11_putBytes 55 = .ok (.return_, 1) := by decide +kernel
theorem dX11_hasNow_0 : decode cX11_hasNow 0 = .ok (.aload_n 0, 1) := by decide +kernel
theorem dX11_hasNow_1 : decode cX11_hasNow 1 = .ok (.getfield 59, 3) := by decide +kernel
theorem dX11_hasNow_4 : decode cX11_hasNow 4 = .ok (.aload_n 0, 1) := by decide +kernel
theorem dX11_hasNow_5 : decode cX11_hasNow 5 = .ok (.getfield 27, 3) := by decide +kernel
theorem dX11_hasNow_8 : decode cX11_hasNow 8 = .ok (.aload_n 0, 1) := by decide +kernel
theorem dX11_hasNow_9 : decode cX11_hasNow 9 = .ok (.getfield 41, 3) := by decide +kernel
theorem dX11_hasNow_12 : decode cX11_hasNow 12 = .ok (.iload_n 1, 1) := by decide +kernel
theorem dX11_hasNow_13 : decode cX11_hasNow 13 = .ok (.invokevirtual 239, 3) := by decide +kernel
theorem dX11_hasNow_16 : decode cX11_hasNow 16 = .ok (.aload_n 0, 1) := by decide +kernel
theorem dX11_hasNow_17 : decode cX11_hasNow 17 = .ok (.getfield 41, 3) := by decide +kernel
theorem dX11_hasNow_20 : decode cX11_hasNow 20 = .ok (.getfield 255, 3) := by decide +kernel
theorem dX11_hasNow_23 : decode cX11_hasNow 23 = .ok (.iload_n 1, 1) := by decide +kernel
theorem dX11_hasNow_24 : decode cX11_hasNow 24 = .ok (.invokestatic 140, 3) := by decide +kernel
theorem dX11_hasNow_27 : decode cX11_hasNow 27 = .ok (.aload_n 0, 1) := by decide +kernel
theorem dX11_hasNow_28 : decode cX11_hasNow 28 = .ok (.getfield 59, 3) := by decide +kernel
theorem dX11_hasNow_31 : decode cX11_hasNow 31 = .ok (.aload_n 0, 1) := by decide +kernel
theorem dX11_hasNow_32 : decode cX11_hasNow 32 = .ok (.getfield 34, 3) := by decide +kernel
theorem dX11_hasNow_35 : decode cX11_hasNow 35 = .ok (.getfield 217, 3) := by decide +kernel
theorem dX11_hasNow_38 : decode cX11_hasNow 38 = .ok (.invokevirtual 243, 3) := by decide +kernel
theorem dX11_hasNow_41 : decode cX11_hasNow 41 = .ok (.iadd, 1) := by decide +kernel
theorem dX11_hasNow_42 : decode cX11_hasNow 42 = .ok (.ireturn, 1) := by decide +kernel
theorem dX11_at_0 : decode cX11_at 0 = .ok (.aload_n 0, 1) := by decide +kernel
theorem dX11_at_1 : decode cX11_at 1 = .ok (.ifnull 19, 3) := by decide +kernel
theorem dX11_at_4 : decode cX11_at 4 = .ok (.iload_n 1, 1) := by decide +kernel
theorem dX11_at_5 : decode cX11_at 5 = .ok (.ifCond .lt 15, 3) := by decide +kernel
theorem dX11_at_8 : decode cX11_at 8 = .ok (.iload_n 1, 1) := by decide +kernel
theorem dX11_at_9 : decode cX11_at 9 = .ok (.aload_n 0, 1) := by decide +kernel
theorem dX11_at_10 : decode cX11_at 10 = .ok (.arraylength, 1) := by decide +kernel
theorem dX11_at_11 : decode cX11_at 11 = .ok (.if_icmp .ge 9, 3) := by decide +kernel
theorem dX11_at_14 : decode cX11_at 14 = .ok (.aload_n 0, 1) := by decide +kernel
theorem dX11_at_15 : decode cX11_at 15 = .ok (.iload_n 1, 1) := by decide +kernel
theorem dX11_at_16 : decode cX11_at 16 = .ok (.iaload, 1) := by decide +kernel
theorem dX11_at_17 : decode cX11_at 17 = .ok (.goto 4, 3) := by decide +kernel
theorem dX11_at_20 : decode cX11_at 20 = .ok (.iconst 0, 1) := by decide +kernel
theorem dX11_at_21 : decode cX11_at 21 = .ok (.ireturn, 1) := by decide +kernel
theorem dX11_at__0 : decode cX11_at_ 0 = .ok (.aload_n 0, 1) := by decide +kernel
theorem dX11_at__1 : decode cX11_at_ 1 = .ok (.ifnull 19, 3) := by decide +kernel
theorem dX11_at__4 : decode cX11_at_ 4 = .ok (.iload_n 1, 1) := by decide +kernel
theorem dX11_at__5 : decode cX11_at_ 5 = .ok (.ifCond .lt 15, 3) := by decide +kernel
theorem dX11_at__8 : decode cX11_at_ 8 = .ok (.iload_n 1, 1) := by decide +kernel
theorem dX11_at__9 : decode cX11_at_ 9 = .ok (.aload_n 0, 1) := by decide +kernel
theorem dX11_at__10 : decode cX11_at_ 10 = .ok (.arraylength, 1) := by decide +kernel
theorem dX11_at__11 : decode cX11_at_ 11 = .ok (.if_icmp .ge 9, 3) := by decide +kernel
theorem dX11_at__14 : decode cX11_at_ 14 = .ok (.aload_n 0, 1) := by decide +kernel
theorem dX11_at__15 : decode cX11_at_ 15 = .ok (.iload_n 1, 1) := by decide +kernel
theorem dX11_at__16 : decode cX11_at_ 16 = .ok (.laload, 1) := by decide +kernel
theorem dX11_at__17 : decode cX11_at_ 17 = .ok (.goto 4, 3) := by decide +kernel
theorem dX11_at__20 : decode cX11_at_ 20 = .ok (.lconst 0, 1) := by decide +kernel
theorem dX11_at__21 : decode cX11_at_ 21 = .ok (.lreturn, 1) := by decide +kernel
theorem dX11_set_0 : decode cX11_set 0 = .ok (.aload_n 0, 1) := by decide +kernel
theorem dX11_set_1 : decode cX11_set 1 = .ok (.ifnull 17, 3) := by decide +kernel
theorem dX11_set_4 : decode cX11_set 4 = .ok (.iload_n 1, 1) := by decide +kernel
theorem dX11_set_5 : decode cX11_set 5 = .ok (.ifCond .lt 13, 3) := by decide +kernel
theorem dX11_set_8 : decode cX11_set 8 = .ok (.iload_n 1, 1) := by decide +kernel
theorem dX11_set_9 : decode cX11_set 9 = .ok (.aload_n 0, 1) := by decide +kernel
theorem dX11_set_10 : decode cX11_set 10 = .ok (.arraylength, 1) := by decide +kernel
theorem dX11_set_11 : decode cX11_set 11 = .ok (.if_icmp .ge 7, 3) := by decide +kernel
theorem dX11_set_14 : decode cX11_set 14 = .ok (.aload_n 0, 1) := by decide +kernel
theorem dX11_set_15 : decode cX11_set 15 = .ok (.iload_n 1, 1) := by decide +kernel
theorem dX11_set_16 : decode cX11_set 16 = .ok (.iload_n 2, 1) := by decide +kernel
theorem dX11_set_17 : decode cX11_set 17 = .ok (.iastore, 1) := by decide +kernel
theorem dX11_set_18 : decode cX11_set 18 = .ok (.return_, 1) := by decide +kernel
theorem dX11_outcomeBits_0 : decode cX11_outcomeBits 0 = .ok (.lload_n 0, 1) := by decide +kernel
theorem dX11_outcomeBits_1 : decode cX11_outcomeBits 1 = .ok (.iconst 5, 1) := by decide +kernel
theorem dX11_outcomeBits_2 : decode cX11_outcomeBits 2 = .ok (.iload_n 2, 1) := by decide +kernel
theorem dX11_outcomeBits_3 : decode cX11_outcomeBits 3 = .ok (.imul, 1) := by decide +kernel
theorem dX11_outcomeBits_4 : decode cX11_outcomeBits 4 = .ok (.lushr, 1) := by decide +kernel
theorem dX11_outcomeBits_5 : decode cX11_outcomeBits 5 = .ok (.l2i, 1) := by decide +kernel
theorem dX11_outcomeBits_6 : decode cX11_outcomeBits 6 = .ok (.bipush 31, 2) := by decide +kernel
theorem dX11_outcomeBits_8 : decode cX11_outcomeBits 8 = .ok (.iand, 1) := by decide +kernel
theorem dX11_outcomeBits_9 : decode cX11_outcomeBits 9 = .ok (.ireturn, 1) := by decide +kernel
theorem dX11_outcome_0 : decode cX11_outcome 0 = .ok (.lload_n 0, 1) := by decide +kernel
theorem dX11_outcome_1 : decode cX11_outcome 1 = .ok (.iload_n 2, 1) := by decide +kernel
theorem dX11_outcome_2 : decode cX11_outcome 2 = .ok (.invokestatic 305, 3) := by decide +kernel
theorem dX11_outcome_5 : decode cX11_outcome 5 = .ok (.invokestatic 308, 3) := by decide +kernel
theorem dX11_outcome_8 : decode cX11_outcome 8 = .ok (.ireturn, 1) := by decide +kernel
theorem dX11_power_0 : decode cX11_power 0 = .ok (.iconst 1, 1) := by decide +kernel
theorem dX11_power_1 : decode cX11_power 1 = .ok (.istore_n 2, 1) := by decide +kernel
theorem dX11_power_2 : decode cX11_power 2 = .ok (.iconst 0, 1) := by decide +kernel
theorem dX11_power_3 : decode cX11_power 3 = .ok (.istore_n 3, 1) := by decide +kernel
theorem dX11_power_4 : decode cX11_power 4 = .ok (.iload_n 3, 1) := by decide +kernel
theorem dX11_power_5 : decode cX11_power 5 = .ok (.iload_n 1, 1) := by decide +kernel
theorem dX11_power_6 : decode cX11_power 6 = .ok (.if_icmp .ge 13, 3) := by decide +kernel
theorem dX11_power_9 : decode cX11_power 9 = .ok (.iload_n 2, 1) := by decide +kernel
theorem dX11_power_10 : decode cX11_power 10 = .ok (.iload_n 0, 1) := by decide +kernel
theorem dX11_power_11 : decode cX11_power 11 = .ok (.imul, 1) := by decide +kernel
theorem dX11_power_12 : decode cX11_power 12 = .ok (.istore_n 2, 1) := by decide +kernel
theorem dX11_power_13 : decode cX11_power 13 = .ok (.iinc 3 1, 3) := by decide +kernel
theorem dX11_power_16 : decode cX11_power 16 = .ok (.goto (-12), 3) := by decide +kernel
theorem dX11_power_19 : decode cX11_power 19 = .ok (.iload_n 2, 1) := by decide +kernel
theorem dX11_power_20 : decode cX11_power 20 = .ok (.ireturn, 1) := by decide +kernel
theorem dX12_init_0 : decode cX12_init 0 = .ok (.aload_n 0, 1) := by decide +kernel
theorem dX12_init_1 : decode cX12_init 1 = .ok (.invokespecial 1, 3) := by decide +kernel
theorem dX12_init_4 : decode cX12_init 4 = .ok (.aload_n 0, 1) := by decide +kernel
theorem dX12_init_5 : decode cX12_init 5 = .ok (.bipush 10, 2) := by decide +kernel
theorem dX12_init_7 : decode cX12_init 7 = .ok (.newarray .int, 2) := by decide +kernel
theorem dX12_init_9 : decode cX12_init 9 = .ok (.putfield 7, 3) := by decide +kernel
theorem dX12_init_12 : decode cX12_init 12 = .ok (.aload_n 0, 1) := by decide +kernel
theorem dX12_init_13 : decode cX12_init 13 = .ok (.bipush 10, 2) := by decide +kernel
theorem dX12_init_15 : decode cX12_init 15 = .ok (.newarray .int, 2) := by decide +kernel
theorem dX12_init_17 : decode cX12_init 17 = .ok (.putfield 13, 3) := by decide +kernel
theorem dX12_init_20 : decode cX12_init 20 = .ok (.aload_n 0, 1) := by decide +kernel
theorem dX12_init_21 : decode cX12_init 21 = .ok (.bipush 24, 2) := by decide +kernel
theorem dX12_init_23 : decode cX12_init 23 = .ok (.newarray .int, 2) := by decide +kernel
theorem dX12_init_25 : decode cX12_init 25 = .ok (.putfield 16, 3) := by decide +kernel
theorem dX12_init_28 : decode cX12_init 28 = .ok (.aload_n 0, 1) := by decide +kernel
theorem dX12_init_29 : decode cX12_init 29 = .ok (.bipush 24, 2) := by decide +kernel
theorem dX12_init_31 : decode cX12_init 31 = .ok (.newarray .int, 2) := by decide +kernel
theorem dX12_init_33 : decode cX12_init 33 = .ok (.putfield 19, 3) := by decide +kernel
theorem dX12_init_36 : decode cX12_init 36 = .ok (.aload_n 0, 1) := by decide +kernel
theorem dX12_init_37 : decode cX12_init 37 = .ok (.bipush 24, 2) := by decide +kernel
theorem dX12_init_39 : decode cX12_init 39 = .ok (.newarray .int, 2) := by decide +kernel
theorem dX12_init_41 : decode cX12_init 41 = .ok (.putfield 22, 3) := by decide +kernel
theorem dX12_init_44 : decode cX12_init 44 = .ok (.aload_n 0, 1) := by decide +kernel
theorem dX12_init_45 : decode cX12_init 45 = .ok (.bipush 24, 2) := by decide +kernel
theorem dX12_init_47 : decode cX12_init 47 = .ok (.newarray .int, 2) := by decide +kernel
theorem dX12_init_49 : decode cX12_init 49 = .ok (.putfield 25, 3) := by decide +kernel
theorem dX12_init_52 : decode cX12_init 52 = .ok (.aload_n 0, 1) := by decide +kernel
theorem dX12_init_53 : decode cX12_init 53 = .ok (.bipush 80, 2) := by decide +kernel
theorem dX12_init_55 : decode cX12_init 55 = .ok (.newarray .int, 2) := by decide +kernel
theorem dX12_init_57 : decode cX12_init 57 = .ok (.putfield 28, 3) := by decide +kernel
theorem dX12_init_60 : decode cX12_init 60 = .ok (.aload_n 0, 1) := by decide +kernel
theorem dX12_init_61 : decode cX12_init 61 = .ok (.bipush 80, 2) := by decide +kernel
theorem dX12_init_63 : decode cX12_init 63 = .ok (.newarray .int, 2) := by decide +kernel
theorem dX12_init_65 : decode cX12_init 65 = .ok (.putfield 31, 3) := by decide +kernel
theorem dX12_init_68 : decode cX12_init 68 = .ok (.aload_n 0, 1) := by decide +kernel
theorem dX12_init_69 : decode cX12_init 69 = .ok (.bipush 80, 2) := by decide +kernel
theorem dX12_init_71 : decode cX12_init 71 = .ok (.newarray .int, 2) := by decide +kernel
theorem dX12_init_73 : decode cX12_init 73 = .ok (.putfield 34, 3) := by decide +kernel
theorem dX12_init_76 : decode cX12_init 76 = .ok (.aload_n 0, 1) := by decide +kernel
theorem dX12_init_77 : decode cX12_init 77 = .ok (.bipush 80, 2) := by decide +kernel
theorem dX12_init_79 : decode cX12_init 79 = .ok (.newarray .int, 2) := by decide +kernel
theorem dX12_init_81 : decode cX12_init 81 = .ok (.putfield 37, 3) := by decide +kernel
theorem dX12_init_84 : decode cX12_init 84 = .ok (.aload_n 0, 1) := by decide +kernel
theorem dX12_init_85 : decode cX12_init 85 = .ok (.bipush 24, 2) := by decide +kernel
theorem dX12_init_87 : decode cX12_init 87 = .ok (.newarray .int, 2) := by decide +kernel
theorem dX12_init_89 : decode cX12_init 89 = .ok (.putfield 40, 3) := by decide +kernel
theorem dX12_init_92 : decode cX12_init 92 = .ok (.aload_n 0, 1) := by decide +kernel
theorem dX12_init_93 : decode cX12_init 93 = .ok (.bipush 24, 2) := by decide +kernel
theorem dX12_init_95 : decode cX12_init 95 = .ok (.newarray .int, 2) := by decide +kernel
theorem dX12_init_97 : decode cX12_init 97 = .ok (.putfield 43, 3) := by decide +kernel
theorem dX12_init_100 : decode cX12_init 100 = .ok (.aload_n 0, 1) := by decide +kernel
theorem dX12_init_101 : decode cX12_init 101 = .ok (.bipush 24, 2) := by decide +kernel
theorem dX12_init_103 : decode cX12_init 103 = .ok (.newarray .int, 2) := by decide +kernel
theorem dX12_init_105 : decode cX12_init 105 = .ok (.putfield 46, 3) := by decide +kernel
theorem dX12_init_108 : decode cX12_init 108 = .ok (.aload_n 0, 1) := by decide +kernel
theorem dX12_init_109 : decode cX12_init 109 = .ok (.bipush 24, 2) := by decide +kernel
theorem dX12_init_111 : decode cX12_init 111 = .ok (.newarray .int, 2) := by decide +kernel
theorem dX12_init_113 : decode cX12_init 113 = .ok (.putfield 49, 3) := by decide +kernel
theorem dX12_init_116 : decode cX12_init 116 = .ok (.aload_n 0, 1) := by decide +kernel
theorem dX12_init_117 : decode cX12_init 117 = .ok (.sipush 1400, 3) := by decide +kernel
theorem dX12_init_120 : decode cX12_init 120 = .ok (.newarray .int, 2) := by decide +kernel
theorem dX12_init_122 : decode cX12_init 122 = .ok (.putfield 52, 3) := by decide +kernel
theorem dX12_init_125 : decode cX12_init 125 = .ok (.aload_n 0, 1) := by decide +kernel
theorem dX12_init_126 : decode cX12_init 126 = .ok (.sipush 1400, 3) := by decide +kernel
theorem dX12_init_129 : decode cX12_init 129 = .ok (.newarray .int, 2) := by decide +kernel
theorem dX12_init_131 : decode cX12_init 131 = .ok (.putfield 55, 3) := by decide +kernel
theorem dX12_init_134 : decode cX12_init 134 = .ok (.aload_n 0, 1) := by decide +kernel
theorem dX12_init_135 : decode cX12_init 135 = .ok (.sipush 1400, 3) := by decide +kernel
theorem dX12_init_138 : decode cX12_init 138 = .ok (.newarray .int, 2) := by decide +kernel
theorem dX12_init_140 : decode cX12_init 140 = .ok (.putfield 58, 3) := by decide +kernel
theorem dX12_init_143 : decode cX12_init 143 = .ok (.aload_n 0, 1) := by decide +kernel
theorem dX12_init_144 : decode cX12_init 144 = .ok (.iconst 5, 1) := by decide +kernel
theorem dX12_init_145 : decode cX12_init 145 = .ok (.newarray .long, 2) := by decide +kernel
theorem dX12_init_147 : decode cX12_init 147 = .ok (.putfield 61, 3) := by decide +kernel
theorem dX12_init_150 : decode cX12_init 150 = .ok (.aload_n 0, 1) := by decide +kernel
theorem dX12_init_151 : decode cX12_init 151 = .ok (.bipush 6, 2) := by decide +kernel
theorem dX12_init_153 : decode cX12_init 153 = .ok (.newarray .long, 2) := by decide +kernel
theorem dX12_init_155 : decode cX12_init 155 = .ok (.putfield 65, 3) := by decide +kernel
theorem dX12_init_158 : decode cX12_init 158 = .ok (.aload_n 0, 1) := by decide +kernel
theorem dX12_init_159 : decode cX12_init 159 = .ok (.iconst (-1), 1) := by decide +kernel
theorem dX12_init_160 : decode cX12_init 160 = .ok (.putfield 68, 3) := by decide +kernel
theorem dX12_init_163 : decode cX12_init 163 = .ok (.aload_n 0, 1) := by decide +kernel
theorem dX12_init_164 : decode cX12_init 164 = .ok (.sipush 1200, 3) := by decide +kernel
theorem dX12_init_167 : decode cX12_init 167 = .ok (.newarray .byte, 2) := by decide +kernel
theorem dX12_init_169 : decode cX12_init 169 = .ok (.putfield 72, 3) := by decide +kernel
theorem dX12_init_172 : decode cX12_init 172 = .ok (.aload_n 0, 1) := by decide +kernel
theorem dX12_init_173 : decode cX12_init 173 = .ok (.sipush 1200, 3) := by decide +kernel
theorem dX12_init_176 : decode cX12_init 176 = .ok (.newarray .byte, 2) := by decide +kernel
theorem dX12_init_178 : decode cX12_init 178 = .ok (.putfield 76, 3) := by decide +kernel
theorem dX12_init_181 : decode cX12_init 181 = .ok (.aload_n 0, 1) := by decide +kernel
theorem dX12_init_182 : decode cX12_init 182 = .ok (.iconst 5, 1) := by decide +kernel
theorem dX12_init_183 : decode cX12_init 183 = .ok (.newarray .int, 2) := by decide +kernel
theorem dX12_init_185 : decode cX12_init 185 = .ok (.putfield 79, 3) := by decide +kernel
theorem dX12_init_188 : decode cX12_init 188 = .ok (.aload_n 0, 1) := by decide +kernel
theorem dX12_init_189 : decode cX12_init 189 = .ok (.ldc 82, 2) := by decide +kernel
theorem dX12_init_191 : decode cX12_init 191 = .ok (.newarray .byte, 2) := by decide +kernel
theorem dX12_init_193 : decode cX12_init 193 = .ok (.putfield 83, 3) := by decide +kernel
theorem dX12_init_196 : decode cX12_init 196 = .ok (.aload_n 0, 1) := by decide +kernel
theorem dX12_init_197 : decode cX12_init 197 = .ok (.ldc 86, 2) := by decide +kernel
theorem dX12_init_199 : decode cX12_init 199 = .ok (.newarray .byte, 2) := by decide +kernel
theorem dX12_init_201 : decode cX12_init 201 = .ok (.putfield 87, 3) := by decide +kernel
theorem dX12_init_204 : decode cX12_init 204 = .ok (.aload_n 0, 1) := by decide +kernel
theorem dX12_init_205 : decode cX12_init 205 = .ok (.bipush 64, 2) := by decide +kernel
theorem dX12_init_207 : decode cX12_init 207 = .ok (.newarray .boolean, 2) := by decide +kernel
theorem dX12_init_209 : decode cX12_init 209 = .ok (.putfield 90, 3) := by decide +kernel
theorem dX12_init_212 : decode cX12_init 212 = .ok (.aload_n 0, 1) := by decide +kernel
theorem dX12_init_213 : decode cX12_init 213 = .ok (.iconst 5, 1) := by decide +kernel
theorem dX12_init_214 : decode cX12_init 214 = .ok (.newarray .int, 2) := by decide +kernel
theorem dX12_init_216 : decode cX12_init 216 = .ok (.putfield 94, 3) := by decide +kernel
theorem dX12_init_219 : decode cX12_init 219 = .ok (.aload_n 0, 1) := by decide +kernel
theorem dX12_init_220 : decode cX12_init 220 = .ok (.ldc 82, 2) := by decide +kernel
theorem dX12_init_222 : decode cX12_init 222 = .ok (.newarray .int, 2) := by decide +kernel
theorem dX12_init_224 : decode cX12_init 224 = .ok (.putfield 97, 3) := by decide +kernel
theorem dX12_init_227 : decode cX12_init 227 = .ok (.aload_n 0, 1) := by decide +kernel
theorem dX12_init_228 : decode cX12_init 228 = .ok (.bipush 24, 2) := by decide +kernel
theorem dX12_init_230 : decode cX12_init 230 = .ok (.newarray .int, 2) := by decide +kernel
theorem dX12_init_232 : decode cX12_init 232 = .ok (.putfield 100, 3) := by decide +kernel
theorem dX12_init_235 : decode cX12_init 235 = .ok (.aload_n 0, 1) := by decide +kernel
theorem dX12_init_236 : decode cX12_init 236 = .ok (.bipush 6, 2) := by decide +kernel
theorem dX12_init_238 : decode cX12_init 238 = .ok (.newarray .int, 2) := by decide +kernel
theorem dX12_init_240 : decode cX12_init 240 = .ok (.putfield 103, 3) := by decide +kernel
theorem dX12_init_243 : decode cX12_init 243 = .ok (.aload_n 0, 1) := by decide +kernel
theorem dX12_init_244 : decode cX12_init 244 = .ok (.bipush 6, 2) := by decide +kernel
theorem dX12_init_246 : decode cX12_init 246 = .ok (.newarray .int, 2) := by decide +kernel
theorem dX12_init_248 : decode cX12_init 248 = .ok (.putfield 106, 3) := by decide +kernel
theorem dX12_init_251 : decode cX12_init 251 = .ok (.aload_n 0, 1) := by decide +kernel
theorem dX12_init_252 : decode cX12_init 252 = .ok (.bipush 64, 2) := by decide +kernel
theorem dX12_init_254 : decode cX12_init 254 = .ok (.newarray .int, 2) := by decide +kernel
theorem dX12_init_256 : decode cX12_init 256 = .ok (.putfield 109, 3) := by decide +kernel
theorem dX12_init_259 : decode cX12_init 259 = .ok (.aload_n 0, 1) := by decide +kernel
theorem dX12_init_260 : decode cX12_init 260 = .ok (.sipush 15625, 3) := by decide +kernel
theorem dX12_init_263 : decode cX12_init 263 = .ok (.newarray .boolean, 2) := by decide +kernel
theorem dX12_init_265 : decode cX12_init 265 = .ok (.putfield 112, 3) := by decide +kernel
theorem dX12_init_268 : decode cX12_init 268 = .ok (.aload_n 0, 1) := by decide +kernel
theorem dX12_init_269 : decode cX12_init 269 = .ok (.bipush 6, 2) := by decide +kernel
theorem dX12_init_271 : decode cX12_init 271 = .ok (.newarray .int, 2) := by decide +kernel
theorem dX12_init_273 : decode cX12_init 273 = .ok (.putfield 115, 3) := by decide +kernel
theorem dX12_init_276 : decode cX12_init 276 = .ok (.aload_n 0, 1) := by decide +kernel
theorem dX12_init_277 : decode cX12_init 277 = .ok (.bipush 45, 2) := by decide +kernel
theorem dX12_init_279 : decode cX12_init 279 = .ok (.newarray .int, 2) := by decide +kernel
theorem dX12_init_281 : decode cX12_init 281 = .ok (.putfield 118, 3) := by decide +kernel
theorem dX12_init_284 : decode cX12_init 284 = .ok (.aload_n 0, 1) := by decide +kernel
theorem dX12_init_285 : decode cX12_init 285 = .ok (.sipush 160, 3) := by decide +kernel
theorem dX12_init_288 : decode cX12_init 288 = .ok (.newarray .int, 2) := by decide +kernel
theorem dX12_init_290 : decode cX12_init 290 = .ok (.putfield 121, 3) := by decide +kernel
theorem dX12_init_293 : decode cX12_init 293 = .ok (.aload_n 0, 1) := by decide +kernel
theorem dX12_init_294 : decode cX12_init 294 = .ok (.invokevirtual 124, 3) := by decide +kernel
theorem dX12_init_297 : decode cX12_init 297 = .ok (.return_, 1) := by decide +kernel
theorem dX12_isIn_0 : decode cX12_isIn 0 = .ok (.iload_n 0, 1) := by decide +kernel
theorem dX12_isIn_1 : decode cX12_isIn 1 = .ok (.iload_n 1, 1) := by decide +kernel
theorem dX12_isIn_2 : decode cX12_isIn 2 = .ok (.if_icmp .lt 12, 3) := by decide +kernel
theorem dX12_isIn_5 : decode cX12_isIn 5 = .ok (.iload_n 0, 1) := by decide +kernel
theorem dX12_isIn_6 : decode cX12_isIn 6 = .ok (.iload_n 2, 1) := by decide +kernel
theorem dX12_isIn_7 : decode cX12_isIn 7 = .ok (.if_icmp .gt 7, 3) := by decide +kernel
theorem dX12_isIn_10 : decode cX12_isIn 10 = .ok (.iconst 1, 1) := by decide +kernel
theorem dX12_isIn_11 : decode cX12_isIn 11 = .ok (.goto 4, 3) := by decide +kernel
theorem dX12_isIn_14 : decode cX12_isIn 14 = .ok (.iconst 0, 1) := by decide +kernel
theorem dX12_isIn_15 : decode cX12_isIn 15 = .ok (.ireturn, 1) := by decide +kernel
theorem dX12_unit_0 : decode cX12_unit 0 = .ok (.iload_n 0, 1) := by decide +kernel
theorem dX12_unit_1 : decode cX12_unit 1 = .ok (.ifCond .eq 7, 3) := by decide +kernel
theorem dX12_unit_4 : decode cX12_unit 4 = .ok (.iconst 1, 1) := by decide +kernel
theorem dX12_unit_5 : decode cX12_unit 5 = .ok (.goto 4, 3) := by decide +kernel
theorem dX12_unit_8 : decode cX12_unit 8 = .ok (.iconst 0, 1) := by decide +kernel
theorem dX12_unit_9 : decode cX12_unit 9 = .ok (.ireturn, 1) := by decide +kernel
theorem dX12_bit_0 : decode cX12_bit 0 = .ok (.iload_n 0, 1) := by decide +kernel
theorem dX12_bit_1 : decode cX12_bit 1 = .ok (.iload_n 1, 1) := by decide +kernel
theorem dX12_bit_2 : decode cX12_bit 2 = .ok (.ishr, 1) := by decide +kernel
theorem dX12_bit_3 : decode cX12_bit 3 = .ok (.iconst 1, 1) := by decide +kernel
theorem dX12_bit_4 : decode cX12_bit 4 = .ok (.iand, 1) := by decide +kernel
theorem dX12_bit_5 : decode cX12_bit 5 = .ok (.iconst 1, 1) := by decide +kernel
theorem dX12_bit_6 : decode cX12_bit 6 = .ok (.if_icmp .ne 7, 3) := by decide +kernel
theorem dX12_bit_9 : decode cX12_bit 9 = .ok (.iconst 1, 1) := by decide +kernel
theorem dX12_bit_10 : decode cX12_bit 10 = .ok (.goto 4, 3) := by decide +kernel
theorem dX12_bit_13 : decode cX12_bit 13 = .ok (.iconst 0, 1) := by decide +kernel
theorem dX12_bit_14 : decode cX12_bit 14 = .ok (.ireturn, 1) := by decide +kernel
theorem dX12_bits_0 : decode cX12_bits 0 = .ok (.iconst 0, 1) := by decide +kernel
theorem dX12_bits_1 : decode cX12_bits 1 = .ok (.istore_n 1, 1) := by decide +kernel
theorem dX12_bits_2 : decode cX12_bits 2 = .ok (.iload_n 0, 1) := by decide +kernel
theorem dX12_bits_3 : decode cX12_bits 3 = .ok (.istore_n 2, 1) := by decide +kernel
theorem dX12_bits_4 : decode cX12_bits 4 = .ok (.iload_n 2, 1) := by decide +kernel
theorem dX12_bits_5 : decode cX12_bits 5 = .ok (.ifCond .le 16, 3) := by decide +kernel
theorem dX12_bits_8 : decode cX12_bits 8 = .ok (.iload_n 1, 1) := by decide +kernel
theorem dX12_bits_9 : decode cX12_bits 9 = .ok (.iload_n 2, 1) := by decide +kernel
theorem dX12_bits_10 : decode cX12_bits 10 = .ok (.iconst 1, 1) := by decide +kernel
theorem dX12_bits_11 : decode cX12_bits 11 = .ok (.iand, 1) := by decide +kernel
theorem dX12_bits_12 : decode cX12_bits 12 = .ok (.iadd, 1) := by decide +kernel
theorem dX12_bits_13 : decode cX12_bits 13 = .ok (.istore_n 1, 1) := by decide +kernel
theorem dX12_bits_14 : decode cX12_bits 14 = .ok (.iload_n 2, 1) := by decide +kernel
theorem dX12_bits_15 : decode cX12_bits 15 = .ok (.iconst 1, 1) := by decide +kernel
theorem dX12_bits_16 : decode cX12_bits 16 = .ok (.ishr, 1) := by decide +kernel
theorem dX12_bits_17 : decode cX12_bits 17 = .ok (.istore_n 2, 1) := by decide +kernel
theorem dX12_bits_18 : decode cX12_bits 18 = .ok (.goto (-14), 3) := by decide +kernel
theorem dX12_bits_21 : decode cX12_bits 21 = .ok (.iload_n 1, 1) := by decide +kernel
theorem dX12_bits_22 : decode cX12_bits 22 = .ok (.ireturn, 1) := by decide +kernel
theorem dX12_feed_0 : decode cX12_feed 0 = .ok (.aload_n 0, 1) := by decide +kernel
theorem dX12_feed_1 : decode cX12_feed 1 = .ok (.getfield 127, 3) := by decide +kernel
theorem dX12_feed_4 : decode cX12_feed 4 = .ok (.bipush 20, 2) := by decide +kernel
theorem dX12_feed_6 : decode cX12_feed 6 = .ok (.iadd, 1) := by decide +kernel
theorem dX12_feed_7 : decode cX12_feed 7 = .ok (.sipush 1200, 3) := by decide +kernel
theorem dX12_feed_10 : decode cX12_feed 10 = .ok (.if_icmp .le 5, 3) := by decide +kernel
theorem dX12_feed_13 : decode cX12_feed 13 = .ok (.iconst (-1), 1) := by decide +kernel
theorem dX12_feed_14 : decode cX12_feed 14 = .ok (.ireturn, 1) := by decide +kernel
theorem dX12_feed_15 : decode cX12_feed 15 = .ok (.aload_n 0, 1) := by decide +kernel
theorem dX12_feed_16 : decode cX12_feed 16 = .ok (.iload_n 1, 1) := by decide +kernel
theorem dX12_feed_17 : decode cX12_feed 17 = .ok (.invokevirtual 130, 3) := by decide +kernel
theorem dX12_feed_20 : decode cX12_feed 20 = .ok (.aload_n 0, 1) := by decide +kernel
theorem dX12_feed_21 : decode cX12_feed 21 = .ok (.iload_n 2, 1) := by decide +kernel
theorem dX12_feed_22 : decode cX12_feed 22 = .ok (.invokevirtual 130, 3) := by decide +kernel
theorem dX12_feed_25 : decode cX12_feed 25 = .ok (.aload_n 0, 1) := by decide +kernel
theorem dX12_feed_26 : decode cX12_feed 26 = .ok (.iload_n 3, 1) := by decide +kernel
theorem dX12_feed_27 : decode cX12_feed 27 = .ok (.invokevirtual 130, 3) := by decide +kernel
theorem dX12_feed_30 : decode cX12_feed 30 = .ok (.aload_n 0, 1) := by decide +kernel
theorem dX12_feed_31 : decode cX12_feed 31 = .ok (.iload 4, 2) := by decide +kernel
theorem dX12_feed_33 : decode cX12_feed 33 = .ok (.invokevirtual 130, 3) := by decide +kernel
theorem dX12_feed_36 : decode cX12_feed 36 = .ok (.aload_n 0, 1) := by decide +kernel
theorem dX12_feed_37 : decode cX12_feed 37 = .ok (.iload 5, 2) := by decide +kernel
theorem dX12_feed_39 : decode cX12_feed 39 = .ok (.invokevirtual 130, 3) := by decide +kernel
theorem dX12_feed_42 : decode cX12_feed 42 = .ok (.aload_n 0, 1) := by decide +kernel
theorem dX12_feed_43 : decode cX12_feed 43 = .ok (.getfield 127, 3) := by decide +kernel
theorem dX12_feed_46 : decode cX12_feed 46 = .ok (.ireturn, 1) := by decide +kernel
theorem dX12_four_0 : decode cX12_four 0 = .ok (.bipush 24, 2) := by decide +kernel
theorem dX12_four_2 : decode cX12_four 2 = .ok (.istore_n 2, 1) := by decide +kernel
theorem dX12_four_3 : decode cX12_four 3 = .ok (.iload_n 2, 1) := by decide +kernel
theorem dX12_four_4 : decode cX12_four 4 = .ok (.ifCond .lt 32, 3) := by decide +kernel
theorem dX12_four_7 : decode cX12_four 7 = .ok (.aload_n 0, 1) := by decide +kernel
theorem dX12_four_8 : decode cX12_four 8 = .ok (.getfield 72, 3) := by decide +kernel
theorem dX12_four_11 : decode cX12_four 11 = .ok (.aload_n 0, 1) := by decide +kernel
theorem dX12_four_12 : decode cX12_four 12 = .ok (.getfield 127, 3) := by decide +kernel
theorem dX12_four_15 : decode cX12_four 15 = .ok (.iload_n 1, 1) := by decide +kernel
theorem dX12_four_16 : decode cX12_four 16 = .ok (.iload_n 2, 1) := by decide +kernel
theorem dX12_four_17 : decode cX12_four 17 = .ok (.ishr, 1) := by decide +kernel
theorem dX12_four_18 : decode cX12_four 18 = .ok (.i2b, 1) := by decide +kernel
theorem dX12_four_19 : decode cX12_four 19 = .ok (.bastore, 1) := by decide +kernel
theorem dX12_four_20 : decode cX12_four 20 = .ok (.aload_n 0, 1) := by decide +kernel
theorem dX12_four_21 : decode cX12_four 21 = .ok (.dup, 1) := by decide +kernel
theorem dX12_four_22 : decode cX12_four 22 = .ok (.getfield 127, 3) := by decide +kernel
theorem dX12_four_25 : decode cX12_four 25 = .ok (.iconst 1, 1) := by decide +kernel
theorem dX12_four_26 : decode cX12_four 26 = .ok (.iadd, 1) := by decide +kernel
theorem dX12_four_27 : decode cX12_four 27 = .ok (.putfield 127, 3) := by decide +kernel
theorem dX12_four_30 : decode cX12_four 30 = .ok (.iinc 2 (-8), 3) := by decide +kernel
theorem dX12_four_33 : decode cX12_four 33 = .ok (.goto (-30), 3) := by decide +kernel
theorem dX12_four_36 : decode cX12_four 36 = .ok (.return_, 1) := by decide +kernel
theorem dX12_blanks_0 : decode cX12_blanks 0 = .ok (.aload_n 0, 1) := by decide +kernel
theorem dX12_blanks_1 : decode cX12_blanks 1 = .ok (.getfield 134, 3) := by decide +kernel
theorem dX12_blanks_4 : decode cX12_blanks 4 = .ok (.aload_n 0, 1) := by decide +kernel
theorem dX12_blanks_5 : decode cX12_blanks 5 = .ok (.getfield 137, 3) := by decide +kernel
theorem dX12_blanks_8 : decode cX12_blanks 8 = .ok (.if_icmp .ge 44, 3) := by decide +kernel
theorem dX12_blanks_11 : decode cX12_blanks 11 = .ok (.aload_n 0, 1) := by decide +kernel
theorem dX12_blanks_12 : decode cX12_blanks 12 = .ok (.getfield 76, 3) := by decide +kernel
theorem dX12_blanks_15 : decode cX12_blanks 15 = .ok (.aload_n 0, 1) := by decide +kernel
theorem dX12_blanks_16 : decode cX12_blanks 16 = .ok (.getfield 134, 3) := by decide +kernel
theorem dX12_blanks_19 : decode cX12_blanks 19 = .ok (.baload, 1) := by decide +kernel
theorem dX12_blanks_20 : decode cX12_blanks 20 = .ok (.bipush 32, 2) := by decide +kernel
theorem dX12_blanks_22 : decode cX12_blanks 22 = .ok (.if_icmp .eq 17, 3) := by decide +kernel
theorem dX12_blanks_25 : decode cX12_blanks 25 = .ok (.aload_n 0, 1) := by decide +kernel
theorem dX12_blanks_26 : decode cX12_blanks 26 = .ok (.getfield 76, 3) := by decide +kernel
theorem dX12_blanks_29 : decode cX12_blanks 29 = .ok (.aload_n 0, 1) := by decide +kernel
theorem dX12_blanks_30 : decode cX12_blanks 30 = .ok (.getfield 134, 3) := by decide +kernel
theorem dX12_blanks_33 : decode cX12_blanks 33 = .ok (.baload, 1) := by decide +kernel
theorem dX12_blanks_34 : decode cX12_blanks 34 = .ok (.bipush 10, 2) := by decide +kernel
theorem dX12_blanks_36 : decode cX12_blanks 36 = .ok (.if_icmp .ne 16, 3) := by decide +kernel
theorem dX12_blanks_39 : decode cX12_blanks 39 = .ok (.aload_n 0, 1) := by decide +kernel
theorem dX12_blanks_40 : decode cX12_blanks 40 = .ok (.dup, 1) := by decide +kernel
theorem dX12_blanks_41 : decode cX12_blanks 41 = .ok (.getfield 134, 3) := by decide +kernel
theorem dX12_blanks_44 : decode cX12_blanks 44 = .ok (.iconst 1, 1) := by decide +kernel
theorem dX12_blanks_45 : decode cX12_blanks 45 = .ok (.iadd, 1) := by decide +kernel
theorem dX12_blanks_46 : decode cX12_blanks 46 = .ok (.putfield 134, 3) := by decide +kernel
theorem dX12_blanks_49 : decode cX12_blanks 49 = .ok (.goto (-49), 3) := by decide +kernel
theorem dX12_blanks_52 : decode cX12_blanks 52 = .ok (.return_, 1) := by decide +kernel
theorem dX12_word_0 : decode cX12_word 0 = .ok (.aload_n 0, 1) := by decide +kernel
theorem dX12_word_1 : decode cX12_word 1 = .ok (.invokevirtual 140, 3) := by decide +kernel
theorem dX12_word_4 : decode cX12_word 4 = .ok (.aload_n 0, 1) := by decide +kernel
theorem dX12_word_5 : decode cX12_word 5 = .ok (.aload_n 0, 1) := by decide +kernel
theorem dX12_word_6 : decode cX12_word 6 = .ok (.getfield 134, 3) := by decide +kernel
theorem dX12_word_9 : decode cX12_word 9 = .ok (.putfield 143, 3) := by decide +kernel
theorem dX12_word_12 : decode cX12_word 12 = .ok (.lconst 0, 1) := by decide +kernel
theorem dX12_word_13 : decode cX12_word 13 = .ok (.lstore_n 1, 1) := by decide +kernel
theorem dX12_word_14 : decode cX12_word 14 = .ok (.aload_n 0, 1) := by decide +kernel
theorem dX12_word_15 : decode cX12_word 15 = .ok (.getfield 143, 3) := by decide +kernel
theorem dX12_word_18 : decode cX12_word 18 = .ok (.aload_n 0, 1) := by decide +kernel
theorem dX12_word_19 : decode cX12_word 19 = .ok (.getfield 137, 3) := by decide +kernel
theorem dX12_word_22 : decode cX12_word 22 = .ok (.if_icmp .ge 78, 3) := by decide +kernel
theorem dX12_word_25 : decode cX12_word 25 = .ok (.aload_n 0, 1) := by decide +kernel
theorem dX12_word_26 : decode cX12_word 26 = .ok (.getfield 76, 3) := by decide +kernel
theorem dX12_word_29 : decode cX12_word 29 = .ok (.aload_n 0, 1) := by decide +kernel
theorem dX12_word_30 : decode cX12_word 30 = .ok (.getfield 143, 3) := by decide +kernel
theorem dX12_word_33 : decode cX12_word 33 = .ok (.baload, 1) := by decide +kernel
theorem dX12_word_34 : decode cX12_word 34 = .ok (.bipush 97, 2) := by decide +kernel
theorem dX12_word_36 : decode cX12_word 36 = .ok (.if_icmp .lt 64, 3) := by decide +kernel
theorem dX12_word_39 : decode cX12_word 39 = .ok (.aload_n 0, 1) := by decide +kernel
theorem dX12_word_40 : decode cX12_word 40 = .ok (.getfield 76, 3) := by decide +kernel
theorem dX12_word_43 : decode cX12_word 43 = .ok (.aload_n 0, 1) := by decide +kernel
theorem dX12_word_44 : decode cX12_word 44 = .ok (.getfield 143, 3) := by decide +kernel
theorem dX12_word_47 : decode cX12_word 47 = .ok (.baload, 1) := by decide +kernel
theorem dX12_word_48 : decode cX12_word 48 = .ok (.bipush 122, 2) := by decide +kernel
theorem dX12_word_50 : decode cX12_word 50 = .ok (.if_icmp .gt 50, 3) := by decide +kernel
theorem dX12_word_53 : decode cX12_word 53 = .ok (.aload_n 0, 1) := by decide +kernel
theorem dX12_word_54 : decode cX12_word 54 = .ok (.getfield 143, 3) := by decide +kernel
theorem dX12_word_57 : decode cX12_word 57 = .ok (.aload_n 0, 1) := by decide +kernel
theorem dX12_word_58 : decode cX12_word 58 = .ok (.getfield 134, 3) := by decide +kernel
theorem dX12_word_61 : decode cX12_word 61 = .ok (.isub, 1) := by decide +kernel
theorem dX12_word_62 : decode cX12_word 62 = .ok (.bipush 8, 2) := by decide +kernel
theorem dX12_word_64 : decode cX12_word 64 = .ok (.if_icmp .ge 21, 3) := by decide +kernel
theorem dX12_word_67 : decode cX12_word 67 = .ok (.lload_n 1, 1) := by decide +kernel
theorem dX12_word_68 : decode cX12_word 68 = .ok (.bipush 8, 2) := by decide +kernel
theorem dX12_word_70 : decode cX12_word 70 = .ok (.lshl, 1) := by decide +kernel
theorem dX12_word_71 : decode cX12_word 71 = .ok (.aload_n 0, 1) := by decide +kernel
theorem dX12_word_72 : decode cX12_word 72 = .ok (.getfield 76, 3) := by decide +kernel
theorem dX12_word_75 : decode cX12_word 75 = .ok (.aload_n 0, 1) := by decide +kernel
theorem dX12_word_76 : decode cX12_word 76 = .ok (.getfield 143, 3) := by decide +kernel
theorem dX12_word_79 : decode cX12_word 79 = .ok (.baload, 1) := by decide +kernel
theorem dX12_word_80 : decode cX12_word 80 = .ok (.i2l, 1) := by decide +kernel
theorem dX12_word_81 : decode cX12_word 81 = .ok (.lor, 1) := by decide +kernel
theorem dX12_word_82 : decode cX12_word 82 = .ok (.goto 4, 3) := by decide +kernel
theorem dX12_word_85 : decode cX12_word 85 = .ok (.lconst 0, 1) := by decide +kernel
theorem dX12_word_86 : decode cX12_word 86 = .ok (.lstore_n 1, 1) := by decide +kernel
theorem dX12_word_87 : decode cX12_word 87 = .ok (.aload_n 0, 1) := by decide +kernel
theorem dX12_word_88 : decode cX12_word 88 = .ok (.dup, 1) := by decide +kernel
theorem dX12_word_89 : decode cX12_word 89 = .ok (.getfield 143, 3) := by decide +kernel
theorem dX12_word_92 : decode cX12_word 92 = .ok (.iconst 1, 1) := by decide +kernel
theorem dX12_word_93 : decode cX12_word 93 = .ok (.iadd, 1) := by decide +kernel
theorem dX12_word_94 : decode cX12_word 94 = .ok (.putfield 143, 3) := by decide +kernel
theorem dX12_word_97 : decode cX12_word 97 = .ok (.goto (-83), 3) := by decide +kernel
theorem dX12_word_100 : decode cX12_word 100 = .ok (.aload_n 0, 1) := by decide +kernel
theorem dX12_word_101 : decode cX12_word 101 = .ok (.getfield 143, 3) := by decide +kernel
theorem dX12_word_104 : decode cX12_word 104 = .ok (.aload_n 0, 1) := by decide +kernel
theorem dX12_word_105 : decode cX12_word 105 = .ok (.getfield 134, 3) := by decide +kernel
theorem dX12_word_108 : decode cX12_word 108 = .ok (.isub, 1) := by decide +kernel
theorem dX12_word_109 : decode cX12_word 109 = .ok (.bipush 8, 2) := by decide +kernel
theorem dX12_word_111 : decode cX12_word 111 = .ok (.if_icmp .le 7, 3) := by decide +kernel
theorem dX12_word_114 : decode cX12_word 114 = .ok (.lconst 0, 1) := by decide +kernel
theorem dX12_word_115 : decode cX12_word 115 = .ok (.goto 4, 3) := by decide +kernel
theorem dX12_word_118 : decode cX12_word 118 = .ok (.lload_n 1, 1) := by decide +kernel
theorem dX12_word_119 : decode cX12_word 119 = .ok (.lreturn, 1) := by decide +kernel
theorem dX12_takes_0 : decode cX12_takes 0 = .ok (.aload_n 0, 1) := by decide +kernel
theorem dX12_takes_1 : decode cX12_takes 1 = .ok (.invokevirtual 146, 3) := by decide +kernel
theorem dX12_takes_4 : decode cX12_takes 4 = .ok (.lload_n 1, 1) := by decide +kernel
theorem dX12_takes_5 : decode cX12_takes 5 = .ok (.lcmp, 1) := by decide +kernel
theorem dX12_takes_6 : decode cX12_takes 6 = .ok (.ifCond .eq 5, 3) := by decide +kernel
theorem dX12_takes_9 : decode cX12_takes 9 = .ok (.iconst 0, 1) := by decide +kernel
theorem dX12_takes_10 : decode cX12_takes 10 = .ok (.ireturn, 1) := by decide +kernel
theorem dX12_takes_11 : decode cX12_takes 11 = .ok (.aload_n 0, 1) := by decide +kernel
theorem dX12_takes_12 : decode cX12_takes 12 = .ok (.aload_n 0, 1) := by decide +kernel
theorem dX12_takes_13 : decode cX12_takes 13 = .ok (.getfield 143, 3) := by decide +kernel
theorem dX12_takes_16 : decode cX12_takes 16 = .ok (.putfield 134, 3) := by decide +kernel
theorem dX12_takes_19 : decode cX12_takes 19 = .ok (.iconst 1, 1) := by decide +kernel
theorem dX12_takes_20 : decode cX12_takes 20 = .ok (.ireturn, 1) := by decide +kernel
theorem dX12_takesSign_0 : decode cX12_takesSign 0 = .ok (.aload_n 0, 1) := by decide +kernel
theorem dX12_takesSign_1 : decode cX12_takesSign 1 = .ok (.invokevirtual 140, 3) := by decide +kernel
theorem dX12_takesSign_4 : decode cX12_takesSign 4 = .ok (.aload_n 0, 1) := by decide +kernel
theorem dX12_takesSign_5 : decode cX12_takesSign 5 = .ok (.getfield 134, 3) := by decide +kernel
theorem dX12_takesSign_8 : decode cX12_takesSign 8 = .ok (.aload_n 0, 1) := by decide +kernel
theorem dX12_takesSign_9 : decode cX12_takesSign 9 = .ok (.getfield 137, 3) := by decide +kernel
theorem dX12_takesSign_12 : decode cX12_takesSign 12 = .ok (.if_icmp .eq 16, 3) := by decide +kernel
theorem dX12_takesSign_15 : decode cX12_takesSign 15 = .ok (.aload_n 0, 1) := by decide +kernel
theorem dX12_takesSign_16 : decode cX12_takesSign 16 = .ok (.getfield 76, 3) := by decide +kernel
theorem dX12_takesSign_19 : decode cX12_takesSign 19 = .ok (.aload_n 0, 1) := by decide +kernel
theorem dX12_takesSign_20 : decode cX12_takesSign 20 = .ok (.getfield 134, 3) := by decide +kernel
theorem dX12_takesSign_23 : decode cX12_takesSign 23 = .ok (.baload, 1) := by decide +kernel
theorem dX12_takesSign_24 : decode cX12_takesSign 24 = .ok (.iload_n 1, 1) := by decide +kernel
theorem dX12_takesSign_25 : decode cX12_takesSign 25 = .ok (.if_icmp .eq 5, 3) := by decide +kernel
theorem dX12_takesSign_28 : decode cX12_takesSign 28 = .ok (.iconst 0, 1) := by decide +kernel
theorem dX12_takesSign_29 : decode cX12_takesSign 29 = .ok (.ireturn, 1) := by decide +kernel
theorem dX12_takesSign_30 : decode cX12_takesSign 30 = .ok (.aload_n 0, 1) := by decide +kernel
theorem dX12_takesSign_31 : decode cX12_takesSign 31 = .ok (.dup, 1) := by decide +kernel
theorem dX12_takesSign_32 : decode cX12_takesSign 32 = .ok (.getfield 134, 3) := by decide +kernel
theorem dX12_takesSign_35 : decode cX12_takesSign 35 = .ok (.iconst 1, 1) := by decide +kernel
theorem dX12_takesSign_36 : decode cX12_takesSign 36 = .ok (.iadd, 1) := by decide +kernel
theorem dX12_takesSign_37 : decode cX12_takesSign 37 = .ok (.putfield 134, 3) := by decide +kernel
theorem dX12_takesSign_40 : decode cX12_takesSign 40 = .ok (.iconst 1, 1) := by decide +kernel
theorem dX12_takesSign_41 : decode cX12_takesSign 41 = .ok (.ireturn, 1) := by decide +kernel
theorem dX12_takesNumber_0 : decode cX12_takesNumber 0 = .ok (.aload_n 0, 1) := by decide +kernel
theorem dX12_takesNumber_1 : decode cX12_takesNumber 1 = .ok (.invokevirtual 140, 3) := by decide +kernel
theorem dX12_takesNumber_4 : decode cX12_takesNumber 4 = .ok (.aload_n 0, 1) := by decide +kernel
theorem dX12_takesNumber_5 : decode cX12_takesNumber 5 = .ok (.getfield 134, 3) := by decide +kernel
theorem dX12_takesNumber_8 : decode cX12_takesNumber 8 = .ok (.istore_n 3, 1) := by decide +kernel
theorem dX12_takesNumber_9 : decode cX12_takesNumber 9 = .ok (.aload_n 0, 1) := by decide +kernel
theorem dX12_takesNumber_10 : decode cX12_takesNumber 10 = .ok (.iconst 0, 1) := by decide +kernel
theorem dX12_takesNumber_11 : decode cX12_takesNumber 11 = .ok (.putfield 150, 3) := by decide +kernel
theorem dX12_takesNumber_14 : decode cX12_takesNumber 14 = .ok (.iload_n 3, 1) := by decide +kernel
theorem dX12_takesNumber_15 : decode cX12_takesNumber 15 = .ok (.aload_n 0, 1) := by decide +kernel
theorem dX12_takesNumber_16 : decode cX12_takesNumber 16 = .ok (.getfield 137, 3) := by decide +kernel
theorem dX12_takesNumber_19 : decode cX12_takesNumber 19 = .ok (.if_icmp .ge 62, 3) := by decide +kernel
theorem dX12_takesNumber_22 : decode cX12_takesNumber 22 = .ok (.aload_n 0, 1) := by decide +kernel
theorem dX12_takesNumber_23 : decode cX12_takesNumber 23 = .ok (.getfield 76, 3) := by decide +kernel
theorem dX12_takesNumber_26 : decode cX12_takesNumber 26 = .ok (.iload_n 3, 1) := by decide +kernel
theorem dX12_takesNumber_27 : decode cX12_takesNumber 27 = .ok (.baload, 1) := by decide +kernel
theorem dX12_takesNumber_28 : decode cX12_takesNumber 28 = .ok (.bipush 48, 2) := by decide +kernel
theorem dX12_takesNumber_30 : decode cX12_takesNumber 30 = .ok (.if_icmp .lt 51, 3) := by decide +kernel
theorem dX12_takesNumber_33 : decode cX12_takesNumber 33 = .ok (.aload_n 0, 1) := by decide +kernel
theorem dX12_takesNumber_34 : decode cX12_takesNumber 34 = .ok (.getfield 76, 3) := by decide +kernel
theorem dX12_takesNumber_37 : decode cX12_takesNumber 37 = .ok (.iload_n 3, 1) := by decide +kernel
theorem dX12_takesNumber_38 : decode cX12_takesNumber 38 = .ok (.baload, 1) := by decide +kernel
theorem dX12_takesNumber_39 : decode cX12_takesNumber 39 = .ok (.bipush 57, 2) := by decide +kernel
theorem dX12_takesNumber_41 : decode cX12_takesNumber 41 = .ok (.if_icmp .gt 40, 3) := by decide +kernel
theorem dX12_takesNumber_44 : decode cX12_takesNumber 44 = .ok (.iload_n 3, 1) := by decide +kernel
theorem dX12_takesNumber_45 : decode cX12_takesNumber 45 = .ok (.aload_n 0, 1) := by decide +kernel
theorem dX12_takesNumber_46 : decode cX12_takesNumber 46 = .ok (.getfield 134, 3) := by decide +kernel
theorem dX12_takesNumber_49 : decode cX12_takesNumber 49 = .ok (.isub, 1) := by decide +kernel
theorem dX12_takesNumber_50 : decode cX12_takesNumber 50 = .ok (.iconst 3, 1) := by decide +kernel
theorem dX12_takesNumber_51 : decode cX12_takesNumber 51 = .ok (.if_icmp .ge 24, 3) := by decide +kernel
theorem dX12_takesNumber_54 : decode cX12_takesNumber 54 = .ok (.aload_n 0, 1) := by decide +kernel
theorem dX12_takesNumber_55 : decode cX12_takesNumber 55 = .ok (.bipush 10, 2) := by decide +kernel
theorem dX12_takesNumber_57 : decode cX12_takesNumber 57 = .ok (.aload_n 0, 1) := by decide +kernel
theorem dX12_takesNumber_58 : decode cX12_takesNumber 58 = .ok (.getfield 150, 3) := by decide +kernel
theorem dX12_takesNumber_61 : decode cX12_takesNumber 61 = .ok (.imul, 1) := by decide +kernel
theorem dX12_takesNumber_62 : decode cX12_takesNumber 62 = .ok (.aload_n 0, 1) := by decide +kernel
theorem dX12_takesNumber_63 : decode cX12_takesNumber 63 = .ok (.getfield 76, 3) := by decide +kernel
theorem dX12_takesNumber_66 : decode cX12_takesNumber 66 = .ok (.iload_n 3, 1) := by decide +kernel
theorem dX12_takesNumber_67 : decode cX12_takesNumber 67 = .ok (.baload, 1) := by decide +kernel
theorem dX12_takesNumber_68 : decode cX12_takesNumber 68 = .ok (.iadd, 1) := by decide +kernel
theorem dX12_takesNumber_69 : decode cX12_takesNumber 69 = .ok (.bipush 48, 2) := by decide +kernel
theorem dX12_takesNumber_71 : decode cX12_takesNumber 71 = .ok (.isub, 1) := by decide +kernel
theorem dX12_takesNumber_72 : decode cX12_takesNumber 72 = .ok (.putfield 150, 3) := by decide +kernel
theorem dX12_takesNumber_75 : decode cX12_takesNumber 75 = .ok (.iinc 3 1, 3) := by decide +kernel
theorem dX12_takesNumber_78 : decode cX12_takesNumber 78 = .ok (.goto (-64), 3) := by decide +kernel
theorem dX12_takesNumber_81 : decode cX12_takesNumber 81 = .ok (.iload_n 3, 1) := by decide +kernel
theorem dX12_takesNumber_82 : decode cX12_takesNumber 82 = .ok (.aload_n 0, 1) := by decide +kernel
theorem dX12_takesNumber_83 : decode cX12_takesNumber 83 = .ok (.getfield 134, 3) := by decide +kernel
theorem dX12_takesNumber_86 : decode cX12_takesNumber 86 = .ok (.if_icmp .eq 25, 3) := by decide +kernel
theorem dX12_takesNumber_89 : decode cX12_takesNumber 89 = .ok (.iload_n 3, 1) := by decide +kernel
theorem dX12_takesNumber_90 : decode cX12_takesNumber 90 = .ok (.aload_n 0, 1) := by decide +kernel
theorem dX12_takesNumber_91 : decode cX12_takesNumber 91 = .ok (.getfield 134, 3) := by decide +kernel
theorem dX12_takesNumber_94 : decode cX12_takesNumber 94 = .ok (.isub, 1) := by decide +kernel
theorem dX12_takesNumber_95 : decode cX12_takesNumber 95 = .ok (.iconst 3, 1) := by decide +kernel
theorem dX12_takesNumber_96 : decode cX12_takesNumber 96 = .ok (.if_icmp .gt 15, 3) := by decide +kernel
theorem dX12_takesNumber_99 : decode cX12_takesNumber 99 = .ok (.aload_n 0, 1) := by decide +kernel
theorem dX12_takesNumber_100 : decode cX12_takesNumber 100 = .ok (.getfield 150, 3) := by decide +kernel
theorem dX12_takesNumber_103 : decode cX12_takesNumber 103 = .ok (.iload_n 1, 1) := by decide +kernel
theorem dX12_takesNumber_104 : decode cX12_takesNumber 104 = .ok (.iload_n 2, 1) := by decide +kernel
theorem dX12_takesNumber_105 : decode cX12_takesNumber 105 = .ok (.invokestatic 153, 3) := by decide +kernel
theorem dX12_takesNumber_108 : decode cX12_takesNumber 108 = .ok (.ifCond .ne 5, 3) := by decide +kernel
theorem dX12_takesNumber_111 : decode cX12_takesNumber 111 = .ok (.iconst 0, 1) := by decide +kernel
theorem dX12_takesNumber_112 : decode cX12_takesNumber 112 = .ok (.ireturn, 1) := by decide +kernel
theorem dX12_takesNumber_113 : decode cX12_takesNumber 113 = .ok (.aload_n 0, 1) := by decide +kernel
theorem dX12_takesNumber_114 : decode cX12_takesNumber 114 = .ok (.iload_n 3, 1) := by decide +kernel
theorem dX12_takesNumber_115 : decode cX12_takesNumber 115 = .ok (.putfield 134, 3) := by decide +kernel
theorem dX12_takesNumber_118 : decode cX12_takesNumber 118 = .ok (.iconst 1, 1) := by decide +kernel
theorem dX12_takesNumber_119 : decode cX12_takesNumber 119 = .ok (.ireturn, 1) := by decide +kernel
theorem dX12_isKept_0 : decode cX12_isKept 0 = .ok (.lload_n 0, 1) := by decide +kernel
theorem dX12_isKept_1 : decode cX12_isKept 1 = .ok (.ldc2_w 157, 3) := by decide +kernel
theorem dX12_isKept_4 : decode cX12_isKept 4 = .ok (.lcmp, 1) := by decide +kernel
theorem dX12_isKept_5 : decode cX12_isKept 5 = .ok (.ifCond .eq 75, 3) := by decide +kernel
theorem dX12_isKept_8 : decode cX12_isKept 8 = .ok (.lload_n 0, 1) := by decide +kernel
theorem dX12_isKept_9 : decode cX12_isKept 9 = .ok (.ldc2_w 159, 3) := by decide +kernel
theorem dX12_isKept_12 : decode cX12_isKept 12 = .ok (.lcmp, 1) := by decide +kernel
theorem dX12_isKept_13 : decode cX12_isKept 13 = .ok (.ifCond .eq 67, 3) := by decide +kernel
theorem dX12_isKept_16 : decode cX12_isKept 16 = .ok (.lload_n 0, 1) := by decide +kernel
theorem dX12_isKept_17 : decode cX12_isKept 17 = .ok (.ldc2_w 161, 3) := by decide +kernel
theorem dX12_isKept_20 : decode cX12_isKept 20 = .ok (.lcmp, 1) := by decide +kernel
theorem dX12_isKept_21 : decode cX12_isKept 21 = .ok (.ifCond .eq 59, 3) := by decide +kernel
theorem dX12_isKept_24 : decode cX12_isKept 24 = .ok (.lload_n 0, 1) := by decide +kernel
theorem dX12_isKept_25 : decode cX12_isKept 25 = .ok (.ldc2_w 163, 3) := by decide +kernel
theorem dX12_isKept_28 : decode cX12_isKept 28 = .ok (.lcmp, 1) := by decide +kernel
theorem dX12_isKept_29 : decode cX12_isKept 29 = .ok (.ifCond .eq 51, 3) := by decide +kernel
theorem dX12_isKept_32 : decode cX12_isKept 32 = .ok (.lload_n 0, 1) := by decide +kernel
theorem dX12_isKept_33 : decode cX12_isKept 33 = .ok (.ldc2_w 165, 3) := by decide +kernel
theorem dX12_isKept_36 : decode cX12_isKept 36 = .ok (.lcmp, 1) := by decide +kernel
theorem dX12_isKept_37 : decode cX12_isKept 37 = .ok (.ifCond .eq 43, 3) := by decide +kernel
theorem dX12_isKept_40 : decode cX12_isKept 40 = .ok (.lload_n 0, 1) := by decide +kernel
theorem dX12_isKept_41 : decode cX12_isKept 41 = .ok (.ldc2_w 167, 3) := by decide +kernel
theorem dX12_isKept_44 : decode cX12_isKept 44 = .ok (.lcmp, 1) := by decide +kernel
theorem dX12_isKept_45 : decode cX12_isKept 45 = .ok (.ifCond .eq 35, 3) := by decide +kernel
theorem dX12_isKept_48 : decode cX12_isKept 48 = .ok (.lload_n 0, 1) := by decide +kernel
theorem dX12_isKept_49 : decode cX12_isKept 49 = .ok (.ldc2_w 169, 3) := by decide +kernel
theorem dX12_isKept_52 : decode cX12_isKept 52 = .ok (.lcmp, 1) := by decide +kernel
theorem dX12_isKept_53 : decode cX12_isKept 53 = .ok (.ifCond .eq 27, 3) := by decide +kernel
theorem dX12_isKept_56 : decode cX12_isKept 56 = .ok (.lload_n 0, 1) := by decide +kernel
theorem dX12_isKept_57 : decode cX12_isKept 57 = .ok (.ldc2_w 171, 3) := by decide +kernel
theorem dX12_isKept_60 : decode cX12_isKept 60 = .ok (.lcmp, 1) := by decide +kernel
theorem dX12_isKept_61 : decode cX12_isKept 61 = .ok (.ifCond .eq 19, 3) := by decide +kernel
theorem dX12_isKept_64 : decode cX12_isKept 64 = .ok (.lload_n 0, 1) := by decide +kernel
theorem dX12_isKept_65 : decode cX12_isKept 65 = .ok (.ldc2_w 173, 3) := by decide +kernel
theorem dX12_isKept_68 : decode cX12_isKept 68 = .ok (.lcmp, 1) := by decide +kernel
theorem dX12_isKept_69 : decode cX12_isKept 69 = .ok (.ifCond .eq 11, 3) := by decide +kernel
theorem dX12_isKept_72 : decode cX12_isKept 72 = .ok (.lload_n 0, 1) := by decide +kernel
theorem dX12_isKept_73 : decode cX12_isKept 73 = .ok (.ldc2_w 175, 3) := by decide +kernel
theorem dX12_isKept_76 : decode cX12_isKept 76 = .ok (.lcmp, 1) := by decide +kernel
theorem dX12_isKept_77 : decode cX12_isKept 77 = .ok (.ifCond .ne 5, 3) := by decide +kernel
theorem dX12_isKept_80 : decode cX12_isKept 80 = .ok (.iconst 1, 1) := by decide +kernel
theorem dX12_isKept_81 : decode cX12_isKept 81 = .ok (.ireturn, 1) := by decide +kernel
theorem dX12_isKept_82 : decode cX12_isKept 82 = .ok (.lload_n 0, 1) := by decide +kernel
theorem dX12_isKept_83 : decode cX12_isKept 83 = .ok (.ldc2_w 177, 3) := by decide +kernel
theorem dX12_isKept_86 : decode cX12_isKept 86 = .ok (.lcmp, 1) := by decide +kernel
theorem dX12_isKept_87 : decode cX12_isKept 87 = .ok (.ifCond .eq 67, 3) := by decide +kernel
theorem dX12_isKept_90 : decode cX12_isKept 90 = .ok (.lload_n 0, 1) := by decide +kernel
theorem dX12_isKept_91 : decode cX12_isKept 91 = .ok (.ldc2_w 179, 3) := by decide +kernel
theorem dX12_isKept_94 : decode cX12_isKept 94 = .ok (.lcmp, 1) := by decide +kernel
theorem dX12_isKept_95 : decode cX12_isKept 95 = .ok (.ifCond .eq 59, 3) := by decide +kernel
theorem dX12_isKept_98 : decode cX12_isKept 98 = .ok (.lload_n 0, 1) := by decide +kernel
theorem dX12_isKept_99 : decode cX12_isKept 99 = .ok (.ldc2_w 181, 3) := by decide +kernel
theorem dX12_isKept_102 : decode cX12_isKept 102 = .ok (.lcmp, 1) := by decide +kernel
theorem dX12_isKept_103 : decode cX12_isKept 103 = .ok (.ifCond .eq 51, 3) := by decide +kernel
theorem dX12_isKept_106 : decode cX12_isKept 106 = .ok (.lload_n 0, 1) := by decide +kernel
theorem dX12_isKept_107 : decode cX12_isKept 107 = .ok (.ldc2_w 183, 3) := by decide +kernel
theorem dX12_isKept_110 : decode cX12_isKept 110 = .ok (.lcmp, 1) := by decide +kernel
theorem dX12_isKept_111 : decode cX12_isKept 111 = .ok (.ifCond .eq 43, 3) := by decide +kernel
theorem dX12_isKept_114 : decode cX12_isKept 114 = .ok (.lload_n 0, 1) := by decide +kernel
theorem dX12_isKept_115 : decode cX12_isKept 115 = .ok (.ldc2_w 185, 3) := by decide +kernel
theorem dX12_isKept_118 : decode cX12_isKept 118 = .ok (.lcmp, 1) := by decide +kernel
theorem dX12_isKept_119 : decode cX12_isKept 119 = .ok (.ifCond .eq 35, 3) := by decide +kernel
theorem dX12_isKept_122 : decode cX12_isKept 122 = .ok (.lload_n 0, 1) := by decide +kernel
theorem dX12_isKept_123 : decode cX12_isKept 123 = .ok (.ldc2_w 187, 3) := by decide +kernel
theorem dX12_isKept_126 : decode cX12_isKept 126 = .ok (.lcmp, 1) := by decide +kernel
theorem dX12_isKept_127 : decode cX12_isKept 127 = .ok (.ifCond .eq 27, 3) := by decide +kernel
theorem dX12_isKept_130 : decode cX12_isKept 130 = .ok (.lload_n 0, 1) := by decide +kernel
theorem dX12_isKept_131 : decode cX12_isKept 131 = .ok (.ldc2_w 189, 3) := by decide +kernel
theorem dX12_isKept_134 : decode cX12_isKept 134 = .ok (.lcmp, 1) := by decide +kernel
theorem dX12_isKept_135 : decode cX12_isKept 135 = .ok (.ifCond .eq 19, 3) := by decide +kernel
theorem dX12_isKept_138 : decode cX12_isKept 138 = .ok (.lload_n 0, 1) := by decide +kernel
theorem dX12_isKept_139 : decode cX12_isKept 139 = .ok (.ldc2_w 191, 3) := by decide +kernel
theorem dX12_isKept_142 : decode cX12_isKept 142 = .ok (.lcmp, 1) := by decide +kernel
theorem dX12_isKept_143 : decode cX12_isKept 143 = .ok (.ifCond .eq 11, 3) := by decide +kernel
theorem dX12_isKept_146 : decode cX12_isKept 146 = .ok (.lload_n 0, 1) := by decide +kernel
theorem dX12_isKept_147 : decode cX12_isKept 147 = .ok (.ldc2_w 193, 3) := by decide +kernel
theorem dX12_isKept_150 : decode cX12_isKept 150 = .ok (.lcmp, 1) := by decide +kernel
theorem dX12_isKept_151 : decode cX12_isKept 151 = .ok (.ifCond .ne 7, 3) := by decide +kernel
theorem dX12_isKept_154 : decode cX12_isKept 154 = .ok (.iconst 1, 1) := by decide +kernel
theorem dX12_isKept_155 : decode cX12_isKept 155 = .ok (.goto 4, 3) := by decide +kernel
theorem dX12_isKept_158 : decode cX12_isKept 158 = .ok (.iconst 0, 1) := by decide +kernel
theorem dX12_isKept_159 : decode cX12_isKept 159 = .ok (.ireturn, 1) := by decide +kernel
theorem dX12_find_0 : decode cX12_find 0 = .ok (.iconst 0, 1) := by decide +kernel
theorem dX12_find_1 : decode cX12_find 1 = .ok (.istore 4, 2) := by decide +kernel
theorem dX12_find_3 : decode cX12_find 3 = .ok (.iload 4, 2) := by decide +kernel
theorem dX12_find_5 : decode cX12_find 5 = .ok (.iload_n 1, 1) := by decide +kernel
theorem dX12_find_6 : decode cX12_find 6 = .ok (.if_icmp .ge 21, 3) := by decide +kernel
theorem dX12_find_9 : decode cX12_find 9 = .ok (.aload_n 0, 1) := by decide +kernel
theorem dX12_find_10 : decode cX12_find 10 = .ok (.iload 4, 2) := by decide +kernel
theorem dX12_find_12 : decode cX12_find 12 = .ok (.laload, 1) := by decide +kernel
theorem dX12_find_13 : decode cX12_find 13 = .ok (.lload_n 2, 1) := by decide +kernel
theorem dX12_find_14 : decode cX12_find 14 = .ok (.lcmp, 1) := by decide +kernel
theorem dX12_find_15 : decode cX12_find 15 = .ok (.ifCond .ne 6, 3) := by decide +kernel
theorem dX12_find_18 : decode cX12_find 18 = .ok (.iload 4, 2) := by decide +kernel
theorem dX12_find_20 : decode cX12_find 20 = .ok (.ireturn, 1) := by decide +kernel
theorem dX12_find_21 : decode cX12_find 21 = .ok (.iinc 4 1, 3) := by decide +kernel
theorem dX12_find_24 : decode cX12_find 24 = .ok (.goto (-21), 3) := by decide +kernel
theorem dX12_find_27 : decode cX12_find 27 = .ok (.iconst (-1), 1) := by decide +kernel
theorem dX12_find_28 : decode cX12_find 28 = .ok (.ireturn, 1) := by decide +kernel
theorem dX12_isNew_0 : decode cX12_isNew 0 = .ok (.lload_n 1, 1) := by decide +kernel
theorem dX12_isNew_1 : decode cX12_isNew 1 = .ok (.lconst 0, 1) := by decide +kernel
theorem dX12_isNew_2 : decode cX12_isNew 2 = .ok (.lcmp, 1) := by decide +kernel
theorem dX12_isNew_3 : decode cX12_isNew 3 = .ok (.ifCond .eq 46, 3) := by decide +kernel
theorem dX12_isNew_6 : decode cX12_isNew 6 = .ok (.lload_n 1, 1) := by decide +kernel
theorem dX12_isNew_7 : decode cX12_isNew 7 = .ok (.invokestatic 195, 3) := by decide +kernel
theorem dX12_isNew_10 : decode cX12_isNew 10 = .ok (.ifCond .ne 39, 3) := by decide +kernel
theorem dX12_isNew_13 : decode cX12_isNew 13 = .ok (.aload_n 0, 1) := by decide +kernel
theorem dX12_isNew_14 : decode cX12_isNew 14 = .ok (.getfield 61, 3) := by decide +kernel
theorem dX12_isNew_17 : decode cX12_isNew 17 = .ok (.aload_n 0, 1) := by decide +kernel
theorem dX12_isNew_18 : decode cX12_isNew 18 = .ok (.getfield 199, 3) := by decide +kernel
theorem dX12_isNew_21 : decode cX12_isNew 21 = .ok (.lload_n 1, 1) := by decide +kernel
theorem dX12_isNew_22 : decode cX12_isNew 22 = .ok (.invokestatic 202, 3) := by decide +kernel
theorem dX12_isNew_25 : decode cX12_isNew 25 = .ok (.iconst (-1), 1) := by decide +kernel
theorem dX12_isNew_26 : decode cX12_isNew 26 = .ok (.if_icmp .ne 23, 3) := by decide +kernel
theorem dX12_isNew_29 : decode cX12_isNew 29 = .ok (.aload_n 0, 1) := by decide +kernel
theorem dX12_isNew_30 : decode cX12_isNew 30 = .ok (.getfield 65, 3) := by decide +kernel
theorem dX12_isNew_33 : decode cX12_isNew 33 = .ok (.aload_n 0, 1) := by decide +kernel
theorem dX12_isNew_34 : decode cX12_isNew 34 = .ok (.getfield 206, 3) := by decide +kernel
theorem dX12_isNew_37 : decode cX12_isNew 37 = .ok (.lload_n 1, 1) := by decide +kernel
theorem dX12_isNew_38 : decode cX12_isNew 38 = .ok (.invokestatic 202, 3) := by decide +kernel
theorem dX12_isNew_41 : decode cX12_isNew 41 = .ok (.iconst (-1), 1) := by decide +kernel
theorem dX12_isNew_42 : decode cX12_isNew 42 = .ok (.if_icmp .ne 7, 3) := by decide +kernel
theorem dX12_isNew_45 : decode cX12_isNew 45 = .ok (.iconst 1, 1) := by decide +kernel
theorem dX12_isNew_46 : decode cX12_isNew 46 = .ok (.goto 4, 3) := by decide +kernel
theorem dX12_isNew_49 : decode cX12_isNew 49 = .ok (.iconst 0, 1) := by decide +kernel
theorem dX12_isNew_50 : decode cX12_isNew 50 = .ok (.ireturn, 1) := by decide +kernel
theorem dX12_takesThing_0 : decode cX12_takesThing 0 = .ok (.aload_n 0, 1) := by decide +kernel
theorem dX12_takesThing_1 : decode cX12_takesThing 1 = .ok (.aload_n 0, 1) := by decide +kernel
theorem dX12_takesThing_2 : decode cX12_takesThing 2 = .ok (.getfield 61, 3) := by decide +kernel
theorem dX12_takesThing_5 : decode cX12_takesThing 5 = .ok (.aload_n 0, 1) := by decide +kernel
theorem dX12_takesThing_6 : decode cX12_takesThing 6 = .ok (.getfield 199, 3) := by decide +kernel
theorem dX12_takesThing_9 : decode cX12_takesThing 9 = .ok (.aload_n 0, 1) := by decide +kernel
theorem dX12_takesThing_10 : decode cX12_takesThing 10 = .ok (.invokevirtual 146, 3) := by decide +kernel
theorem dX12_takesThing_13 : decode cX12_takesThing 13 = .ok (.invokestatic 202, 3) := by decide +kernel
theorem dX12_takesThing_16 : decode cX12_takesThing 16 = .ok (.putfield 209, 3) := by decide +kernel
theorem dX12_takesThing_19 : decode cX12_takesThing 19 = .ok (.aload_n 0, 1) := by decide +kernel
theorem dX12_takesThing_20 : decode cX12_takesThing 20 = .ok (.getfield 209, 3) := by decide +kernel
theorem dX12_takesThing_23 : decode cX12_takesThing 23 = .ok (.iconst (-1), 1) := by decide +kernel
theorem dX12_takesThing_24 : decode cX12_takesThing 24 = .ok (.if_icmp .eq 11, 3) := by decide +kernel
theorem dX12_takesThing_27 : decode cX12_takesThing 27 = .ok (.aload_n 0, 1) := by decide +kernel
theorem dX12_takesThing_28 : decode cX12_takesThing 28 = .ok (.getfield 209, 3) := by decide +kernel
theorem dX12_takesThing_31 : decode cX12_takesThing 31 = .ok (.iload_n 1, 1) := by decide +kernel
theorem dX12_takesThing_32 : decode cX12_takesThing 32 = .ok (.if_icmp .ne 5, 3) := by decide +kernel
theorem dX12_takesThing_35 : decode cX12_takesThing 35 = .ok (.iconst 0, 1) := by decide +kernel
theorem dX12_takesThing_36 : decode cX12_takesThing 36 = .ok (.ireturn, 1) := by decide +kernel
theorem dX12_takesThing_37 : decode cX12_takesThing 37 = .ok (.aload_n 0, 1) := by decide +kernel
theorem dX12_takesThing_38 : decode cX12_takesThing 38 = .ok (.aload_n 0, 1) := by decide +kernel
theorem dX12_takesThing_39 : decode cX12_takesThing 39 = .ok (.getfield 143, 3) := by decide +kernel
theorem dX12_takesThing_42 : decode cX12_takesThing 42 = .ok (.putfield 134, 3) := by decide +kernel
theorem dX12_takesThing_45 : decode cX12_takesThing 45 = .ok (.iconst 1, 1) := by decide +kernel
theorem dX12_takesThing_46 : decode cX12_takesThing 46 = .ok (.ireturn, 1) := by decide +kernel
theorem dX12_takesMember_0 : decode cX12_takesMember 0 = .ok (.aload_n 0, 1) := by decide +kernel
theorem dX12_takesMember_1 : decode cX12_takesMember 1 = .ok (.aload_n 0, 1) := by decide +kernel
theorem dX12_takesMember_2 : decode cX12_takesMember 2 = .ok (.getfield 65, 3) := by decide +kernel
theorem dX12_takesMember_5 : decode cX12_takesMember 5 = .ok (.aload_n 0, 1) := by decide +kernel
theorem dX12_takesMember_6 : decode cX12_takesMember 6 = .ok (.getfield 206, 3) := by decide +kernel
theorem dX12_takesMember_9 : decode cX12_takesMember 9 = .ok (.aload_n 0, 1) := by decide +kernel
theorem dX12_takesMember_10 : decode cX12_takesMember 10 = .ok (.invokevirtual 146, 3) := by decide +kernel
theorem dX12_takesMember_13 : decode cX12_takesMember 13 = .ok (.invokestatic 202, 3) := by decide +kernel
theorem dX12_takesMember_16 : decode cX12_takesMember 16 = .ok (.putfield 209, 3) := by decide +kernel
theorem dX12_takesMember_19 : decode cX12_takesMember 19 = .ok (.aload_n 0, 1) := by decide +kernel
theorem dX12_takesMember_20 : decode cX12_takesMember 20 = .ok (.getfield 209, 3) := by decide +kernel
theorem dX12_takesMember_23 : decode cX12_takesMember 23 = .ok (.iconst (-1), 1) := by decide +kernel
theorem dX12_takesMember_24 : decode cX12_takesMember 24 = .ok (.if_icmp .eq 11, 3) := by decide +kernel
theorem dX12_takesMember_27 : decode cX12_takesMember 27 = .ok (.aload_n 0, 1) := by decide +kernel
theorem dX12_takesMember_28 : decode cX12_takesMember 28 = .ok (.getfield 209, 3) := by decide +kernel
theorem dX12_takesMember_31 : decode cX12_takesMember 31 = .ok (.iload_n 1, 1) := by decide +kernel
theorem dX12_takesMember_32 : decode cX12_takesMember 32 = .ok (.if_icmp .ne 5, 3) := by decide +kernel
theorem dX12_takesMember_35 : decode cX12_takesMember 35 = .ok (.iconst 0, 1) := by decide +kernel
theorem dX12_takesMember_36 : decode cX12_takesMember 36 = .ok (.ireturn, 1) := by decide +kernel
theorem dX12_takesMember_37 : decode cX12_takesMember 37 = .ok (.aload_n 0, 1) := by decide +kernel
theorem dX12_takesMember_38 : decode cX12_takesMember 38 = .ok (.aload_n 0, 1) := by decide +kernel
theorem dX12_takesMember_39 : decode cX12_takesMember 39 = .ok (.getfield 143, 3) := by decide +kernel
theorem dX12_takesMember_42 : decode cX12_takesMember 42 = .ok (.putfield 134, 3) := by decide +kernel
theorem dX12_takesMember_45 : decode cX12_takesMember 45 = .ok (.iconst 1, 1) := by decide +kernel
theorem dX12_takesMember_46 : decode cX12_takesMember 46 = .ok (.ireturn, 1) := by decide +kernel
theorem dX12_thingTold_0 : decode cX12_thingTold 0 = .ok (.aload_n 0, 1) := by decide +kernel
theorem dX12_thingTold_1 : decode cX12_thingTold 1 = .ok (.invokevirtual 146, 3) := by decide +kernel
theorem dX12_thingTold_4 : decode cX12_thingTold 4 = .ok (.lstore_n 1, 1) := by decide +kernel
theorem dX12_thingTold_5 : decode cX12_thingTold 5 = .ok (.aload_n 0, 1) := by decide +kernel
theorem dX12_thingTold_6 : decode cX12_thingTold 6 = .ok (.lload_n 1, 1) := by decide +kernel
theorem dX12_thingTold_7 : decode cX12_thingTold 7 = .ok (.invokevirtual 212, 3) := by decide +kernel
theorem dX12_thingTold_10 : decode cX12_thingTold 10 = .ok (.ifCond .eq 11, 3) := by decide +kernel
theorem dX12_thingTold_13 : decode cX12_thingTold 13 = .ok (.aload_n 0, 1) := by decide +kernel
theorem dX12_thingTold_14 : decode cX12_thingTold 14 = .ok (.getfield 199, 3) := by decide +kernel
theorem dX12_thingTold_17 : decode cX12_thingTold 17 = .ok (.iconst 5, 1) := by decide +kernel
theorem dX12_thingTold_18 : decode cX12_thingTold 18 = .ok (.if_icmp .ne 5, 3) := by decide +kernel
theorem dX12_thingTold_21 : decode cX12_thingTold 21 = .ok (.iconst 0, 1) := by decide +kernel
theorem dX12_thingTold_22 : decode cX12_thingTold 22 = .ok (.ireturn, 1) := by decide +kernel
theorem dX12_thingTold_23 : decode cX12_thingTold 23 = .ok (.aload_n 0, 1) := by decide +kernel
theorem dX12_thingTold_24 : decode cX12_thingTold 24 = .ok (.aload_n 0, 1) := by decide +kernel
theorem dX12_thingTold_25 : decode cX12_thingTold 25 = .ok (.getfield 143, 3) := by decide +kernel
theorem dX12_thingTold_28 : decode cX12_thingTold 28 = .ok (.putfield 134, 3) := by decide +kernel
theorem dX12_thingTold_31 : decode cX12_thingTold 31 = .ok (.iconst 5, 1) := by decide +kernel
theorem dX12_thingTold_32 : decode cX12_thingTold 32 = .ok (.aload_n 0, 1) := by decide +kernel
theorem dX12_thingTold_33 : decode cX12_thingTold 33 = .ok (.getfield 199, 3) := by decide +kernel
theorem dX12_thingTold_36 : decode cX12_thingTold 36 = .ok (.iadd, 1) := by decide +kernel
theorem dX12_thingTold_37 : decode cX12_thingTold 37 = .ok (.istore_n 3, 1) := by decide +kernel
theorem dX12_thingTold_38 : decode cX12_thingTold 38 = .ok (.aload_n 0, 1) := by decide +kernel
theorem dX12_thingTold_39 : decode cX12_thingTold 39 = .ok (.getfield 7, 3) := by decide +kernel
theorem dX12_thingTold_42 : decode cX12_thingTold 42 = .ok (.iload_n 3, 1) := by decide +kernel
theorem dX12_thingTold_43 : decode cX12_thingTold 43 = .ok (.iconst 0, 1) := by decide +kernel
theorem dX12_thingTold_44 : decode cX12_thingTold 44 = .ok (.iastore, 1) := by decide +kernel
theorem dX12_thingTold_45 : decode cX12_thingTold 45 = .ok (.aload_n 0, 1) := by decide +kernel
theorem dX12_thingTold_46 : decode cX12_thingTold 46 = .ok (.getfield 13, 3) := by decide +kernel
theorem dX12_thingTold_49 : decode cX12_thingTold 49 = .ok (.iload_n 3, 1) := by decide +kernel
theorem dX12_thingTold_50 : decode cX12_thingTold 50 = .ok (.bipush 7, 2) := by decide +kernel
theorem dX12_thingTold_52 : decode cX12_thingTold 52 = .ok (.iastore, 1) := by decide +kernel
theorem dX12_thingTold_53 : decode cX12_thingTold 53 = .ok (.aload_n 0, 1) := by decide +kernel
theorem dX12_thingTold_54 : decode cX12_thingTold 54 = .ok (.ldc2_w 159, 3) := by decide +kernel
theorem dX12_thingTold_57 : decode cX12_thingTold 57 = .ok (.invokevirtual 215, 3) := by decide +kernel
theorem dX12_thingTold_60 : decode cX12_thingTold 60 = .ok (.ifCond .eq 25, 3) := by decide +kernel
theorem dX12_thingTold_63 : decode cX12_thingTold 63 = .ok (.aload_n 0, 1) := by decide +kernel
theorem dX12_thingTold_64 : decode cX12_thingTold 64 = .ok (.iconst 0, 1) := by decide +kernel
theorem dX12_thingTold_65 : decode cX12_thingTold 65 = .ok (.bipush 7, 2) := by decide +kernel
theorem dX12_thingTold_67 : decode cX12_thingTold 67 = .ok (.invokevirtual 218, 3) := by decide +kernel
theorem dX12_thingTold_70 : decode cX12_thingTold 70 = .ok (.ifCond .ne 5, 3) := by decide +kernel
theorem dX12_thingTold_73 : decode cX12_thingTold 73 = .ok (.iconst 0, 1) := by decide +kernel
theorem dX12_thingTold_74 : decode cX12_thingTold 74 = .ok (.ireturn, 1) := by decide +kernel
theorem dX12_thingTold_75 : decode cX12_thingTold 75 = .ok (.aload_n 0, 1) := by decide +kernel
theorem dX12_thingTold_76 : decode cX12_thingTold 76 = .ok (.getfield 7, 3) := by decide +kernel
theorem dX12_thingTold_79 : decode cX12_thingTold 79 = .ok (.iload_n 3, 1) := by decide +kernel
theorem dX12_thingTold_80 : decode cX12_thingTold 80 = .ok (.aload_n 0, 1) := by decide +kernel
theorem dX12_thingTold_81 : decode cX12_thingTold 81 = .ok (.getfield 150, 3) := by decide +kernel
theorem dX12_thingTold_84 : decode cX12_thingTold 84 = .ok (.iastore, 1) := by decide +kernel
theorem dX12_thingTold_85 : decode cX12_thingTold 85 = .ok (.aload_n 0, 1) := by decide +kernel
theorem dX12_thingTold_86 : decode cX12_thingTold 86 = .ok (.ldc2_w 161, 3) := by decide +kernel
theorem dX12_thingTold_89 : decode cX12_thingTold 89 = .ok (.invokevirtual 215, 3) := by decide +kernel
theorem dX12_thingTold_92 : decode cX12_thingTold 92 = .ok (.ifCond .eq 30, 3) := by decide +kernel
theorem dX12_thingTold_95 : decode cX12_thingTold 95 = .ok (.aload_n 0, 1) := by decide +kernel
theorem dX12_thingTold_96 : decode cX12_thingTold 96 = .ok (.aload_n 0, 1) := by decide +kernel
theorem dX12_thingTold_97 : decode cX12_thingTold 97 = .ok (.getfield 7, 3) := by decide +kernel
theorem dX12_thingTold_100 : decode cX12_thingTold 100 = .ok (.iload_n 3, 1) := by decide +kernel
theorem dX12_thingTold_101 : decode cX12_thingTold 101 = .ok (.iaload, 1) := by decide +kernel
theorem dX12_thingTold_102 : decode cX12_thingTold 102 = .ok (.bipush 7, 2) := by decide +kernel
theorem dX12_thingTold_104 : decode cX12_thingTold 104 = .ok (.invokevirtual 218, 3) := by decide +kernel
theorem dX12_thingTold_107 : decode cX12_thingTold 107 = .ok (.ifCond .ne 5, 3) := by decide +kernel
theorem dX12_thingTold_110 : decode cX12_thingTold 110 = .ok (.iconst 0, 1) := by decide +kernel
theorem dX12_thingTold_111 : decode cX12_thingTold 111 = .ok (.ireturn, 1) := by decide +kernel
theorem dX12_thingTold_112 : decode cX12_thingTold 112 = .ok (.aload_n 0, 1) := by decide +kernel
theorem dX12_thingTold_113 : decode cX12_thingTold 113 = .ok (.getfield 13, 3) := by decide +kernel
theorem dX12_thingTold_116 : decode cX12_thingTold 116 = .ok (.iload_n 3, 1) := by decide +kernel
theorem dX12_thingTold_117 : decode cX12_thingTold 117 = .ok (.aload_n 0, 1) := by decide +kernel
theorem dX12_thingTold_118 : decode cX12_thingTold 118 = .ok (.getfield 150, 3) := by decide +kernel
theorem dX12_thingTold_121 : decode cX12_thingTold 121 = .ok (.iastore, 1) := by decide +kernel
theorem dX12_thingTold_122 : decode cX12_thingTold 122 = .ok (.aload_n 0, 1) := by decide +kernel
theorem dX12_thingTold_123 : decode cX12_thingTold 123 = .ok (.getfield 61, 3) := by decide +kernel
theorem dX12_thingTold_126 : decode cX12_thingTold 126 = .ok (.aload_n 0, 1) := by decide +kernel
theorem dX12_thingTold_127 : decode cX12_thingTold 127 = .ok (.getfield 199, 3) := by decide +kernel
theorem dX12_thingTold_130 : decode cX12_thingTold 130 = .ok (.lload_n 1, 1) := by decide +kernel
theorem dX12_thingTold_131 : decode cX12_thingTold 131 = .ok (.lastore, 1) := by decide +kernel
theorem dX12_thingTold_132 : decode cX12_thingTold 132 = .ok (.aload_n 0, 1) := by decide +kernel
theorem dX12_thingTold_133 : decode cX12_thingTold 133 = .ok (.dup, 1) := by decide +kernel
theorem dX12_thingTold_134 : decode cX12_thingTold 134 = .ok (.getfield 199, 3) := by decide +kernel
theorem dX12_thingTold_137 : decode cX12_thingTold 137 = .ok (.iconst 1, 1) := by decide +kernel
theorem dX12_thingTold_138 : decode cX12_thingTold 138 = .ok (.iadd, 1) := by decide +kernel
theorem dX12_thingTold_139 : decode cX12_thingTold 139 = .ok (.putfield 199, 3) := by decide +kernel
theorem dX12_thingTold_142 : decode cX12_thingTold 142 = .ok (.iconst 1, 1) := by decide +kernel
theorem dX12_thingTold_143 : decode cX12_thingTold 143 = .ok (.ireturn, 1) := by decide +kernel
theorem dX12_memberTold_0 : decode cX12_memberTold 0 = .ok (.aload_n 0, 1) := by decide +kernel
theorem dX12_memberTold_1 : decode cX12_memberTold 1 = .ok (.invokevirtual 146, 3) := by decide +kernel
theorem dX12_memberTold_4 : decode cX12_memberTold 4 = .ok (.lstore_n 1, 1) := by decide +kernel
theorem dX12_memberTold_5 : decode cX12_memberTold 5 = .ok (.aload_n 0, 1) := by decide +kernel
theorem dX12_memberTold_6 : decode cX12_memberTold 6 = .ok (.lload_n 1, 1) := by decide +kernel
theorem dX12_memberTold_7 : decode cX12_memberTold 7 = .ok (.invokevirtual 212, 3) := by decide +kernel
theorem dX12_memberTold_10 : decode cX12_memberTold 10 = .ok (.ifCond .eq 12, 3) := by decide +kernel
theorem dX12_memberTold_13 : decode cX12_memberTold 13 = .ok (.aload_n 0, 1) := by decide +kernel
theorem dX12_memberTold_14 : decode cX12_memberTold 14 = .ok (.getfield 206, 3) := by decide +kernel
theorem dX12_memberTold_17 : decode cX12_memberTold 17 = .ok (.bipush 6, 2) := by decide +kernel
theorem dX12_memberTold_19 : decode cX12_memberTold 19 = .ok (.if_icmp .ne 5, 3) := by decide +kernel
theorem dX12_memberTold_22 : decode cX12_memberTold 22 = .ok (.iconst 0, 1) := by decide +kernel
theorem dX12_memberTold_23 : decode cX12_memberTold 23 = .ok (.ireturn, 1) := by decide +kernel
theorem dX12_memberTold_24 : decode cX12_memberTold 24 = .ok (.aload_n 0, 1) := by decide +kernel
theorem dX12_memberTold_25 : decode cX12_memberTold 25 = .ok (.aload_n 0, 1) := by decide +kernel
theorem dX12_memberTold_26 : decode cX12_memberTold 26 = .ok (.getfield 143, 3) := by decide +kernel
theorem dX12_memberTold_29 : decode cX12_memberTold 29 = .ok (.putfield 134, 3) := by decide +kernel
theorem dX12_memberTold_32 : decode cX12_memberTold 32 = .ok (.aload_n 0, 1) := by decide +kernel
theorem dX12_memberTold_33 : decode cX12_memberTold 33 = .ok (.getfield 65, 3) := by decide +kernel
theorem dX12_memberTold_36 : decode cX12_memberTold 36 = .ok (.aload_n 0, 1) := by decide +kernel
theorem dX12_memberTold_37 : decode cX12_memberTold 37 = .ok (.getfield 206, 3) := by decide +kernel
theorem dX12_memberTold_40 : decode cX12_memberTold 40 = .ok (.lload_n 1, 1) := by decide +kernel
theorem dX12_memberTold_41 : decode cX12_memberTold 41 = .ok (.lastore, 1) := by decide +kernel
theorem dX12_memberTold_42 : decode cX12_memberTold 42 = .ok (.aload_n 0, 1) := by decide +kernel
theorem dX12_memberTold_43 : decode cX12_memberTold 43 = .ok (.dup, 1) := by decide +kernel
theorem dX12_memberTold_44 : decode cX12_memberTold 44 = .ok (.getfield 206, 3) := by decide +kernel
theorem dX12_memberTold_47 : decode cX12_memberTold 47 = .ok (.iconst 1, 1) := by decide +kernel
theorem dX12_memberTold_48 : decode cX12_memberTold 48 = .ok (.iadd, 1) := by decide +kernel
theorem dX12_memberTold_49 : decode cX12_memberTold 49 = .ok (.putfield 206, 3) := by decide +kernel
theorem dX12_memberTold_52 : decode cX12_memberTold 52 = .ok (.iconst 1, 1) := by decide +kernel
theorem dX12_memberTold_53 : decode cX12_memberTold 53 = .ok (.ireturn, 1) := by decide +kernel
theorem dX12_linkTold_0 : decode cX12_linkTold 0 = .ok (.bipush 40, 2) := by decide +kernel
theorem dX12_linkTold_2 : decode cX12_linkTold 2 = .ok (.aload_n 0, 1) := by decide +kernel
theorem dX12_linkTold_3 : decode cX12_linkTold 3 = .ok (.getfield 222, 3) := by decide +kernel
theorem dX12_linkTold_6 : decode cX12_linkTold 6 = .ok (.iadd, 1) := by decide +kernel
theorem dX12_linkTold_7 : decode cX12_linkTold 7 = .ok (.istore_n 2, 1) := by decide +kernel
theorem dX12_linkTold_8 : decode cX12_linkTold 8 = .ok (.aload_n 0, 1) := by decide +kernel
theorem dX12_linkTold_9 : decode cX12_linkTold 9 = .ok (.getfield 28, 3) := by decide +kernel
theorem dX12_linkTold_12 : decode cX12_linkTold 12 = .ok (.iload_n 2, 1) := by decide +kernel
theorem dX12_linkTold_13 : decode cX12_linkTold 13 = .ok (.iload_n 1, 1) := by decide +kernel
theorem dX12_linkTold_14 : decode cX12_linkTold 14 = .ok (.iastore, 1) := by decide +kernel
theorem dX12_linkTold_15 : decode cX12_linkTold 15 = .ok (.aload_n 0, 1) := by decide +kernel
theorem dX12_linkTold_16 : decode cX12_linkTold 16 = .ok (.iconst (-1), 1) := by decide +kernel
theorem dX12_linkTold_17 : decode cX12_linkTold 17 = .ok (.invokevirtual 225, 3) := by decide +kernel
theorem dX12_linkTold_20 : decode cX12_linkTold 20 = .ok (.ifCond .ne 5, 3) := by decide +kernel
theorem dX12_linkTold_23 : decode cX12_linkTold 23 = .ok (.iconst 0, 1) := by decide +kernel
theorem dX12_linkTold_24 : decode cX12_linkTold 24 = .ok (.ireturn, 1) := by decide +kernel
theorem dX12_linkTold_25 : decode cX12_linkTold 25 = .ok (.aload_n 0, 1) := by decide +kernel
theorem dX12_linkTold_26 : decode cX12_linkTold 26 = .ok (.getfield 31, 3) := by decide +kernel
theorem dX12_linkTold_29 : decode cX12_linkTold 29 = .ok (.iload_n 2, 1) := by decide +kernel
theorem dX12_linkTold_30 : decode cX12_linkTold 30 = .ok (.aload_n 0, 1) := by decide +kernel
theorem dX12_linkTold_31 : decode cX12_linkTold 31 = .ok (.getfield 209, 3) := by decide +kernel
theorem dX12_linkTold_34 : decode cX12_linkTold 34 = .ok (.iastore, 1) := by decide +kernel
theorem dX12_linkTold_35 : decode cX12_linkTold 35 = .ok (.aload_n 0, 1) := by decide +kernel
theorem dX12_linkTold_36 : decode cX12_linkTold 36 = .ok (.aload_n 0, 1) := by decide +kernel
theorem dX12_linkTold_37 : decode cX12_linkTold 37 = .ok (.getfield 31, 3) := by decide +kernel
theorem dX12_linkTold_40 : decode cX12_linkTold 40 = .ok (.iload_n 2, 1) := by decide +kernel
theorem dX12_linkTold_41 : decode cX12_linkTold 41 = .ok (.iaload, 1) := by decide +kernel
theorem dX12_linkTold_42 : decode cX12_linkTold 42 = .ok (.invokevirtual 225, 3) := by decide +kernel
theorem dX12_linkTold_45 : decode cX12_linkTold 45 = .ok (.ifCond .ne 5, 3) := by decide +kernel
theorem dX12_linkTold_48 : decode cX12_linkTold 48 = .ok (.iconst 0, 1) := by decide +kernel
theorem dX12_linkTold_49 : decode cX12_linkTold 49 = .ok (.ireturn, 1) := by decide +kernel
theorem dX12_linkTold_50 : decode cX12_linkTold 50 = .ok (.aload_n 0, 1) := by decide +kernel
theorem dX12_linkTold_51 : decode cX12_linkTold 51 = .ok (.getfield 34, 3) := by decide +kernel
theorem dX12_linkTold_54 : decode cX12_linkTold 54 = .ok (.iload_n 2, 1) := by decide +kernel
theorem dX12_linkTold_55 : decode cX12_linkTold 55 = .ok (.aload_n 0, 1) := by decide +kernel
theorem dX12_linkTold_56 : decode cX12_linkTold 56 = .ok (.getfield 209, 3) := by decide +kernel
theorem dX12_linkTold_59 : decode cX12_linkTold 59 = .ok (.iastore, 1) := by decide +kernel
theorem dX12_linkTold_60 : decode cX12_linkTold 60 = .ok (.aload_n 0, 1) := by decide +kernel
theorem dX12_linkTold_61 : decode cX12_linkTold 61 = .ok (.getfield 37, 3) := by decide +kernel
theorem dX12_linkTold_64 : decode cX12_linkTold 64 = .ok (.iload_n 2, 1) := by decide +kernel
theorem dX12_linkTold_65 : decode cX12_linkTold 65 = .ok (.iconst 0, 1) := by decide +kernel
theorem dX12_linkTold_66 : decode cX12_linkTold 66 = .ok (.iastore, 1) := by decide +kernel
theorem dX12_linkTold_67 : decode cX12_linkTold 67 = .ok (.iload_n 1, 1) := by decide +kernel
theorem dX12_linkTold_68 : decode cX12_linkTold 68 = .ok (.iconst 1, 1) := by decide +kernel
theorem dX12_linkTold_69 : decode cX12_linkTold 69 = .ok (.if_icmp .ne 35, 3) := by decide +kernel
theorem dX12_linkTold_72 : decode cX12_linkTold 72 = .ok (.aload_n 0, 1) := by decide +kernel
theorem dX12_linkTold_73 : decode cX12_linkTold 73 = .ok (.ldc2_w 169, 3) := by decide +kernel
theorem dX12_linkTold_76 : decode cX12_linkTold 76 = .ok (.invokevirtual 215, 3) := by decide +kernel
theorem dX12_linkTold_79 : decode cX12_linkTold 79 = .ok (.ifCond .eq 13, 3) := by decide +kernel
theorem dX12_linkTold_82 : decode cX12_linkTold 82 = .ok (.aload_n 0, 1) := by decide +kernel
theorem dX12_linkTold_83 : decode cX12_linkTold 83 = .ok (.iconst 0, 1) := by decide +kernel
theorem dX12_linkTold_84 : decode cX12_linkTold 84 = .ok (.bipush 7, 2) := by decide +kernel
theorem dX12_linkTold_86 : decode cX12_linkTold 86 = .ok (.invokevirtual 218, 3) := by decide +kernel
theorem dX12_linkTold_89 : decode cX12_linkTold 89 = .ok (.ifCond .ne 5, 3) := by decide +kernel
theorem dX12_linkTold_92 : decode cX12_linkTold 92 = .ok (.iconst 0, 1) := by decide +kernel
theorem dX12_linkTold_93 : decode cX12_linkTold 93 = .ok (.ireturn, 1) := by decide +kernel
theorem dX12_linkTold_94 : decode cX12_linkTold 94 = .ok (.aload_n 0, 1) := by decide +kernel
theorem dX12_linkTold_95 : decode cX12_linkTold 95 = .ok (.getfield 37, 3) := by decide +kernel
theorem dX12_linkTold_98 : decode cX12_linkTold 98 = .ok (.iload_n 2, 1) := by decide +kernel
theorem dX12_linkTold_99 : decode cX12_linkTold 99 = .ok (.aload_n 0, 1) := by decide +kernel
theorem dX12_linkTold_100 : decode cX12_linkTold 100 = .ok (.getfield 150, 3) := by decide +kernel
theorem dX12_linkTold_103 : decode cX12_linkTold 103 = .ok (.iastore, 1) := by decide +kernel
theorem dX12_linkTold_104 : decode cX12_linkTold 104 = .ok (.aload_n 0, 1) := by decide +kernel
theorem dX12_linkTold_105 : decode cX12_linkTold 105 = .ok (.dup, 1) := by decide +kernel
theorem dX12_linkTold_106 : decode cX12_linkTold 106 = .ok (.getfield 222, 3) := by decide +kernel
theorem dX12_linkTold_109 : decode cX12_linkTold 109 = .ok (.iconst 1, 1) := by decide +kernel
theorem dX12_linkTold_110 : decode cX12_linkTold 110 = .ok (.iadd, 1) := by decide +kernel
theorem dX12_linkTold_111 : decode cX12_linkTold 111 = .ok (.putfield 222, 3) := by decide +kernel
theorem dX12_linkTold_114 : decode cX12_linkTold 114 = .ok (.iconst 1, 1) := by decide +kernel
theorem dX12_linkTold_115 : decode cX12_linkTold 115 = .ok (.ireturn, 1) := by decide +kernel
theorem dX12_betTold_0 : decode cX12_betTold 0 = .ok (.bipush 12, 2) := by decide +kernel
theorem dX12_betTold_2 : decode cX12_betTold 2 = .ok (.aload_n 0, 1) := by decide +kernel
theorem dX12_betTold_3 : decode cX12_betTold 3 = .ok (.getfield 229, 3) := by decide +kernel
theorem dX12_betTold_6 : decode cX12_betTold 6 = .ok (.iadd, 1) := by decide +kernel
theorem dX12_betTold_7 : decode cX12_betTold 7 = .ok (.istore_n 1, 1) := by decide +kernel
theorem dX12_betTold_8 : decode cX12_betTold 8 = .ok (.aload_n 0, 1) := by decide +kernel
theorem dX12_betTold_9 : decode cX12_betTold 9 = .ok (.iconst (-1), 1) := by decide +kernel
theorem dX12_betTold_10 : decode cX12_betTold 10 = .ok (.invokevirtual 232, 3) := by decide +kernel
theorem dX12_betTold_13 : decode cX12_betTold 13 = .ok (.ifCond .ne 5, 3) := by decide +kernel
theorem dX12_betTold_16 : decode cX12_betTold 16 = .ok (.iconst 0, 1) := by decide +kernel
theorem dX12_betTold_17 : decode cX12_betTold 17 = .ok (.ireturn, 1) := by decide +kernel
theorem dX12_betTold_18 : decode cX12_betTold 18 = .ok (.aload_n 0, 1) := by decide +kernel
theorem dX12_betTold_19 : decode cX12_betTold 19 = .ok (.getfield 16, 3) := by decide +kernel
theorem dX12_betTold_22 : decode cX12_betTold 22 = .ok (.iload_n 1, 1) := by decide +kernel
theorem dX12_betTold_23 : decode cX12_betTold 23 = .ok (.aload_n 0, 1) := by decide +kernel
theorem dX12_betTold_24 : decode cX12_betTold 24 = .ok (.getfield 209, 3) := by decide +kernel
theorem dX12_betTold_27 : decode cX12_betTold 27 = .ok (.iastore, 1) := by decide +kernel
theorem dX12_betTold_28 : decode cX12_betTold 28 = .ok (.aload_n 0, 1) := by decide +kernel
theorem dX12_betTold_29 : decode cX12_betTold 29 = .ok (.iconst 1, 1) := by decide +kernel
theorem dX12_betTold_30 : decode cX12_betTold 30 = .ok (.sipush 999, 3) := by decide +kernel
theorem dX12_betTold_33 : decode cX12_betTold 33 = .ok (.invokevirtual 218, 3) := by decide +kernel
theorem dX12_betTold_36 : decode cX12_betTold 36 = .ok (.ifCond .ne 5, 3) := by decide +kernel
theorem dX12_betTold_39 : decode cX12_betTold 39 = .ok (.iconst 0, 1) := by decide +kernel
theorem dX12_betTold_40 : decode cX12_betTold 40 = .ok (.ireturn, 1) := by decide +kernel
theorem dX12_betTold_41 : decode cX12_betTold 41 = .ok (.aload_n 0, 1) := by decide +kernel
theorem dX12_betTold_42 : decode cX12_betTold 42 = .ok (.getfield 22, 3) := by decide +kernel
theorem dX12_betTold_45 : decode cX12_betTold 45 = .ok (.iload_n 1, 1) := by decide +kernel
theorem dX12_betTold_46 : decode cX12_betTold 46 = .ok (.aload_n 0, 1) := by decide +kernel
theorem dX12_betTold_47 : decode cX12_betTold 47 = .ok (.getfield 150, 3) := by decide +kernel
theorem dX12_betTold_50 : decode cX12_betTold 50 = .ok (.iastore, 1) := by decide +kernel
theorem dX12_betTold_51 : decode cX12_betTold 51 = .ok (.aload_n 0, 1) := by decide +kernel
theorem dX12_betTold_52 : decode cX12_betTold 52 = .ok (.ldc2_w 173, 3) := by decide +kernel
theorem dX12_betTold_55 : decode cX12_betTold 55 = .ok (.invokevirtual 215, 3) := by decide +kernel
theorem dX12_betTold_58 : decode cX12_betTold 58 = .ok (.ifCond .eq 14, 3) := by decide +kernel
theorem dX12_betTold_61 : decode cX12_betTold 61 = .ok (.aload_n 0, 1) := by decide +kernel
theorem dX12_betTold_62 : decode cX12_betTold 62 = .ok (.iconst 1, 1) := by decide +kernel
theorem dX12_betTold_63 : decode cX12_betTold 63 = .ok (.sipush 999, 3) := by decide +kernel
theorem dX12_betTold_66 : decode cX12_betTold 66 = .ok (.invokevirtual 218, 3) := by decide +kernel
theorem dX12_betTold_69 : decode cX12_betTold 69 = .ok (.ifCond .ne 5, 3) := by decide +kernel
theorem dX12_betTold_72 : decode cX12_betTold 72 = .ok (.iconst 0, 1) := by decide +kernel
theorem dX12_betTold_73 : decode cX12_betTold 73 = .ok (.ireturn, 1) := by decide +kernel
theorem dX12_betTold_74 : decode cX12_betTold 74 = .ok (.aload_n 0, 1) := by decide +kernel
theorem dX12_betTold_75 : decode cX12_betTold 75 = .ok (.getfield 25, 3) := by decide +kernel
theorem dX12_betTold_78 : decode cX12_betTold 78 = .ok (.iload_n 1, 1) := by decide +kernel
theorem dX12_betTold_79 : decode cX12_betTold 79 = .ok (.aload_n 0, 1) := by decide +kernel
theorem dX12_betTold_80 : decode cX12_betTold 80 = .ok (.getfield 150, 3) := by decide +kernel
theorem dX12_betTold_83 : decode cX12_betTold 83 = .ok (.iastore, 1) := by decide +kernel
theorem dX12_betTold_84 : decode cX12_betTold 84 = .ok (.aload_n 0, 1) := by decide +kernel
theorem dX12_betTold_85 : decode cX12_betTold 85 = .ok (.aload_n 0, 1) := by decide +kernel
theorem dX12_betTold_86 : decode cX12_betTold 86 = .ok (.getfield 16, 3) := by decide +kernel
theorem dX12_betTold_89 : decode cX12_betTold 89 = .ok (.iload_n 1, 1) := by decide +kernel
theorem dX12_betTold_90 : decode cX12_betTold 90 = .ok (.iaload, 1) := by decide +kernel
theorem dX12_betTold_91 : decode cX12_betTold 91 = .ok (.invokevirtual 232, 3) := by decide +kernel
theorem dX12_betTold_94 : decode cX12_betTold 94 = .ok (.ifCond .ne 5, 3) := by decide +kernel
theorem dX12_betTold_97 : decode cX12_betTold 97 = .ok (.iconst 0, 1) := by decide +kernel
theorem dX12_betTold_98 : decode cX12_betTold 98 = .ok (.ireturn, 1) := by decide +kernel
theorem dX12_betTold_99 : decode cX12_betTold 99 = .ok (.aload_n 0, 1) := by decide +kernel
theorem dX12_betTold_100 : decode cX12_betTold 100 = .ok (.getfield 19, 3) := by decide +kernel
theorem dX12_betTold_103 : decode cX12_betTold 103 = .ok (.iload_n 1, 1) := by decide +kernel
theorem dX12_betTold_104 : decode cX12_betTold 104 = .ok (.aload_n 0, 1) := by decide +kernel
theorem dX12_betTold_105 : decode cX12_betTold 105 = .ok (.getfield 209, 3) := by decide +kernel
theorem dX12_betTold_108 : decode cX12_betTold 108 = .ok (.iastore, 1) := by decide +kernel
theorem dX12_betTold_109 : decode cX12_betTold 109 = .ok (.aload_n 0, 1) := by decide +kernel
theorem dX12_betTold_110 : decode cX12_betTold 110 = .ok (.ldc2_w 175, 3) := by decide +kernel
theorem dX12_betTold_113 : decode cX12_betTold 113 = .ok (.invokevirtual 215, 3) := by decide +kernel
theorem dX12_betTold_116 : decode cX12_betTold 116 = .ok (.ifCond .ne 5, 3) := by decide +kernel
theorem dX12_betTold_119 : decode cX12_betTold 119 = .ok (.iconst 0, 1) := by decide +kernel
theorem dX12_betTold_120 : decode cX12_betTold 120 = .ok (.ireturn, 1) := by decide +kernel
theorem dX12_betTold_121 : decode cX12_betTold 121 = .ok (.aload_n 0, 1) := by decide +kernel
theorem dX12_betTold_122 : decode cX12_betTold 122 = .ok (.getfield 40, 3) := by decide +kernel
theorem dX12_betTold_125 : decode cX12_betTold 125 = .ok (.iload_n 1, 1) := by decide +kernel
theorem dX12_betTold_126 : decode cX12_betTold 126 = .ok (.aload_n 0, 1) := by decide +kernel
theorem dX12_betTold_127 : decode cX12_betTold 127 = .ok (.getfield 235, 3) := by decide +kernel
theorem dX12_betTold_130 : decode cX12_betTold 130 = .ok (.iastore, 1) := by decide +kernel
theorem dX12_betTold_131 : decode cX12_betTold 131 = .ok (.aload_n 0, 1) := by decide +kernel
theorem dX12_betTold_132 : decode cX12_betTold 132 = .ok (.invokevirtual 238, 3) := by decide +kernel
theorem dX12_betTold_135 : decode cX12_betTold 135 = .ok (.ifCond .ne 5, 3) := by decide +kernel
theorem dX12_betTold_138 : decode cX12_betTold 138 = .ok (.iconst 0, 1) := by decide +kernel
theorem dX12_betTold_139 : decode cX12_betTold 139 = .ok (.ireturn, 1) := by decide +kernel
theorem dX12_betTold_140 : decode cX12_betTold 140 = .ok (.aload_n 0, 1) := by decide +kernel
theorem dX12_betTold_141 : decode cX12_betTold 141 = .ok (.getfield 43, 3) := by decide +kernel
theorem dX12_betTold_144 : decode cX12_betTold 144 = .ok (.iload_n 1, 1) := by decide +kernel
theorem dX12_betTold_145 : decode cX12_betTold 145 = .ok (.aload_n 0, 1) := by decide +kernel
theorem dX12_betTold_146 : decode cX12_betTold 146 = .ok (.getfield 235, 3) := by decide +kernel
theorem dX12_betTold_149 : decode cX12_betTold 149 = .ok (.iastore, 1) := by decide +kernel
theorem dX12_betTold_150 : decode cX12_betTold 150 = .ok (.aload_n 0, 1) := by decide +kernel
theorem dX12_betTold_151 : decode cX12_betTold 151 = .ok (.ldc2_w 177, 3) := by decide +kernel
theorem dX12_betTold_154 : decode cX12_betTold 154 = .ok (.invokevirtual 215, 3) := by decide +kernel
theorem dX12_betTold_157 : decode cX12_betTold 157 = .ok (.ifCond .eq 12, 3) := by decide +kernel
theorem dX12_betTold_160 : decode cX12_betTold 160 = .ok (.aload_n 0, 1) := by decide +kernel
theorem dX12_betTold_161 : decode cX12_betTold 161 = .ok (.invokevirtual 238, 3) := by decide +kernel
theorem dX12_betTold_164 : decode cX12_betTold 164 = .ok (.ifCond .ne 5, 3) := by decide +kernel
theorem dX12_betTold_167 : decode cX12_betTold 167 = .ok (.iconst 0, 1) := by decide +kernel
theorem dX12_betTold_168 : decode cX12_betTold 168 = .ok (.ireturn, 1) := by decide +kernel
theorem dX12_betTold_169 : decode cX12_betTold 169 = .ok (.aload_n 0, 1) := by decide +kernel
theorem dX12_betTold_170 : decode cX12_betTold 170 = .ok (.getfield 46, 3) := by decide +kernel
theorem dX12_betTold_173 : decode cX12_betTold 173 = .ok (.iload_n 1, 1) := by decide +kernel
theorem dX12_betTold_174 : decode cX12_betTold 174 = .ok (.aload_n 0, 1) := by decide +kernel
theorem dX12_betTold_175 : decode cX12_betTold 175 = .ok (.getfield 235, 3) := by decide +kernel
theorem dX12_betTold_178 : decode cX12_betTold 178 = .ok (.iastore, 1) := by decide +kernel
theorem dX12_betTold_179 : decode cX12_betTold 179 = .ok (.aload_n 0, 1) := by decide +kernel
theorem dX12_betTold_180 : decode cX12_betTold 180 = .ok (.ldc2_w 179, 3) := by decide +kernel
theorem dX12_betTold_183 : decode cX12_betTold 183 = .ok (.invokevirtual 215, 3) := by decide +kernel
theorem dX12_betTold_186 : decode cX12_betTold 186 = .ok (.ifCond .eq 12, 3) := by decide +kernel
theorem dX12_betTold_189 : decode cX12_betTold 189 = .ok (.aload_n 0, 1) := by decide +kernel
theorem dX12_betTold_190 : decode cX12_betTold 190 = .ok (.invokevirtual 238, 3) := by decide +kernel
theorem dX12_betTold_193 : decode cX12_betTold 193 = .ok (.ifCond .ne 5, 3) := by decide +kernel
theorem dX12_betTold_196 : decode cX12_betTold 196 = .ok (.iconst 0, 1) := by decide +kernel
theorem dX12_betTold_197 : decode cX12_betTold 197 = .ok (.ireturn, 1) := by decide +kernel
theorem dX12_betTold_198 : decode cX12_betTold 198 = .ok (.aload_n 0, 1) := by decide +kernel
theorem dX12_betTold_199 : decode cX12_betTold 199 = .ok (.getfield 49, 3) := by decide +kernel
theorem dX12_betTold_202 : decode cX12_betTold 202 = .ok (.iload_n 1, 1) := by decide +kernel
theorem dX12_betTold_203 : decode cX12_betTold 203 = .ok (.aload_n 0, 1) := by decide +kernel
theorem dX12_betTold_204 : decode cX12_betTold 204 = .ok (.getfield 235, 3) := by decide +kernel
theorem dX12_betTold_207 : decode cX12_betTold 207 = .ok (.iastore, 1) := by decide +kernel
theorem dX12_betTold_208 : decode cX12_betTold 208 = .ok (.aload_n 0, 1) := by decide +kernel
theorem dX12_betTold_209 : decode cX12_betTold 209 = .ok (.dup, 1) := by decide +kernel
theorem dX12_betTold_210 : decode cX12_betTold 210 = .ok (.getfield 229, 3) := by decide +kernel
theorem dX12_betTold_213 : decode cX12_betTold 213 = .ok (.iconst 1, 1) := by decide +kernel
theorem dX12_betTold_214 : decode cX12_betTold 214 = .ok (.iadd, 1) := by decide +kernel
theorem dX12_betTold_215 : decode cX12_betTold 215 = .ok (.putfield 229, 3) := by decide +kernel
theorem dX12_betTold_218 : decode cX12_betTold 218 = .ok (.iconst 1, 1) := by decide +kernel
theorem dX12_betTold_219 : decode cX12_betTold 219 = .ok (.ireturn, 1) := by decide +kernel
theorem dX12_statement_0 : decode cX12_statement 0 = .ok (.aload_n 0, 1) := by decide +kernel
theorem dX12_statement_1 : decode cX12_statement 1 = .ok (.iconst 0, 1) := by decide +kernel
theorem dX12_statement_2 : decode cX12_statement 2 = .ok (.putfield 242, 3) := by decide +kernel
theorem dX12_statement_5 : decode cX12_statement 5 = .ok (.aload_n 0, 1) := by decide +kernel
theorem dX12_statement_6 : decode cX12_statement 6 = .ok (.ldc2_w 157, 3) := by decide +kernel
theorem dX12_statement_9 : decode cX12_statement 9 = .ok (.invokevirtual 215, 3) := by decide +kernel
theorem dX12_statement_12 : decode cX12_statement 12 = .ok (.ifCond .eq 8, 3) := by decide +kernel
theorem dX12_statement_15 : decode cX12_statement 15 = .ok (.aload_n 0, 1) := by decide +kernel
theorem dX12_statement_16 : decode cX12_statement 16 = .ok (.invokevirtual 245, 3) := by decide +kernel
theorem dX12_statement_19 : decode cX12_statement 19 = .ok (.ireturn, 1) := by decide +kernel
theorem dX12_statement_20 : decode cX12_statement 20 = .ok (.aload_n 0, 1) := by decide +kernel
theorem dX12_statement_21 : decode cX12_statement 21 = .ok (.ldc2_w 163, 3) := by decide +kernel
theorem dX12_statement_24 : decode cX12_statement 24 = .ok (.invokevirtual 215, 3) := by decide +kernel
theorem dX12_statement_27 : decode cX12_statement 27 = .ok (.ifCond .eq 8, 3) := by decide +kernel
theorem dX12_statement_30 : decode cX12_statement 30 = .ok (.aload_n 0, 1) := by decide +kernel
theorem dX12_statement_31 : decode cX12_statement 31 = .ok (.invokevirtual 248, 3) := by decide +kernel
theorem dX12_statement_34 : decode cX12_statement 34 = .ok (.ireturn, 1) := by decide +kernel
theorem dX12_statement_35 : decode cX12_statement 35 = .ok (.aload_n 0, 1) := by decide +kernel
theorem dX12_statement_36 : decode cX12_statement 36 = .ok (.ldc2_w 165, 3) := by decide +kernel
theorem dX12_statement_39 : decode cX12_statement 39 = .ok (.invokevirtual 215, 3) := by decide +kernel
theorem dX12_statement_42 : decode cX12_statement 42 = .ok (.ifCond .eq 9, 3) := by decide +kernel
theorem dX12_statement_45 : decode cX12_statement 45 = .ok (.aload_n 0, 1) := by decide +kernel
theorem dX12_statement_46 : decode cX12_statement 46 = .ok (.iconst 0, 1) := by decide +kernel
theorem dX12_statement_47 : decode cX12_statement 47 = .ok (.invokevirtual 251, 3) := by decide +kernel
theorem dX12_statement_50 : decode cX12_statement 50 = .ok (.ireturn, 1) := by decide +kernel
theorem dX12_statement_51 : decode cX12_statement 51 = .ok (.aload_n 0, 1) := by decide +kernel
theorem dX12_statement_52 : decode cX12_statement 52 = .ok (.ldc2_w 167, 3) := by decide +kernel
theorem dX12_statement_55 : decode cX12_statement 55 = .ok (.invokevirtual 215, 3) := by decide +kernel
theorem dX12_statement_58 : decode cX12_statement 58 = .ok (.ifCond .eq 9, 3) := by decide +kernel
theorem dX12_statement_61 : decode cX12_statement 61 = .ok (.aload_n 0, 1) := by decide +kernel
theorem dX12_statement_62 : decode cX12_statement 62 = .ok (.iconst 1, 1) := by decide +kernel
theorem dX12_statement_63 : decode cX12_statement 63 = .ok (.invokevirtual 251, 3) := by decide +kernel
theorem dX12_statement_66 : decode cX12_statement 66 = .ok (.ireturn, 1) := by decide +kernel
theorem dX12_statement_67 : decode cX12_statement 67 = .ok (.aload_n 0, 1) := by decide +kernel
theorem dX12_statement_68 : decode cX12_statement 68 = .ok (.getfield 229, 3) := by decide +kernel
theorem dX12_statement_71 : decode cX12_statement 71 = .ok (.bipush 12, 2) := by decide +kernel
theorem dX12_statement_73 : decode cX12_statement 73 = .ok (.if_icmp .ge 24, 3) := by decide +kernel
theorem dX12_statement_76 : decode cX12_statement 76 = .ok (.aload_n 0, 1) := by decide +kernel
theorem dX12_statement_77 : decode cX12_statement 77 = .ok (.ldc2_w 171, 3) := by decide +kernel
theorem dX12_statement_80 : decode cX12_statement 80 = .ok (.invokevirtual 215, 3) := by decide +kernel
theorem dX12_statement_83 : decode cX12_statement 83 = .ok (.ifCond .eq 14, 3) := by decide +kernel
theorem dX12_statement_86 : decode cX12_statement 86 = .ok (.aload_n 0, 1) := by decide +kernel
theorem dX12_statement_87 : decode cX12_statement 87 = .ok (.invokevirtual 254, 3) := by decide +kernel
theorem dX12_statement_90 : decode cX12_statement 90 = .ok (.ifCond .eq 7, 3) := by decide +kernel
theorem dX12_statement_93 : decode cX12_statement 93 = .ok (.iconst 1, 1) := by decide +kernel
theorem dX12_statement_94 : decode cX12_statement 94 = .ok (.goto 4, 3) := by decide +kernel
theorem dX12_statement_97 : decode cX12_statement 97 = .ok (.iconst 0, 1) := by decide +kernel
theorem dX12_statement_98 : decode cX12_statement 98 = .ok (.ireturn, 1) := by decide +kernel
theorem dX12_puts_0 : decode cX12_puts 0 = .ok (.aload_n 0, 1) := by decide +kernel
theorem dX12_puts_1 : decode cX12_puts 1 = .ok (.getfield 52, 3) := by decide +kernel
theorem dX12_puts_4 : decode cX12_puts 4 = .ok (.aload_n 0, 1) := by decide +kernel
theorem dX12_puts_5 : decode cX12_puts 5 = .ok (.getfield 235, 3) := by decide +kernel
theorem dX12_puts_8 : decode cX12_puts 8 = .ok (.iload_n 1, 1) := by decide +kernel
theorem dX12_puts_9 : decode cX12_puts 9 = .ok (.iastore, 1) := by decide +kernel
theorem dX12_puts_10 : decode cX12_puts 10 = .ok (.aload_n 0, 1) := by decide +kernel
theorem dX12_puts_11 : decode cX12_puts 11 = .ok (.getfield 55, 3) := by decide +kernel
theorem dX12_puts_14 : decode cX12_puts 14 = .ok (.aload_n 0, 1) := by decide +kernel
theorem dX12_puts_15 : decode cX12_puts 15 = .ok (.getfield 235, 3) := by decide +kernel
theorem dX12_puts_18 : decode cX12_puts 18 = .ok (.iload_n 2, 1) := by decide +kernel
theorem dX12_puts_19 : decode cX12_puts 19 = .ok (.iastore, 1) := by decide +kernel
theorem dX12_puts_20 : decode cX12_puts 20 = .ok (.aload_n 0, 1) := by decide +kernel
theorem dX12_puts_21 : decode cX12_puts 21 = .ok (.getfield 58, 3) := by decide +kernel
theorem dX12_puts_24 : decode cX12_puts 24 = .ok (.aload_n 0, 1) := by decide +kernel
theorem dX12_puts_25 : decode cX12_puts 25 = .ok (.getfield 235, 3) := by decide +kernel
theorem dX12_puts_28 : decode cX12_puts 28 = .ok (.iload_n 3, 1) := by decide +kernel
theorem dX12_puts_29 : decode cX12_puts 29 = .ok (.iastore, 1) := by decide +kernel
theorem dX12_puts_30 : decode cX12_puts 30 = .ok (.aload_n 0, 1) := by decide +kernel
theorem dX12_puts_31 : decode cX12_puts 31 = .ok (.dup, 1) := by decide +kernel
theorem dX12_puts_32 : decode cX12_puts 32 = .ok (.getfield 235, 3) := by decide +kernel
theorem dX12_puts_35 : decode cX12_puts 35 = .ok (.iconst 1, 1) := by decide +kernel
theorem dX12_puts_36 : decode cX12_puts 36 = .ok (.iadd, 1) := by decide +kernel
theorem dX12_puts_37 : decode cX12_puts 37 = .ok (.putfield 235, 3) := by decide +kernel
theorem dX12_puts_40 : decode cX12_puts 40 = .ok (.return_, 1) := by decide +kernel
theorem dX12_opens_0 : decode cX12_opens 0 = .ok (.aload_n 0, 1) := by decide +kernel
theorem dX12_opens_1 : decode cX12_opens 1 = .ok (.getfield 242, 3) := by decide +kernel
theorem dX12_opens_4 : decode cX12_opens 4 = .ok (.bipush 9, 2) := by decide +kernel
theorem dX12_opens_6 : decode cX12_opens 6 = .ok (.if_icmp .ne 5, 3) := by decide +kernel
theorem dX12_opens_9 : decode cX12_opens 9 = .ok (.iconst 0, 1) := by decide +kernel
theorem dX12_opens_10 : decode cX12_opens 10 = .ok (.ireturn, 1) := by decide +kernel
theorem dX12_opens_11 : decode cX12_opens 11 = .ok (.aload_n 0, 1) := by decide +kernel
theorem dX12_opens_12 : decode cX12_opens 12 = .ok (.dup, 1) := by decide +kernel
theorem dX12_opens_13 : decode cX12_opens 13 = .ok (.getfield 242, 3) := by decide +kernel
theorem dX12_opens_16 : decode cX12_opens 16 = .ok (.iconst 1, 1) := by decide +kernel
theorem dX12_opens_17 : decode cX12_opens 17 = .ok (.iadd, 1) := by decide +kernel
theorem dX12_opens_18 : decode cX12_opens 18 = .ok (.putfield 242, 3) := by decide +kernel
theorem dX12_opens_21 : decode cX12_opens 21 = .ok (.iconst 1, 1) := by decide +kernel
theorem dX12_opens_22 : decode cX12_opens 22 = .ok (.ireturn, 1) := by decide +kernel
theorem dX12_any_0 : decode cX12_any 0 = .ok (.aload_n 0, 1) := by decide +kernel
theorem dX12_any_1 : decode cX12_any 1 = .ok (.invokevirtual 257, 3) := by decide +kernel
theorem dX12_any_4 : decode cX12_any 4 = .ok (.ifCond .ne 5, 3) := by decide +kernel
theorem dX12_any_7 : decode cX12_any 7 = .ok (.iconst 0, 1) := by decide +kernel
theorem dX12_any_8 : decode cX12_any 8 = .ok (.ireturn, 1) := by decide +kernel
theorem dX12_any_9 : decode cX12_any 9 = .ok (.aload_n 0, 1) := by decide +kernel
theorem dX12_any_10 : decode cX12_any 10 = .ok (.ldc2_w 181, 3) := by decide +kernel
theorem dX12_any_13 : decode cX12_any 13 = .ok (.invokevirtual 215, 3) := by decide +kernel
theorem dX12_any_16 : decode cX12_any 16 = .ok (.ifCond .eq 22, 3) := by decide +kernel
theorem dX12_any_19 : decode cX12_any 19 = .ok (.aload_n 0, 1) := by decide +kernel
theorem dX12_any_20 : decode cX12_any 20 = .ok (.invokevirtual 257, 3) := by decide +kernel
theorem dX12_any_23 : decode cX12_any 23 = .ok (.ifCond .ne 5, 3) := by decide +kernel
theorem dX12_any_26 : decode cX12_any 26 = .ok (.iconst 0, 1) := by decide +kernel
theorem dX12_any_27 : decode cX12_any 27 = .ok (.ireturn, 1) := by decide +kernel
theorem dX12_any_28 : decode cX12_any 28 = .ok (.aload_n 0, 1) := by decide +kernel
theorem dX12_any_29 : decode cX12_any 29 = .ok (.iconst 4, 1) := by decide +kernel
theorem dX12_any_30 : decode cX12_any 30 = .ok (.iconst 0, 1) := by decide +kernel
theorem dX12_any_31 : decode cX12_any 31 = .ok (.iconst 0, 1) := by decide +kernel
theorem dX12_any_32 : decode cX12_any 32 = .ok (.invokevirtual 260, 3) := by decide +kernel
theorem dX12_any_35 : decode cX12_any 35 = .ok (.goto (-26), 3) := by decide +kernel
theorem dX12_any_38 : decode cX12_any 38 = .ok (.iconst 1, 1) := by decide +kernel
theorem dX12_any_39 : decode cX12_any 39 = .ok (.ireturn, 1) := by decide +kernel
theorem dX12_all_0 : decode cX12_all 0 = .ok (.aload_n 0, 1) := by decide +kernel
theorem dX12_all_1 : decode cX12_all 1 = .ok (.invokevirtual 264, 3) := by decide +kernel
theorem dX12_all_4 : decode cX12_all 4 = .ok (.ifCond .ne 5, 3) := by decide +kernel
theorem dX12_all_7 : decode cX12_all 7 = .ok (.iconst 0, 1) := by decide +kernel
theorem dX12_all_8 : decode cX12_all 8 = .ok (.ireturn, 1) := by decide +kernel
theorem dX12_all_9 : decode cX12_all 9 = .ok (.aload_n 0, 1) := by decide +kernel
theorem dX12_all_10 : decode cX12_all 10 = .ok (.ldc2_w 183, 3) := by decide +kernel
theorem dX12_all_13 : decode cX12_all 13 = .ok (.invokevirtual 215, 3) := by decide +kernel
theorem dX12_all_16 : decode cX12_all 16 = .ok (.ifCond .eq 22, 3) := by decide +kernel
theorem dX12_all_19 : decode cX12_all 19 = .ok (.aload_n 0, 1) := by decide +kernel
theorem dX12_all_20 : decode cX12_all 20 = .ok (.invokevirtual 264, 3) := by decide +kernel
theorem dX12_all_23 : decode cX12_all 23 = .ok (.ifCond .ne 5, 3) := by decide +kernel
theorem dX12_all_26 : decode cX12_all 26 = .ok (.iconst 0, 1) := by decide +kernel
theorem dX12_all_27 : decode cX12_all 27 = .ok (.ireturn, 1) := by decide +kernel
theorem dX12_all_28 : decode cX12_all 28 = .ok (.aload_n 0, 1) := by decide +kernel
theorem dX12_all_29 : decode cX12_all 29 = .ok (.iconst 5, 1) := by decide +kernel
theorem dX12_all_30 : decode cX12_all 30 = .ok (.iconst 0, 1) := by decide +kernel
theorem dX12_all_31 : decode cX12_all 31 = .ok (.iconst 0, 1) := by decide +kernel
theorem dX12_all_32 : decode cX12_all 32 = .ok (.invokevirtual 260, 3) := by decide +kernel
theorem dX12_all_35 : decode cX12_all 35 = .ok (.goto (-26), 3) := by decide +kernel
theorem dX12_all_38 : decode cX12_all 38 = .ok (.iconst 1, 1) := by decide +kernel
theorem dX12_all_39 : decode cX12_all 39 = .ok (.ireturn, 1) := by decide +kernel
theorem dX12_single_0 : decode cX12_single 0 = .ok (.aload_n 0, 1) := by decide +kernel
theorem dX12_single_1 : decode cX12_single 1 = .ok (.invokevirtual 146, 3) := by decide +kernel
theorem dX12_single_4 : decode cX12_single 4 = .ok (.ldc2_w 185, 3) := by decide +kernel
theorem dX12_single_7 : decode cX12_single 7 = .ok (.lcmp, 1) := by decide +kernel
theorem dX12_single_8 : decode cX12_single 8 = .ok (.ifCond .ne 49, 3) := by decide +kernel
theorem dX12_single_11 : decode cX12_single 11 = .ok (.aload_n 0, 1) := by decide +kernel
theorem dX12_single_12 : decode cX12_single 12 = .ok (.invokevirtual 267, 3) := by decide +kernel
theorem dX12_single_15 : decode cX12_single 15 = .ok (.ifCond .ne 5, 3) := by decide +kernel
theorem dX12_single_18 : decode cX12_single 18 = .ok (.iconst 0, 1) := by decide +kernel
theorem dX12_single_19 : decode cX12_single 19 = .ok (.ireturn, 1) := by decide +kernel
theorem dX12_single_20 : decode cX12_single 20 = .ok (.aload_n 0, 1) := by decide +kernel
theorem dX12_single_21 : decode cX12_single 21 = .ok (.aload_n 0, 1) := by decide +kernel
theorem dX12_single_22 : decode cX12_single 22 = .ok (.getfield 143, 3) := by decide +kernel
theorem dX12_single_25 : decode cX12_single 25 = .ok (.putfield 134, 3) := by decide +kernel
theorem dX12_single_28 : decode cX12_single 28 = .ok (.aload_n 0, 1) := by decide +kernel
theorem dX12_single_29 : decode cX12_single 29 = .ok (.invokevirtual 264, 3) := by decide +kernel
theorem dX12_single_32 : decode cX12_single 32 = .ok (.ifCond .ne 5, 3) := by decide +kernel
theorem dX12_single_35 : decode cX12_single 35 = .ok (.iconst 0, 1) := by decide +kernel
theorem dX12_single_36 : decode cX12_single 36 = .ok (.ireturn, 1) := by decide +kernel
theorem dX12_single_37 : decode cX12_single 37 = .ok (.aload_n 0, 1) := by decide +kernel
theorem dX12_single_38 : decode cX12_single 38 = .ok (.dup, 1) := by decide +kernel
theorem dX12_single_39 : decode cX12_single 39 = .ok (.getfield 242, 3) := by decide +kernel
theorem dX12_single_42 : decode cX12_single 42 = .ok (.iconst 1, 1) := by decide +kernel
theorem dX12_single_43 : decode cX12_single 43 = .ok (.isub, 1) := by decide +kernel
theorem dX12_single_44 : decode cX12_single 44 = .ok (.putfield 242, 3) := by decide +kernel
theorem dX12_single_47 : decode cX12_single 47 = .ok (.aload_n 0, 1) := by decide +kernel
theorem dX12_single_48 : decode cX12_single 48 = .ok (.bipush 6, 2) := by decide +kernel
theorem dX12_single_50 : decode cX12_single 50 = .ok (.iconst 0, 1) := by decide +kernel
theorem dX12_single_51 : decode cX12_single 51 = .ok (.iconst 0, 1) := by decide +kernel
theorem dX12_single_52 : decode cX12_single 52 = .ok (.invokevirtual 260, 3) := by decide +kernel
theorem dX12_single_55 : decode cX12_single 55 = .ok (.iconst 1, 1) := by decide +kernel
theorem dX12_single_56 : decode cX12_single 56 = .ok (.ireturn, 1) := by decide +kernel
theorem dX12_single_57 : decode cX12_single 57 = .ok (.aload_n 0, 1) := by decide +kernel
theorem dX12_single_58 : decode cX12_single 58 = .ok (.getfield 134, 3) := by decide +kernel
theorem dX12_single_61 : decode cX12_single 61 = .ok (.aload_n 0, 1) := by decide +kernel
theorem dX12_single_62 : decode cX12_single 62 = .ok (.getfield 137, 3) := by decide +kernel
theorem dX12_single_65 : decode cX12_single 65 = .ok (.if_icmp .ge 66, 3) := by decide +kernel
theorem dX12_single_68 : decode cX12_single 68 = .ok (.aload_n 0, 1) := by decide +kernel
theorem dX12_single_69 : decode cX12_single 69 = .ok (.getfield 76, 3) := by decide +kernel
theorem dX12_single_72 : decode cX12_single 72 = .ok (.aload_n 0, 1) := by decide +kernel
theorem dX12_single_73 : decode cX12_single 73 = .ok (.getfield 134, 3) := by decide +kernel
theorem dX12_single_76 : decode cX12_single 76 = .ok (.baload, 1) := by decide +kernel
theorem dX12_single_77 : decode cX12_single 77 = .ok (.bipush 40, 2) := by decide +kernel
theorem dX12_single_79 : decode cX12_single 79 = .ok (.if_icmp .ne 52, 3) := by decide +kernel
theorem dX12_single_82 : decode cX12_single 82 = .ok (.aload_n 0, 1) := by decide +kernel
theorem dX12_single_83 : decode cX12_single 83 = .ok (.invokevirtual 267, 3) := by decide +kernel
theorem dX12_single_86 : decode cX12_single 86 = .ok (.ifCond .ne 5, 3) := by decide +kernel
theorem dX12_single_89 : decode cX12_single 89 = .ok (.iconst 0, 1) := by decide +kernel
theorem dX12_single_90 : decode cX12_single 90 = .ok (.ireturn, 1) := by decide +kernel
theorem dX12_single_91 : decode cX12_single 91 = .ok (.aload_n 0, 1) := by decide +kernel
theorem dX12_single_92 : decode cX12_single 92 = .ok (.dup, 1) := by decide +kernel
theorem dX12_single_93 : decode cX12_single 93 = .ok (.getfield 134, 3) := by decide +kernel
theorem dX12_single_96 : decode cX12_single 96 = .ok (.iconst 1, 1) := by decide +kernel
theorem dX12_single_97 : decode cX12_single 97 = .ok (.iadd, 1) := by decide +kernel
theorem dX12_single_98 : decode cX12_single 98 = .ok (.putfield 134, 3) := by decide +kernel
theorem dX12_single_101 : decode cX12_single 101 = .ok (.aload_n 0, 1) := by decide +kernel
theorem dX12_single_102 : decode cX12_single 102 = .ok (.invokevirtual 238, 3) := by decide +kernel
theorem dX12_single_105 : decode cX12_single 105 = .ok (.ifCond .eq 12, 3) := by decide +kernel
theorem dX12_single_108 : decode cX12_single 108 = .ok (.aload_n 0, 1) := by decide +kernel
theorem dX12_single_109 : decode cX12_single 109 = .ok (.bipush 41, 2) := by decide +kernel
theorem dX12_single_111 : decode cX12_single 111 = .ok (.invokevirtual 270, 3) := by decide +kernel
theorem dX12_single_114 : decode cX12_single 114 = .ok (.ifCond .ne 5, 3) := by decide +kernel
theorem dX12_single_117 : decode cX12_single 117 = .ok (.iconst 0, 1) := by decide +kernel
theorem dX12_single_118 : decode cX12_single 118 = .ok (.ireturn, 1) := by decide +kernel
theorem dX12_single_119 : decode cX12_single 119 = .ok (.aload_n 0, 1) := by decide +kernel
theorem dX12_single_120 : decode cX12_single 120 = .ok (.dup, 1) := by decide +kernel
theorem dX12_single_121 : decode cX12_single 121 = .ok (.getfield 242, 3) := by decide +kernel
theorem dX12_single_124 : decode cX12_single 124 = .ok (.iconst 1, 1) := by decide +kernel
theorem dX12_single_125 : decode cX12_single 125 = .ok (.isub, 1) := by decide +kernel
theorem dX12_single_126 : decode cX12_single 126 = .ok (.putfield 242, 3) := by decide +kernel
theorem dX12_single_129 : decode cX12_single 129 = .ok (.iconst 1, 1) := by decide +kernel
theorem dX12_single_130 : decode cX12_single 130 = .ok (.ireturn, 1) := by decide +kernel
theorem dX12_single_131 : decode cX12_single 131 = .ok (.aload_n 0, 1) := by decide +kernel
theorem dX12_single_132 : decode cX12_single 132 = .ok (.ldc2_w 193, 3) := by decide +kernel
theorem dX12_single_135 : decode cX12_single 135 = .ok (.invokevirtual 215, 3) := by decide +kernel
theorem dX12_single_138 : decode cX12_single 138 = .ok (.ifCond .eq 54, 3) := by decide +kernel
theorem dX12_single_141 : decode cX12_single 141 = .ok (.aload_n 0, 1) := by decide +kernel
theorem dX12_single_142 : decode cX12_single 142 = .ok (.iconst 0, 1) := by decide +kernel
theorem dX12_single_143 : decode cX12_single 143 = .ok (.bipush 9, 2) := by decide +kernel
theorem dX12_single_145 : decode cX12_single 145 = .ok (.invokevirtual 218, 3) := by decide +kernel
theorem dX12_single_148 : decode cX12_single 148 = .ok (.ifCond .ne 5, 3) := by decide +kernel
theorem dX12_single_151 : decode cX12_single 151 = .ok (.iconst 0, 1) := by decide +kernel
theorem dX12_single_152 : decode cX12_single 152 = .ok (.ireturn, 1) := by decide +kernel
theorem dX12_single_153 : decode cX12_single 153 = .ok (.aload_n 0, 1) := by decide +kernel
theorem dX12_single_154 : decode cX12_single 154 = .ok (.getfield 150, 3) := by decide +kernel
theorem dX12_single_157 : decode cX12_single 157 = .ok (.istore_n 1, 1) := by decide +kernel
theorem dX12_single_158 : decode cX12_single 158 = .ok (.aload_n 0, 1) := by decide +kernel
theorem dX12_single_159 : decode cX12_single 159 = .ok (.ldc2_w 189, 3) := by decide +kernel
theorem dX12_single_162 : decode cX12_single 162 = .ok (.invokevirtual 215, 3) := by decide +kernel
theorem dX12_single_165 : decode cX12_single 165 = .ok (.ifCond .eq 13, 3) := by decide +kernel
theorem dX12_single_168 : decode cX12_single 168 = .ok (.aload_n 0, 1) := by decide +kernel
theorem dX12_single_169 : decode cX12_single 169 = .ok (.iconst 0, 1) := by decide +kernel
theorem dX12_single_170 : decode cX12_single 170 = .ok (.bipush 7, 2) := by decide +kernel
theorem dX12_single_172 : decode cX12_single 172 = .ok (.invokevirtual 218, 3) := by decide +kernel
theorem dX12_single_175 : decode cX12_single 175 = .ok (.ifCond .ne 5, 3) := by decide +kernel
theorem dX12_single_178 : decode cX12_single 178 = .ok (.iconst 0, 1) := by decide +kernel
theorem dX12_single_179 : decode cX12_single 179 = .ok (.ireturn, 1) := by decide +kernel
theorem dX12_single_180 : decode cX12_single 180 = .ok (.aload_n 0, 1) := by decide +kernel
theorem dX12_single_181 : decode cX12_single 181 = .ok (.iconst 3, 1) := by decide +kernel
theorem dX12_single_182 : decode cX12_single 182 = .ok (.iload_n 1, 1) := by decide +kernel
theorem dX12_single_183 : decode cX12_single 183 = .ok (.aload_n 0, 1) := by decide +kernel
theorem dX12_single_184 : decode cX12_single 184 = .ok (.getfield 150, 3) := by decide +kernel
theorem dX12_single_187 : decode cX12_single 187 = .ok (.invokevirtual 260, 3) := by decide +kernel
theorem dX12_single_190 : decode cX12_single 190 = .ok (.iconst 1, 1) := by decide +kernel
theorem dX12_single_191 : decode cX12_single 191 = .ok (.ireturn, 1) := by decide +kernel
theorem dX12_single_192 : decode cX12_single 192 = .ok (.aload_n 0, 1) := by decide +kernel
theorem dX12_single_193 : decode cX12_single 193 = .ok (.iconst (-1), 1) := by decide +kernel
theorem dX12_single_194 : decode cX12_single 194 = .ok (.invokevirtual 225, 3) := by decide +kernel
theorem dX12_single_197 : decode cX12_single 197 = .ok (.ifCond .ne 5, 3) := by decide +kernel
theorem dX12_single_200 : decode cX12_single 200 = .ok (.iconst 0, 1) := by decide +kernel
theorem dX12_single_201 : decode cX12_single 201 = .ok (.ireturn, 1) := by decide +kernel
theorem dX12_single_202 : decode cX12_single 202 = .ok (.aload_n 0, 1) := by decide +kernel
theorem dX12_single_203 : decode cX12_single 203 = .ok (.getfield 209, 3) := by decide +kernel
theorem dX12_single_206 : decode cX12_single 206 = .ok (.istore_n 1, 1) := by decide +kernel
theorem dX12_single_207 : decode cX12_single 207 = .ok (.aload_n 0, 1) := by decide +kernel
theorem dX12_single_208 : decode cX12_single 208 = .ok (.ldc2_w 187, 3) := by decide +kernel
theorem dX12_single_211 : decode cX12_single 211 = .ok (.invokevirtual 215, 3) := by decide +kernel
theorem dX12_single_214 : decode cX12_single 214 = .ok (.ifCond .eq 12, 3) := by decide +kernel
theorem dX12_single_217 : decode cX12_single 217 = .ok (.aload_n 0, 1) := by decide +kernel
theorem dX12_single_218 : decode cX12_single 218 = .ok (.iconst 0, 1) := by decide +kernel
theorem dX12_single_219 : decode cX12_single 219 = .ok (.iload_n 1, 1) := by decide +kernel
theorem dX12_single_220 : decode cX12_single 220 = .ok (.iconst 0, 1) := by decide +kernel
theorem dX12_single_221 : decode cX12_single 221 = .ok (.invokevirtual 260, 3) := by decide +kernel
theorem dX12_single_224 : decode cX12_single 224 = .ok (.iconst 1, 1) := by decide +kernel
theorem dX12_single_225 : decode cX12_single 225 = .ok (.ireturn, 1) := by decide +kernel
theorem dX12_single_226 : decode cX12_single 226 = .ok (.aload_n 0, 1) := by decide +kernel
theorem dX12_single_227 : decode cX12_single 227 = .ok (.ldc2_w 189, 3) := by decide +kernel
theorem dX12_single_230 : decode cX12_single 230 = .ok (.invokevirtual 215, 3) := by decide +kernel
theorem dX12_single_233 : decode cX12_single 233 = .ok (.ifCond .eq 27, 3) := by decide +kernel
theorem dX12_single_236 : decode cX12_single 236 = .ok (.aload_n 0, 1) := by decide +kernel
theorem dX12_single_237 : decode cX12_single 237 = .ok (.iconst 0, 1) := by decide +kernel
theorem dX12_single_238 : decode cX12_single 238 = .ok (.bipush 7, 2) := by decide +kernel
theorem dX12_single_240 : decode cX12_single 240 = .ok (.invokevirtual 218, 3) := by decide +kernel
theorem dX12_single_243 : decode cX12_single 243 = .ok (.ifCond .ne 5, 3) := by decide +kernel
theorem dX12_single_246 : decode cX12_single 246 = .ok (.iconst 0, 1) := by decide +kernel
theorem dX12_single_247 : decode cX12_single 247 = .ok (.ireturn, 1) := by decide +kernel
theorem dX12_single_248 : decode cX12_single 248 = .ok (.aload_n 0, 1) := by decide +kernel
theorem dX12_single_249 : decode cX12_single 249 = .ok (.iconst 1, 1) := by decide +kernel
theorem dX12_single_250 : decode cX12_single 250 = .ok (.iload_n 1, 1) := by decide +kernel
theorem dX12_single_251 : decode cX12_single 251 = .ok (.aload_n 0, 1) := by decide +kernel
theorem dX12_single_252 : decode cX12_single 252 = .ok (.getfield 150, 3) := by decide +kernel
theorem dX12_single_255 : decode cX12_single 255 = .ok (.invokevirtual 260, 3) := by decide +kernel
theorem dX12_single_258 : decode cX12_single 258 = .ok (.iconst 1, 1) := by decide +kernel
theorem dX12_single_259 : decode cX12_single 259 = .ok (.ireturn, 1) := by decide +kernel
theorem dX12_single_260 : decode cX12_single 260 = .ok (.aload_n 0, 1) := by decide +kernel
theorem dX12_single_261 : decode cX12_single 261 = .ok (.ldc2_w 191, 3) := by decide +kernel
theorem dX12_single_264 : decode cX12_single 264 = .ok (.invokevirtual 215, 3) := by decide +kernel
theorem dX12_single_267 : decode cX12_single 267 = .ok (.ifCond .eq 11, 3) := by decide +kernel
theorem dX12_single_270 : decode cX12_single 270 = .ok (.aload_n 0, 1) := by decide +kernel
theorem dX12_single_271 : decode cX12_single 271 = .ok (.iload_n 1, 1) := by decide +kernel
theorem dX12_single_272 : decode cX12_single 272 = .ok (.invokevirtual 225, 3) := by decide +kernel
theorem dX12_single_275 : decode cX12_single 275 = .ok (.ifCond .ne 5, 3) := by decide +kernel
theorem dX12_single_278 : decode cX12_single 278 = .ok (.iconst 0, 1) := by decide +kernel
theorem dX12_single_279 : decode cX12_single 279 = .ok (.ireturn, 1) := by decide +kernel
theorem dX12_single_280 : decode cX12_single 280 = .ok (.aload_n 0, 1) := by decide +kernel
theorem dX12_single_281 : decode cX12_single 281 = .ok (.iconst 2, 1) := by decide +kernel
theorem dX12_single_282 : decode cX12_single 282 = .ok (.iload_n 1, 1) := by decide +kernel
theorem dX12_single_283 : decode cX12_single 283 = .ok (.aload_n 0, 1) := by decide +kernel
theorem dX12_single_284 : decode cX12_single 284 = .ok (.getfield 209, 3) := by decide +kernel
theorem dX12_single_287 : decode cX12_single 287 = .ok (.invokevirtual 260, 3) := by decide +kernel
theorem dX12_single_290 : decode cX12_single 290 = .ok (.iconst 1, 1) := by decide +kernel
theorem dX12_single_291 : decode cX12_single 291 = .ok (.ireturn, 1) := by decide +kernel
theorem dX12_reads_0 : decode cX12_reads 0 = .ok (.iconst 0, 1) := by decide +kernel
theorem dX12_reads_1 : decode cX12_reads 1 = .ok (.istore_n 2, 1) := by decide +kernel
theorem dX12_reads_2 : decode cX12_reads 2 = .ok (.iload_n 2, 1) := by decide +kernel
theorem dX12_reads_3 : decode cX12_reads 3 = .ok (.iload_n 1, 1) := by decide +kernel
theorem dX12_reads_4 : decode cX12_reads 4 = .ok (.if_icmp .ge 21, 3) := by decide +kernel
theorem dX12_reads_7 : decode cX12_reads 7 = .ok (.aload_n 0, 1) := by decide +kernel
theorem dX12_reads_8 : decode cX12_reads 8 = .ok (.getfield 76, 3) := by decide +kernel
theorem dX12_reads_11 : decode cX12_reads 11 = .ok (.iload_n 2, 1) := by decide +kernel
theorem dX12_reads_12 : decode cX12_reads 12 = .ok (.aload_n 0, 1) := by decide +kernel
theorem dX12_reads_13 : decode cX12_reads 13 = .ok (.getfield 72, 3) := by decide +kernel
theorem dX12_reads_16 : decode cX12_reads 16 = .ok (.iload_n 2, 1) := by decide +kernel
theorem dX12_reads_17 : decode cX12_reads 17 = .ok (.baload, 1) := by decide +kernel
theorem dX12_reads_18 : decode cX12_reads 18 = .ok (.bastore, 1) := by decide +kernel
theorem dX12_reads_19 : decode cX12_reads 19 = .ok (.iinc 2 1, 3) := by decide +kernel
theorem dX12_reads_22 : decode cX12_reads 22 = .ok (.goto (-20), 3) := by decide +kernel
theorem dX12_reads_25 : decode cX12_reads 25 = .ok (.aload_n 0, 1) := by decide +kernel
theorem dX12_reads_26 : decode cX12_reads 26 = .ok (.iload_n 1, 1) := by decide +kernel
theorem dX12_reads_27 : decode cX12_reads 27 = .ok (.putfield 137, 3) := by decide +kernel
theorem dX12_reads_30 : decode cX12_reads 30 = .ok (.aload_n 0, 1) := by decide +kernel
theorem dX12_reads_31 : decode cX12_reads 31 = .ok (.iconst 0, 1) := by decide +kernel
theorem dX12_reads_32 : decode cX12_reads 32 = .ok (.putfield 127, 3) := by decide +kernel
theorem dX12_reads_35 : decode cX12_reads 35 = .ok (.aload_n 0, 1) := by decide +kernel
theorem dX12_reads_36 : decode cX12_reads 36 = .ok (.iconst 0, 1) := by decide +kernel
theorem dX12_reads_37 : decode cX12_reads 37 = .ok (.putfield 134, 3) := by decide +kernel
theorem dX12_reads_40 : decode cX12_reads 40 = .ok (.aload_n 0, 1) := by decide +kernel
theorem dX12_reads_41 : decode cX12_reads 41 = .ok (.iconst 0, 1) := by decide +kernel
theorem dX12_reads_42 : decode cX12_reads 42 = .ok (.putfield 199, 3) := by decide +kernel
theorem dX12_reads_45 : decode cX12_reads 45 = .ok (.aload_n 0, 1) := by decide +kernel
theorem dX12_reads_46 : decode cX12_reads 46 = .ok (.iconst 0, 1) := by decide +kernel
theorem dX12_reads_47 : decode cX12_reads 47 = .ok (.putfield 206, 3) := by decide +kernel
theorem dX12_reads_50 : decode cX12_reads 50 = .ok (.aload_n 0, 1) := by decide +kernel
theorem dX12_reads_51 : decode cX12_reads 51 = .ok (.iconst 0, 1) := by decide +kernel
theorem dX12_reads_52 : decode cX12_reads 52 = .ok (.putfield 229, 3) := by decide +kernel
theorem dX12_reads_55 : decode cX12_reads 55 = .ok (.aload_n 0, 1) := by decide +kernel
theorem dX12_reads_56 : decode cX12_reads 56 = .ok (.iconst 0, 1) := by decide +kernel
theorem dX12_reads_57 : decode cX12_reads 57 = .ok (.putfield 273, 3) := by decide +kernel
theorem dX12_reads_60 : decode cX12_reads 60 = .ok (.aload_n 0, 1) := by decide +kernel
theorem dX12_reads_61 : decode cX12_reads 61 = .ok (.iconst 0, 1) := by decide +kernel
theorem dX12_reads_62 : decode cX12_reads 62 = .ok (.putfield 222, 3) := by decide +kernel
theorem dX12_reads_65 : decode cX12_reads 65 = .ok (.aload_n 0, 1) := by decide +kernel
theorem dX12_reads_66 : decode cX12_reads 66 = .ok (.sipush 700, 3) := by decide +kernel
theorem dX12_reads_69 : decode cX12_reads 69 = .ok (.putfield 235, 3) := by decide +kernel
theorem dX12_reads_72 : decode cX12_reads 72 = .ok (.iconst 1, 1) := by decide +kernel
theorem dX12_reads_73 : decode cX12_reads 73 = .ok (.istore_n 2, 1) := by decide +kernel
theorem dX12_reads_74 : decode cX12_reads 74 = .ok (.aload_n 0, 1) := by decide +kernel
theorem dX12_reads_75 : decode cX12_reads 75 = .ok (.invokevirtual 140, 3) := by decide +kernel
theorem dX12_reads_78 : decode cX12_reads 78 = .ok (.iload_n 2, 1) := by decide +kernel
theorem dX12_reads_79 : decode cX12_reads 79 = .ok (.ifCond .eq 69, 3) := by decide +kernel
theorem dX12_reads_82 : decode cX12_reads 82 = .ok (.aload_n 0, 1) := by decide +kernel
theorem dX12_reads_83 : decode cX12_reads 83 = .ok (.getfield 134, 3) := by decide +kernel
theorem dX12_reads_86 : decode cX12_reads 86 = .ok (.aload_n 0, 1) := by decide +kernel
theorem dX12_reads_87 : decode cX12_reads 87 = .ok (.getfield 137, 3) := by decide +kernel
theorem dX12_reads_90 : decode cX12_reads 90 = .ok (.if_icmp .ge 58, 3) := by decide +kernel
theorem dX12_reads_93 : decode cX12_reads 93 = .ok (.aload_n 0, 1) := by decide +kernel
theorem dX12_reads_94 : decode cX12_reads 94 = .ok (.getfield 273, 3) := by decide +kernel
theorem dX12_reads_97 : decode cX12_reads 97 = .ok (.bipush 40, 2) := by decide +kernel
theorem dX12_reads_99 : decode cX12_reads 99 = .ok (.if_icmp .ge 23, 3) := by decide +kernel
theorem dX12_reads_102 : decode cX12_reads 102 = .ok (.aload_n 0, 1) := by decide +kernel
theorem dX12_reads_103 : decode cX12_reads 103 = .ok (.invokevirtual 276, 3) := by decide +kernel
theorem dX12_reads_106 : decode cX12_reads 106 = .ok (.ifCond .eq 16, 3) := by decide +kernel
theorem dX12_reads_109 : decode cX12_reads 109 = .ok (.aload_n 0, 1) := by decide +kernel
theorem dX12_reads_110 : decode cX12_reads 110 = .ok (.bipush 59, 2) := by decide +kernel
theorem dX12_reads_112 : decode cX12_reads 112 = .ok (.invokevirtual 270, 3) := by decide +kernel
theorem dX12_reads_115 : decode cX12_reads 115 = .ok (.ifCond .eq 7, 3) := by decide +kernel
theorem dX12_reads_118 : decode cX12_reads 118 = .ok (.iconst 1, 1) := by decide +kernel
theorem dX12_reads_119 : decode cX12_reads 119 = .ok (.goto 4, 3) := by decide +kernel
theorem dX12_reads_122 : decode cX12_reads 122 = .ok (.iconst 0, 1) := by decide +kernel
theorem dX12_reads_123 : decode cX12_reads 123 = .ok (.istore_n 2, 1) := by decide +kernel
theorem dX12_reads_124 : decode cX12_reads 124 = .ok (.iload_n 2, 1) := by decide +kernel
theorem dX12_reads_125 : decode cX12_reads 125 = .ok (.ifCond .ne 6, 3) := by decide +kernel
theorem dX12_reads_128 : decode cX12_reads 128 = .ok (.goto (-50), 3) := by decide +kernel
theorem dX12_reads_131 : decode cX12_reads 131 = .ok (.aload_n 0, 1) := by decide +kernel
theorem dX12_reads_132 : decode cX12_reads 132 = .ok (.dup, 1) := by decide +kernel
theorem dX12_reads_133 : decode cX12_reads 133 = .ok (.getfield 273, 3) := by decide +kernel
theorem dX12_reads_136 : decode cX12_reads 136 = .ok (.iconst 1, 1) := by decide +kernel
theorem dX12_reads_137 : decode cX12_reads 137 = .ok (.iadd, 1) := by decide +kernel
theorem dX12_reads_138 : decode cX12_reads 138 = .ok (.putfield 273, 3) := by decide +kernel
theorem dX12_reads_141 : decode cX12_reads 141 = .ok (.aload_n 0, 1) := by decide +kernel
theorem dX12_reads_142 : decode cX12_reads 142 = .ok (.invokevirtual 140, 3) := by decide +kernel
theorem dX12_reads_145 : decode cX12_reads 145 = .ok (.goto (-67), 3) := by decide +kernel
theorem dX12_reads_148 : decode cX12_reads 148 = .ok (.aload_n 0, 1) := by decide +kernel
theorem dX12_reads_149 : decode cX12_reads 149 = .ok (.iload_n 2, 1) := by decide +kernel
theorem dX12_reads_150 : decode cX12_reads 150 = .ok (.ifCond .eq 7, 3) := by decide +kernel
theorem dX12_reads_153 : decode cX12_reads 153 = .ok (.iconst (-1), 1) := by decide +kernel
theorem dX12_reads_154 : decode cX12_reads 154 = .ok (.goto 7, 3) := by decide +kernel
theorem dX12_reads_157 : decode cX12_reads 157 = .ok (.aload_n 0, 1) := by decide +kernel
theorem dX12_reads_158 : decode cX12_reads 158 = .ok (.getfield 134, 3) := by decide +kernel
theorem dX12_reads_161 : decode cX12_reads 161 = .ok (.putfield 68, 3) := by decide +kernel
theorem dX12_reads_164 : decode cX12_reads 164 = .ok (.iload_n 2, 1) := by decide +kernel
theorem dX12_reads_165 : decode cX12_reads 165 = .ok (.ireturn, 1) := by decide +kernel
theorem dX12_book_0 : decode cX12_book 0 = .ok (.iload_n 1, 1) := by decide +kernel
theorem dX12_book_1 : decode cX12_book 1 = .ok (.iconst 0, 1) := by decide +kernel
theorem dX12_book_2 : decode cX12_book 2 = .ok (.aload_n 0, 1) := by decide +kernel
theorem dX12_book_3 : decode cX12_book 3 = .ok (.getfield 127, 3) := by decide +kernel
theorem dX12_book_6 : decode cX12_book 6 = .ok (.invokestatic 153, 3) := by decide +kernel
theorem dX12_book_9 : decode cX12_book 9 = .ok (.ifCond .ne 6, 3) := by decide +kernel
theorem dX12_book_12 : decode cX12_book 12 = .ok (.bipush (-2), 2) := by decide +kernel
theorem dX12_book_14 : decode cX12_book 14 = .ok (.ireturn, 1) := by decide +kernel
theorem dX12_book_15 : decode cX12_book 15 = .ok (.aload_n 0, 1) := by decide +kernel
theorem dX12_book_16 : decode cX12_book 16 = .ok (.iload_n 1, 1) := by decide +kernel
theorem dX12_book_17 : decode cX12_book 17 = .ok (.invokevirtual 279, 3) := by decide +kernel
theorem dX12_book_20 : decode cX12_book 20 = .ok (.ifCond .ne 5, 3) := by decide +kernel
theorem dX12_book_23 : decode cX12_book 23 = .ok (.iconst (-1), 1) := by decide +kernel
theorem dX12_book_24 : decode cX12_book 24 = .ok (.ireturn, 1) := by decide +kernel
theorem dX12_book_25 : decode cX12_book 25 = .ok (.aload_n 0, 1) := by decide +kernel
