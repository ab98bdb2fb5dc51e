theorem dX7_tellAll_172 : decode cX7_tellAll 172 = .ok (.goto (-170), 3) := by decide +kernel
theorem dX7_tellAll_175 : decode cX7_tellAll 175 = .ok (.aload_n 0, 1) := by decide +kernel
theorem dX7_tellAll_176 : decode cX7_tellAll 176 = .ok (.getfield 9, 3) := by decide +kernel
theorem dX7_tellAll_179 : decode cX7_tellAll 179 = .ok (.invokevirtual 19, 3) := by decide +kernel
theorem dX7_tellAll_182 : decode cX7_tellAll 182 = .ok (.ireturn, 1) := by decide +kernel
theorem dX7_tellThing_0 : decode cX7_tellThing 0 = .ok (.aload_n 0, 1) := by decide +kernel
theorem dX7_tellThing_1 : decode cX7_tellThing 1 = .ok (.getfield 9, 3) := by decide +kernel
theorem dX7_tellThing_4 : decode cX7_tellThing 4 = .ok (.invokevirtual 72, 3) := by decide +kernel
theorem dX7_tellThing_7 : decode cX7_tellThing 7 = .ok (.lstore_n 1, 1) := by decide +kernel
theorem dX7_tellThing_8 : decode cX7_tellThing 8 = .ok (.aload_n 0, 1) := by decide +kernel
theorem dX7_tellThing_9 : decode cX7_tellThing 9 = .ok (.getfield 15, 3) := by decide +kernel
theorem dX7_tellThing_12 : decode cX7_tellThing 12 = .ok (.lload_n 1, 1) := by decide +kernel
theorem dX7_tellThing_13 : decode cX7_tellThing 13 = .ok (.invokevirtual 76, 3) := by decide +kernel
theorem dX7_tellThing_16 : decode cX7_tellThing 16 = .ok (.ifCond .eq 14, 3) := by decide +kernel
theorem dX7_tellThing_19 : decode cX7_tellThing 19 = .ok (.aload_n 0, 1) := by decide +kernel
theorem dX7_tellThing_20 : decode cX7_tellThing 20 = .ok (.getfield 15, 3) := by decide +kernel
theorem dX7_tellThing_23 : decode cX7_tellThing 23 = .ok (.getfield 80, 3) := by decide +kernel
theorem dX7_tellThing_26 : decode cX7_tellThing 26 = .ok (.iconst 5, 1) := by decide +kernel
theorem dX7_tellThing_27 : decode cX7_tellThing 27 = .ok (.if_icmp .lt 5, 3) := by decide +kernel
theorem dX7_tellThing_30 : decode cX7_tellThing 30 = .ok (.iconst 0, 1) := by decide +kernel
theorem dX7_tellThing_31 : decode cX7_tellThing 31 = .ok (.ireturn, 1) := by decide +kernel
theorem dX7_tellThing_32 : decode cX7_tellThing 32 = .ok (.aload_n 0, 1) := by decide +kernel
theorem dX7_tellThing_33 : decode cX7_tellThing 33 = .ok (.getfield 9, 3) := by decide +kernel
theorem dX7_tellThing_36 : decode cX7_tellThing 36 = .ok (.invokevirtual 83, 3) := by decide +kernel
theorem dX7_tellThing_39 : decode cX7_tellThing 39 = .ok (.aload_n 0, 1) := by decide +kernel
theorem dX7_tellThing_40 : decode cX7_tellThing 40 = .ok (.getfield 9, 3) := by decide +kernel
theorem dX7_tellThing_43 : decode cX7_tellThing 43 = .ok (.getstatic 86, 3) := by decide +kernel
theorem dX7_tellThing_46 : decode cX7_tellThing 46 = .ok (.invokevirtual 31, 3) := by decide +kernel
theorem dX7_tellThing_49 : decode cX7_tellThing 49 = .ok (.ifCond .eq 16, 3) := by decide +kernel
theorem dX7_tellThing_52 : decode cX7_tellThing 52 = .ok (.aload_n 0, 1) := by decide +kernel
theorem dX7_tellThing_53 : decode cX7_tellThing 53 = .ok (.getfield 9, 3) := by decide +kernel
theorem dX7_tellThing_56 : decode cX7_tellThing 56 = .ok (.iconst 0, 1) := by decide +kernel
theorem dX7_tellThing_57 : decode cX7_tellThing 57 = .ok (.bipush 7, 2) := by decide +kernel
theorem dX7_tellThing_59 : decode cX7_tellThing 59 = .ok (.invokevirtual 89, 3) := by decide +kernel
theorem dX7_tellThing_62 : decode cX7_tellThing 62 = .ok (.goto 4, 3) := by decide +kernel
theorem dX7_tellThing_65 : decode cX7_tellThing 65 = .ok (.iconst 0, 1) := by decide +kernel
theorem dX7_tellThing_66 : decode cX7_tellThing 66 = .ok (.istore_n 3, 1) := by decide +kernel
theorem dX7_tellThing_67 : decode cX7_tellThing 67 = .ok (.iload_n 3, 1) := by decide +kernel
theorem dX7_tellThing_68 : decode cX7_tellThing 68 = .ok (.ifCond .ge 5, 3) := by decide +kernel
theorem dX7_tellThing_71 : decode cX7_tellThing 71 = .ok (.iconst 0, 1) := by decide +kernel
theorem dX7_tellThing_72 : decode cX7_tellThing 72 = .ok (.ireturn, 1) := by decide +kernel
theorem dX7_tellThing_73 : decode cX7_tellThing 73 = .ok (.aload_n 0, 1) := by decide +kernel
theorem dX7_tellThing_74 : decode cX7_tellThing 74 = .ok (.getfield 9, 3) := by decide +kernel
theorem dX7_tellThing_77 : decode cX7_tellThing 77 = .ok (.getstatic 93, 3) := by decide +kernel
theorem dX7_tellThing_80 : decode cX7_tellThing 80 = .ok (.invokevirtual 31, 3) := by decide +kernel
theorem dX7_tellThing_83 : decode cX7_tellThing 83 = .ok (.ifCond .eq 16, 3) := by decide +kernel
theorem dX7_tellThing_86 : decode cX7_tellThing 86 = .ok (.aload_n 0, 1) := by decide +kernel
theorem dX7_tellThing_87 : decode cX7_tellThing 87 = .ok (.getfield 9, 3) := by decide +kernel
theorem dX7_tellThing_90 : decode cX7_tellThing 90 = .ok (.iload_n 3, 1) := by decide +kernel
theorem dX7_tellThing_91 : decode cX7_tellThing 91 = .ok (.bipush 7, 2) := by decide +kernel
theorem dX7_tellThing_93 : decode cX7_tellThing 93 = .ok (.invokevirtual 89, 3) := by decide +kernel
theorem dX7_tellThing_96 : decode cX7_tellThing 96 = .ok (.goto 5, 3) := by decide +kernel
theorem dX7_tellThing_99 : decode cX7_tellThing 99 = .ok (.bipush 7, 2) := by decide +kernel
theorem dX7_tellThing_101 : decode cX7_tellThing 101 = .ok (.istore 4, 2) := by decide +kernel
theorem dX7_tellThing_103 : decode cX7_tellThing 103 = .ok (.iload 4, 2) := by decide +kernel
theorem dX7_tellThing_105 : decode cX7_tellThing 105 = .ok (.ifCond .ge 5, 3) := by decide +kernel
theorem dX7_tellThing_108 : decode cX7_tellThing 108 = .ok (.iconst 0, 1) := by decide +kernel
theorem dX7_tellThing_109 : decode cX7_tellThing 109 = .ok (.ireturn, 1) := by decide +kernel
theorem dX7_tellThing_110 : decode cX7_tellThing 110 = .ok (.aload_n 0, 1) := by decide +kernel
theorem dX7_tellThing_111 : decode cX7_tellThing 111 = .ok (.getfield 15, 3) := by decide +kernel
theorem dX7_tellThing_114 : decode cX7_tellThing 114 = .ok (.lload_n 1, 1) := by decide +kernel
theorem dX7_tellThing_115 : decode cX7_tellThing 115 = .ok (.iload_n 3, 1) := by decide +kernel
theorem dX7_tellThing_116 : decode cX7_tellThing 116 = .ok (.iload 4, 2) := by decide +kernel
theorem dX7_tellThing_118 : decode cX7_tellThing 118 = .ok (.invokevirtual 96, 3) := by decide +kernel
theorem dX7_tellThing_121 : decode cX7_tellThing 121 = .ok (.iconst 1, 1) := by decide +kernel
theorem dX7_tellThing_122 : decode cX7_tellThing 122 = .ok (.ireturn, 1) := by decide +kernel
theorem dX7_tellMember_0 : decode cX7_tellMember 0 = .ok (.aload_n 0, 1) := by decide +kernel
theorem dX7_tellMember_1 : decode cX7_tellMember 1 = .ok (.getfield 9, 3) := by decide +kernel
theorem dX7_tellMember_4 : decode cX7_tellMember 4 = .ok (.invokevirtual 72, 3) := by decide +kernel
theorem dX7_tellMember_7 : decode cX7_tellMember 7 = .ok (.lstore_n 1, 1) := by decide +kernel
theorem dX7_tellMember_8 : decode cX7_tellMember 8 = .ok (.aload_n 0, 1) := by decide +kernel
theorem dX7_tellMember_9 : decode cX7_tellMember 9 = .ok (.getfield 15, 3) := by decide +kernel
theorem dX7_tellMember_12 : decode cX7_tellMember 12 = .ok (.lload_n 1, 1) := by decide +kernel
theorem dX7_tellMember_13 : decode cX7_tellMember 13 = .ok (.invokevirtual 76, 3) := by decide +kernel
theorem dX7_tellMember_16 : decode cX7_tellMember 16 = .ok (.ifCond .eq 15, 3) := by decide +kernel
theorem dX7_tellMember_19 : decode cX7_tellMember 19 = .ok (.aload_n 0, 1) := by decide +kernel
theorem dX7_tellMember_20 : decode cX7_tellMember 20 = .ok (.getfield 15, 3) := by decide +kernel
theorem dX7_tellMember_23 : decode cX7_tellMember 23 = .ok (.getfield 100, 3) := by decide +kernel
theorem dX7_tellMember_26 : decode cX7_tellMember 26 = .ok (.bipush 6, 2) := by decide +kernel
theorem dX7_tellMember_28 : decode cX7_tellMember 28 = .ok (.if_icmp .lt 5, 3) := by decide +kernel
theorem dX7_tellMember_31 : decode cX7_tellMember 31 = .ok (.iconst 0, 1) := by decide +kernel
theorem dX7_tellMember_32 : decode cX7_tellMember 32 = .ok (.ireturn, 1) := by decide +kernel
theorem dX7_tellMember_33 : decode cX7_tellMember 33 = .ok (.aload_n 0, 1) := by decide +kernel
theorem dX7_tellMember_34 : decode cX7_tellMember 34 = .ok (.getfield 9, 3) := by decide +kernel
theorem dX7_tellMember_37 : decode cX7_tellMember 37 = .ok (.invokevirtual 83, 3) := by decide +kernel
theorem dX7_tellMember_40 : decode cX7_tellMember 40 = .ok (.aload_n 0, 1) := by decide +kernel
theorem dX7_tellMember_41 : decode cX7_tellMember 41 = .ok (.getfield 15, 3) := by decide +kernel
theorem dX7_tellMember_44 : decode cX7_tellMember 44 = .ok (.lload_n 1, 1) := by decide +kernel
theorem dX7_tellMember_45 : decode cX7_tellMember 45 = .ok (.invokevirtual 103, 3) := by decide +kernel
theorem dX7_tellMember_48 : decode cX7_tellMember 48 = .ok (.iconst 1, 1) := by decide +kernel
theorem dX7_tellMember_49 : decode cX7_tellMember 49 = .ok (.ireturn, 1) := by decide +kernel
theorem dX7_tellRule_0 : decode cX7_tellRule 0 = .ok (.aload_n 0, 1) := by decide +kernel
theorem dX7_tellRule_1 : decode cX7_tellRule 1 = .ok (.getfield 9, 3) := by decide +kernel
theorem dX7_tellRule_4 : decode cX7_tellRule 4 = .ok (.aload_n 0, 1) := by decide +kernel
theorem dX7_tellRule_5 : decode cX7_tellRule 5 = .ok (.getfield 15, 3) := by decide +kernel
theorem dX7_tellRule_8 : decode cX7_tellRule 8 = .ok (.getfield 107, 3) := by decide +kernel
theorem dX7_tellRule_11 : decode cX7_tellRule 11 = .ok (.aload_n 0, 1) := by decide +kernel
theorem dX7_tellRule_12 : decode cX7_tellRule 12 = .ok (.getfield 15, 3) := by decide +kernel
theorem dX7_tellRule_15 : decode cX7_tellRule 15 = .ok (.getfield 80, 3) := by decide +kernel
theorem dX7_tellRule_18 : decode cX7_tellRule 18 = .ok (.iconst (-1), 1) := by decide +kernel
theorem dX7_tellRule_19 : decode cX7_tellRule 19 = .ok (.invokevirtual 111, 3) := by decide +kernel
theorem dX7_tellRule_22 : decode cX7_tellRule 22 = .ok (.istore_n 2, 1) := by decide +kernel
theorem dX7_tellRule_23 : decode cX7_tellRule 23 = .ok (.iload_n 2, 1) := by decide +kernel
theorem dX7_tellRule_24 : decode cX7_tellRule 24 = .ok (.ifCond .ge 7, 3) := by decide +kernel
theorem dX7_tellRule_27 : decode cX7_tellRule 27 = .ok (.iconst (-1), 1) := by decide +kernel
theorem dX7_tellRule_28 : decode cX7_tellRule 28 = .ok (.goto 25, 3) := by decide +kernel
theorem dX7_tellRule_31 : decode cX7_tellRule 31 = .ok (.aload_n 0, 1) := by decide +kernel
theorem dX7_tellRule_32 : decode cX7_tellRule 32 = .ok (.getfield 9, 3) := by decide +kernel
theorem dX7_tellRule_35 : decode cX7_tellRule 35 = .ok (.aload_n 0, 1) := by decide +kernel
theorem dX7_tellRule_36 : decode cX7_tellRule 36 = .ok (.getfield 15, 3) := by decide +kernel
theorem dX7_tellRule_39 : decode cX7_tellRule 39 = .ok (.getfield 107, 3) := by decide +kernel
theorem dX7_tellRule_42 : decode cX7_tellRule 42 = .ok (.aload_n 0, 1) := by decide +kernel
theorem dX7_tellRule_43 : decode cX7_tellRule 43 = .ok (.getfield 15, 3) := by decide +kernel
theorem dX7_tellRule_46 : decode cX7_tellRule 46 = .ok (.getfield 80, 3) := by decide +kernel
theorem dX7_tellRule_49 : decode cX7_tellRule 49 = .ok (.iload_n 2, 1) := by decide +kernel
theorem dX7_tellRule_50 : decode cX7_tellRule 50 = .ok (.invokevirtual 111, 3) := by decide +kernel
theorem dX7_tellRule_53 : decode cX7_tellRule 53 = .ok (.istore_n 3, 1) := by decide +kernel
theorem dX7_tellRule_54 : decode cX7_tellRule 54 = .ok (.iload_n 3, 1) := by decide +kernel
theorem dX7_tellRule_55 : decode cX7_tellRule 55 = .ok (.ifCond .ge 5, 3) := by decide +kernel
theorem dX7_tellRule_58 : decode cX7_tellRule 58 = .ok (.iconst 0, 1) := by decide +kernel
theorem dX7_tellRule_59 : decode cX7_tellRule 59 = .ok (.ireturn, 1) := by decide +kernel
theorem dX7_tellRule_60 : decode cX7_tellRule 60 = .ok (.iconst (-1), 1) := by decide +kernel
theorem dX7_tellRule_61 : decode cX7_tellRule 61 = .ok (.istore 4, 2) := by decide +kernel
theorem dX7_tellRule_63 : decode cX7_tellRule 63 = .ok (.iload_n 1, 1) := by decide +kernel
theorem dX7_tellRule_64 : decode cX7_tellRule 64 = .ok (.ifCond .eq 39, 3) := by decide +kernel
theorem dX7_tellRule_67 : decode cX7_tellRule 67 = .ok (.aload_n 0, 1) := by decide +kernel
theorem dX7_tellRule_68 : decode cX7_tellRule 68 = .ok (.getfield 9, 3) := by decide +kernel
theorem dX7_tellRule_71 : decode cX7_tellRule 71 = .ok (.getstatic 115, 3) := by decide +kernel
theorem dX7_tellRule_74 : decode cX7_tellRule 74 = .ok (.invokevirtual 31, 3) := by decide +kernel
theorem dX7_tellRule_77 : decode cX7_tellRule 77 = .ok (.ifCond .eq 16, 3) := by decide +kernel
theorem dX7_tellRule_80 : decode cX7_tellRule 80 = .ok (.aload_n 0, 1) := by decide +kernel
theorem dX7_tellRule_81 : decode cX7_tellRule 81 = .ok (.getfield 9, 3) := by decide +kernel
theorem dX7_tellRule_84 : decode cX7_tellRule 84 = .ok (.iconst 0, 1) := by decide +kernel
theorem dX7_tellRule_85 : decode cX7_tellRule 85 = .ok (.bipush 7, 2) := by decide +kernel
theorem dX7_tellRule_87 : decode cX7_tellRule 87 = .ok (.invokevirtual 89, 3) := by decide +kernel
theorem dX7_tellRule_90 : decode cX7_tellRule 90 = .ok (.goto 4, 3) := by decide +kernel
theorem dX7_tellRule_93 : decode cX7_tellRule 93 = .ok (.iconst (-1), 1) := by decide +kernel
theorem dX7_tellRule_94 : decode cX7_tellRule 94 = .ok (.istore 4, 2) := by decide +kernel
theorem dX7_tellRule_96 : decode cX7_tellRule 96 = .ok (.iload 4, 2) := by decide +kernel
theorem dX7_tellRule_98 : decode cX7_tellRule 98 = .ok (.ifCond .ge 5, 3) := by decide +kernel
theorem dX7_tellRule_101 : decode cX7_tellRule 101 = .ok (.iconst 0, 1) := by decide +kernel
theorem dX7_tellRule_102 : decode cX7_tellRule 102 = .ok (.ireturn, 1) := by decide +kernel
theorem dX7_tellRule_103 : decode cX7_tellRule 103 = .ok (.aload_n 0, 1) := by decide +kernel
theorem dX7_tellRule_104 : decode cX7_tellRule 104 = .ok (.getfield 15, 3) := by decide +kernel
theorem dX7_tellRule_107 : decode cX7_tellRule 107 = .ok (.iload_n 2, 1) := by decide +kernel
theorem dX7_tellRule_108 : decode cX7_tellRule 108 = .ok (.iload_n 3, 1) := by decide +kernel
theorem dX7_tellRule_109 : decode cX7_tellRule 109 = .ok (.iload 4, 2) := by decide +kernel
theorem dX7_tellRule_111 : decode cX7_tellRule 111 = .ok (.invokevirtual 118, 3) := by decide +kernel
theorem dX7_tellRule_114 : decode cX7_tellRule 114 = .ok (.iconst 1, 1) := by decide +kernel
theorem dX7_tellRule_115 : decode cX7_tellRule 115 = .ok (.ireturn, 1) := by decide +kernel
theorem dX7_tellBet_0 : decode cX7_tellBet 0 = .ok (.aload_n 0, 1) := by decide +kernel
theorem dX7_tellBet_1 : decode cX7_tellBet 1 = .ok (.getfield 9, 3) := by decide +kernel
theorem dX7_tellBet_4 : decode cX7_tellBet 4 = .ok (.aload_n 0, 1) := by decide +kernel
theorem dX7_tellBet_5 : decode cX7_tellBet 5 = .ok (.getfield 15, 3) := by decide +kernel
theorem dX7_tellBet_8 : decode cX7_tellBet 8 = .ok (.getfield 122, 3) := by decide +kernel
theorem dX7_tellBet_11 : decode cX7_tellBet 11 = .ok (.aload_n 0, 1) := by decide +kernel
theorem dX7_tellBet_12 : decode cX7_tellBet 12 = .ok (.getfield 15, 3) := by decide +kernel
theorem dX7_tellBet_15 : decode cX7_tellBet 15 = .ok (.getfield 100, 3) := by decide +kernel
theorem dX7_tellBet_18 : decode cX7_tellBet 18 = .ok (.iconst (-1), 1) := by decide +kernel
theorem dX7_tellBet_19 : decode cX7_tellBet 19 = .ok (.invokevirtual 111, 3) := by decide +kernel
theorem dX7_tellBet_22 : decode cX7_tellBet 22 = .ok (.istore_n 1, 1) := by decide +kernel
theorem dX7_tellBet_23 : decode cX7_tellBet 23 = .ok (.iload_n 1, 1) := by decide +kernel
theorem dX7_tellBet_24 : decode cX7_tellBet 24 = .ok (.ifCond .ge 7, 3) := by decide +kernel
theorem dX7_tellBet_27 : decode cX7_tellBet 27 = .ok (.iconst (-1), 1) := by decide +kernel
theorem dX7_tellBet_28 : decode cX7_tellBet 28 = .ok (.goto 14, 3) := by decide +kernel
theorem dX7_tellBet_31 : decode cX7_tellBet 31 = .ok (.aload_n 0, 1) := by decide +kernel
theorem dX7_tellBet_32 : decode cX7_tellBet 32 = .ok (.getfield 9, 3) := by decide +kernel
theorem dX7_tellBet_35 : decode cX7_tellBet 35 = .ok (.iconst 1, 1) := by decide +kernel
theorem dX7_tellBet_36 : decode cX7_tellBet 36 = .ok (.sipush 999, 3) := by decide +kernel
theorem dX7_tellBet_39 : decode cX7_tellBet 39 = .ok (.invokevirtual 89, 3) := by decide +kernel
theorem dX7_tellBet_42 : decode cX7_tellBet 42 = .ok (.istore_n 2, 1) := by decide +kernel
theorem dX7_tellBet_43 : decode cX7_tellBet 43 = .ok (.iload_n 2, 1) := by decide +kernel
theorem dX7_tellBet_44 : decode cX7_tellBet 44 = .ok (.ifCond .lt 16, 3) := by decide +kernel
theorem dX7_tellBet_47 : decode cX7_tellBet 47 = .ok (.aload_n 0, 1) := by decide +kernel
theorem dX7_tellBet_48 : decode cX7_tellBet 48 = .ok (.getfield 9, 3) := by decide +kernel
theorem dX7_tellBet_51 : decode cX7_tellBet 51 = .ok (.getstatic 125, 3) := by decide +kernel
theorem dX7_tellBet_54 : decode cX7_tellBet 54 = .ok (.invokevirtual 31, 3) := by decide +kernel
theorem dX7_tellBet_57 : decode cX7_tellBet 57 = .ok (.ifCond .ne 5, 3) := by decide +kernel
theorem dX7_tellBet_60 : decode cX7_tellBet 60 = .ok (.iconst 0, 1) := by decide +kernel
theorem dX7_tellBet_61 : decode cX7_tellBet 61 = .ok (.ireturn, 1) := by decide +kernel
theorem dX7_tellBet_62 : decode cX7_tellBet 62 = .ok (.aload_n 0, 1) := by decide +kernel
theorem dX7_tellBet_63 : decode cX7_tellBet 63 = .ok (.getfield 9, 3) := by decide +kernel
theorem dX7_tellBet_66 : decode cX7_tellBet 66 = .ok (.iconst 1, 1) := by decide +kernel
theorem dX7_tellBet_67 : decode cX7_tellBet 67 = .ok (.sipush 999, 3) := by decide +kernel
theorem dX7_tellBet_70 : decode cX7_tellBet 70 = .ok (.invokevirtual 89, 3) := by decide +kernel
theorem dX7_tellBet_73 : decode cX7_tellBet 73 = .ok (.istore_n 3, 1) := by decide +kernel
theorem dX7_tellBet_74 : decode cX7_tellBet 74 = .ok (.iload_n 3, 1) := by decide +kernel
theorem dX7_tellBet_75 : decode cX7_tellBet 75 = .ok (.ifCond .ge 7, 3) := by decide +kernel
theorem dX7_tellBet_78 : decode cX7_tellBet 78 = .ok (.iconst (-1), 1) := by decide +kernel
theorem dX7_tellBet_79 : decode cX7_tellBet 79 = .ok (.goto 25, 3) := by decide +kernel
theorem dX7_tellBet_82 : decode cX7_tellBet 82 = .ok (.aload_n 0, 1) := by decide +kernel
theorem dX7_tellBet_83 : decode cX7_tellBet 83 = .ok (.getfield 9, 3) := by decide +kernel
theorem dX7_tellBet_86 : decode cX7_tellBet 86 = .ok (.aload_n 0, 1) := by decide +kernel
theorem dX7_tellBet_87 : decode cX7_tellBet 87 = .ok (.getfield 15, 3) := by decide +kernel
theorem dX7_tellBet_90 : decode cX7_tellBet 90 = .ok (.getfield 122, 3) := by decide +kernel
theorem dX7_tellBet_93 : decode cX7_tellBet 93 = .ok (.aload_n 0, 1) := by decide +kernel
theorem dX7_tellBet_94 : decode cX7_tellBet 94 = .ok (.getfield 15, 3) := by decide +kernel
theorem dX7_tellBet_97 : decode cX7_tellBet 97 = .ok (.getfield 100, 3) := by decide +kernel
theorem dX7_tellBet_100 : decode cX7_tellBet 100 = .ok (.iload_n 1, 1) := by decide +kernel
theorem dX7_tellBet_101 : decode cX7_tellBet 101 = .ok (.invokevirtual 111, 3) := by decide +kernel
theorem dX7_tellBet_104 : decode cX7_tellBet 104 = .ok (.istore 4, 2) := by decide +kernel
theorem dX7_tellBet_106 : decode cX7_tellBet 106 = .ok (.iload 4, 2) := by decide +kernel
theorem dX7_tellBet_108 : decode cX7_tellBet 108 = .ok (.ifCond .lt 16, 3) := by decide +kernel
theorem dX7_tellBet_111 : decode cX7_tellBet 111 = .ok (.aload_n 0, 1) := by decide +kernel
theorem dX7_tellBet_112 : decode cX7_tellBet 112 = .ok (.getfield 9, 3) := by decide +kernel
theorem dX7_tellBet_115 : decode cX7_tellBet 115 = .ok (.getstatic 128, 3) := by decide +kernel
theorem dX7_tellBet_118 : decode cX7_tellBet 118 = .ok (.invokevirtual 31, 3) := by decide +kernel
theorem dX7_tellBet_121 : decode cX7_tellBet 121 = .ok (.ifCond .ne 5, 3) := by decide +kernel
theorem dX7_tellBet_124 : decode cX7_tellBet 124 = .ok (.iconst 0, 1) := by decide +kernel
theorem dX7_tellBet_125 : decode cX7_tellBet 125 = .ok (.ireturn, 1) := by decide +kernel
theorem dX7_tellBet_126 : decode cX7_tellBet 126 = .ok (.aload_n 0, 1) := by decide +kernel
theorem dX7_tellBet_127 : decode cX7_tellBet 127 = .ok (.iconst 0, 1) := by decide +kernel
theorem dX7_tellBet_128 : decode cX7_tellBet 128 = .ok (.invokevirtual 131, 3) := by decide +kernel
theorem dX7_tellBet_131 : decode cX7_tellBet 131 = .ok (.astore 5, 2) := by decide +kernel
theorem dX7_tellBet_133 : decode cX7_tellBet 133 = .ok (.aload 5, 2) := by decide +kernel
theorem dX7_tellBet_135 : decode cX7_tellBet 135 = .ok (.ifnull 20, 3) := by decide +kernel
theorem dX7_tellBet_138 : decode cX7_tellBet 138 = .ok (.aload_n 0, 1) := by decide +kernel
theorem dX7_tellBet_139 : decode cX7_tellBet 139 = .ok (.getfield 9, 3) := by decide +kernel
theorem dX7_tellBet_142 : decode cX7_tellBet 142 = .ok (.getstatic 135, 3) := by decide +kernel
theorem dX7_tellBet_145 : decode cX7_tellBet 145 = .ok (.invokevirtual 31, 3) := by decide +kernel
theorem dX7_tellBet_148 : decode cX7_tellBet 148 = .ok (.ifCond .eq 7, 3) := by decide +kernel
theorem dX7_tellBet_151 : decode cX7_tellBet 151 = .ok (.iconst 1, 1) := by decide +kernel
theorem dX7_tellBet_152 : decode cX7_tellBet 152 = .ok (.goto 4, 3) := by decide +kernel
theorem dX7_tellBet_155 : decode cX7_tellBet 155 = .ok (.iconst 0, 1) := by decide +kernel
theorem dX7_tellBet_156 : decode cX7_tellBet 156 = .ok (.istore 6, 2) := by decide +kernel
theorem dX7_tellBet_158 : decode cX7_tellBet 158 = .ok (.iload 6, 2) := by decide +kernel
theorem dX7_tellBet_160 : decode cX7_tellBet 160 = .ok (.ifCond .eq 11, 3) := by decide +kernel
theorem dX7_tellBet_163 : decode cX7_tellBet 163 = .ok (.aload_n 0, 1) := by decide +kernel
theorem dX7_tellBet_164 : decode cX7_tellBet 164 = .ok (.iconst 0, 1) := by decide +kernel
theorem dX7_tellBet_165 : decode cX7_tellBet 165 = .ok (.invokevirtual 131, 3) := by decide +kernel
theorem dX7_tellBet_168 : decode cX7_tellBet 168 = .ok (.goto 4, 3) := by decide +kernel
theorem dX7_tellBet_171 : decode cX7_tellBet 171 = .ok (.aconst_null, 1) := by decide +kernel
theorem dX7_tellBet_172 : decode cX7_tellBet 172 = .ok (.astore 7, 2) := by decide +kernel
theorem dX7_tellBet_174 : decode cX7_tellBet 174 = .ok (.aload 5, 2) := by decide +kernel
theorem dX7_tellBet_176 : decode cX7_tellBet 176 = .ok (.ifnull 17, 3) := by decide +kernel
theorem dX7_tellBet_179 : decode cX7_tellBet 179 = .ok (.aload 7, 2) := by decide +kernel
theorem dX7_tellBet_181 : decode cX7_tellBet 181 = .ok (.ifnonnull 8, 3) := by decide +kernel
theorem dX7_tellBet_184 : decode cX7_tellBet 184 = .ok (.iload 6, 2) := by decide +kernel
theorem dX7_tellBet_186 : decode cX7_tellBet 186 = .ok (.ifCond .ne 7, 3) := by decide +kernel
theorem dX7_tellBet_189 : decode cX7_tellBet 189 = .ok (.iconst 1, 1) := by decide +kernel
theorem dX7_tellBet_190 : decode cX7_tellBet 190 = .ok (.goto 4, 3) := by decide +kernel
theorem dX7_tellBet_193 : decode cX7_tellBet 193 = .ok (.iconst 0, 1) := by decide +kernel
theorem dX7_tellBet_194 : decode cX7_tellBet 194 = .ok (.istore 8, 2) := by decide +kernel
theorem dX7_tellBet_196 : decode cX7_tellBet 196 = .ok (.iload 8, 2) := by decide +kernel
theorem dX7_tellBet_198 : decode cX7_tellBet 198 = .ok (.ifCond .eq 20, 3) := by decide +kernel
theorem dX7_tellBet_201 : decode cX7_tellBet 201 = .ok (.aload_n 0, 1) := by decide +kernel
theorem dX7_tellBet_202 : decode cX7_tellBet 202 = .ok (.getfield 9, 3) := by decide +kernel
theorem dX7_tellBet_205 : decode cX7_tellBet 205 = .ok (.getstatic 138, 3) := by decide +kernel
theorem dX7_tellBet_208 : decode cX7_tellBet 208 = .ok (.invokevirtual 31, 3) := by decide +kernel
theorem dX7_tellBet_211 : decode cX7_tellBet 211 = .ok (.ifCond .eq 7, 3) := by decide +kernel
theorem dX7_tellBet_214 : decode cX7_tellBet 214 = .ok (.iconst 1, 1) := by decide +kernel
theorem dX7_tellBet_215 : decode cX7_tellBet 215 = .ok (.goto 4, 3) := by decide +kernel
theorem dX7_tellBet_218 : decode cX7_tellBet 218 = .ok (.iconst 0, 1) := by decide +kernel
theorem dX7_tellBet_219 : decode cX7_tellBet 219 = .ok (.istore 9, 2) := by decide +kernel
theorem dX7_tellBet_221 : decode cX7_tellBet 221 = .ok (.iload 9, 2) := by decide +kernel
theorem dX7_tellBet_223 : decode cX7_tellBet 223 = .ok (.ifCond .eq 11, 3) := by decide +kernel
theorem dX7_tellBet_226 : decode cX7_tellBet 226 = .ok (.aload_n 0, 1) := by decide +kernel
theorem dX7_tellBet_227 : decode cX7_tellBet 227 = .ok (.iconst 0, 1) := by decide +kernel
theorem dX7_tellBet_228 : decode cX7_tellBet 228 = .ok (.invokevirtual 131, 3) := by decide +kernel
theorem dX7_tellBet_231 : decode cX7_tellBet 231 = .ok (.goto 4, 3) := by decide +kernel
theorem dX7_tellBet_234 : decode cX7_tellBet 234 = .ok (.aconst_null, 1) := by decide +kernel
theorem dX7_tellBet_235 : decode cX7_tellBet 235 = .ok (.astore 10, 2) := by decide +kernel
theorem dX7_tellBet_237 : decode cX7_tellBet 237 = .ok (.iload 8, 2) := by decide +kernel
theorem dX7_tellBet_239 : decode cX7_tellBet 239 = .ok (.ifCond .eq 13, 3) := by decide +kernel
theorem dX7_tellBet_242 : decode cX7_tellBet 242 = .ok (.iload 9, 2) := by decide +kernel
theorem dX7_tellBet_244 : decode cX7_tellBet 244 = .ok (.ifCond .eq 10, 3) := by decide +kernel
theorem dX7_tellBet_247 : decode cX7_tellBet 247 = .ok (.aload 10, 2) := by decide +kernel
theorem dX7_tellBet_249 : decode cX7_tellBet 249 = .ok (.ifnonnull 5, 3) := by decide +kernel
theorem dX7_tellBet_252 : decode cX7_tellBet 252 = .ok (.iconst 0, 1) := by decide +kernel
theorem dX7_tellBet_253 : decode cX7_tellBet 253 = .ok (.ireturn, 1) := by decide +kernel
theorem dX7_tellBet_254 : decode cX7_tellBet 254 = .ok (.aload_n 0, 1) := by decide +kernel
theorem dX7_tellBet_255 : decode cX7_tellBet 255 = .ok (.getfield 15, 3) := by decide +kernel
theorem dX7_tellBet_258 : decode cX7_tellBet 258 = .ok (.new 141, 3) := by decide +kernel
theorem dX7_tellBet_261 : decode cX7_tellBet 261 = .ok (.dup, 1) := by decide +kernel
theorem dX7_tellBet_262 : decode cX7_tellBet 262 = .ok (.iload_n 1, 1) := by decide +kernel
theorem dX7_tellBet_263 : decode cX7_tellBet 263 = .ok (.iload 4, 2) := by decide +kernel
theorem dX7_tellBet_265 : decode cX7_tellBet 265 = .ok (.iload_n 2, 1) := by decide +kernel
theorem dX7_tellBet_266 : decode cX7_tellBet 266 = .ok (.iload_n 3, 1) := by decide +kernel
theorem dX7_tellBet_267 : decode cX7_tellBet 267 = .ok (.aload 5, 2) := by decide +kernel
theorem dX7_tellBet_269 : decode cX7_tellBet 269 = .ok (.aload 7, 2) := by decide +kernel
theorem dX7_tellBet_271 : decode cX7_tellBet 271 = .ok (.aload 10, 2) := by decide +kernel
theorem dX7_tellBet_273 : decode cX7_tellBet 273 = .ok (.invokespecial 143, 3) := by decide +kernel
theorem dX7_tellBet_276 : decode cX7_tellBet 276 = .ok (.invokevirtual 146, 3) := by decide +kernel
theorem dX7_tellBet_279 : decode cX7_tellBet 279 = .ok (.iconst 1, 1) := by decide +kernel
theorem dX7_tellBet_280 : decode cX7_tellBet 280 = .ok (.ireturn, 1) := by decide +kernel
theorem dX7_any_0 : decode cX7_any 0 = .ok (.aconst_null, 1) := by decide +kernel
theorem dX7_any_1 : decode cX7_any 1 = .ok (.astore_n 2, 1) := by decide +kernel
theorem dX7_any_2 : decode cX7_any 2 = .ok (.aconst_null, 1) := by decide +kernel
theorem dX7_any_3 : decode cX7_any 3 = .ok (.astore_n 3, 1) := by decide +kernel
theorem dX7_any_4 : decode cX7_any 4 = .ok (.iconst 0, 1) := by decide +kernel
theorem dX7_any_5 : decode cX7_any 5 = .ok (.istore 4, 2) := by decide +kernel
theorem dX7_any_7 : decode cX7_any 7 = .ok (.iload 4, 2) := by decide +kernel
theorem dX7_any_9 : decode cX7_any 9 = .ok (.sipush 1200, 3) := by decide +kernel
theorem dX7_any_12 : decode cX7_any 12 = .ok (.if_icmp .ge 135, 3) := by decide +kernel
theorem dX7_any_15 : decode cX7_any 15 = .ok (.aload_n 3, 1) := by decide +kernel
theorem dX7_any_16 : decode cX7_any 16 = .ok (.ifnull 16, 3) := by decide +kernel
theorem dX7_any_19 : decode cX7_any 19 = .ok (.aload_n 0, 1) := by decide +kernel
theorem dX7_any_20 : decode cX7_any 20 = .ok (.getfield 9, 3) := by decide +kernel
theorem dX7_any_23 : decode cX7_any 23 = .ok (.getstatic 150, 3) := by decide +kernel
theorem dX7_any_26 : decode cX7_any 26 = .ok (.invokevirtual 31, 3) := by decide +kernel
theorem dX7_any_29 : decode cX7_any 29 = .ok (.ifCond .eq 118, 3) := by decide +kernel
theorem dX7_any_32 : decode cX7_any 32 = .ok (.aload_n 0, 1) := by decide +kernel
theorem dX7_any_33 : decode cX7_any 33 = .ok (.iload_n 1, 1) := by decide +kernel
theorem dX7_any_34 : decode cX7_any 34 = .ok (.invokevirtual 153, 3) := by decide +kernel
theorem dX7_any_37 : decode cX7_any 37 = .ok (.astore 5, 2) := by decide +kernel
theorem dX7_any_39 : decode cX7_any 39 = .ok (.aload 5, 2) := by decide +kernel
theorem dX7_any_41 : decode cX7_any 41 = .ok (.astore 6, 2) := by decide +kernel
theorem dX7_any_43 : decode cX7_any 43 = .ok (.iconst 0, 1) := by decide +kernel
theorem dX7_any_44 : decode cX7_any 44 = .ok (.istore 7, 2) := by decide +kernel
theorem dX7_any_46 : decode cX7_any 46 = .ok (.iload 7, 2) := by decide +kernel
theorem dX7_any_48 : decode cX7_any 48 = .ok (.sipush 1200, 3) := by decide +kernel
theorem dX7_any_51 : decode cX7_any 51 = .ok (.if_icmp .ge 44, 3) := by decide +kernel
theorem dX7_any_54 : decode cX7_any 54 = .ok (.aload 6, 2) := by decide +kernel
theorem dX7_any_56 : decode cX7_any 56 = .ok (.ifnull 39, 3) := by decide +kernel
theorem dX7_any_59 : decode cX7_any 59 = .ok (.aload_n 0, 1) := by decide +kernel
theorem dX7_any_60 : decode cX7_any 60 = .ok (.getfield 9, 3) := by decide +kernel
theorem dX7_any_63 : decode cX7_any 63 = .ok (.getstatic 156, 3) := by decide +kernel
theorem dX7_any_66 : decode cX7_any 66 = .ok (.invokevirtual 31, 3) := by decide +kernel
theorem dX7_any_69 : decode cX7_any 69 = .ok (.ifCond .eq 26, 3) := by decide +kernel
theorem dX7_any_72 : decode cX7_any 72 = .ok (.aload 6, 2) := by decide +kernel
theorem dX7_any_74 : decode cX7_any 74 = .ok (.aload_n 0, 1) := by decide +kernel
theorem dX7_any_75 : decode cX7_any 75 = .ok (.iload_n 1, 1) := by decide +kernel
theorem dX7_any_76 : decode cX7_any 76 = .ok (.invokevirtual 153, 3) := by decide +kernel
theorem dX7_any_79 : decode cX7_any 79 = .ok (.putfield 159, 3) := by decide +kernel
theorem dX7_any_82 : decode cX7_any 82 = .ok (.aload 6, 2) := by decide +kernel
theorem dX7_any_84 : decode cX7_any 84 = .ok (.getfield 159, 3) := by decide +kernel
theorem dX7_any_87 : decode cX7_any 87 = .ok (.astore 6, 2) := by decide +kernel
theorem dX7_any_89 : decode cX7_any 89 = .ok (.iinc 7 1, 3) := by decide +kernel
theorem dX7_any_92 : decode cX7_any 92 = .ok (.goto (-46), 3) := by decide +kernel
theorem dX7_any_95 : decode cX7_any 95 = .ok (.aload 6, 2) := by decide +kernel
theorem dX7_any_97 : decode cX7_any 97 = .ok (.ifnonnull 5, 3) := by decide +kernel
theorem dX7_any_100 : decode cX7_any 100 = .ok (.aconst_null, 1) := by decide +kernel
theorem dX7_any_101 : decode cX7_any 101 = .ok (.areturn, 1) := by decide +kernel
theorem dX7_any_102 : decode cX7_any 102 = .ok (.aload 6, 2) := by decide +kernel
theorem dX7_any_104 : decode cX7_any 104 = .ok (.aload 5, 2) := by decide +kernel
theorem dX7_any_106 : decode cX7_any 106 = .ok (.if_acmp .ne 8, 3) := by decide +kernel
theorem dX7_any_109 : decode cX7_any 109 = .ok (.aload 5, 2) := by decide +kernel
theorem dX7_any_111 : decode cX7_any 111 = .ok (.goto 9, 3) := by decide +kernel
theorem dX7_any_114 : decode cX7_any 114 = .ok (.iconst 4, 1) := by decide +kernel
theorem dX7_any_115 : decode cX7_any 115 = .ok (.aload 5, 2) := by decide +kernel
theorem dX7_any_117 : decode cX7_any 117 = .ok (.invokestatic 165, 3) := by decide +kernel
theorem dX7_any_120 : decode cX7_any 120 = .ok (.astore 7, 2) := by decide +kernel
theorem dX7_any_122 : decode cX7_any 122 = .ok (.aload_n 3, 1) := by decide +kernel
theorem dX7_any_123 : decode cX7_any 123 = .ok (.ifnonnull 9, 3) := by decide +kernel
theorem dX7_any_126 : decode cX7_any 126 = .ok (.aload 7, 2) := by decide +kernel
theorem dX7_any_128 : decode cX7_any 128 = .ok (.astore_n 2, 1) := by decide +kernel
theorem dX7_any_129 : decode cX7_any 129 = .ok (.goto 9, 3) := by decide +kernel
theorem dX7_any_132 : decode cX7_any 132 = .ok (.aload_n 3, 1) := by decide +kernel
theorem dX7_any_133 : decode cX7_any 133 = .ok (.aload 7, 2) := by decide +kernel
theorem dX7_any_135 : decode cX7_any 135 = .ok (.putfield 159, 3) := by decide +kernel
theorem dX7_any_138 : decode cX7_any 138 = .ok (.aload 7, 2) := by decide +kernel
theorem dX7_any_140 : decode cX7_any 140 = .ok (.astore_n 3, 1) := by decide +kernel
theorem dX7_any_141 : decode cX7_any 141 = .ok (.iinc 4 1, 3) := by decide +kernel
theorem dX7_any_144 : decode cX7_any 144 = .ok (.goto (-137), 3) := by decide +kernel
theorem dX7_any_147 : decode cX7_any 147 = .ok (.aload_n 3, 1) := by decide +kernel
theorem dX7_any_148 : decode cX7_any 148 = .ok (.aload_n 2, 1) := by decide +kernel
theorem dX7_any_149 : decode cX7_any 149 = .ok (.if_acmp .ne 7, 3) := by decide +kernel
theorem dX7_any_152 : decode cX7_any 152 = .ok (.aload_n 2, 1) := by decide +kernel
theorem dX7_any_153 : decode cX7_any 153 = .ok (.goto 8, 3) := by decide +kernel
theorem dX7_any_156 : decode cX7_any 156 = .ok (.iconst 5, 1) := by decide +kernel
theorem dX7_any_157 : decode cX7_any 157 = .ok (.aload_n 2, 1) := by decide +kernel
theorem dX7_any_158 : decode cX7_any 158 = .ok (.invokestatic 165, 3) := by decide +kernel
theorem dX7_any_161 : decode cX7_any 161 = .ok (.areturn, 1) := by decide +kernel
theorem dX7_one_0 : decode cX7_one 0 = .ok (.iconst 0, 1) := by decide +kernel
theorem dX7_one_1 : decode cX7_one 1 = .ok (.istore_n 2, 1) := by decide +kernel
theorem dX7_one_2 : decode cX7_one 2 = .ok (.iload_n 1, 1) := by decide +kernel
theorem dX7_one_3 : decode cX7_one 3 = .ok (.iload_n 2, 1) := by decide +kernel
theorem dX7_one_4 : decode cX7_one 4 = .ok (.iadd, 1) := by decide +kernel
theorem dX7_one_5 : decode cX7_one 5 = .ok (.bipush 9, 2) := by decide +kernel
theorem dX7_one_7 : decode cX7_one 7 = .ok (.if_icmp .ge 22, 3) := by decide +kernel
theorem dX7_one_10 : decode cX7_one 10 = .ok (.aload_n 0, 1) := by decide +kernel
theorem dX7_one_11 : decode cX7_one 11 = .ok (.getfield 9, 3) := by decide +kernel
theorem dX7_one_14 : decode cX7_one 14 = .ok (.getstatic 169, 3) := by decide +kernel
theorem dX7_one_17 : decode cX7_one 17 = .ok (.invokevirtual 31, 3) := by decide +kernel
theorem dX7_one_20 : decode cX7_one 20 = .ok (.ifCond .eq 9, 3) := by decide +kernel
theorem dX7_one_23 : decode cX7_one 23 = .ok (.iinc 2 1, 3) := by decide +kernel
theorem dX7_one_26 : decode cX7_one 26 = .ok (.goto (-24), 3) := by decide +kernel
theorem dX7_one_29 : decode cX7_one 29 = .ok (.iload_n 1, 1) := by decide +kernel
theorem dX7_one_30 : decode cX7_one 30 = .ok (.iload_n 2, 1) := by decide +kernel
theorem dX7_one_31 : decode cX7_one 31 = .ok (.iadd, 1) := by decide +kernel
theorem dX7_one_32 : decode cX7_one 32 = .ok (.istore_n 3, 1) := by decide +kernel
theorem dX7_one_33 : decode cX7_one 33 = .ok (.iload_n 3, 1) := by decide +kernel
theorem dX7_one_34 : decode cX7_one 34 = .ok (.bipush 9, 2) := by decide +kernel
theorem dX7_one_36 : decode cX7_one 36 = .ok (.if_icmp .lt 30, 3) := by decide +kernel
theorem dX7_one_39 : decode cX7_one 39 = .ok (.aload_n 0, 1) := by decide +kernel
theorem dX7_one_40 : decode cX7_one 40 = .ok (.getfield 9, 3) := by decide +kernel
theorem dX7_one_43 : decode cX7_one 43 = .ok (.getstatic 169, 3) := by decide +kernel
theorem dX7_one_46 : decode cX7_one 46 = .ok (.invokevirtual 172, 3) := by decide +kernel
theorem dX7_one_49 : decode cX7_one 49 = .ok (.ifCond .ne 15, 3) := by decide +kernel
theorem dX7_one_52 : decode cX7_one 52 = .ok (.aload_n 0, 1) := by decide +kernel
theorem dX7_one_53 : decode cX7_one 53 = .ok (.getfield 9, 3) := by decide +kernel
theorem dX7_one_56 : decode cX7_one 56 = .ok (.bipush 40, 2) := by decide +kernel
theorem dX7_one_58 : decode cX7_one 58 = .ok (.invokevirtual 175, 3) := by decide +kernel
theorem dX7_one_61 : decode cX7_one 61 = .ok (.ifCond .eq 5, 3) := by decide +kernel
theorem dX7_one_64 : decode cX7_one 64 = .ok (.aconst_null, 1) := by decide +kernel
theorem dX7_one_65 : decode cX7_one 65 = .ok (.areturn, 1) := by decide +kernel
theorem dX7_one_66 : decode cX7_one 66 = .ok (.aconst_null, 1) := by decide +kernel
theorem dX7_one_67 : decode cX7_one 67 = .ok (.astore 4, 2) := by decide +kernel
theorem dX7_one_69 : decode cX7_one 69 = .ok (.aload_n 0, 1) := by decide +kernel
theorem dX7_one_70 : decode cX7_one 70 = .ok (.getfield 9, 3) := by decide +kernel
theorem dX7_one_73 : decode cX7_one 73 = .ok (.bipush 40, 2) := by decide +kernel
theorem dX7_one_75 : decode cX7_one 75 = .ok (.invokevirtual 66, 3) := by decide +kernel
theorem dX7_one_78 : decode cX7_one 78 = .ok (.ifCond .ne 32, 3) := by decide +kernel
theorem dX7_one_81 : decode cX7_one 81 = .ok (.aload_n 0, 1) := by decide +kernel
theorem dX7_one_82 : decode cX7_one 82 = .ok (.getfield 9, 3) := by decide +kernel
theorem dX7_one_85 : decode cX7_one 85 = .ok (.getstatic 177, 3) := by decide +kernel
theorem dX7_one_88 : decode cX7_one 88 = .ok (.invokevirtual 31, 3) := by decide +kernel
theorem dX7_one_91 : decode cX7_one 91 = .ok (.ifCond .eq 10, 3) := by decide +kernel
theorem dX7_one_94 : decode cX7_one 94 = .ok (.aload_n 0, 1) := by decide +kernel
theorem dX7_one_95 : decode cX7_one 95 = .ok (.invokevirtual 180, 3) := by decide +kernel
theorem dX7_one_98 : decode cX7_one 98 = .ok (.goto 7, 3) := by decide +kernel
theorem dX7_one_101 : decode cX7_one 101 = .ok (.aload_n 0, 1) := by decide +kernel
theorem dX7_one_102 : decode cX7_one 102 = .ok (.invokevirtual 184, 3) := by decide +kernel
theorem dX7_one_105 : decode cX7_one 105 = .ok (.astore 4, 2) := by decide +kernel
theorem dX7_one_107 : decode cX7_one 107 = .ok (.goto 37, 3) := by decide +kernel
theorem dX7_one_110 : decode cX7_one 110 = .ok (.aload_n 0, 1) := by decide +kernel
theorem dX7_one_111 : decode cX7_one 111 = .ok (.iload_n 3, 1) := by decide +kernel
theorem dX7_one_112 : decode cX7_one 112 = .ok (.iconst 1, 1) := by decide +kernel
theorem dX7_one_113 : decode cX7_one 113 = .ok (.iadd, 1) := by decide +kernel
theorem dX7_one_114 : decode cX7_one 114 = .ok (.invokevirtual 131, 3) := by decide +kernel
theorem dX7_one_117 : decode cX7_one 117 = .ok (.astore 5, 2) := by decide +kernel
theorem dX7_one_119 : decode cX7_one 119 = .ok (.aload 5, 2) := by decide +kernel
theorem dX7_one_121 : decode cX7_one 121 = .ok (.ifnull 20, 3) := by decide +kernel
theorem dX7_one_124 : decode cX7_one 124 = .ok (.aload_n 0, 1) := by decide +kernel
theorem dX7_one_125 : decode cX7_one 125 = .ok (.getfield 9, 3) := by decide +kernel
theorem dX7_one_128 : decode cX7_one 128 = .ok (.bipush 41, 2) := by decide +kernel
theorem dX7_one_130 : decode cX7_one 130 = .ok (.invokevirtual 66, 3) := by decide +kernel
theorem dX7_one_133 : decode cX7_one 133 = .ok (.ifCond .eq 8, 3) := by decide +kernel
theorem dX7_one_136 : decode cX7_one 136 = .ok (.aload 5, 2) := by decide +kernel
theorem dX7_one_138 : decode cX7_one 138 = .ok (.goto 4, 3) := by decide +kernel
theorem dX7_one_141 : decode cX7_one 141 = .ok (.aconst_null, 1) := by decide +kernel
theorem dX7_one_142 : decode cX7_one 142 = .ok (.astore 4, 2) := by decide +kernel
theorem dX7_one_144 : decode cX7_one 144 = .ok (.aload 4, 2) := by decide +kernel
theorem dX7_one_146 : decode cX7_one 146 = .ok (.ifnull 18, 3) := by decide +kernel
theorem dX7_one_149 : decode cX7_one 149 = .ok (.iload_n 2, 1) := by decide +kernel
theorem dX7_one_150 : decode cX7_one 150 = .ok (.iconst 2, 1) := by decide +kernel
theorem dX7_one_151 : decode cX7_one 151 = .ok (.irem, 1) := by decide +kernel
theorem dX7_one_152 : decode cX7_one 152 = .ok (.ifCond .eq 12, 3) := by decide +kernel
theorem dX7_one_155 : decode cX7_one 155 = .ok (.iconst 3, 1) := by decide +kernel
theorem dX7_one_156 : decode cX7_one 156 = .ok (.aload 4, 2) := by decide +kernel
theorem dX7_one_158 : decode cX7_one 158 = .ok (.invokestatic 165, 3) := by decide +kernel
theorem dX7_one_161 : decode cX7_one 161 = .ok (.goto 5, 3) := by decide +kernel
theorem dX7_one_164 : decode cX7_one 164 = .ok (.aload 4, 2) := by decide +kernel
theorem dX7_one_166 : decode cX7_one 166 = .ok (.areturn, 1) := by decide +kernel
theorem dX7_least_0 : decode cX7_least 0 = .ok (.aload_n 0, 1) := by decide +kernel
theorem dX7_least_1 : decode cX7_least 1 = .ok (.getfield 9, 3) := by decide +kernel
theorem dX7_least_4 : decode cX7_least 4 = .ok (.iconst 0, 1) := by decide +kernel
theorem dX7_least_5 : decode cX7_least 5 = .ok (.bipush 9, 2) := by decide +kernel
theorem dX7_least_7 : decode cX7_least 7 = .ok (.invokevirtual 89, 3) := by decide +kernel
theorem dX7_least_10 : decode cX7_least 10 = .ok (.istore_n 1, 1) := by decide +kernel
theorem dX7_least_11 : decode cX7_least 11 = .ok (.iload_n 1, 1) := by decide +kernel
theorem dX7_least_12 : decode cX7_least 12 = .ok (.ifCond .lt 29, 3) := by decide +kernel
theorem dX7_least_15 : decode cX7_least 15 = .ok (.aload_n 0, 1) := by decide +kernel
theorem dX7_least_16 : decode cX7_least 16 = .ok (.getfield 9, 3) := by decide +kernel
theorem dX7_least_19 : decode cX7_least 19 = .ok (.getstatic 187, 3) := by decide +kernel
theorem dX7_least_22 : decode cX7_least 22 = .ok (.invokevirtual 31, 3) := by decide +kernel
theorem dX7_least_25 : decode cX7_least 25 = .ok (.ifCond .eq 16, 3) := by decide +kernel
theorem dX7_least_28 : decode cX7_least 28 = .ok (.aload_n 0, 1) := by decide +kernel
theorem dX7_least_29 : decode cX7_least 29 = .ok (.getfield 9, 3) := by decide +kernel
theorem dX7_least_32 : decode cX7_least 32 = .ok (.iconst 0, 1) := by decide +kernel
theorem dX7_least_33 : decode cX7_least 33 = .ok (.bipush 7, 2) := by decide +kernel
theorem dX7_least_35 : decode cX7_least 35 = .ok (.invokevirtual 89, 3) := by decide +kernel
theorem dX7_least_38 : decode cX7_least 38 = .ok (.goto 4, 3) := by decide +kernel
theorem dX7_least_41 : decode cX7_least 41 = .ok (.iconst (-1), 1) := by decide +kernel
theorem dX7_least_42 : decode cX7_least 42 = .ok (.istore_n 2, 1) := by decide +kernel
theorem dX7_least_43 : decode cX7_least 43 = .ok (.iload_n 2, 1) := by decide +kernel
theorem dX7_least_44 : decode cX7_least 44 = .ok (.ifCond .ge 7, 3) := by decide +kernel
theorem dX7_least_47 : decode cX7_least 47 = .ok (.aconst_null, 1) := by decide +kernel
theorem dX7_least_48 : decode cX7_least 48 = .ok (.goto 9, 3) := by decide +kernel
theorem dX7_least_51 : decode cX7_least 51 = .ok (.iconst 2, 1) := by decide +kernel
theorem dX7_least_52 : decode cX7_least 52 = .ok (.iload_n 1, 1) := by decide +kernel
theorem dX7_least_53 : decode cX7_least 53 = .ok (.iload_n 2, 1) := by decide +kernel
theorem dX7_least_54 : decode cX7_least 54 = .ok (.invokestatic 190, 3) := by decide +kernel
theorem dX7_least_57 : decode cX7_least 57 = .ok (.areturn, 1) := by decide +kernel
theorem dX7_ofThing_0 : decode cX7_ofThing 0 = .ok (.aload_n 0, 1) := by decide +kernel
theorem dX7_ofThing_1 : decode cX7_ofThing 1 = .ok (.getfield 9, 3) := by decide +kernel
theorem dX7_ofThing_4 : decode cX7_ofThing 4 = .ok (.aload_n 0, 1) := by decide +kernel
theorem dX7_ofThing_5 : decode cX7_ofThing 5 = .ok (.getfield 15, 3) := by decide +kernel
theorem dX7_ofThing_8 : decode cX7_ofThing 8 = .ok (.getfield 107, 3) := by decide +kernel
theorem dX7_ofThing_11 : decode cX7_ofThing 11 = .ok (.aload_n 0, 1) := by decide +kernel
theorem dX7_ofThing_12 : decode cX7_ofThing 12 = .ok (.getfield 15, 3) := by decide +kernel
theorem dX7_ofThing_15 : decode cX7_ofThing 15 = .ok (.getfield 80, 3) := by decide +kernel
theorem dX7_ofThing_18 : decode cX7_ofThing 18 = .ok (.iconst (-1), 1) := by decide +kernel
theorem dX7_ofThing_19 : decode cX7_ofThing 19 = .ok (.invokevirtual 111, 3) := by decide +kernel
theorem dX7_ofThing_22 : decode cX7_ofThing 22 = .ok (.istore_n 1, 1) := by decide +kernel
theorem dX7_ofThing_23 : decode cX7_ofThing 23 = .ok (.iload_n 1, 1) := by decide +kernel
theorem dX7_ofThing_24 : decode cX7_ofThing 24 = .ok (.ifCond .ge 5, 3) := by decide +kernel
theorem dX7_ofThing_27 : decode cX7_ofThing 27 = .ok (.aconst_null, 1) := by decide +kernel
theorem dX7_ofThing_28 : decode cX7_ofThing 28 = .ok (.areturn, 1) := by decide +kernel
theorem dX7_ofThing_29 : decode cX7_ofThing 29 = .ok (.aload_n 0, 1) := by decide +kernel
theorem dX7_ofThing_30 : decode cX7_ofThing 30 = .ok (.getfield 9, 3) := by decide +kernel
theorem dX7_ofThing_33 : decode cX7_ofThing 33 = .ok (.getstatic 194, 3) := by decide +kernel
theorem dX7_ofThing_36 : decode cX7_ofThing 36 = .ok (.invokevirtual 31, 3) := by decide +kernel
theorem dX7_ofThing_39 : decode cX7_ofThing 39 = .ok (.ifCond .eq 11, 3) := by decide +kernel
theorem dX7_ofThing_42 : decode cX7_ofThing 42 = .ok (.iconst 0, 1) := by decide +kernel
theorem dX7_ofThing_43 : decode cX7_ofThing 43 = .ok (.iload_n 1, 1) := by decide +kernel
theorem dX7_ofThing_44 : decode cX7_ofThing 44 = .ok (.bipush 7, 2) := by decide +kernel
theorem dX7_ofThing_46 : decode cX7_ofThing 46 = .ok (.invokestatic 190, 3) := by decide +kernel
theorem dX7_ofThing_49 : decode cX7_ofThing 49 = .ok (.areturn, 1) := by decide +kernel
theorem dX7_ofThing_50 : decode cX7_ofThing 50 = .ok (.aload_n 0, 1) := by decide +kernel
theorem dX7_ofThing_51 : decode cX7_ofThing 51 = .ok (.getfield 9, 3) := by decide +kernel
theorem dX7_ofThing_54 : decode cX7_ofThing 54 = .ok (.getstatic 187, 3) := by decide +kernel
theorem dX7_ofThing_57 : decode cX7_ofThing 57 = .ok (.invokevirtual 31, 3) := by decide +kernel
theorem dX7_ofThing_60 : decode cX7_ofThing 60 = .ok (.ifCond .eq 29, 3) := by decide +kernel
theorem dX7_ofThing_63 : decode cX7_ofThing 63 = .ok (.aload_n 0, 1) := by decide +kernel
theorem dX7_ofThing_64 : decode cX7_ofThing 64 = .ok (.getfield 9, 3) := by decide +kernel
theorem dX7_ofThing_67 : decode cX7_ofThing 67 = .ok (.iconst 0, 1) := by decide +kernel
theorem dX7_ofThing_68 : decode cX7_ofThing 68 = .ok (.bipush 7, 2) := by decide +kernel
theorem dX7_ofThing_70 : decode cX7_ofThing 70 = .ok (.invokevirtual 89, 3) := by decide +kernel
theorem dX7_ofThing_73 : decode cX7_ofThing 73 = .ok (.istore_n 2, 1) := by decide +kernel
theorem dX7_ofThing_74 : decode cX7_ofThing 74 = .ok (.iload_n 2, 1) := by decide +kernel
theorem dX7_ofThing_75 : decode cX7_ofThing 75 = .ok (.ifCond .ge 7, 3) := by decide +kernel
theorem dX7_ofThing_78 : decode cX7_ofThing 78 = .ok (.aconst_null, 1) := by decide +kernel
theorem dX7_ofThing_79 : decode cX7_ofThing 79 = .ok (.goto 9, 3) := by decide +kernel
theorem dX7_ofThing_82 : decode cX7_ofThing 82 = .ok (.iconst 0, 1) := by decide +kernel
theorem dX7_ofThing_83 : decode cX7_ofThing 83 = .ok (.iload_n 1, 1) := by decide +kernel
theorem dX7_ofThing_84 : decode cX7_ofThing 84 = .ok (.iload_n 2, 1) := by decide +kernel
theorem dX7_ofThing_85 : decode cX7_ofThing 85 = .ok (.invokestatic 190, 3) := by decide +kernel
theorem dX7_ofThing_88 : decode cX7_ofThing 88 = .ok (.areturn, 1) := by decide +kernel
theorem dX7_ofThing_89 : decode cX7_ofThing 89 = .ok (.aload_n 0, 1) := by decide +kernel
theorem dX7_ofThing_90 : decode cX7_ofThing 90 = .ok (.getfield 9, 3) := by decide +kernel
theorem dX7_ofThing_93 : decode cX7_ofThing 93 = .ok (.getstatic 197, 3) := by decide +kernel
theorem dX7_ofThing_96 : decode cX7_ofThing 96 = .ok (.invokevirtual 31, 3) := by decide +kernel
theorem dX7_ofThing_99 : decode cX7_ofThing 99 = .ok (.ifCond .eq 28, 3) := by decide +kernel
theorem dX7_ofThing_102 : decode cX7_ofThing 102 = .ok (.aload_n 0, 1) := by decide +kernel
theorem dX7_ofThing_103 : decode cX7_ofThing 103 = .ok (.getfield 9, 3) := by decide +kernel
theorem dX7_ofThing_106 : decode cX7_ofThing 106 = .ok (.aload_n 0, 1) := by decide +kernel
theorem dX7_ofThing_107 : decode cX7_ofThing 107 = .ok (.getfield 15, 3) := by decide +kernel
theorem dX7_ofThing_110 : decode cX7_ofThing 110 = .ok (.getfield 107, 3) := by decide +kernel
theorem dX7_ofThing_113 : decode cX7_ofThing 113 = .ok (.aload_n 0, 1) := by decide +kernel
theorem dX7_ofThing_114 : decode cX7_ofThing 114 = .ok (.getfield 15, 3) := by decide +kernel
theorem dX7_ofThing_117 : decode cX7_ofThing 117 = .ok (.getfield 80, 3) := by decide +kernel
theorem dX7_ofThing_120 : decode cX7_ofThing 120 = .ok (.iload_n 1, 1) := by decide +kernel
theorem dX7_ofThing_121 : decode cX7_ofThing 121 = .ok (.invokevirtual 111, 3) := by decide +kernel
theorem dX7_ofThing_124 : decode cX7_ofThing 124 = .ok (.goto 4, 3) := by decide +kernel
theorem dX7_ofThing_127 : decode cX7_ofThing 127 = .ok (.iconst (-1), 1) := by decide +kernel
theorem dX7_ofThing_128 : decode cX7_ofThing 128 = .ok (.istore_n 2, 1) := by decide +kernel
theorem dX7_ofThing_129 : decode cX7_ofThing 129 = .ok (.iload_n 2, 1) := by decide +kernel
theorem dX7_ofThing_130 : decode cX7_ofThing 130 = .ok (.ifCond .ge 7, 3) := by decide +kernel
theorem dX7_ofThing_133 : decode cX7_ofThing 133 = .ok (.aconst_null, 1) := by decide +kernel
theorem dX7_ofThing_134 : decode cX7_ofThing 134 = .ok (.goto 9, 3) := by decide +kernel
theorem dX7_ofThing_137 : decode cX7_ofThing 137 = .ok (.iconst 1, 1) := by decide +kernel
theorem dX7_ofThing_138 : decode cX7_ofThing 138 = .ok (.iload_n 1, 1) := by decide +kernel
theorem dX7_ofThing_139 : decode cX7_ofThing 139 = .ok (.iload_n 2, 1) := by decide +kernel
theorem dX7_ofThing_140 : decode cX7_ofThing 140 = .ok (.invokestatic 190, 3) := by decide +kernel
theorem dX7_ofThing_143 : decode cX7_ofThing 143 = .ok (.areturn, 1) := by decide +kernel
theorem dX8_init_0 : decode cX8_init 0 = .ok (.aload_n 0, 1) := by decide +kernel
theorem dX8_init_1 : decode cX8_init 1 = .ok (.invokespecial 3, 3) := by decide +kernel
theorem dX8_init_4 : decode cX8_init 4 = .ok (.aload_n 0, 1) := by decide +kernel
theorem dX8_init_5 : decode cX8_init 5 = .ok (.sipush 1201, 3) := by decide +kernel
theorem dX8_init_8 : decode cX8_init 8 = .ok (.newarray .int, 2) := by decide +kernel
theorem dX8_init_10 : decode cX8_init 10 = .ok (.putfield 9, 3) := by decide +kernel
theorem dX8_init_13 : decode cX8_init 13 = .ok (.aload_n 0, 1) := by decide +kernel
theorem dX8_init_14 : decode cX8_init 14 = .ok (.sipush 1201, 3) := by decide +kernel
theorem dX8_init_17 : decode cX8_init 17 = .ok (.newarray .int, 2) := by decide +kernel
theorem dX8_init_19 : decode cX8_init 19 = .ok (.putfield 15, 3) := by decide +kernel
theorem dX8_init_22 : decode cX8_init 22 = .ok (.aload_n 0, 1) := by decide +kernel
theorem dX8_init_23 : decode cX8_init 23 = .ok (.sipush 1201, 3) := by decide +kernel
theorem dX8_init_26 : decode cX8_init 26 = .ok (.newarray .long, 2) := by decide +kernel
theorem dX8_init_28 : decode cX8_init 28 = .ok (.putfield 18, 3) := by decide +kernel
theorem dX8_init_31 : decode cX8_init 31 = .ok (.return_, 1) := by decide +kernel
theorem dX8_read_0 : decode cX8_read 0 = .ok (.aload_n 0, 1) := by decide +kernel
theorem dX8_read_1 : decode cX8_read 1 = .ok (.iconst 0, 1) := by decide +kernel
theorem dX8_read_2 : decode cX8_read 2 = .ok (.putfield 22, 3) := by decide +kernel
theorem dX8_read_5 : decode cX8_read 5 = .ok (.iconst 0, 1) := by decide +kernel
theorem dX8_read_6 : decode cX8_read 6 = .ok (.istore_n 3, 1) := by decide +kernel
theorem dX8_read_7 : decode cX8_read 7 = .ok (.iconst 1, 1) := by decide +kernel
theorem dX8_read_8 : decode cX8_read 8 = .ok (.istore 4, 2) := by decide +kernel
theorem dX8_read_10 : decode cX8_read 10 = .ok (.iconst 0, 1) := by decide +kernel
theorem dX8_read_11 : decode cX8_read 11 = .ok (.istore 5, 2) := by decide +kernel
theorem dX8_read_13 : decode cX8_read 13 = .ok (.iconst 0, 1) := by decide +kernel
theorem dX8_read_14 : decode cX8_read 14 = .ok (.istore 6, 2) := by decide +kernel
theorem dX8_read_16 : decode cX8_read 16 = .ok (.iload 6, 2) := by decide +kernel
theorem dX8_read_18 : decode cX8_read 18 = .ok (.iload_n 2, 1) := by decide +kernel
theorem dX8_read_19 : decode cX8_read 19 = .ok (.if_icmp .ge 129, 3) := by decide +kernel
theorem dX8_read_22 : decode cX8_read 22 = .ok (.iload 6, 2) := by decide +kernel
theorem dX8_read_24 : decode cX8_read 24 = .ok (.aload_n 1, 1) := by decide +kernel
theorem dX8_read_25 : decode cX8_read 25 = .ok (.arraylength, 1) := by decide +kernel
theorem dX8_read_26 : decode cX8_read 26 = .ok (.if_icmp .ge 122, 3) := by decide +kernel
theorem dX8_read_29 : decode cX8_read 29 = .ok (.aload_n 1, 1) := by decide +kernel
theorem dX8_read_30 : decode cX8_read 30 = .ok (.iload 6, 2) := by decide +kernel
theorem dX8_read_32 : decode cX8_read 32 = .ok (.baload, 1) := by decide +kernel
theorem dX8_read_33 : decode cX8_read 33 = .ok (.sipush 255, 3) := by decide +kernel
theorem dX8_read_36 : decode cX8_read 36 = .ok (.iand, 1) := by decide +kernel
theorem dX8_read_37 : decode cX8_read 37 = .ok (.istore 7, 2) := by decide +kernel
theorem dX8_read_39 : decode cX8_read 39 = .ok (.iload 4, 2) := by decide +kernel
theorem dX8_read_41 : decode cX8_read 41 = .ok (.istore 8, 2) := by decide +kernel
theorem dX8_read_43 : decode cX8_read 43 = .ok (.iload 7, 2) := by decide +kernel
theorem dX8_read_45 : decode cX8_read 45 = .ok (.invokestatic 26, 3) := by decide +kernel
theorem dX8_read_48 : decode cX8_read 48 = .ok (.istore 4, 2) := by decide +kernel
theorem dX8_read_50 : decode cX8_read 50 = .ok (.iload 4, 2) := by decide +kernel
theorem dX8_read_52 : decode cX8_read 52 = .ok (.iconst 2, 1) := by decide +kernel
theorem dX8_read_53 : decode cX8_read 53 = .ok (.if_icmp .eq 9, 3) := by decide +kernel
theorem dX8_read_56 : decode cX8_read 56 = .ok (.iload 4, 2) := by decide +kernel
theorem dX8_read_58 : decode cX8_read 58 = .ok (.iconst 3, 1) := by decide +kernel
theorem dX8_read_59 : decode cX8_read 59 = .ok (.if_icmp .ne 7, 3) := by decide +kernel
theorem dX8_read_62 : decode cX8_read 62 = .ok (.iconst 1, 1) := by decide +kernel
theorem dX8_read_63 : decode cX8_read 63 = .ok (.goto 4, 3) := by decide +kernel
theorem dX8_read_66 : decode cX8_read 66 = .ok (.iconst 0, 1) := by decide +kernel
theorem dX8_read_67 : decode cX8_read 67 = .ok (.istore 9, 2) := by decide +kernel
theorem dX8_read_69 : decode cX8_read 69 = .ok (.iload 9, 2) := by decide +kernel
theorem dX8_read_71 : decode cX8_read 71 = .ok (.ifCond .eq 14, 3) := by decide +kernel
theorem dX8_read_74 : decode cX8_read 74 = .ok (.iload 4, 2) := by decide +kernel
theorem dX8_read_76 : decode cX8_read 76 = .ok (.iload 8, 2) := by decide +kernel
theorem dX8_read_78 : decode cX8_read 78 = .ok (.if_icmp .ne 7, 3) := by decide +kernel
theorem dX8_read_81 : decode cX8_read 81 = .ok (.iconst 1, 1) := by decide +kernel
theorem dX8_read_82 : decode cX8_read 82 = .ok (.goto 4, 3) := by decide +kernel
theorem dX8_read_85 : decode cX8_read 85 = .ok (.iconst 0, 1) := by decide +kernel
theorem dX8_read_86 : decode cX8_read 86 = .ok (.istore 10, 2) := by decide +kernel
theorem dX8_read_88 : decode cX8_read 88 = .ok (.iload 10, 2) := by decide +kernel
theorem dX8_read_90 : decode cX8_read 90 = .ok (.ifCond .eq 10, 3) := by decide +kernel
theorem dX8_read_93 : decode cX8_read 93 = .ok (.iload 5, 2) := by decide +kernel
theorem dX8_read_95 : decode cX8_read 95 = .ok (.iconst 1, 1) := by decide +kernel
theorem dX8_read_96 : decode cX8_read 96 = .ok (.iadd, 1) := by decide +kernel
theorem dX8_read_97 : decode cX8_read 97 = .ok (.goto 4, 3) := by decide +kernel
theorem dX8_read_100 : decode cX8_read 100 = .ok (.iconst 1, 1) := by decide +kernel
theorem dX8_read_101 : decode cX8_read 101 = .ok (.istore 5, 2) := by decide +kernel
theorem dX8_read_103 : decode cX8_read 103 = .ok (.iload 4, 2) := by decide +kernel
theorem dX8_read_105 : decode cX8_read 105 = .ok (.iconst 1, 1) := by decide +kernel
theorem dX8_read_106 : decode cX8_read 106 = .ok (.if_icmp .eq 20, 3) := by decide +kernel
theorem dX8_read_109 : decode cX8_read 109 = .ok (.iload 10, 2) := by decide +kernel
theorem dX8_read_111 : decode cX8_read 111 = .ok (.ifCond .ne 15, 3) := by decide +kernel
theorem dX8_read_114 : decode cX8_read 114 = .ok (.aload_n 0, 1) := by decide +kernel
theorem dX8_read_115 : decode cX8_read 115 = .ok (.iload_n 3, 1) := by decide +kernel
theorem dX8_read_116 : decode cX8_read 116 = .ok (.iload 4, 2) := by decide +kernel
theorem dX8_read_118 : decode cX8_read 118 = .ok (.iload 6, 2) := by decide +kernel
theorem dX8_read_120 : decode cX8_read 120 = .ok (.invokevirtual 30, 3) := by decide +kernel
theorem dX8_read_123 : decode cX8_read 123 = .ok (.iinc 3 1, 3) := by decide +kernel
theorem dX8_read_126 : decode cX8_read 126 = .ok (.iload 9, 2) := by decide +kernel
theorem dX8_read_128 : decode cX8_read 128 = .ok (.ifCond .eq 14, 3) := by decide +kernel
theorem dX8_read_131 : decode cX8_read 131 = .ok (.aload_n 0, 1) := by decide +kernel
theorem dX8_read_132 : decode cX8_read 132 = .ok (.iload_n 3, 1) := by decide +kernel
theorem dX8_read_133 : decode cX8_read 133 = .ok (.iconst 1, 1) := by decide +kernel
theorem dX8_read_134 : decode cX8_read 134 = .ok (.isub, 1) := by decide +kernel
theorem dX8_read_135 : decode cX8_read 135 = .ok (.iload 7, 2) := by decide +kernel
theorem dX8_read_137 : decode cX8_read 137 = .ok (.iload 5, 2) := by decide +kernel
theorem dX8_read_139 : decode cX8_read 139 = .ok (.invokevirtual 34, 3) := by decide +kernel
theorem dX8_read_142 : decode cX8_read 142 = .ok (.iinc 6 1, 3) := by decide +kernel
theorem dX8_read_145 : decode cX8_read 145 = .ok (.goto (-129), 3) := by decide +kernel
theorem dX8_read_148 : decode cX8_read 148 = .ok (.aload_n 0, 1) := by decide +kernel
theorem dX8_read_149 : decode cX8_read 149 = .ok (.iload_n 3, 1) := by decide +kernel
theorem dX8_read_150 : decode cX8_read 150 = .ok (.iconst 0, 1) := by decide +kernel
theorem dX8_read_151 : decode cX8_read 151 = .ok (.iload_n 2, 1) := by decide +kernel
theorem dX8_read_152 : decode cX8_read 152 = .ok (.invokevirtual 30, 3) := by decide +kernel
theorem dX8_read_155 : decode cX8_read 155 = .ok (.return_, 1) := by decide +kernel
theorem dX8_atEnd_0 : decode cX8_atEnd 0 = .ok (.aload_n 0, 1) := by decide +kernel
theorem dX8_atEnd_1 : decode cX8_atEnd 1 = .ok (.getfield 9, 3) := by decide +kernel
theorem dX8_atEnd_4 : decode cX8_atEnd 4 = .ok (.aload_n 0, 1) := by decide +kernel
theorem dX8_atEnd_5 : decode cX8_atEnd 5 = .ok (.getfield 22, 3) := by decide +kernel
theorem dX8_atEnd_8 : decode cX8_atEnd 8 = .ok (.invokestatic 37, 3) := by decide +kernel
theorem dX8_atEnd_11 : decode cX8_atEnd 11 = .ok (.ifCond .ne 7, 3) := by decide +kernel
theorem dX8_atEnd_14 : decode cX8_atEnd 14 = .ok (.iconst 1, 1) := by decide +kernel
theorem dX8_atEnd_15 : decode cX8_atEnd 15 = .ok (.goto 4, 3) := by decide +kernel
theorem dX8_atEnd_18 : decode cX8_atEnd 18 = .ok (.iconst 0, 1) := by decide +kernel
theorem dX8_atEnd_19 : decode cX8_atEnd 19 = .ok (.ireturn, 1) := by decide +kernel
theorem dX8_nextStart_0 : decode cX8_nextStart 0 = .ok (.aload_n 0, 1) := by decide +kernel
theorem dX8_nextStart_1 : decode cX8_nextStart 1 = .ok (.getfield 15, 3) := by decide +kernel
theorem dX8_nextStart_4 : decode cX8_nextStart 4 = .ok (.aload_n 0, 1) := by decide +kernel
theorem dX8_nextStart_5 : decode cX8_nextStart 5 = .ok (.getfield 22, 3) := by decide +kernel
theorem dX8_nextStart_8 : decode cX8_nextStart 8 = .ok (.invokestatic 37, 3) := by decide +kernel
theorem dX8_nextStart_11 : decode cX8_nextStart 11 = .ok (.ireturn, 1) := by decide +kernel
theorem dX8_isNext_0 : decode cX8_isNext 0 = .ok (.aload_n 0, 1) := by decide +kernel
theorem dX8_isNext_1 : decode cX8_isNext 1 = .ok (.getfield 9, 3) := by decide +kernel
theorem dX8_isNext_4 : decode cX8_isNext 4 = .ok (.aload_n 0, 1) := by decide +kernel
theorem dX8_isNext_5 : decode cX8_isNext 5 = .ok (.getfield 22, 3) := by decide +kernel
theorem dX8_isNext_8 : decode cX8_isNext 8 = .ok (.invokestatic 37, 3) := by decide +kernel
theorem dX8_isNext_11 : decode cX8_isNext 11 = .ok (.iconst 2, 1) := by decide +kernel
theorem dX8_isNext_12 : decode cX8_isNext 12 = .ok (.if_icmp .ne 26, 3) := by decide +kernel
theorem dX8_isNext_15 : decode cX8_isNext 15 = .ok (.aload_n 0, 1) := by decide +kernel
theorem dX8_isNext_16 : decode cX8_isNext 16 = .ok (.getfield 18, 3) := by decide +kernel
theorem dX8_isNext_19 : decode cX8_isNext 19 = .ok (.aload_n 0, 1) := by decide +kernel
theorem dX8_isNext_20 : decode cX8_isNext 20 = .ok (.getfield 22, 3) := by decide +kernel
theorem dX8_isNext_23 : decode cX8_isNext 23 = .ok (.invokestatic 41, 3) := by decide +kernel
theorem dX8_isNext_26 : decode cX8_isNext 26 = .ok (.aload_n 1, 1) := by decide +kernel
theorem dX8_isNext_27 : decode cX8_isNext 27 = .ok (.getfield 44, 3) := by decide +kernel
theorem dX8_isNext_30 : decode cX8_isNext 30 = .ok (.lcmp, 1) := by decide +kernel
theorem dX8_isNext_31 : decode cX8_isNext 31 = .ok (.ifCond .ne 7, 3) := by decide +kernel
theorem dX8_isNext_34 : decode cX8_isNext 34 = .ok (.iconst 1, 1) := by decide +kernel
theorem dX8_isNext_35 : decode cX8_isNext 35 = .ok (.goto 4, 3) := by decide +kernel
theorem dX8_isNext_38 : decode cX8_isNext 38 = .ok (.iconst 0, 1) := by decide +kernel
theorem dX8_isNext_39 : decode cX8_isNext 39 = .ok (.ireturn, 1) := by decide +kernel
theorem dX8_isNext__0 : decode cX8_isNext_ 0 = .ok (.aload_n 0, 1) := by decide +kernel
theorem dX8_isNext__1 : decode cX8_isNext_ 1 = .ok (.getfield 9, 3) := by decide +kernel
theorem dX8_isNext__4 : decode cX8_isNext_ 4 = .ok (.aload_n 0, 1) := by decide +kernel
theorem dX8_isNext__5 : decode cX8_isNext_ 5 = .ok (.getfield 22, 3) := by decide +kernel
theorem dX8_isNext__8 : decode cX8_isNext_ 8 = .ok (.invokestatic 37, 3) := by decide +kernel
theorem dX8_isNext__11 : decode cX8_isNext_ 11 = .ok (.iload_n 1, 1) := by decide +kernel
theorem dX8_isNext__12 : decode cX8_isNext_ 12 = .ok (.if_icmp .ne 7, 3) := by decide +kernel
theorem dX8_isNext__15 : decode cX8_isNext_ 15 = .ok (.iconst 1, 1) := by decide +kernel
theorem dX8_isNext__16 : decode cX8_isNext_ 16 = .ok (.goto 4, 3) := by decide +kernel
theorem dX8_isNext__19 : decode cX8_isNext_ 19 = .ok (.iconst 0, 1) := by decide +kernel
theorem dX8_isNext__20 : decode cX8_isNext_ 20 = .ok (.ireturn, 1) := by decide +kernel
theorem dX8_take_0 : decode cX8_take 0 = .ok (.aload_n 0, 1) := by decide +kernel
theorem dX8_take_1 : decode cX8_take 1 = .ok (.getfield 9, 3) := by decide +kernel
theorem dX8_take_4 : decode cX8_take 4 = .ok (.aload_n 0, 1) := by decide +kernel
theorem dX8_take_5 : decode cX8_take 5 = .ok (.getfield 22, 3) := by decide +kernel
theorem dX8_take_8 : decode cX8_take 8 = .ok (.invokestatic 37, 3) := by decide +kernel
theorem dX8_take_11 : decode cX8_take 11 = .ok (.iconst 2, 1) := by decide +kernel
theorem dX8_take_12 : decode cX8_take 12 = .ok (.if_icmp .ne 26, 3) := by decide +kernel
theorem dX8_take_15 : decode cX8_take 15 = .ok (.aload_n 0, 1) := by decide +kernel
theorem dX8_take_16 : decode cX8_take 16 = .ok (.getfield 18, 3) := by decide +kernel
theorem dX8_take_19 : decode cX8_take 19 = .ok (.aload_n 0, 1) := by decide +kernel
theorem dX8_take_20 : decode cX8_take 20 = .ok (.getfield 22, 3) := by decide +kernel
theorem dX8_take_23 : decode cX8_take 23 = .ok (.invokestatic 41, 3) := by decide +kernel
theorem dX8_take_26 : decode cX8_take 26 = .ok (.aload_n 1, 1) := by decide +kernel
theorem dX8_take_27 : decode cX8_take 27 = .ok (.getfield 44, 3) := by decide +kernel
theorem dX8_take_30 : decode cX8_take 30 = .ok (.lcmp, 1) := by decide +kernel
theorem dX8_take_31 : decode cX8_take 31 = .ok (.ifCond .ne 7, 3) := by decide +kernel
theorem dX8_take_34 : decode cX8_take 34 = .ok (.iconst 1, 1) := by decide +kernel
theorem dX8_take_35 : decode cX8_take 35 = .ok (.goto 4, 3) := by decide +kernel
theorem dX8_take_38 : decode cX8_take 38 = .ok (.iconst 0, 1) := by decide +kernel
theorem dX8_take_39 : decode cX8_take 39 = .ok (.istore_n 2, 1) := by decide +kernel
theorem dX8_take_40 : decode cX8_take 40 = .ok (.aload_n 0, 1) := by decide +kernel
theorem dX8_take_41 : decode cX8_take 41 = .ok (.dup, 1) := by decide +kernel
theorem dX8_take_42 : decode cX8_take 42 = .ok (.getfield 22, 3) := by decide +kernel
theorem dX8_take_45 : decode cX8_take 45 = .ok (.iload_n 2, 1) := by decide +kernel
theorem dX8_take_46 : decode cX8_take 46 = .ok (.ifCond .eq 7, 3) := by decide +kernel
theorem dX8_take_49 : decode cX8_take 49 = .ok (.iconst 1, 1) := by decide +kernel
theorem dX8_take_50 : decode cX8_take 50 = .ok (.goto 4, 3) := by decide +kernel
theorem dX8_take_53 : decode cX8_take 53 = .ok (.iconst 0, 1) := by decide +kernel
theorem dX8_take_54 : decode cX8_take 54 = .ok (.iadd, 1) := by decide +kernel
theorem dX8_take_55 : decode cX8_take 55 = .ok (.putfield 22, 3) := by decide +kernel
theorem dX8_take_58 : decode cX8_take 58 = .ok (.iload_n 2, 1) := by decide +kernel
theorem dX8_take_59 : decode cX8_take 59 = .ok (.ireturn, 1) := by decide +kernel
theorem dX8_take__0 : decode cX8_take_ 0 = .ok (.aload_n 0, 1) := by decide +kernel
theorem dX8_take__1 : decode cX8_take_ 1 = .ok (.getfield 9, 3) := by decide +kernel
theorem dX8_take__4 : decode cX8_take_ 4 = .ok (.aload_n 0, 1) := by decide +kernel
theorem dX8_take__5 : decode cX8_take_ 5 = .ok (.getfield 22, 3) := by decide +kernel
theorem dX8_take__8 : decode cX8_take_ 8 = .ok (.invokestatic 37, 3) := by decide +kernel
theorem dX8_take__11 : decode cX8_take_ 11 = .ok (.iload_n 1, 1) := by decide +kernel
theorem dX8_take__12 : decode cX8_take_ 12 = .ok (.if_icmp .ne 7, 3) := by decide +kernel
theorem dX8_take__15 : decode cX8_take_ 15 = .ok (.iconst 1, 1) := by decide +kernel
theorem dX8_take__16 : decode cX8_take_ 16 = .ok (.goto 4, 3) := by decide +kernel
theorem dX8_take__19 : decode cX8_take_ 19 = .ok (.iconst 0, 1) := by decide +kernel
theorem dX8_take__20 : decode cX8_take_ 20 = .ok (.istore_n 2, 1) := by decide +kernel
theorem dX8_take__21 : decode cX8_take_ 21 = .ok (.aload_n 0, 1) := by decide +kernel
theorem dX8_take__22 : decode cX8_take_ 22 = .ok (.dup, 1) := by decide +kernel
theorem dX8_take__23 : decode cX8_take_ 23 = .ok (.getfield 22, 3) := by decide +kernel
theorem dX8_take__26 : decode cX8_take_ 26 = .ok (.iload_n 2, 1) := by decide +kernel
theorem dX8_take__27 : decode cX8_take_ 27 = .ok (.ifCond .eq 7, 3) := by decide +kernel
theorem dX8_take__30 : decode cX8_take_ 30 = .ok (.iconst 1, 1) := by decide +kernel
theorem dX8_take__31 : decode cX8_take_ 31 = .ok (.goto 4, 3) := by decide +kernel
theorem dX8_take__34 : decode cX8_take_ 34 = .ok (.iconst 0, 1) := by decide +kernel
theorem dX8_take__35 : decode cX8_take_ 35 = .ok (.iadd, 1) := by decide +kernel
theorem dX8_take__36 : decode cX8_take_ 36 = .ok (.putfield 22, 3) := by decide +kernel
theorem dX8_take__39 : decode cX8_take_ 39 = .ok (.iload_n 2, 1) := by decide +kernel
theorem dX8_take__40 : decode cX8_take_ 40 = .ok (.ireturn, 1) := by decide +kernel
theorem dX8_takeNumber_0 : decode cX8_takeNumber 0 = .ok (.aload_n 0, 1) := by decide +kernel
theorem dX8_takeNumber_1 : decode cX8_takeNumber 1 = .ok (.getfield 18, 3) := by decide +kernel
theorem dX8_takeNumber_4 : decode cX8_takeNumber 4 = .ok (.aload_n 0, 1) := by decide +kernel
theorem dX8_takeNumber_5 : decode cX8_takeNumber 5 = .ok (.getfield 22, 3) := by decide +kernel
theorem dX8_takeNumber_8 : decode cX8_takeNumber 8 = .ok (.invokestatic 41, 3) := by decide +kernel
theorem dX8_takeNumber_11 : decode cX8_takeNumber 11 = .ok (.lstore_n 3, 1) := by decide +kernel
theorem dX8_takeNumber_12 : decode cX8_takeNumber 12 = .ok (.aload_n 0, 1) := by decide +kernel
theorem dX8_takeNumber_13 : decode cX8_takeNumber 13 = .ok (.getfield 9, 3) := by decide +kernel
theorem dX8_takeNumber_16 : decode cX8_takeNumber 16 = .ok (.aload_n 0, 1) := by decide +kernel
theorem dX8_takeNumber_17 : decode cX8_takeNumber 17 = .ok (.getfield 22, 3) := by decide +kernel
theorem dX8_takeNumber_20 : decode cX8_takeNumber 20 = .ok (.invokestatic 37, 3) := by decide +kernel
theorem dX8_takeNumber_23 : decode cX8_takeNumber 23 = .ok (.iconst 3, 1) := by decide +kernel
theorem dX8_takeNumber_24 : decode cX8_takeNumber 24 = .ok (.if_icmp .ne 17, 3) := by decide +kernel
theorem dX8_takeNumber_27 : decode cX8_takeNumber 27 = .ok (.lload_n 3, 1) := by decide +kernel
theorem dX8_takeNumber_28 : decode cX8_takeNumber 28 = .ok (.iload_n 1, 1) := by decide +kernel
theorem dX8_takeNumber_29 : decode cX8_takeNumber 29 = .ok (.i2l, 1) := by decide +kernel
theorem dX8_takeNumber_30 : decode cX8_takeNumber 30 = .ok (.lcmp, 1) := by decide +kernel
theorem dX8_takeNumber_31 : decode cX8_takeNumber 31 = .ok (.ifCond .lt 10, 3) := by decide +kernel
theorem dX8_takeNumber_34 : decode cX8_takeNumber 34 = .ok (.lload_n 3, 1) := by decide +kernel
theorem dX8_takeNumber_35 : decode cX8_takeNumber 35 = .ok (.iload_n 2, 1) := by decide +kernel
theorem dX8_takeNumber_36 : decode cX8_takeNumber 36 = .ok (.i2l, 1) := by decide +kernel
theorem dX8_takeNumber_37 : decode cX8_takeNumber 37 = .ok (.lcmp, 1) := by decide +kernel
theorem dX8_takeNumber_38 : decode cX8_takeNumber 38 = .ok (.ifCond .le 5, 3) := by decide +kernel
theorem dX8_takeNumber_41 : decode cX8_takeNumber 41 = .ok (.iconst (-1), 1) := by decide +kernel
theorem dX8_takeNumber_42 : decode cX8_takeNumber 42 = .ok (.ireturn, 1) := by decide +kernel
theorem dX8_takeNumber_43 : decode cX8_takeNumber 43 = .ok (.aload_n 0, 1) := by decide +kernel
theorem dX8_takeNumber_44 : decode cX8_takeNumber 44 = .ok (.dup, 1) := by decide +kernel
theorem dX8_takeNumber_45 : decode cX8_takeNumber 45 = .ok (.getfield 22, 3) := by decide +kernel
theorem dX8_takeNumber_48 : decode cX8_takeNumber 48 = .ok (.iconst 1, 1) := by decide +kernel
theorem dX8_takeNumber_49 : decode cX8_takeNumber 49 = .ok (.iadd, 1) := by decide +kernel
theorem dX8_takeNumber_50 : decode cX8_takeNumber 50 = .ok (.putfield 22, 3) := by decide +kernel
theorem dX8_takeNumber_53 : decode cX8_takeNumber 53 = .ok (.lload_n 3, 1) := by decide +kernel
theorem dX8_takeNumber_54 : decode cX8_takeNumber 54 = .ok (.l2i, 1) := by decide +kernel
theorem dX8_takeNumber_55 : decode cX8_takeNumber 55 = .ok (.ireturn, 1) := by decide +kernel
theorem dX8_takeTold_0 : decode cX8_takeTold 0 = .ok (.aload_n 0, 1) := by decide +kernel
theorem dX8_takeTold_1 : decode cX8_takeTold 1 = .ok (.getfield 9, 3) := by decide +kernel
theorem dX8_takeTold_4 : decode cX8_takeTold 4 = .ok (.aload_n 0, 1) := by decide +kernel
theorem dX8_takeTold_5 : decode cX8_takeTold 5 = .ok (.getfield 22, 3) := by decide +kernel
theorem dX8_takeTold_8 : decode cX8_takeTold 8 = .ok (.invokestatic 37, 3) := by decide +kernel
theorem dX8_takeTold_11 : decode cX8_takeTold 11 = .ok (.iconst 2, 1) := by decide +kernel
theorem dX8_takeTold_12 : decode cX8_takeTold 12 = .ok (.if_icmp .ne 17, 3) := by decide +kernel
theorem dX8_takeTold_15 : decode cX8_takeTold 15 = .ok (.aload_n 0, 1) := by decide +kernel
theorem dX8_takeTold_16 : decode cX8_takeTold 16 = .ok (.getfield 18, 3) := by decide +kernel
theorem dX8_takeTold_19 : decode cX8_takeTold 19 = .ok (.aload_n 0, 1) := by decide +kernel
theorem dX8_takeTold_20 : decode cX8_takeTold 20 = .ok (.getfield 22, 3) := by decide +kernel
theorem dX8_takeTold_23 : decode cX8_takeTold 23 = .ok (.invokestatic 41, 3) := by decide +kernel
theorem dX8_takeTold_26 : decode cX8_takeTold 26 = .ok (.goto 4, 3) := by decide +kernel
theorem dX8_takeTold_29 : decode cX8_takeTold 29 = .ok (.lconst 0, 1) := by decide +kernel
theorem dX8_takeTold_30 : decode cX8_takeTold 30 = .ok (.lstore 4, 2) := by decide +kernel
theorem dX8_takeTold_32 : decode cX8_takeTold 32 = .ok (.iconst 0, 1) := by decide +kernel
theorem dX8_takeTold_33 : decode cX8_takeTold 33 = .ok (.istore 6, 2) := by decide +kernel
theorem dX8_takeTold_35 : decode cX8_takeTold 35 = .ok (.iload 6, 2) := by decide +kernel
theorem dX8_takeTold_37 : decode cX8_takeTold 37 = .ok (.iload_n 2, 1) := by decide +kernel
theorem dX8_takeTold_38 : decode cX8_takeTold 38 = .ok (.if_icmp .ge 45, 3) := by decide +kernel
theorem dX8_takeTold_41 : decode cX8_takeTold 41 = .ok (.iload 6, 2) := by decide +kernel
theorem dX8_takeTold_43 : decode cX8_takeTold 43 = .ok (.aload_n 1, 1) := by decide +kernel
theorem dX8_takeTold_44 : decode cX8_takeTold 44 = .ok (.arraylength, 1) := by decide +kernel
theorem dX8_takeTold_45 : decode cX8_takeTold 45 = .ok (.if_icmp .ge 38, 3) := by decide +kernel
theorem dX8_takeTold_48 : decode cX8_takeTold 48 = .ok (.aload_n 1, 1) := by decide +kernel
theorem dX8_takeTold_49 : decode cX8_takeTold 49 = .ok (.iload 6, 2) := by decide +kernel
theorem dX8_takeTold_51 : decode cX8_takeTold 51 = .ok (.laload, 1) := by decide +kernel
theorem dX8_takeTold_52 : decode cX8_takeTold 52 = .ok (.lload 4, 2) := by decide +kernel
theorem dX8_takeTold_54 : decode cX8_takeTold 54 = .ok (.lcmp, 1) := by decide +kernel
theorem dX8_takeTold_55 : decode cX8_takeTold 55 = .ok (.ifCond .ne 22, 3) := by decide +kernel
theorem dX8_takeTold_58 : decode cX8_takeTold 58 = .ok (.iload 6, 2) := by decide +kernel
theorem dX8_takeTold_60 : decode cX8_takeTold 60 = .ok (.iload_n 3, 1) := by decide +kernel
theorem dX8_takeTold_61 : decode cX8_takeTold 61 = .ok (.if_icmp .eq 16, 3) := by decide +kernel
theorem dX8_takeTold_64 : decode cX8_takeTold 64 = .ok (.aload_n 0, 1) := by decide +kernel
theorem dX8_takeTold_65 : decode cX8_takeTold 65 = .ok (.dup, 1) := by decide +kernel
theorem dX8_takeTold_66 : decode cX8_takeTold 66 = .ok (.getfield 22, 3) := by decide +kernel
theorem dX8_takeTold_69 : decode cX8_takeTold 69 = .ok (.iconst 1, 1) := by decide +kernel
theorem dX8_takeTold_70 : decode cX8_takeTold 70 = .ok (.iadd, 1) := by decide +kernel
theorem dX8_takeTold_71 : decode cX8_takeTold 71 = .ok (.putfield 22, 3) := by decide +kernel
theorem dX8_takeTold_74 : decode cX8_takeTold 74 = .ok (.iload 6, 2) := by decide +kernel
theorem dX8_takeTold_76 : decode cX8_takeTold 76 = .ok (.ireturn, 1) := by decide +kernel
theorem dX8_takeTold_77 : decode cX8_takeTold 77 = .ok (.iinc 6 1, 3) := by decide +kernel
theorem dX8_takeTold_80 : decode cX8_takeTold 80 = .ok (.goto (-45), 3) := by decide +kernel
theorem dX8_takeTold_83 : decode cX8_takeTold 83 = .ok (.iconst (-1), 1) := by decide +kernel
theorem dX8_takeTold_84 : decode cX8_takeTold 84 = .ok (.ireturn, 1) := by decide +kernel
theorem dX8_name_0 : decode cX8_name 0 = .ok (.aload_n 0, 1) := by decide +kernel
theorem dX8_name_1 : decode cX8_name 1 = .ok (.getfield 9, 3) := by decide +kernel
theorem dX8_name_4 : decode cX8_name 4 = .ok (.aload_n 0, 1) := by decide +kernel
theorem dX8_name_5 : decode cX8_name 5 = .ok (.getfield 22, 3) := by decide +kernel
theorem dX8_name_8 : decode cX8_name 8 = .ok (.invokestatic 37, 3) := by decide +kernel
theorem dX8_name_11 : decode cX8_name 11 = .ok (.iconst 2, 1) := by decide +kernel
theorem dX8_name_12 : decode cX8_name 12 = .ok (.if_icmp .ne 17, 3) := by decide +kernel
theorem dX8_name_15 : decode cX8_name 15 = .ok (.aload_n 0, 1) := by decide +kernel
theorem dX8_name_16 : decode cX8_name 16 = .ok (.getfield 18, 3) := by decide +kernel
theorem dX8_name_19 : decode cX8_name 19 = .ok (.aload_n 0, 1) := by decide +kernel
theorem dX8_name_20 : decode cX8_name 20 = .ok (.getfield 22, 3) := by decide +kernel
theorem dX8_name_23 : decode cX8_name 23 = .ok (.invokestatic 41, 3) := by decide +kernel
theorem dX8_name_26 : decode cX8_name 26 = .ok (.goto 4, 3) := by decide +kernel
theorem dX8_name_29 : decode cX8_name 29 = .ok (.lconst 0, 1) := by decide +kernel
theorem dX8_name_30 : decode cX8_name 30 = .ok (.lstore_n 1, 1) := by decide +kernel
theorem dX8_name_31 : decode cX8_name 31 = .ok (.lload_n 1, 1) := by decide +kernel
theorem dX8_name_32 : decode cX8_name 32 = .ok (.invokestatic 50, 3) := by decide +kernel
theorem dX8_name_35 : decode cX8_name 35 = .ok (.ifCond .eq 7, 3) := by decide +kernel
theorem dX8_name_38 : decode cX8_name 38 = .ok (.lconst 0, 1) := by decide +kernel
theorem dX8_name_39 : decode cX8_name 39 = .ok (.goto 4, 3) := by decide +kernel
theorem dX8_name_42 : decode cX8_name 42 = .ok (.lload_n 1, 1) := by decide +kernel
theorem dX8_name_43 : decode cX8_name 43 = .ok (.lreturn, 1) := by decide +kernel
theorem dX8_skip_0 : decode cX8_skip 0 = .ok (.aload_n 0, 1) := by decide +kernel
theorem dX8_skip_1 : decode cX8_skip 1 = .ok (.dup, 1) := by decide +kernel
theorem dX8_skip_2 : decode cX8_skip 2 = .ok (.getfield 22, 3) := by decide +kernel
theorem dX8_skip_5 : decode cX8_skip 5 = .ok (.iconst 1, 1) := by decide +kernel
theorem dX8_skip_6 : decode cX8_skip 6 = .ok (.iadd, 1) := by decide +kernel
theorem dX8_skip_7 : decode cX8_skip 7 = .ok (.putfield 22, 3) := by decide +kernel
theorem dX8_skip_10 : decode cX8_skip 10 = .ok (.return_, 1) := by decide +kernel
theorem dX8_put_0 : decode cX8_put 0 = .ok (.aload_n 0, 1) := by decide +kernel
theorem dX8_put_1 : decode cX8_put 1 = .ok (.getfield 9, 3) := by decide +kernel
theorem dX8_put_4 : decode cX8_put 4 = .ok (.iload_n 1, 1) := by decide +kernel
theorem dX8_put_5 : decode cX8_put 5 = .ok (.iload_n 2, 1) := by decide +kernel
theorem dX8_put_6 : decode cX8_put 6 = .ok (.invokestatic 54, 3) := by decide +kernel
theorem dX8_put_9 : decode cX8_put 9 = .ok (.aload_n 0, 1) := by decide +kernel
theorem dX8_put_10 : decode cX8_put 10 = .ok (.getfield 15, 3) := by decide +kernel
theorem dX8_put_13 : decode cX8_put 13 = .ok (.iload_n 1, 1) := by decide +kernel
theorem dX8_put_14 : decode cX8_put 14 = .ok (.iload_n 3, 1) := by decide +kernel
theorem dX8_put_15 : decode cX8_put 15 = .ok (.invokestatic 54, 3) := by decide +kernel
theorem dX8_put_18 : decode cX8_put 18 = .ok (.iload_n 1, 1) := by decide +kernel
theorem dX8_put_19 : decode cX8_put 19 = .ok (.ifCond .lt 19, 3) := by decide +kernel
theorem dX8_put_22 : decode cX8_put 22 = .ok (.iload_n 1, 1) := by decide +kernel
theorem dX8_put_23 : decode cX8_put 23 = .ok (.aload_n 0, 1) := by decide +kernel
theorem dX8_put_24 : decode cX8_put 24 = .ok (.getfield 18, 3) := by decide +kernel
theorem dX8_put_27 : decode cX8_put 27 = .ok (.arraylength, 1) := by decide +kernel
theorem dX8_put_28 : decode cX8_put 28 = .ok (.if_icmp .ge 10, 3) := by decide +kernel
theorem dX8_put_31 : decode cX8_put 31 = .ok (.aload_n 0, 1) := by decide +kernel
theorem dX8_put_32 : decode cX8_put 32 = .ok (.getfield 18, 3) := by decide +kernel
theorem dX8_put_35 : decode cX8_put 35 = .ok (.iload_n 1, 1) := by decide +kernel
theorem dX8_put_36 : decode cX8_put 36 = .ok (.lconst 0, 1) := by decide +kernel
theorem dX8_put_37 : decode cX8_put 37 = .ok (.lastore, 1) := by decide +kernel
theorem dX8_put_38 : decode cX8_put 38 = .ok (.return_, 1) := by decide +kernel
theorem dX8_extend_0 : decode cX8_extend 0 = .ok (.iload_n 1, 1) := by decide +kernel
theorem dX8_extend_1 : decode cX8_extend 1 = .ok (.ifCond .lt 12, 3) := by decide +kernel
theorem dX8_extend_4 : decode cX8_extend 4 = .ok (.iload_n 1, 1) := by decide +kernel
theorem dX8_extend_5 : decode cX8_extend 5 = .ok (.aload_n 0, 1) := by decide +kernel
theorem dX8_extend_6 : decode cX8_extend 6 = .ok (.getfield 18, 3) := by decide +kernel
theorem dX8_extend_9 : decode cX8_extend 9 = .ok (.arraylength, 1) := by decide +kernel
theorem dX8_extend_10 : decode cX8_extend 10 = .ok (.if_icmp .lt 4, 3) := by decide +kernel
theorem dX8_extend_13 : decode cX8_extend 13 = .ok (.return_, 1) := by decide +kernel
theorem dX8_extend_14 : decode cX8_extend 14 = .ok (.aload_n 0, 1) := by decide +kernel
theorem dX8_extend_15 : decode cX8_extend 15 = .ok (.getfield 9, 3) := by decide +kernel
theorem dX8_extend_18 : decode cX8_extend 18 = .ok (.iload_n 1, 1) := by decide +kernel
theorem dX8_extend_19 : decode cX8_extend 19 = .ok (.invokestatic 37, 3) := by decide +kernel
theorem dX8_extend_22 : decode cX8_extend 22 = .ok (.iconst 2, 1) := by decide +kernel
theorem dX8_extend_23 : decode cX8_extend 23 = .ok (.if_icmp .ne 38, 3) := by decide +kernel
theorem dX8_extend_26 : decode cX8_extend 26 = .ok (.aload_n 0, 1) := by decide +kernel
theorem dX8_extend_27 : decode cX8_extend 27 = .ok (.getfield 18, 3) := by decide +kernel
theorem dX8_extend_30 : decode cX8_extend 30 = .ok (.iload_n 1, 1) := by decide +kernel
theorem dX8_extend_31 : decode cX8_extend 31 = .ok (.iload_n 3, 1) := by decide +kernel
theorem dX8_extend_32 : decode cX8_extend 32 = .ok (.bipush 8, 2) := by decide +kernel
theorem dX8_extend_34 : decode cX8_extend 34 = .ok (.if_icmp .le 7, 3) := by decide +kernel
theorem dX8_extend_37 : decode cX8_extend 37 = .ok (.lconst 0, 1) := by decide +kernel
theorem dX8_extend_38 : decode cX8_extend 38 = .ok (.goto 19, 3) := by decide +kernel
theorem dX8_extend_41 : decode cX8_extend 41 = .ok (.aload_n 0, 1) := by decide +kernel
theorem dX8_extend_42 : decode cX8_extend 42 = .ok (.getfield 18, 3) := by decide +kernel
theorem dX8_extend_45 : decode cX8_extend 45 = .ok (.iload_n 1, 1) := by decide +kernel
theorem dX8_extend_46 : decode cX8_extend 46 = .ok (.laload, 1) := by decide +kernel
theorem dX8_extend_47 : decode cX8_extend 47 = .ok (.iconst 5, 1) := by decide +kernel
theorem dX8_extend_48 : decode cX8_extend 48 = .ok (.lshl, 1) := by decide +kernel
theorem dX8_extend_49 : decode cX8_extend 49 = .ok (.iload_n 2, 1) := by decide +kernel
theorem dX8_extend_50 : decode cX8_extend 50 = .ok (.bipush 97, 2) := by decide +kernel
theorem dX8_extend_52 : decode cX8_extend 52 = .ok (.isub, 1) := by decide +kernel
theorem dX8_extend_53 : decode cX8_extend 53 = .ok (.iconst 1, 1) := by decide +kernel
theorem dX8_extend_54 : decode cX8_extend 54 = .ok (.iadd, 1) := by decide +kernel
theorem dX8_extend_55 : decode cX8_extend 55 = .ok (.i2l, 1) := by decide +kernel
theorem dX8_extend_56 : decode cX8_extend 56 = .ok (.lor, 1) := by decide +kernel
theorem dX8_extend_57 : decode cX8_extend 57 = .ok (.lastore, 1) := by decide +kernel
theorem dX8_extend_58 : decode cX8_extend 58 = .ok (.goto 37, 3) := by decide +kernel
theorem dX8_extend_61 : decode cX8_extend 61 = .ok (.aload_n 0, 1) := by decide +kernel
theorem dX8_extend_62 : decode cX8_extend 62 = .ok (.getfield 18, 3) := by decide +kernel
theorem dX8_extend_65 : decode cX8_extend 65 = .ok (.iload_n 1, 1) := by decide +kernel
theorem dX8_extend_66 : decode cX8_extend 66 = .ok (.iload_n 3, 1) := by decide +kernel
theorem dX8_extend_67 : decode cX8_extend 67 = .ok (.iconst 3, 1) := by decide +kernel
theorem dX8_extend_68 : decode cX8_extend 68 = .ok (.if_icmp .le 9, 3) := by decide +kernel
theorem dX8_extend_71 : decode cX8_extend 71 = .ok (.ldc2_w 58, 3) := by decide +kernel
theorem dX8_extend_74 : decode cX8_extend 74 = .ok (.goto 20, 3) := by decide +kernel
theorem dX8_extend_77 : decode cX8_extend 77 = .ok (.ldc2_w 60, 3) := by decide +kernel
theorem dX8_extend_80 : decode cX8_extend 80 = .ok (.aload_n 0, 1) := by decide +kernel
theorem dX8_extend_81 : decode cX8_extend 81 = .ok (.getfield 18, 3) := by decide +kernel
theorem dX8_extend_84 : decode cX8_extend 84 = .ok (.iload_n 1, 1) := by decide +kernel
theorem dX8_extend_85 : decode cX8_extend 85 = .ok (.laload, 1) := by decide +kernel
theorem dX8_extend_86 : decode cX8_extend 86 = .ok (.lmul, 1) := by decide +kernel
theorem dX8_extend_87 : decode cX8_extend 87 = .ok (.iload_n 2, 1) := by decide +kernel
theorem dX8_extend_88 : decode cX8_extend 88 = .ok (.i2l, 1) := by decide +kernel
theorem dX8_extend_89 : decode cX8_extend 89 = .ok (.ladd, 1) := by decide +kernel
theorem dX8_extend_90 : decode cX8_extend 90 = .ok (.ldc2_w 62, 3) := by decide +kernel
theorem dX8_extend_93 : decode cX8_extend 93 = .ok (.lsub, 1) := by decide +kernel
theorem dX8_extend_94 : decode cX8_extend 94 = .ok (.lastore, 1) := by decide +kernel
theorem dX8_extend_95 : decode cX8_extend 95 = .ok (.return_, 1) := by decide +kernel
theorem dX8_kindOf_0 : decode cX8_kindOf 0 = .ok (.iload_n 0, 1) := by decide +kernel
theorem dX8_kindOf_1 : decode cX8_kindOf 1 = .ok (.bipush 32, 2) := by decide +kernel
theorem dX8_kindOf_3 : decode cX8_kindOf 3 = .ok (.if_icmp .eq 9, 3) := by decide +kernel
theorem dX8_kindOf_6 : decode cX8_kindOf 6 = .ok (.iload_n 0, 1) := by decide +kernel
theorem dX8_kindOf_7 : decode cX8_kindOf 7 = .ok (.bipush 10, 2) := by decide +kernel
theorem dX8_kindOf_9 : decode cX8_kindOf 9 = .ok (.if_icmp .ne 5, 3) := by decide +kernel
theorem dX8_kindOf_12 : decode cX8_kindOf 12 = .ok (.iconst 1, 1) := by decide +kernel
theorem dX8_kindOf_13 : decode cX8_kindOf 13 = .ok (.ireturn, 1) := by decide +kernel
theorem dX8_kindOf_14 : decode cX8_kindOf 14 = .ok (.iload_n 0, 1) := by decide +kernel
theorem dX8_kindOf_15 : decode cX8_kindOf 15 = .ok (.bipush 97, 2) := by decide +kernel
theorem dX8_kindOf_17 : decode cX8_kindOf 17 = .ok (.if_icmp .lt 11, 3) := by decide +kernel
theorem dX8_kindOf_20 : decode cX8_kindOf 20 = .ok (.iload_n 0, 1) := by decide +kernel
theorem dX8_kindOf_21 : decode cX8_kindOf 21 = .ok (.bipush 122, 2) := by decide +kernel
theorem dX8_kindOf_23 : decode cX8_kindOf 23 = .ok (.if_icmp .gt 5, 3) := by decide +kernel
theorem dX8_kindOf_26 : decode cX8_kindOf 26 = .ok (.iconst 2, 1) := by decide +kernel
theorem dX8_kindOf_27 : decode cX8_kindOf 27 = .ok (.ireturn, 1) := by decide +kernel
theorem dX8_kindOf_28 : decode cX8_kindOf 28 = .ok (.iload_n 0, 1) := by decide +kernel
theorem dX8_kindOf_29 : decode cX8_kindOf 29 = .ok (.bipush 48, 2) := by decide +kernel
theorem dX8_kindOf_31 : decode cX8_kindOf 31 = .ok (.if_icmp .lt 11, 3) := by decide +kernel
theorem dX8_kindOf_34 : decode cX8_kindOf 34 = .ok (.iload_n 0, 1) := by decide +kernel
theorem dX8_kindOf_35 : decode cX8_kindOf 35 = .ok (.bipush 57, 2) := by decide +kernel
theorem dX8_kindOf_37 : decode cX8_kindOf 37 = .ok (.if_icmp .gt 5, 3) := by decide +kernel
theorem dX8_kindOf_40 : decode cX8_kindOf 40 = .ok (.iconst 3, 1) := by decide +kernel
theorem dX8_kindOf_41 : decode cX8_kindOf 41 = .ok (.ireturn, 1) := by decide +kernel
theorem dX8_kindOf_42 : decode cX8_kindOf 42 = .ok (.iload_n 0, 1) := by decide +kernel
theorem dX8_kindOf_43 : decode cX8_kindOf 43 = .ok (.bipush 59, 2) := by decide +kernel
theorem dX8_kindOf_45 : decode cX8_kindOf 45 = .ok (.if_icmp .eq 15, 3) := by decide +kernel
theorem dX8_kindOf_48 : decode cX8_kindOf 48 = .ok (.iload_n 0, 1) := by decide +kernel
theorem dX8_kindOf_49 : decode cX8_kindOf 49 = .ok (.bipush 40, 2) := by decide +kernel
theorem dX8_kindOf_51 : decode cX8_kindOf 51 = .ok (.if_icmp .eq 9, 3) := by decide +kernel
theorem dX8_kindOf_54 : decode cX8_kindOf 54 = .ok (.iload_n 0, 1) := by decide +kernel
theorem dX8_kindOf_55 : decode cX8_kindOf 55 = .ok (.bipush 41, 2) := by decide +kernel
theorem dX8_kindOf_57 : decode cX8_kindOf 57 = .ok (.if_icmp .ne 7, 3) := by decide +kernel
theorem dX8_kindOf_60 : decode cX8_kindOf 60 = .ok (.iload_n 0, 1) := by decide +kernel
theorem dX8_kindOf_61 : decode cX8_kindOf 61 = .ok (.goto 4, 3) := by decide +kernel
theorem dX8_kindOf_64 : decode cX8_kindOf 64 = .ok (.iconst 4, 1) := by decide +kernel
theorem dX8_kindOf_65 : decode cX8_kindOf 65 = .ok (.ireturn, 1) := by decide +kernel
theorem dX9_init_0 : decode cX9_init 0 = .ok (.aload_n 0, 1) := by decide +kernel
theorem dX9_init_1 : decode cX9_init 1 = .ok (.invokespecial 3, 3) := by decide +kernel
theorem dX9_init_4 : decode cX9_init 4 = .ok (.aload_n 0, 1) := by decide +kernel
theorem dX9_init_5 : decode cX9_init 5 = .ok (.bipush 6, 2) := by decide +kernel
theorem dX9_init_7 : decode cX9_init 7 = .ok (.anewarray 9, 3) := by decide +kernel
theorem dX9_init_10 : decode cX9_init 10 = .ok (.putfield 11, 3) := by decide +kernel
theorem dX9_init_13 : decode cX9_init 13 = .ok (.aload_n 0, 1) := by decide +kernel
theorem dX9_init_14 : decode cX9_init 14 = .ok (.bipush 6, 2) := by decide +kernel
theorem dX9_init_16 : decode cX9_init 16 = .ok (.newarray .int, 2) := by decide +kernel
theorem dX9_init_18 : decode cX9_init 18 = .ok (.putfield 17, 3) := by decide +kernel
theorem dX9_init_21 : decode cX9_init 21 = .ok (.aload_n 0, 1) := by decide +kernel
theorem dX9_init_22 : decode cX9_init 22 = .ok (.iconst 0, 1) := by decide +kernel
theorem dX9_init_23 : decode cX9_init 23 = .ok (.newarray .long, 2) := by decide +kernel
theorem dX9_init_25 : decode cX9_init 25 = .ok (.putfield 21, 3) := by decide +kernel
theorem dX9_init_28 : decode cX9_init 28 = .ok (.return_, 1) := by decide +kernel
theorem dX9_choose_0 : decode cX9_choose 0 = .ok (.aload_n 0, 1) := by decide +kernel
theorem dX9_choose_1 : decode cX9_choose 1 = .ok (.iconst 0, 1) := by decide +kernel
theorem dX9_choose_2 : decode cX9_choose 2 = .ok (.putfield 25, 3) := by decide +kernel
theorem dX9_choose_5 : decode cX9_choose 5 = .ok (.iconst 0, 1) := by decide +kernel
theorem dX9_choose_6 : decode cX9_choose 6 = .ok (.istore 4, 2) := by decide +kernel
theorem dX9_choose_8 : decode cX9_choose 8 = .ok (.iload 4, 2) := by decide +kernel
theorem dX9_choose_10 : decode cX9_choose 10 = .ok (.aload_n 1, 1) := by decide +kernel
theorem dX9_choose_11 : decode cX9_choose 11 = .ok (.getfield 29, 3) := by decide +kernel
theorem dX9_choose_14 : decode cX9_choose 14 = .ok (.if_icmp .ge 79, 3) := by decide +kernel
theorem dX9_choose_17 : decode cX9_choose 17 = .ok (.iload_n 3, 1) := by decide +kernel
theorem dX9_choose_18 : decode cX9_choose 18 = .ok (.iload 4, 2) := by decide +kernel
theorem dX9_choose_20 : decode cX9_choose 20 = .ok (.ishr, 1) := by decide +kernel
theorem dX9_choose_21 : decode cX9_choose 21 = .ok (.iconst 1, 1) := by decide +kernel
theorem dX9_choose_22 : decode cX9_choose 22 = .ok (.iand, 1) := by decide +kernel
theorem dX9_choose_23 : decode cX9_choose 23 = .ok (.ifCond .eq 64, 3) := by decide +kernel
theorem dX9_choose_26 : decode cX9_choose 26 = .ok (.aload_n 2, 1) := by decide +kernel
theorem dX9_choose_27 : decode cX9_choose 27 = .ok (.iload 4, 2) := by decide +kernel
theorem dX9_choose_29 : decode cX9_choose 29 = .ok (.invokevirtual 34, 3) := by decide +kernel
theorem dX9_choose_32 : decode cX9_choose 32 = .ok (.ifCond .ne 55, 3) := by decide +kernel
theorem dX9_choose_35 : decode cX9_choose 35 = .ok (.aload_n 0, 1) := by decide +kernel
theorem dX9_choose_36 : decode cX9_choose 36 = .ok (.getfield 25, 3) := by decide +kernel
theorem dX9_choose_39 : decode cX9_choose 39 = .ok (.aload_n 0, 1) := by decide +kernel
theorem dX9_choose_40 : decode cX9_choose 40 = .ok (.getfield 11, 3) := by decide +kernel
theorem dX9_choose_43 : decode cX9_choose 43 = .ok (.arraylength, 1) := by decide +kernel
theorem dX9_choose_44 : decode cX9_choose 44 = .ok (.if_icmp .lt 5, 3) := by decide +kernel
theorem dX9_choose_47 : decode cX9_choose 47 = .ok (.iconst 0, 1) := by decide +kernel
theorem dX9_choose_48 : decode cX9_choose 48 = .ok (.ireturn, 1) := by decide +kernel
theorem dX9_choose_49 : decode cX9_choose 49 = .ok (.aload_n 0, 1) := by decide +kernel
theorem dX9_choose_50 : decode cX9_choose 50 = .ok (.getfield 11, 3) := by decide +kernel
theorem dX9_choose_53 : decode cX9_choose 53 = .ok (.aload_n 0, 1) := by decide +kernel
theorem dX9_choose_54 : decode cX9_choose 54 = .ok (.getfield 25, 3) := by decide +kernel
theorem dX9_choose_57 : decode cX9_choose 57 = .ok (.aload_n 1, 1) := by decide +kernel
theorem dX9_choose_58 : decode cX9_choose 58 = .ok (.iload 4, 2) := by decide +kernel
theorem dX9_choose_60 : decode cX9_choose 60 = .ok (.invokevirtual 40, 3) := by decide +kernel
theorem dX9_choose_63 : decode cX9_choose 63 = .ok (.aastore, 1) := by decide +kernel
theorem dX9_choose_64 : decode cX9_choose 64 = .ok (.aload_n 0, 1) := by decide +kernel
theorem dX9_choose_65 : decode cX9_choose 65 = .ok (.getfield 17, 3) := by decide +kernel
theorem dX9_choose_68 : decode cX9_choose 68 = .ok (.aload_n 0, 1) := by decide +kernel
theorem dX9_choose_69 : decode cX9_choose 69 = .ok (.getfield 25, 3) := by decide +kernel
theorem dX9_choose_72 : decode cX9_choose 72 = .ok (.iload 4, 2) := by decide +kernel
theorem dX9_choose_74 : decode cX9_choose 74 = .ok (.invokestatic 44, 3) := by decide +kernel
theorem dX9_choose_77 : decode cX9_choose 77 = .ok (.aload_n 0, 1) := by decide +kernel
theorem dX9_choose_78 : decode cX9_choose 78 = .ok (.dup, 1) := by decide +kernel
theorem dX9_choose_79 : decode cX9_choose 79 = .ok (.getfield 25, 3) := by decide +kernel
theorem dX9_choose_82 : decode cX9_choose 82 = .ok (.iconst 1, 1) := by decide +kernel
theorem dX9_choose_83 : decode cX9_choose 83 = .ok (.iadd, 1) := by decide +kernel
theorem dX9_choose_84 : decode cX9_choose 84 = .ok (.putfield 25, 3) := by decide +kernel
theorem dX9_choose_87 : decode cX9_choose 87 = .ok (.iinc 4 1, 3) := by decide +kernel
theorem dX9_choose_90 : decode cX9_choose 90 = .ok (.goto (-82), 3) := by decide +kernel
theorem dX9_choose_93 : decode cX9_choose 93 = .ok (.aload_n 0, 1) := by decide +kernel
theorem dX9_choose_94 : decode cX9_choose 94 = .ok (.getfield 25, 3) := by decide +kernel
theorem dX9_choose_97 : decode cX9_choose 97 = .ok (.ifCond .le 8, 3) := by decide +kernel
theorem dX9_choose_100 : decode cX9_choose 100 = .ok (.aload_n 0, 1) := by decide +kernel
theorem dX9_choose_101 : decode cX9_choose 101 = .ok (.aload_n 2, 1) := by decide +kernel
theorem dX9_choose_102 : decode cX9_choose 102 = .ok (.invokevirtual 48, 3) := by decide +kernel
theorem dX9_choose_105 : decode cX9_choose 105 = .ok (.aload_n 0, 1) := by decide +kernel
theorem dX9_choose_106 : decode cX9_choose 106 = .ok (.getfield 25, 3) := by decide +kernel
theorem dX9_choose_109 : decode cX9_choose 109 = .ok (.ifCond .le 7, 3) := by decide +kernel
theorem dX9_choose_112 : decode cX9_choose 112 = .ok (.iconst 1, 1) := by decide +kernel
theorem dX9_choose_113 : decode cX9_choose 113 = .ok (.goto 4, 3) := by decide +kernel
theorem dX9_choose_116 : decode cX9_choose 116 = .ok (.iconst 0, 1) := by decide +kernel
theorem dX9_choose_117 : decode cX9_choose 117 = .ok (.ireturn, 1) := by decide +kernel
theorem dX9_search_0 : decode cX9_search 0 = .ok (.aload_n 0, 1) := by decide +kernel
theorem dX9_search_1 : decode cX9_search 1 = .ok (.iconst (-1), 1) := by decide +kernel
theorem dX9_search_2 : decode cX9_search 2 = .ok (.putfield 52, 3) := by decide +kernel
theorem dX9_search_5 : decode cX9_search 5 = .ok (.aload_n 0, 1) := by decide +kernel
theorem dX9_search_6 : decode cX9_search 6 = .ok (.iconst (-1), 1) := by decide +kernel
theorem dX9_search_7 : decode cX9_search 7 = .ok (.putfield 55, 3) := by decide +kernel
theorem dX9_search_10 : decode cX9_search 10 = .ok (.iconst 3, 1) := by decide +kernel
theorem dX9_search_11 : decode cX9_search 11 = .ok (.aload_n 0, 1) := by decide +kernel
theorem dX9_search_12 : decode cX9_search 12 = .ok (.getfield 25, 3) := by decide +kernel
theorem dX9_search_15 : decode cX9_search 15 = .ok (.invokestatic 58, 3) := by decide +kernel
theorem dX9_search_18 : decode cX9_search 18 = .ok (.istore_n 2, 1) := by decide +kernel
theorem dX9_search_19 : decode cX9_search 19 = .ok (.iconst 1, 1) := by decide +kernel
theorem dX9_search_20 : decode cX9_search 20 = .ok (.istore_n 3, 1) := by decide +kernel
theorem dX9_search_21 : decode cX9_search 21 = .ok (.iload_n 3, 1) := by decide +kernel
theorem dX9_search_22 : decode cX9_search 22 = .ok (.iload_n 2, 1) := by decide +kernel
theorem dX9_search_23 : decode cX9_search 23 = .ok (.if_icmp .ge 53, 3) := by decide +kernel
theorem dX9_search_26 : decode cX9_search 26 = .ok (.aload_n 0, 1) := by decide +kernel
theorem dX9_search_27 : decode cX9_search 27 = .ok (.iload_n 3, 1) := by decide +kernel
theorem dX9_search_28 : decode cX9_search 28 = .ok (.aload_n 1, 1) := by decide +kernel
theorem dX9_search_29 : decode cX9_search 29 = .ok (.invokevirtual 62, 3) := by decide +kernel
theorem dX9_search_32 : decode cX9_search 32 = .ok (.istore 4, 2) := by decide +kernel
theorem dX9_search_34 : decode cX9_search 34 = .ok (.aload_n 0, 1) := by decide +kernel
theorem dX9_search_35 : decode cX9_search 35 = .ok (.getfield 52, 3) := by decide +kernel
theorem dX9_search_38 : decode cX9_search 38 = .ok (.iconst (-1), 1) := by decide +kernel
theorem dX9_search_39 : decode cX9_search 39 = .ok (.if_icmp .eq 12, 3) := by decide +kernel
theorem dX9_search_42 : decode cX9_search 42 = .ok (.iload 4, 2) := by decide +kernel
theorem dX9_search_44 : decode cX9_search 44 = .ok (.aload_n 0, 1) := by decide +kernel
theorem dX9_search_45 : decode cX9_search 45 = .ok (.getfield 55, 3) := by decide +kernel
theorem dX9_search_48 : decode cX9_search 48 = .ok (.if_icmp .ge 22, 3) := by decide +kernel
theorem dX9_search_51 : decode cX9_search 51 = .ok (.aload_n 0, 1) := by decide +kernel
theorem dX9_search_52 : decode cX9_search 52 = .ok (.aload_n 1, 1) := by decide +kernel
theorem dX9_search_53 : decode cX9_search 53 = .ok (.invokevirtual 66, 3) := by decide +kernel
theorem dX9_search_56 : decode cX9_search 56 = .ok (.ifCond .eq 14, 3) := by decide +kernel
theorem dX9_search_59 : decode cX9_search 59 = .ok (.aload_n 0, 1) := by decide +kernel
theorem dX9_search_60 : decode cX9_search 60 = .ok (.iload_n 3, 1) := by decide +kernel
theorem dX9_search_61 : decode cX9_search 61 = .ok (.putfield 52, 3) := by decide +kernel
theorem dX9_search_64 : decode cX9_search 64 = .ok (.aload_n 0, 1) := by decide +kernel
theorem dX9_search_65 : decode cX9_search 65 = .ok (.iload 4, 2) := by decide +kernel
theorem dX9_search_67 : decode cX9_search 67 = .ok (.putfield 55, 3) := by decide +kernel
theorem dX9_search_70 : decode cX9_search 70 = .ok (.iinc 3 1, 3) := by decide +kernel
theorem dX9_search_73 : decode cX9_search 73 = .ok (.goto (-52), 3) := by decide +kernel
theorem dX9_search_76 : decode cX9_search 76 = .ok (.return_, 1) := by decide +kernel
theorem dX9_combine_0 : decode cX9_combine 0 = .ok (.iconst 5, 1) := by decide +kernel
theorem dX9_combine_1 : decode cX9_combine 1 = .ok (.aload_n 0, 1) := by decide +kernel
theorem dX9_combine_2 : decode cX9_combine 2 = .ok (.getfield 25, 3) := by decide +kernel
theorem dX9_combine_5 : decode cX9_combine 5 = .ok (.invokestatic 58, 3) := by decide +kernel
theorem dX9_combine_8 : decode cX9_combine 8 = .ok (.istore_n 2, 1) := by decide +kernel
theorem dX9_combine_9 : decode cX9_combine 9 = .ok (.aload_n 0, 1) := by decide +kernel
theorem dX9_combine_10 : decode cX9_combine 10 = .ok (.getfield 21, 3) := by decide +kernel
theorem dX9_combine_13 : decode cX9_combine 13 = .ok (.arraylength, 1) := by decide +kernel
theorem dX9_combine_14 : decode cX9_combine 14 = .ok (.iload_n 2, 1) := by decide +kernel
theorem dX9_combine_15 : decode cX9_combine 15 = .ok (.if_icmp .ge 10, 3) := by decide +kernel
theorem dX9_combine_18 : decode cX9_combine 18 = .ok (.aload_n 0, 1) := by decide +kernel
theorem dX9_combine_19 : decode cX9_combine 19 = .ok (.iload_n 2, 1) := by decide +kernel
theorem dX9_combine_20 : decode cX9_combine 20 = .ok (.newarray .long, 2) := by decide +kernel
theorem dX9_combine_22 : decode cX9_combine 22 = .ok (.putfield 21, 3) := by decide +kernel
theorem dX9_combine_25 : decode cX9_combine 25 = .ok (.aload_n 0, 1) := by decide +kernel
theorem dX9_combine_26 : decode cX9_combine 26 = .ok (.getfield 21, 3) := by decide +kernel
theorem dX9_combine_29 : decode cX9_combine 29 = .ok (.lconst 0, 1) := by decide +kernel
theorem dX9_combine_30 : decode cX9_combine 30 = .ok (.invokestatic 70, 3) := by decide +kernel
theorem dX9_combine_33 : decode cX9_combine 33 = .ok (.iconst 0, 1) := by decide +kernel
theorem dX9_combine_34 : decode cX9_combine 34 = .ok (.istore_n 3, 1) := by decide +kernel
theorem dX9_combine_35 : decode cX9_combine 35 = .ok (.iload_n 3, 1) := by decide +kernel
theorem dX9_combine_36 : decode cX9_combine 36 = .ok (.aload_n 1, 1) := by decide +kernel
theorem dX9_combine_37 : decode cX9_combine 37 = .ok (.getfield 76, 3) := by decide +kernel
theorem dX9_combine_40 : decode cX9_combine 40 = .ok (.if_icmp .ge 33, 3) := by decide +kernel
theorem dX9_combine_43 : decode cX9_combine 43 = .ok (.aload_n 1, 1) := by decide +kernel
theorem dX9_combine_44 : decode cX9_combine 44 = .ok (.iload_n 3, 1) := by decide +kernel
theorem dX9_combine_45 : decode cX9_combine 45 = .ok (.invokevirtual 79, 3) := by decide +kernel
theorem dX9_combine_48 : decode cX9_combine 48 = .ok (.lstore 4, 2) := by decide +kernel
theorem dX9_combine_50 : decode cX9_combine 50 = .ok (.lload 4, 2) := by decide +kernel
theorem dX9_combine_52 : decode cX9_combine 52 = .ok (.ldc2_w 83, 3) := by decide +kernel
theorem dX9_combine_55 : decode cX9_combine 55 = .ok (.land, 1) := by decide +kernel
theorem dX9_combine_56 : decode cX9_combine 56 = .ok (.lconst 0, 1) := by decide +kernel
theorem dX9_combine_57 : decode cX9_combine 57 = .ok (.lcmp, 1) := by decide +kernel
theorem dX9_combine_58 : decode cX9_combine 58 = .ok (.ifCond .eq 9, 3) := by decide +kernel
theorem dX9_combine_61 : decode cX9_combine 61 = .ok (.aload_n 0, 1) := by decide +kernel
theorem dX9_combine_62 : decode cX9_combine 62 = .ok (.lload 4, 2) := by decide +kernel
theorem dX9_combine_64 : decode cX9_combine 64 = .ok (.invokevirtual 85, 3) := by decide +kernel
theorem dX9_combine_67 : decode cX9_combine 67 = .ok (.iinc 3 1, 3) := by decide +kernel
theorem dX9_combine_70 : decode cX9_combine 70 = .ok (.goto (-35), 3) := by decide +kernel
theorem dX9_combine_73 : decode cX9_combine 73 = .ok (.aload_n 0, 1) := by decide +kernel
theorem dX9_combine_74 : decode cX9_combine 74 = .ok (.iconst 0, 1) := by decide +kernel
theorem dX9_combine_75 : decode cX9_combine 75 = .ok (.putfield 89, 3) := by decide +kernel
theorem dX9_combine_78 : decode cX9_combine 78 = .ok (.aload_n 0, 1) := by decide +kernel
theorem dX9_combine_79 : decode cX9_combine 79 = .ok (.getfield 21, 3) := by decide +kernel
theorem dX9_combine_82 : decode cX9_combine 82 = .ok (.astore_n 3, 1) := by decide +kernel
theorem dX9_combine_83 : decode cX9_combine 83 = .ok (.aload_n 3, 1) := by decide +kernel
theorem dX9_combine_84 : decode cX9_combine 84 = .ok (.arraylength, 1) := by decide +kernel
theorem dX9_combine_85 : decode cX9_combine 85 = .ok (.istore 4, 2) := by decide +kernel
theorem dX9_combine_87 : decode cX9_combine 87 = .ok (.iconst 0, 1) := by decide +kernel
theorem dX9_combine_88 : decode cX9_combine 88 = .ok (.istore 5, 2) := by decide +kernel
theorem dX9_combine_90 : decode cX9_combine 90 = .ok (.iload 5, 2) := by decide +kernel
theorem dX9_combine_92 : decode cX9_combine 92 = .ok (.iload 4, 2) := by decide +kernel
theorem dX9_combine_94 : decode cX9_combine 94 = .ok (.if_icmp .ge 55, 3) := by decide +kernel
theorem dX9_combine_97 : decode cX9_combine 97 = .ok (.aload_n 3, 1) := by decide +kernel
theorem dX9_combine_98 : decode cX9_combine 98 = .ok (.iload 5, 2) := by decide +kernel
theorem dX9_combine_100 : decode cX9_combine 100 = .ok (.laload, 1) := by decide +kernel
theorem dX9_combine_101 : decode cX9_combine 101 = .ok (.lstore 6, 2) := by decide +kernel
theorem dX9_combine_103 : decode cX9_combine 103 = .ok (.lload 6, 2) := by decide +kernel
theorem dX9_combine_105 : decode cX9_combine 105 = .ok (.lconst 0, 1) := by decide +kernel
theorem dX9_combine_106 : decode cX9_combine 106 = .ok (.lcmp, 1) := by decide +kernel
theorem dX9_combine_107 : decode cX9_combine 107 = .ok (.ifCond .eq 36, 3) := by decide +kernel
theorem dX9_combine_110 : decode cX9_combine 110 = .ok (.aload_n 0, 1) := by decide +kernel
theorem dX9_combine_111 : decode cX9_combine 111 = .ok (.getfield 89, 3) := by decide +kernel
theorem dX9_combine_114 : decode cX9_combine 114 = .ok (.aload_n 0, 1) := by decide +kernel
theorem dX9_combine_115 : decode cX9_combine 115 = .ok (.getfield 21, 3) := by decide +kernel
theorem dX9_combine_118 : decode cX9_combine 118 = .ok (.arraylength, 1) := by decide +kernel
theorem dX9_combine_119 : decode cX9_combine 119 = .ok (.if_icmp .ge 24, 3) := by decide +kernel
theorem dX9_combine_122 : decode cX9_combine 122 = .ok (.aload_n 0, 1) := by decide +kernel
theorem dX9_combine_123 : decode cX9_combine 123 = .ok (.getfield 21, 3) := by decide +kernel
theorem dX9_combine_126 : decode cX9_combine 126 = .ok (.aload_n 0, 1) := by decide +kernel
theorem dX9_combine_127 : decode cX9_combine 127 = .ok (.getfield 89, 3) := by decide +kernel
theorem dX9_combine_130 : decode cX9_combine 130 = .ok (.lload 6, 2) := by decide +kernel
theorem dX9_combine_132 : decode cX9_combine 132 = .ok (.lastore, 1) := by decide +kernel
theorem dX9_combine_133 : decode cX9_combine 133 = .ok (.aload_n 0, 1) := by decide +kernel
theorem dX9_combine_134 : decode cX9_combine 134 = .ok (.dup, 1) := by decide +kernel
theorem dX9_combine_135 : decode cX9_combine 135 = .ok (.getfield 89, 3) := by decide +kernel
theorem dX9_combine_138 : decode cX9_combine 138 = .ok (.iconst 1, 1) := by decide +kernel
theorem dX9_combine_139 : decode cX9_combine 139 = .ok (.iadd, 1) := by decide +kernel
theorem dX9_combine_140 : decode cX9_combine 140 = .ok (.putfield 89, 3) := by decide +kernel
theorem dX9_combine_143 : decode cX9_combine 143 = .ok (.iinc 5 1, 3) := by decide +kernel
theorem dX9_combine_146 : decode cX9_combine 146 = .ok (.goto (-56), 3) := by decide +kernel
theorem dX9_combine_149 : decode cX9_combine 149 = .ok (.return_, 1) := by decide +kernel
theorem dX9_addCombination_0 : decode cX9_addCombination 0 = .ok (.iconst 0, 1) := by decide +kernel
theorem dX9_addCombination_1 : decode cX9_addCombination 1 = .ok (.istore_n 3, 1) := by decide +kernel
theorem dX9_addCombination_2 : decode cX9_addCombination 2 = .ok (.lconst 0, 1) := by decide +kernel
theorem dX9_addCombination_3 : decode cX9_addCombination 3 = .ok (.lstore 4, 2) := by decide +kernel
theorem dX9_addCombination_5 : decode cX9_addCombination 5 = .ok (.iconst 0, 1) := by decide +kernel
theorem dX9_addCombination_6 : decode cX9_addCombination 6 = .ok (.istore 6, 2) := by decide +kernel
theorem dX9_addCombination_8 : decode cX9_addCombination 8 = .ok (.iload 6, 2) := by decide +kernel
theorem dX9_addCombination_10 : decode cX9_addCombination 10 = .ok (.aload_n 0, 1) := by decide +kernel
theorem dX9_addCombination_11 : decode cX9_addCombination 11 = .ok (.getfield 25, 3) := by decide +kernel
theorem dX9_addCombination_14 : decode cX9_addCombination 14 = .ok (.if_icmp .ge 46, 3) := by decide +kernel
theorem dX9_addCombination_17 : decode cX9_addCombination 17 = .ok (.aload_n 0, 1) := by decide +kernel
theorem dX9_addCombination_18 : decode cX9_addCombination 18 = .ok (.getfield 17, 3) := by decide +kernel
theorem dX9_addCombination_21 : decode cX9_addCombination 21 = .ok (.iload 6, 2) := by decide +kernel
theorem dX9_addCombination_23 : decode cX9_addCombination 23 = .ok (.invokestatic 92, 3) := by decide +kernel
theorem dX9_addCombination_26 : decode cX9_addCombination 26 = .ok (.istore 7, 2) := by decide +kernel
theorem dX9_addCombination_28 : decode cX9_addCombination 28 = .ok (.iload_n 3, 1) := by decide +kernel
theorem dX9_addCombination_29 : decode cX9_addCombination 29 = .ok (.iconst 5, 1) := by decide +kernel
theorem dX9_addCombination_30 : decode cX9_addCombination 30 = .ok (.imul, 1) := by decide +kernel
theorem dX9_addCombination_31 : decode cX9_addCombination 31 = .ok (.lload_n 1, 1) := by decide +kernel
theorem dX9_addCombination_32 : decode cX9_addCombination 32 = .ok (.iload 7, 2) := by decide +kernel
theorem dX9_addCombination_34 : decode cX9_addCombination 34 = .ok (.invokestatic 96, 3) := by decide +kernel
theorem dX9_addCombination_37 : decode cX9_addCombination 37 = .ok (.iadd, 1) := by decide +kernel
theorem dX9_addCombination_38 : decode cX9_addCombination 38 = .ok (.istore_n 3, 1) := by decide +kernel
theorem dX9_addCombination_39 : decode cX9_addCombination 39 = .ok (.lload 4, 2) := by decide +kernel
theorem dX9_addCombination_41 : decode cX9_addCombination 41 = .ok (.lload_n 1, 1) := by decide +kernel
theorem dX9_addCombination_42 : decode cX9_addCombination 42 = .ok (.ldc2_w 100, 3) := by decide +kernel
theorem dX9_addCombination_45 : decode cX9_addCombination 45 = .ok (.iconst 5, 1) := by decide +kernel
theorem dX9_addCombination_46 : decode cX9_addCombination 46 = .ok (.iload 7, 2) := by decide +kernel
theorem dX9_addCombination_48 : decode cX9_addCombination 48 = .ok (.imul, 1) := by decide +kernel
theorem dX9_addCombination_49 : decode cX9_addCombination 49 = .ok (.lshl, 1) := by decide +kernel
theorem dX9_addCombination_50 : decode cX9_addCombination 50 = .ok (.land, 1) := by decide +kernel
theorem dX9_addCombination_51 : decode cX9_addCombination 51 = .ok (.lor, 1) := by decide +kernel
theorem dX9_addCombination_52 : decode cX9_addCombination 52 = .ok (.lstore 4, 2) := by decide +kernel
theorem dX9_addCombination_54 : decode cX9_addCombination 54 = .ok (.iinc 6 1, 3) := by decide +kernel
theorem dX9_addCombination_57 : decode cX9_addCombination 57 = .ok (.goto (-49), 3) := by decide +kernel
theorem dX9_addCombination_60 : decode cX9_addCombination 60 = .ok (.iload_n 3, 1) := by decide +kernel
theorem dX9_addCombination_61 : decode cX9_addCombination 61 = .ok (.ifCond .lt 20, 3) := by decide +kernel
theorem dX9_addCombination_64 : decode cX9_addCombination 64 = .ok (.iload_n 3, 1) := by decide +kernel
theorem dX9_addCombination_65 : decode cX9_addCombination 65 = .ok (.aload_n 0, 1) := by decide +kernel
theorem dX9_addCombination_66 : decode cX9_addCombination 66 = .ok (.getfield 21, 3) := by decide +kernel
theorem dX9_addCombination_69 : decode cX9_addCombination 69 = .ok (.arraylength, 1) := by decide +kernel
theorem dX9_addCombination_70 : decode cX9_addCombination 70 = .ok (.if_icmp .ge 11, 3) := by decide +kernel
theorem dX9_addCombination_73 : decode cX9_addCombination 73 = .ok (.aload_n 0, 1) := by decide +kernel
theorem dX9_addCombination_74 : decode cX9_addCombination 74 = .ok (.getfield 21, 3) := by decide +kernel
theorem dX9_addCombination_77 : decode cX9_addCombination 77 = .ok (.iload_n 3, 1) := by decide +kernel
theorem dX9_addCombination_78 : decode cX9_addCombination 78 = .ok (.lload 4, 2) := by decide +kernel
theorem dX9_addCombination_80 : decode cX9_addCombination 80 = .ok (.lastore, 1) := by decide +kernel
theorem dX9_addCombination_81 : decode cX9_addCombination 81 = .ok (.return_, 1) := by decide +kernel
theorem dX9_takeSides_0 : decode cX9_takeSides 0 = .ok (.aload_n 2, 1) := by decide +kernel
theorem dX9_takeSides_1 : decode cX9_takeSides 1 = .ok (.invokevirtual 102, 3) := by decide +kernel
theorem dX9_takeSides_4 : decode cX9_takeSides 4 = .ok (.iconst 0, 1) := by decide +kernel
theorem dX9_takeSides_5 : decode cX9_takeSides 5 = .ok (.istore_n 3, 1) := by decide +kernel
theorem dX9_takeSides_6 : decode cX9_takeSides 6 = .ok (.iload_n 1, 1) := by decide +kernel
theorem dX9_takeSides_7 : decode cX9_takeSides 7 = .ok (.istore 4, 2) := by decide +kernel
theorem dX9_takeSides_9 : decode cX9_takeSides 9 = .ok (.iconst 0, 1) := by decide +kernel
theorem dX9_takeSides_10 : decode cX9_takeSides 10 = .ok (.istore 5, 2) := by decide +kernel
theorem dX9_takeSides_12 : decode cX9_takeSides 12 = .ok (.iload 5, 2) := by decide +kernel
theorem dX9_takeSides_14 : decode cX9_takeSides 14 = .ok (.aload_n 0, 1) := by decide +kernel
theorem dX9_takeSides_15 : decode cX9_takeSides 15 = .ok (.getfield 25, 3) := by decide +kernel
theorem dX9_takeSides_18 : decode cX9_takeSides 18 = .ok (.if_icmp .ge 79, 3) := by decide +kernel
theorem dX9_takeSides_21 : decode cX9_takeSides 21 = .ok (.iload 5, 2) := by decide +kernel
theorem dX9_takeSides_23 : decode cX9_takeSides 23 = .ok (.aload_n 0, 1) := by decide +kernel
theorem dX9_takeSides_24 : decode cX9_takeSides 24 = .ok (.getfield 11, 3) := by decide +kernel
theorem dX9_takeSides_27 : decode cX9_takeSides 27 = .ok (.arraylength, 1) := by decide +kernel
theorem dX9_takeSides_28 : decode cX9_takeSides 28 = .ok (.if_icmp .ge 69, 3) := by decide +kernel
theorem dX9_takeSides_31 : decode cX9_takeSides 31 = .ok (.aload_n 0, 1) := by decide +kernel
theorem dX9_takeSides_32 : decode cX9_takeSides 32 = .ok (.getfield 11, 3) := by decide +kernel
theorem dX9_takeSides_35 : decode cX9_takeSides 35 = .ok (.iload 5, 2) := by decide +kernel
theorem dX9_takeSides_37 : decode cX9_takeSides 37 = .ok (.aaload, 1) := by decide +kernel
theorem dX9_takeSides_38 : decode cX9_takeSides 38 = .ok (.astore 6, 2) := by decide +kernel
theorem dX9_takeSides_40 : decode cX9_takeSides 40 = .ok (.iload 4, 2) := by decide +kernel
theorem dX9_takeSides_42 : decode cX9_takeSides 42 = .ok (.iconst 3, 1) := by decide +kernel
theorem dX9_takeSides_43 : decode cX9_takeSides 43 = .ok (.irem, 1) := by decide +kernel
theorem dX9_takeSides_44 : decode cX9_takeSides 44 = .ok (.iconst 1, 1) := by decide +kernel
theorem dX9_takeSides_45 : decode cX9_takeSides 45 = .ok (.isub, 1) := by decide +kernel
theorem dX9_takeSides_46 : decode cX9_takeSides 46 = .ok (.istore 7, 2) := by decide +kernel
theorem dX9_takeSides_48 : decode cX9_takeSides 48 = .ok (.iload 7, 2) := by decide +kernel
theorem dX9_takeSides_50 : decode cX9_takeSides 50 = .ok (.ifCond .lt 35, 3) := by decide +kernel
theorem dX9_takeSides_53 : decode cX9_takeSides 53 = .ok (.aload 6, 2) := by decide +kernel
theorem dX9_takeSides_55 : decode cX9_takeSides 55 = .ok (.ifnull 30, 3) := by decide +kernel
theorem dX9_takeSides_58 : decode cX9_takeSides 58 = .ok (.aload_n 2, 1) := by decide +kernel
theorem dX9_takeSides_59 : decode cX9_takeSides 59 = .ok (.aload 6, 2) := by decide +kernel
theorem dX9_takeSides_61 : decode cX9_takeSides 61 = .ok (.aload_n 0, 1) := by decide +kernel
theorem dX9_takeSides_62 : decode cX9_takeSides 62 = .ok (.getfield 17, 3) := by decide +kernel
theorem dX9_takeSides_65 : decode cX9_takeSides 65 = .ok (.iload 5, 2) := by decide +kernel
theorem dX9_takeSides_67 : decode cX9_takeSides 67 = .ok (.invokestatic 92, 3) := by decide +kernel
theorem dX9_takeSides_70 : decode cX9_takeSides 70 = .ok (.iload 7, 2) := by decide +kernel
theorem dX9_takeSides_72 : decode cX9_takeSides 72 = .ok (.invokevirtual 107, 3) := by decide +kernel
theorem dX9_takeSides_75 : decode cX9_takeSides 75 = .ok (.iload_n 3, 1) := by decide +kernel
theorem dX9_takeSides_76 : decode cX9_takeSides 76 = .ok (.aload 6, 2) := by decide +kernel
theorem dX9_takeSides_78 : decode cX9_takeSides 78 = .ok (.iload 7, 2) := by decide +kernel
theorem dX9_takeSides_80 : decode cX9_takeSides 80 = .ok (.invokevirtual 111, 3) := by decide +kernel
theorem dX9_takeSides_83 : decode cX9_takeSides 83 = .ok (.iadd, 1) := by decide +kernel
theorem dX9_takeSides_84 : decode cX9_takeSides 84 = .ok (.istore_n 3, 1) := by decide +kernel
theorem dX9_takeSides_85 : decode cX9_takeSides 85 = .ok (.iload 4, 2) := by decide +kernel
theorem dX9_takeSides_87 : decode cX9_takeSides 87 = .ok (.iconst 3, 1) := by decide +kernel
theorem dX9_takeSides_88 : decode cX9_takeSides 88 = .ok (.idiv, 1) := by decide +kernel
theorem dX9_takeSides_89 : decode cX9_takeSides 89 = .ok (.istore 4, 2) := by decide +kernel
theorem dX9_takeSides_91 : decode cX9_takeSides 91 = .ok (.iinc 5 1, 3) := by decide +kernel
theorem dX9_takeSides_94 : decode cX9_takeSides 94 = .ok (.goto (-82), 3) := by decide +kernel
theorem dX9_takeSides_97 : decode cX9_takeSides 97 = .ok (.iload_n 3, 1) := by decide +kernel
theorem dX9_takeSides_98 : decode cX9_takeSides 98 = .ok (.ireturn, 1) := by decide +kernel
theorem dX9_canOnlyWin_0 : decode cX9_canOnlyWin 0 = .ok (.iconst 0, 1) := by decide +kernel
theorem dX9_canOnlyWin_1 : decode cX9_canOnlyWin 1 = .ok (.istore_n 2, 1) := by decide +kernel
theorem dX9_canOnlyWin_2 : decode cX9_canOnlyWin 2 = .ok (.iconst 0, 1) := by decide +kernel
theorem dX9_canOnlyWin_3 : decode cX9_canOnlyWin 3 = .ok (.istore_n 3, 1) := by decide +kernel
theorem dX9_canOnlyWin_4 : decode cX9_canOnlyWin 4 = .ok (.iload_n 3, 1) := by decide +kernel
theorem dX9_canOnlyWin_5 : decode cX9_canOnlyWin 5 = .ok (.aload_n 0, 1) := by decide +kernel
theorem dX9_canOnlyWin_6 : decode cX9_canOnlyWin 6 = .ok (.getfield 89, 3) := by decide +kernel
theorem dX9_canOnlyWin_9 : decode cX9_canOnlyWin 9 = .ok (.if_icmp .ge 50, 3) := by decide +kernel
theorem dX9_canOnlyWin_12 : decode cX9_canOnlyWin 12 = .ok (.iload_n 3, 1) := by decide +kernel
theorem dX9_canOnlyWin_13 : decode cX9_canOnlyWin 13 = .ok (.aload_n 0, 1) := by decide +kernel
theorem dX9_canOnlyWin_14 : decode cX9_canOnlyWin 14 = .ok (.getfield 21, 3) := by decide +kernel
theorem dX9_canOnlyWin_17 : decode cX9_canOnlyWin 17 = .ok (.arraylength, 1) := by decide +kernel
theorem dX9_canOnlyWin_18 : decode cX9_canOnlyWin 18 = .ok (.if_icmp .ge 41, 3) := by decide +kernel
theorem dX9_canOnlyWin_21 : decode cX9_canOnlyWin 21 = .ok (.aload_n 1, 1) := by decide +kernel
theorem dX9_canOnlyWin_22 : decode cX9_canOnlyWin 22 = .ok (.aload_n 0, 1) := by decide +kernel
theorem dX9_canOnlyWin_23 : decode cX9_canOnlyWin 23 = .ok (.getfield 21, 3) := by decide +kernel
theorem dX9_canOnlyWin_26 : decode cX9_canOnlyWin 26 = .ok (.iload_n 3, 1) := by decide +kernel
theorem dX9_canOnlyWin_27 : decode cX9_canOnlyWin 27 = .ok (.laload, 1) := by decide +kernel
theorem dX9_canOnlyWin_28 : decode cX9_canOnlyWin 28 = .ok (.invokevirtual 115, 3) := by decide +kernel
theorem dX9_canOnlyWin_31 : decode cX9_canOnlyWin 31 = .ok (.istore 4, 2) := by decide +kernel
theorem dX9_canOnlyWin_33 : decode cX9_canOnlyWin 33 = .ok (.iload 4, 2) := by decide +kernel
theorem dX9_canOnlyWin_35 : decode cX9_canOnlyWin 35 = .ok (.ifCond .ge 5, 3) := by decide +kernel
theorem dX9_canOnlyWin_38 : decode cX9_canOnlyWin 38 = .ok (.iconst 0, 1) := by decide +kernel
theorem dX9_canOnlyWin_39 : decode cX9_canOnlyWin 39 = .ok (.ireturn, 1) := by decide +kernel
theorem dX9_canOnlyWin_40 : decode cX9_canOnlyWin 40 = .ok (.iload_n 2, 1) := by decide +kernel
theorem dX9_canOnlyWin_41 : decode cX9_canOnlyWin 41 = .ok (.iload 4, 2) := by decide +kernel
theorem dX9_canOnlyWin_43 : decode cX9_canOnlyWin 43 = .ok (.ifCond .le 7, 3) := by decide +kernel
theorem dX9_canOnlyWin_46 : decode cX9_canOnlyWin 46 = .ok (.iconst 1, 1) := by decide +kernel
theorem dX9_canOnlyWin_47 : decode cX9_canOnlyWin 47 = .ok (.goto 4, 3) := by decide +kernel
theorem dX9_canOnlyWin_50 : decode cX9_canOnlyWin 50 = .ok (.iconst 0, 1) := by decide +kernel
theorem dX9_canOnlyWin_51 : decode cX9_canOnlyWin 51 = .ok (.ior, 1) := by decide +kernel
theorem dX9_canOnlyWin_52 : decode cX9_canOnlyWin 52 = .ok (.istore_n 2, 1) := by decide +kernel
theorem dX9_canOnlyWin_53 : decode cX9_canOnlyWin 53 = .ok (.iinc 3 1, 3) := by decide +kernel
theorem dX9_canOnlyWin_56 : decode cX9_canOnlyWin 56 = .ok (.goto (-52), 3) := by decide +kernel
theorem dX9_canOnlyWin_59 : decode cX9_canOnlyWin 59 = .ok (.iload_n 2, 1) := by decide +kernel
theorem dX9_canOnlyWin_60 : decode cX9_canOnlyWin 60 = .ok (.ireturn, 1) := by decide +kernel
theorem dX10_isOne_0 : decode cX10_isOne 0 = .ok (.getstatic 96, 3) := by decide +kernel
theorem dX10_isOne_3 : decode cX10_isOne 3 = .ok (.astore_n 2, 1) := by decide +kernel
theorem dX10_isOne_4 : decode cX10_isOne 4 = .ok (.aload_n 2, 1) := by decide +kernel
theorem dX10_isOne_5 : decode cX10_isOne 5 = .ok (.arraylength, 1) := by decide +kernel
theorem dX10_isOne_6 : decode cX10_isOne 6 = .ok (.istore_n 3, 1) := by decide +kernel
theorem dX10_isOne_7 : decode cX10_isOne 7 = .ok (.iconst 0, 1) := by decide +kernel
theorem dX10_isOne_8 : decode cX10_isOne 8 = .ok (.istore 4, 2) := by decide +kernel
theorem dX10_isOne_10 : decode cX10_isOne 10 = .ok (.iload 4, 2) := by decide +kernel
theorem dX10_isOne_12 : decode cX10_isOne 12 = .ok (.iload_n 3, 1) := by decide +kernel
theorem dX10_isOne_13 : decode cX10_isOne 13 = .ok (.if_icmp .ge 27, 3) := by decide +kernel
theorem dX10_isOne_16 : decode cX10_isOne 16 = .ok (.aload_n 2, 1) := by decide +kernel
theorem dX10_isOne_17 : decode cX10_isOne 17 = .ok (.iload 4, 2) := by decide +kernel
theorem dX10_isOne_19 : decode cX10_isOne 19 = .ok (.aaload, 1) := by decide +kernel
theorem dX10_isOne_20 : decode cX10_isOne 20 = .ok (.astore 5, 2) := by decide +kernel
theorem dX10_isOne_22 : decode cX10_isOne 22 = .ok (.aload 5, 2) := by decide +kernel
theorem dX10_isOne_24 : decode cX10_isOne 24 = .ok (.getfield 92, 3) := by decide +kernel
theorem dX10_isOne_27 : decode cX10_isOne 27 = .ok (.lload_n 0, 1) := by decide +kernel
theorem dX10_isOne_28 : decode cX10_isOne 28 = .ok (.lcmp, 1) := by decide +kernel
theorem dX10_isOne_29 : decode cX10_isOne 29 = .ok (.ifCond .ne 5, 3) := by decide +kernel
theorem dX10_isOne_32 : decode cX10_isOne 32 = .ok (.iconst 1, 1) := by decide +kernel
theorem dX10_isOne_33 : decode cX10_isOne 33 = .ok (.ireturn, 1) := by decide +kernel
theorem dX10_isOne_34 : decode cX10_isOne 34 = .ok (.iinc 4 1, 3) := by decide +kernel
theorem dX10_isOne_37 : decode cX10_isOne 37 = .ok (.goto (-27), 3) := by decide +kernel
theorem dX10_isOne_40 : decode cX10_isOne 40 = .ok (.iconst 0, 1) := by decide +kernel
theorem dX10_isOne_41 : decode cX10_isOne 41 = .ok (.ireturn, 1) := by decide +kernel
theorem dX11_init_0 : decode cX11_init 0 = .ok (.aload_n 0, 1) := by decide +kernel
theorem dX11_init_1 : decode cX11_init 1 = .ok (.invokespecial 1, 3) := by decide +kernel
theorem dX11_init_4 : decode cX11_init 4 = .ok (.aload_n 0, 1) := by decide +kernel
theorem dX11_init_5 : decode cX11_init 5 = .ok (.sipush 1200, 3) := by decide +kernel
theorem dX11_init_8 : decode cX11_init 8 = .ok (.newarray .byte, 2) := by decide +kernel
theorem dX11_init_10 : decode cX11_init 10 = .ok (.putfield 9, 3) := by decide +kernel
theorem dX11_init_13 : decode cX11_init 13 = .ok (.aload_n 0, 1) := by decide +kernel
theorem dX11_init_14 : decode cX11_init 14 = .ok (.iconst (-1), 1) := by decide +kernel
theorem dX11_init_15 : decode cX11_init 15 = .ok (.putfield 13, 3) := by decide +kernel
theorem dX11_init_18 : decode cX11_init 18 = .ok (.aload_n 0, 1) := by decide +kernel
theorem dX11_init_19 : decode cX11_init 19 = .ok (.new 17, 3) := by decide +kernel
theorem dX11_init_22 : decode cX11_init 22 = .ok (.dup, 1) := by decide +kernel
theorem dX11_init_23 : decode cX11_init 23 = .ok (.invokespecial 19, 3) := by decide +kernel
theorem dX11_init_26 : decode cX11_init 26 = .ok (.putfield 20, 3) := by decide +kernel
theorem dX11_init_29 : decode cX11_init 29 = .ok (.aload_n 0, 1) := by decide +kernel
theorem dX11_init_30 : decode cX11_init 30 = .ok (.new 24, 3) := by decide +kernel
theorem dX11_init_33 : decode cX11_init 33 = .ok (.dup, 1) := by decide +kernel
theorem dX11_init_34 : decode cX11_init 34 = .ok (.invokespecial 26, 3) := by decide +kernel
theorem dX11_init_37 : decode cX11_init 37 = .ok (.putfield 27, 3) := by decide +kernel
theorem dX11_init_40 : decode cX11_init 40 = .ok (.aload_n 0, 1) := by decide +kernel
theorem dX11_init_41 : decode cX11_init 41 = .ok (.new 31, 3) := by decide +kernel
theorem dX11_init_44 : decode cX11_init 44 = .ok (.dup, 1) := by decide +kernel
theorem dX11_init_45 : decode cX11_init 45 = .ok (.invokespecial 33, 3) := by decide +kernel
theorem dX11_init_48 : decode cX11_init 48 = .ok (.putfield 34, 3) := by decide +kernel
theorem dX11_init_51 : decode cX11_init 51 = .ok (.aload_n 0, 1) := by decide +kernel
theorem dX11_init_52 : decode cX11_init 52 = .ok (.new 38, 3) := by decide +kernel
theorem dX11_init_55 : decode cX11_init 55 = .ok (.dup, 1) := by decide +kernel
theorem dX11_init_56 : decode cX11_init 56 = .ok (.invokespecial 40, 3) := by decide +kernel
theorem dX11_init_59 : decode cX11_init 59 = .ok (.putfield 41, 3) := by decide +kernel
theorem dX11_init_62 : decode cX11_init 62 = .ok (.aload_n 0, 1) := by decide +kernel
theorem dX11_init_63 : decode cX11_init 63 = .ok (.iconst 4, 1) := by decide +kernel
theorem dX11_init_64 : decode cX11_init 64 = .ok (.anewarray 38, 3) := by decide +kernel
theorem dX11_init_67 : decode cX11_init 67 = .ok (.putfield 45, 3) := by decide +kernel
theorem dX11_init_70 : decode cX11_init 70 = .ok (.iconst 0, 1) := by decide +kernel
theorem dX11_init_71 : decode cX11_init 71 = .ok (.istore_n 1, 1) := by decide +kernel
theorem dX11_init_72 : decode cX11_init 72 = .ok (.iload_n 1, 1) := by decide +kernel
theorem dX11_init_73 : decode cX11_init 73 = .ok (.aload_n 0, 1) := by decide +kernel
theorem dX11_init_74 : decode cX11_init 74 = .ok (.getfield 45, 3) := by decide +kernel
theorem dX11_init_77 : decode cX11_init 77 = .ok (.arraylength, 1) := by decide +kernel
theorem dX11_init_78 : decode cX11_init 78 = .ok (.if_icmp .ge 22, 3) := by decide +kernel
theorem dX11_init_81 : decode cX11_init 81 = .ok (.aload_n 0, 1) := by decide +kernel
theorem dX11_init_82 : decode cX11_init 82 = .ok (.getfield 45, 3) := by decide +kernel
theorem dX11_init_85 : decode cX11_init 85 = .ok (.iload_n 1, 1) := by decide +kernel
theorem dX11_init_86 : decode cX11_init 86 = .ok (.new 38, 3) := by decide +kernel
theorem dX11_init_89 : decode cX11_init 89 = .ok (.dup, 1) := by decide +kernel
theorem dX11_init_90 : decode cX11_init 90 = .ok (.invokespecial 40, 3) := by decide +kernel
theorem dX11_init_93 : decode cX11_init 93 = .ok (.aastore, 1) := by decide +kernel
theorem dX11_init_94 : decode cX11_init 94 = .ok (.iinc 1 1, 3) := by decide +kernel
theorem dX11_init_97 : decode cX11_init 97 = .ok (.goto (-25), 3) := by decide +kernel
theorem dX11_init_100 : decode cX11_init 100 = .ok (.aload_n 0, 1) := by decide +kernel
theorem dX11_init_101 : decode cX11_init 101 = .ok (.new 49, 3) := by decide +kernel
theorem dX11_init_104 : decode cX11_init 104 = .ok (.dup, 1) := by decide +kernel
theorem dX11_init_105 : decode cX11_init 105 = .ok (.invokespecial 51, 3) := by decide +kernel
theorem dX11_init_108 : decode cX11_init 108 = .ok (.putfield 52, 3) := by decide +kernel
theorem dX11_init_111 : decode cX11_init 111 = .ok (.aload_n 0, 1) := by decide +kernel
theorem dX11_init_112 : decode cX11_init 112 = .ok (.new 56, 3) := by decide +kernel
theorem dX11_init_115 : decode cX11_init 115 = .ok (.dup, 1) := by decide +kernel
theorem dX11_init_116 : decode cX11_init 116 = .ok (.invokespecial 58, 3) := by decide +kernel
theorem dX11_init_119 : decode cX11_init 119 = .ok (.putfield 59, 3) := by decide +kernel
theorem dX11_init_122 : decode cX11_init 122 = .ok (.aload_n 0, 1) := by decide +kernel
theorem dX11_init_123 : decode cX11_init 123 = .ok (.new 63, 3) := by decide +kernel
theorem dX11_init_126 : decode cX11_init 126 = .ok (.dup, 1) := by decide +kernel
theorem dX11_init_127 : decode cX11_init 127 = .ok (.invokespecial 65, 3) := by decide +kernel
theorem dX11_init_130 : decode cX11_init 130 = .ok (.putfield 66, 3) := by decide +kernel
theorem dX11_init_133 : decode cX11_init 133 = .ok (.aload_n 0, 1) := by decide +kernel
theorem dX11_init_134 : decode cX11_init 134 = .ok (.bipush 6, 2) := by decide +kernel
theorem dX11_init_136 : decode cX11_init 136 = .ok (.newarray .int, 2) := by decide +kernel
theorem dX11_init_138 : decode cX11_init 138 = .ok (.putfield 70, 3) := by decide +kernel
theorem dX11_init_141 : decode cX11_init 141 = .ok (.aload_n 0, 1) := by decide +kernel
theorem dX11_init_142 : decode cX11_init 142 = .ok (.bipush 64, 2) := by decide +kernel
theorem dX11_init_144 : decode cX11_init 144 = .ok (.newarray .int, 2) := by decide +kernel
theorem dX11_init_146 : decode cX11_init 146 = .ok (.putfield 74, 3) := by decide +kernel
theorem dX11_init_149 : decode cX11_init 149 = .ok (.aload_n 0, 1) := by decide +kernel
theorem dX11_init_150 : decode cX11_init 150 = .ok (.getfield 34, 3) := by decide +kernel
theorem dX11_init_153 : decode cX11_init 153 = .ok (.aload_n 0, 1) := by decide +kernel
theorem dX11_init_154 : decode cX11_init 154 = .ok (.getfield 27, 3) := by decide +kernel
theorem dX11_init_157 : decode cX11_init 157 = .ok (.invokevirtual 77, 3) := by decide +kernel
theorem dX11_init_160 : decode cX11_init 160 = .ok (.aload_n 0, 1) := by decide +kernel
theorem dX11_init_161 : decode cX11_init 161 = .ok (.getfield 34, 3) := by decide +kernel
theorem dX11_init_164 : decode cX11_init 164 = .ok (.aload_n 0, 1) := by decide +kernel
theorem dX11_init_165 : decode cX11_init 165 = .ok (.getfield 41, 3) := by decide +kernel
theorem dX11_init_168 : decode cX11_init 168 = .ok (.invokevirtual 81, 3) := by decide +kernel
theorem dX11_init_171 : decode cX11_init 171 = .ok (.pop, 1) := by decide +kernel
theorem dX11_init_172 : decode cX11_init 172 = .ok (.return_, 1) := by decide +kernel
theorem dX11_feed_0 : decode cX11_feed 0 = .ok (.aload_n 0, 1) := by decide +kernel
theorem dX11_feed_1 : decode cX11_feed 1 = .ok (.getfield 85, 3) := by decide +kernel
theorem dX11_feed_4 : decode cX11_feed 4 = .ok (.bipush 20, 2) := by decide +kernel
theorem dX11_feed_6 : decode cX11_feed 6 = .ok (.iadd, 1) := by decide +kernel
theorem dX11_feed_7 : decode cX11_feed 7 = .ok (.aload_n 0, 1) := by decide +kernel
theorem dX11_feed_8 : decode cX11_feed 8 = .ok (.getfield 9, 3) := by decide +kernel
theorem dX11_feed_11 : decode cX11_feed 11 = .ok (.arraylength, 1) := by decide +kernel
theorem dX11_feed_12 : decode cX11_feed 12 = .ok (.if_icmp .le 5, 3) := by decide +kernel
theorem dX11_feed_15 : decode cX11_feed 15 = .ok (.iconst (-1), 1) := by decide +kernel
theorem dX11_feed_16 : decode cX11_feed 16 = .ok (.ireturn, 1) := by decide +kernel
theorem dX11_feed_17 : decode cX11_feed 17 = .ok (.aload_n 0, 1) := by decide +kernel
theorem dX11_feed_18 : decode cX11_feed 18 = .ok (.iload_n 1, 1) := by decide +kernel
theorem dX11_feed_19 : decode cX11_feed 19 = .ok (.invokevirtual 88, 3) := by decide +kernel
theorem dX11_feed_22 : decode cX11_feed 22 = .ok (.aload_n 0, 1) := by decide +kernel
theorem dX11_feed_23 : decode cX11_feed 23 = .ok (.iload_n 2, 1) := by decide +kernel
theorem dX11_feed_24 : decode cX11_feed 24 = .ok (.invokevirtual 88, 3) := by decide +kernel
theorem dX11_feed_27 : decode cX11_feed 27 = .ok (.aload_n 0, 1) := by decide +kernel
theorem dX11_feed_28 : decode cX11_feed 28 = .ok (.iload_n 3, 1) := by decide +kernel
theorem dX11_feed_29 : decode cX11_feed 29 = .ok (.invokevirtual 88, 3) := by decide +kernel
theorem dX11_feed_32 : decode cX11_feed 32 = .ok (.aload_n 0, 1) := by decide +kernel
theorem dX11_feed_33 : decode cX11_feed 33 = .ok (.iload 4, 2) := by decide +kernel
theorem dX11_feed_35 : decode cX11_feed 35 = .ok (.invokevirtual 88, 3) := by decide +kernel
theorem dX11_feed_38 : decode cX11_feed 38 = .ok (.aload_n 0, 1) := by decide +kernel
theorem dX11_feed_39 : decode cX11_feed 39 = .ok (.iload 5, 2) := by decide +kernel
theorem dX11_feed_41 : decode cX11_feed 41 = .ok (.invokevirtual 88, 3) := by decide +kernel
theorem dX11_feed_44 : decode cX11_feed 44 = .ok (.aload_n 0, 1) := by decide +kernel
theorem dX11_feed_45 : decode cX11_feed 45 = .ok (.getfield 85, 3) := by decide +kernel
theorem dX11_feed_48 : decode cX11_feed 48 = .ok (.ireturn, 1) := by decide +kernel
theorem dX11_book_0 : decode cX11_book 0 = .ok (.iload_n 1, 1) := by decide +kernel
theorem dX11_book_1 : decode cX11_book 1 = .ok (.ifCond .lt 11, 3) := by decide +kernel
theorem dX11_book_4 : decode cX11_book 4 = .ok (.iload_n 1, 1) := by decide +kernel
theorem dX11_book_5 : decode cX11_book 5 = .ok (.aload_n 0, 1) := by decide +kernel
theorem dX11_book_6 : decode cX11_book 6 = .ok (.getfield 85, 3) := by decide +kernel
theorem dX11_book_9 : decode cX11_book 9 = .ok (.if_icmp .le 6, 3) := by decide +kernel
theorem dX11_book_12 : decode cX11_book 12 = .ok (.bipush (-2), 2) := by decide +kernel
theorem dX11_book_14 : decode cX11_book 14 = .ok (.ireturn, 1) := by decide +kernel
theorem dX11_book_15 : decode cX11_book 15 = .ok (.aload_n 0, 1) := by decide +kernel
theorem dX11_book_16 : decode cX11_book 16 = .ok (.iconst 0, 1) := by decide +kernel
theorem dX11_book_17 : decode cX11_book 17 = .ok (.putfield 85, 3) := by decide +kernel
theorem dX11_book_20 : decode cX11_book 20 = .ok (.new 24, 3) := by decide +kernel
theorem dX11_book_23 : decode cX11_book 23 = .ok (.dup, 1) := by decide +kernel
theorem dX11_book_24 : decode cX11_book 24 = .ok (.invokespecial 26, 3) := by decide +kernel
theorem dX11_book_27 : decode cX11_book 27 = .ok (.astore_n 2, 1) := by decide +kernel
theorem dX11_book_28 : decode cX11_book 28 = .ok (.aload_n 0, 1) := by decide +kernel
theorem dX11_book_29 : decode cX11_book 29 = .ok (.getfield 20, 3) := by decide +kernel
theorem dX11_book_32 : decode cX11_book 32 = .ok (.aload_n 0, 1) := by decide +kernel
theorem dX11_book_33 : decode cX11_book 33 = .ok (.getfield 9, 3) := by decide +kernel
theorem dX11_book_36 : decode cX11_book 36 = .ok (.iload_n 1, 1) := by decide +kernel
theorem dX11_book_37 : decode cX11_book 37 = .ok (.invokevirtual 92, 3) := by decide +kernel
theorem dX11_book_40 : decode cX11_book 40 = .ok (.new 96, 3) := by decide +kernel
theorem dX11_book_43 : decode cX11_book 43 = .ok (.dup, 1) := by decide +kernel
theorem dX11_book_44 : decode cX11_book 44 = .ok (.aload_n 0, 1) := by decide +kernel
theorem dX11_book_45 : decode cX11_book 45 = .ok (.getfield 20, 3) := by decide +kernel
theorem dX11_book_48 : decode cX11_book 48 = .ok (.aload_n 2, 1) := by decide +kernel
theorem dX11_book_49 : decode cX11_book 49 = .ok (.invokespecial 98, 3) := by decide +kernel
theorem dX11_book_52 : decode cX11_book 52 = .ok (.invokevirtual 101, 3) := by decide +kernel
theorem dX11_book_55 : decode cX11_book 55 = .ok (.ifCond .ne 16, 3) := by decide +kernel
theorem dX11_book_58 : decode cX11_book 58 = .ok (.aload_n 0, 1) := by decide +kernel
theorem dX11_book_59 : decode cX11_book 59 = .ok (.aload_n 0, 1) := by decide +kernel
theorem dX11_book_60 : decode cX11_book 60 = .ok (.getfield 20, 3) := by decide +kernel
theorem dX11_book_63 : decode cX11_book 63 = .ok (.invokevirtual 105, 3) := by decide +kernel
theorem dX11_book_66 : decode cX11_book 66 = .ok (.putfield 13, 3) := by decide +kernel
theorem dX11_book_69 : decode cX11_book 69 = .ok (.iconst (-1), 1) := by decide +kernel
theorem dX11_book_70 : decode cX11_book 70 = .ok (.ireturn, 1) := by decide +kernel
theorem dX11_book_71 : decode cX11_book 71 = .ok (.aload_n 0, 1) := by decide +kernel
theorem dX11_book_72 : decode cX11_book 72 = .ok (.iconst (-1), 1) := by decide +kernel
theorem dX11_book_73 : decode cX11_book 73 = .ok (.putfield 13, 3) := by decide +kernel
theorem dX11_book_76 : decode cX11_book 76 = .ok (.aload_n 0, 1) := by decide +kernel
theorem dX11_book_77 : decode cX11_book 77 = .ok (.dup, 1) := by decide +kernel
theorem dX11_book_78 : decode cX11_book 78 = .ok (.getfield 109, 3) := by decide +kernel
theorem dX11_book_81 : decode cX11_book 81 = .ok (.iconst 1, 1) := by decide +kernel
theorem dX11_book_82 : decode cX11_book 82 = .ok (.iadd, 1) := by decide +kernel
theorem dX11_book_83 : decode cX11_book 83 = .ok (.putfield 109, 3) := by decide +kernel
theorem dX11_book_86 : decode cX11_book 86 = .ok (.aload_n 0, 1) := by decide +kernel
theorem dX11_book_87 : decode cX11_book 87 = .ok (.aload_n 2, 1) := by decide +kernel
theorem dX11_book_88 : decode cX11_book 88 = .ok (.putfield 27, 3) := by decide +kernel
theorem dX11_book_91 : decode cX11_book 91 = .ok (.aload_n 0, 1) := by decide +kernel
theorem dX11_book_92 : decode cX11_book 92 = .ok (.iconst 0, 1) := by decide +kernel
theorem dX11_book_93 : decode cX11_book 93 = .ok (.putfield 112, 3) := by decide +kernel
theorem dX11_book_96 : decode cX11_book 96 = .ok (.aload_n 0, 1) := by decide +kernel
theorem dX11_book_97 : decode cX11_book 97 = .ok (.getfield 52, 3) := by decide +kernel
theorem dX11_book_100 : decode cX11_book 100 = .ok (.invokevirtual 115, 3) := by decide +kernel
theorem dX11_book_103 : decode cX11_book 103 = .ok (.aload_n 0, 1) := by decide +kernel
theorem dX11_book_104 : decode cX11_book 104 = .ok (.getfield 41, 3) := by decide +kernel
theorem dX11_book_107 : decode cX11_book 107 = .ok (.aload_n 2, 1) := by decide +kernel
theorem dX11_book_108 : decode cX11_book 108 = .ok (.invokevirtual 118, 3) := by decide +kernel
theorem dX11_book_111 : decode cX11_book 111 = .ok (.aload_n 0, 1) := by decide +kernel
theorem dX11_book_112 : decode cX11_book 112 = .ok (.getfield 34, 3) := by decide +kernel
theorem dX11_book_115 : decode cX11_book 115 = .ok (.aload_n 2, 1) := by decide +kernel
theorem dX11_book_116 : decode cX11_book 116 = .ok (.invokevirtual 77, 3) := by decide +kernel
theorem dX11_book_119 : decode cX11_book 119 = .ok (.aload_n 0, 1) := by decide +kernel
theorem dX11_book_120 : decode cX11_book 120 = .ok (.getfield 34, 3) := by decide +kernel
theorem dX11_book_123 : decode cX11_book 123 = .ok (.aload_n 0, 1) := by decide +kernel
theorem dX11_book_124 : decode cX11_book 124 = .ok (.getfield 41, 3) := by decide +kernel
theorem dX11_book_127 : decode cX11_book 127 = .ok (.invokevirtual 81, 3) := by decide +kernel
theorem dX11_book_130 : decode cX11_book 130 = .ok (.pop, 1) := by decide +kernel
theorem dX11_book_131 : decode cX11_book 131 = .ok (.aload_n 2, 1) := by decide +kernel
theorem dX11_book_132 : decode cX11_book 132 = .ok (.getfield 121, 3) := by decide +kernel
theorem dX11_book_135 : decode cX11_book 135 = .ok (.ireturn, 1) := by decide +kernel
theorem dX11_fault_0 : decode cX11_fault 0 = .ok (.aload_n 0, 1) := by decide +kernel
theorem dX11_fault_1 : decode cX11_fault 1 = .ok (.getfield 13, 3) := by decide +kernel
theorem dX11_fault_4 : decode cX11_fault 4 = .ok (.ireturn, 1) := by decide +kernel
theorem dX11_told_0 : decode cX11_told 0 = .ok (.iload_n 1, 1) := by decide +kernel
theorem dX11_told_1 : decode cX11_told 1 = .ok (.tableswitch 63 0 3 #[31, 39, 47, 55], 31) := by decide +kernel
theorem dX11_told_32 : decode cX11_told 32 = .ok (.aload_n 0, 1) := by decide +kernel
theorem dX11_told_33 : decode cX11_told 33 = .ok (.getfield 27, 3) := by decide +kernel
theorem dX11_told_36 : decode cX11_told 36 = .ok (.getfield 124, 3) := by decide +kernel
theorem dX11_told_39 : decode cX11_told 39 = .ok (.ireturn, 1) := by decide +kernel
theorem dX11_told_40 : decode cX11_told 40 = .ok (.aload_n 0, 1) := by decide +kernel
theorem dX11_told_41 : decode cX11_told 41 = .ok (.getfield 27, 3) := by decide +kernel
theorem dX11_told_44 : decode cX11_told 44 = .ok (.getfield 127, 3) := by decide +kernel
theorem dX11_told_47 : decode cX11_told 47 = .ok (.ireturn, 1) := by decide +kernel
theorem dX11_told_48 : decode cX11_told 48 = .ok (.aload_n 0, 1) := by decide +kernel
theorem dX11_told_49 : decode cX11_told 49 = .ok (.getfield 27, 3) := by decide +kernel
theorem dX11_told_52 : decode cX11_told 52 = .ok (.getfield 121, 3) := by decide +kernel
theorem dX11_told_55 : decode cX11_told 55 = .ok (.ireturn, 1) := by decide +kernel
theorem dX11_told_56 : decode cX11_told 56 = .ok (.aload_n 0, 1) := by decide +kernel
theorem dX11_told_57 : decode cX11_told 57 = .ok (.getfield 27, 3) := by decide +kernel
theorem dX11_told_60 : decode cX11_told 60 = .ok (.getfield 130, 3) := by decide +kernel
theorem dX11_told_63 : decode cX11_told 63 = .ok (.ireturn, 1) := by decide +kernel
theorem dX11_told_64 : decode cX11_told 64 = .ok (.iload_n 1, 1) := by decide +kernel
theorem dX11_told_65 : decode cX11_told 65 = .ok (.bipush 100, 2) := by decide +kernel
theorem dX11_told_67 : decode cX11_told 67 = .ok (.if_icmp .lt 12, 3) := by decide +kernel
theorem dX11_told_70 : decode cX11_told 70 = .ok (.iload_n 1, 1) := by decide +kernel
theorem dX11_told_71 : decode cX11_told 71 = .ok (.bipush 100, 2) := by decide +kernel
theorem dX11_told_73 : decode cX11_told 73 = .ok (.isub, 1) := by decide +kernel
theorem dX11_told_74 : decode cX11_told 74 = .ok (.iconst 2, 1) := by decide +kernel
theorem dX11_told_75 : decode cX11_told 75 = .ok (.idiv, 1) := by decide +kernel
theorem dX11_told_76 : decode cX11_told 76 = .ok (.goto 4, 3) := by decide +kernel
theorem dX11_told_79 : decode cX11_told 79 = .ok (.iconst (-1), 1) := by decide +kernel
theorem dX11_told_80 : decode cX11_told 80 = .ok (.istore_n 2, 1) := by decide +kernel
theorem dX11_told_81 : decode cX11_told 81 = .ok (.aload_n 0, 1) := by decide +kernel
theorem dX11_told_82 : decode cX11_told 82 = .ok (.getfield 27, 3) := by decide +kernel
theorem dX11_told_85 : decode cX11_told 85 = .ok (.iload_n 2, 1) := by decide +kernel
theorem dX11_told_86 : decode cX11_told 86 = .ok (.invokevirtual 133, 3) := by decide +kernel
theorem dX11_told_89 : decode cX11_told 89 = .ok (.ifCond .ne 5, 3) := by decide +kernel
theorem dX11_told_92 : decode cX11_told 92 = .ok (.iconst (-1), 1) := by decide +kernel
theorem dX11_told_93 : decode cX11_told 93 = .ok (.ireturn, 1) := by decide +kernel
theorem dX11_told_94 : decode cX11_told 94 = .ok (.iload_n 1, 1) := by decide +kernel
theorem dX11_told_95 : decode cX11_told 95 = .ok (.iconst 2, 1) := by decide +kernel
theorem dX11_told_96 : decode cX11_told 96 = .ok (.irem, 1) := by decide +kernel
theorem dX11_told_97 : decode cX11_told 97 = .ok (.ifCond .ne 17, 3) := by decide +kernel
theorem dX11_told_100 : decode cX11_told 100 = .ok (.aload_n 0, 1) := by decide +kernel
theorem dX11_told_101 : decode cX11_told 101 = .ok (.getfield 27, 3) := by decide +kernel
theorem dX11_told_104 : decode cX11_told 104 = .ok (.getfield 137, 3) := by decide +kernel
theorem dX11_told_107 : decode cX11_told 107 = .ok (.iload_n 2, 1) := by decide +kernel
theorem dX11_told_108 : decode cX11_told 108 = .ok (.invokestatic 140, 3) := by decide +kernel
theorem dX11_told_111 : decode cX11_told 111 = .ok (.goto 14, 3) := by decide +kernel
theorem dX11_told_114 : decode cX11_told 114 = .ok (.aload_n 0, 1) := by decide +kernel
theorem dX11_told_115 : decode cX11_told 115 = .ok (.getfield 27, 3) := by decide +kernel
theorem dX11_told_118 : decode cX11_told 118 = .ok (.getfield 144, 3) := by decide +kernel
theorem dX11_told_121 : decode cX11_told 121 = .ok (.iload_n 2, 1) := by decide +kernel
theorem dX11_told_122 : decode cX11_told 122 = .ok (.invokestatic 140, 3) := by decide +kernel
theorem dX11_told_125 : decode cX11_told 125 = .ok (.ireturn, 1) := by decide +kernel
theorem dX11_wager_0 : decode cX11_wager 0 = .ok (.aload_n 0, 1) := by decide +kernel
theorem dX11_wager_1 : decode cX11_wager 1 = .ok (.getfield 27, 3) := by decide +kernel
theorem dX11_wager_4 : decode cX11_wager 4 = .ok (.iload_n 1, 1) := by decide +kernel
theorem dX11_wager_5 : decode cX11_wager 5 = .ok (.invokevirtual 147, 3) := by decide +kernel
theorem dX11_wager_8 : decode cX11_wager 8 = .ok (.astore_n 3, 1) := by decide +kernel
theorem dX11_wager_9 : decode cX11_wager 9 = .ok (.aload_n 3, 1) := by decide +kernel
theorem dX11_wager_10 : decode cX11_wager 10 = .ok (.ifnonnull 5, 3) := by decide +kernel
theorem dX11_wager_13 : decode cX11_wager 13 = .ok (.iconst (-1), 1) := by decide +kernel
theorem dX11_wager_14 : decode cX11_wager 14 = .ok (.ireturn, 1) := by decide +kernel
theorem dX11_wager_15 : decode cX11_wager 15 = .ok (.iload_n 2, 1) := by decide +kernel
theorem dX11_wager_16 : decode cX11_wager 16 = .ok (.tableswitch 84 0 5 #[40, 40, 50, 50, 58, 71], 40) := by decide +kernel
theorem dX11_wager_56 : decode cX11_wager 56 = .ok (.aload_n 0, 1) := by decide +kernel
theorem dX11_wager_57 : decode cX11_wager 57 = .ok (.getfield 41, 3) := by decide +kernel
theorem dX11_wager_60 : decode cX11_wager 60 = .ok (.iload_n 1, 1) := by decide +kernel
theorem dX11_wager_61 : decode cX11_wager 61 = .ok (.iload_n 2, 1) := by decide +kernel
theorem dX11_wager_62 : decode cX11_wager 62 = .ok (.invokevirtual 151, 3) := by decide +kernel
theorem dX11_wager_65 : decode cX11_wager 65 = .ok (.ireturn, 1) := by decide +kernel
theorem dX11_wager_66 : decode cX11_wager 66 = .ok (.aload_n 3, 1) := by decide +kernel
theorem dX11_wager_67 : decode cX11_wager 67 = .ok (.iload_n 2, 1) := by decide +kernel
theorem dX11_wager_68 : decode cX11_wager 68 = .ok (.iconst 2, 1) := by decide +kernel
theorem dX11_wager_69 : decode cX11_wager 69 = .ok (.isub, 1) := by decide +kernel
theorem dX11_wager_70 : decode cX11_wager 70 = .ok (.invokevirtual 155, 3) := by decide +kernel
theorem dX11_wager_73 : decode cX11_wager 73 = .ok (.ireturn, 1) := by decide +kernel
theorem dX11_wager_74 : decode cX11_wager 74 = .ok (.aload_n 3, 1) := by decide +kernel
theorem dX11_wager_75 : decode cX11_wager 75 = .ok (.getfield 161, 3) := by decide +kernel
theorem dX11_wager_78 : decode cX11_wager 78 = .ok (.ifnonnull 7, 3) := by decide +kernel
theorem dX11_wager_81 : decode cX11_wager 81 = .ok (.iconst 0, 1) := by decide +kernel
theorem dX11_wager_82 : decode cX11_wager 82 = .ok (.goto 4, 3) := by decide +kernel
theorem dX11_wager_85 : decode cX11_wager 85 = .ok (.iconst 1, 1) := by decide +kernel
theorem dX11_wager_86 : decode cX11_wager 86 = .ok (.ireturn, 1) := by decide +kernel
theorem dX11_wager_87 : decode cX11_wager 87 = .ok (.aload_n 3, 1) := by decide +kernel
theorem dX11_wager_88 : decode cX11_wager 88 = .ok (.getfield 165, 3) := by decide +kernel
theorem dX11_wager_91 : decode cX11_wager 91 = .ok (.ifnonnull 7, 3) := by decide +kernel
theorem dX11_wager_94 : decode cX11_wager 94 = .ok (.iconst 0, 1) := by decide +kernel
theorem dX11_wager_95 : decode cX11_wager 95 = .ok (.goto 4, 3) := by decide +kernel
theorem dX11_wager_98 : decode cX11_wager 98 = .ok (.iconst 1, 1) := by decide +kernel
theorem dX11_wager_99 : decode cX11_wager 99 = .ok (.ireturn, 1) := by decide +kernel
theorem dX11_wager_100 : decode cX11_wager 100 = .ok (.iconst (-1), 1) := by decide +kernel
theorem dX11_wager_101 : decode cX11_wager 101 = .ok (.ireturn, 1) := by decide +kernel
theorem dX11_day_0 : decode cX11_day 0 = .ok (.iload_n 1, 1) := by decide +kernel
theorem dX11_day_1 : decode cX11_day 1 = .ok (.aload_n 0, 1) := by decide +kernel
theorem dX11_day_2 : decode cX11_day 2 = .ok (.getfield 41, 3) := by decide +kernel
theorem dX11_day_5 : decode cX11_day 5 = .ok (.getfield 168, 3) := by decide +kernel
theorem dX11_day_8 : decode cX11_day 8 = .ok (.if_icmp .le 9, 3) := by decide +kernel
theorem dX11_day_11 : decode cX11_day 11 = .ok (.iload_n 1, 1) := by decide +kernel
theorem dX11_day_12 : decode cX11_day 12 = .ok (.bipush 7, 2) := by decide +kernel
theorem dX11_day_14 : decode cX11_day 14 = .ok (.if_icmp .le 5, 3) := by decide +kernel
theorem dX11_day_17 : decode cX11_day 17 = .ok (.iconst (-1), 1) := by decide +kernel
theorem dX11_day_18 : decode cX11_day 18 = .ok (.ireturn, 1) := by decide +kernel
theorem dX11_day_19 : decode cX11_day 19 = .ok (.aload_n 0, 1) := by decide +kernel
theorem dX11_day_20 : decode cX11_day 20 = .ok (.getfield 41, 3) := by decide +kernel
theorem dX11_day_23 : decode cX11_day 23 = .ok (.getfield 168, 3) := by decide +kernel
theorem dX11_day_26 : decode cX11_day 26 = .ok (.istore_n 2, 1) := by decide +kernel
theorem dX11_day_27 : decode cX11_day 27 = .ok (.aload_n 0, 1) := by decide +kernel
theorem dX11_day_28 : decode cX11_day 28 = .ok (.getfield 41, 3) := by decide +kernel
theorem dX11_day_31 : decode cX11_day 31 = .ok (.iload_n 1, 1) := by decide +kernel
theorem dX11_day_32 : decode cX11_day 32 = .ok (.putfield 168, 3) := by decide +kernel
theorem dX11_day_35 : decode cX11_day 35 = .ok (.aload_n 0, 1) := by decide +kernel
theorem dX11_day_36 : decode cX11_day 36 = .ok (.getfield 34, 3) := by decide +kernel
theorem dX11_day_39 : decode cX11_day 39 = .ok (.aload_n 0, 1) := by decide +kernel
theorem dX11_day_40 : decode cX11_day 40 = .ok (.getfield 41, 3) := by decide +kernel
theorem dX11_day_43 : decode cX11_day 43 = .ok (.invokevirtual 81, 3) := by decide +kernel
theorem dX11_day_46 : decode cX11_day 46 = .ok (.ifCond .le 11, 3) := by decide +kernel
theorem dX11_day_49 : decode cX11_day 49 = .ok (.aload_n 0, 1) := by decide +kernel
theorem dX11_day_50 : decode cX11_day 50 = .ok (.getfield 34, 3) := by decide +kernel
theorem dX11_day_53 : decode cX11_day 53 = .ok (.getfield 171, 3) := by decide +kernel
theorem dX11_day_56 : decode cX11_day 56 = .ok (.ireturn, 1) := by decide +kernel
theorem dX11_day_57 : decode cX11_day 57 = .ok (.aload_n 0, 1) := by decide +kernel
theorem dX11_day_58 : decode cX11_day 58 = .ok (.getfield 41, 3) := by decide +kernel
theorem dX11_day_61 : decode cX11_day 61 = .ok (.iload_n 2, 1) := by decide +kernel
theorem dX11_day_62 : decode cX11_day 62 = .ok (.putfield 168, 3) := by decide +kernel
theorem dX11_day_65 : decode cX11_day 65 = .ok (.aload_n 0, 1) := by decide +kernel
theorem dX11_day_66 : decode cX11_day 66 = .ok (.getfield 34, 3) := by decide +kernel
theorem dX11_day_69 : decode cX11_day 69 = .ok (.aload_n 0, 1) := by decide +kernel
theorem dX11_day_70 : decode cX11_day 70 = .ok (.getfield 41, 3) := by decide +kernel
theorem dX11_day_73 : decode cX11_day 73 = .ok (.invokevirtual 81, 3) := by decide +kernel
theorem dX11_day_76 : decode cX11_day 76 = .ok (.pop, 1) := by decide +kernel
theorem dX11_day_77 : decode cX11_day 77 = .ok (.iconst (-1), 1) := by decide +kernel
theorem dX11_day_78 : decode cX11_day 78 = .ok (.ireturn, 1) := by decide +kernel
theorem dX11_come_0 : decode cX11_come 0 = .ok (.aload_n 0, 1) := by decide +kernel
theorem dX11_come_1 : decode cX11_come 1 = .ok (.getfield 27, 3) := by decide +kernel
theorem dX11_come_4 : decode cX11_come 4 = .ok (.iload_n 1, 1) := by decide +kernel
theorem dX11_come_5 : decode cX11_come 5 = .ok (.invokevirtual 133, 3) := by decide +kernel
theorem dX11_come_8 : decode cX11_come 8 = .ok (.ifCond .eq 17, 3) := by decide +kernel
theorem dX11_come_11 : decode cX11_come 11 = .ok (.aload_n 0, 1) := by decide +kernel
theorem dX11_come_12 : decode cX11_come 12 = .ok (.getfield 41, 3) := by decide +kernel
theorem dX11_come_15 : decode cX11_come 15 = .ok (.getfield 174, 3) := by decide +kernel
theorem dX11_come_18 : decode cX11_come 18 = .ok (.iload_n 1, 1) := by decide +kernel
theorem dX11_come_19 : decode cX11_come 19 = .ok (.invokestatic 140, 3) := by decide +kernel
theorem dX11_come_22 : decode cX11_come 22 = .ok (.ifCond .eq 5, 3) := by decide +kernel
theorem dX11_come_25 : decode cX11_come 25 = .ok (.iconst (-1), 1) := by decide +kernel
theorem dX11_come_26 : decode cX11_come 26 = .ok (.ireturn, 1) := by decide +kernel
theorem dX11_come_27 : decode cX11_come 27 = .ok (.aload_n 0, 1) := by decide +kernel
theorem dX11_come_28 : decode cX11_come 28 = .ok (.getfield 41, 3) := by decide +kernel
theorem dX11_come_31 : decode cX11_come 31 = .ok (.getfield 174, 3) := by decide +kernel
theorem dX11_come_34 : decode cX11_come 34 = .ok (.iload_n 1, 1) := by decide +kernel
theorem dX11_come_35 : decode cX11_come 35 = .ok (.aload_n 0, 1) := by decide +kernel
theorem dX11_come_36 : decode cX11_come 36 = .ok (.getfield 41, 3) := by decide +kernel
theorem dX11_come_39 : decode cX11_come 39 = .ok (.getfield 168, 3) := by decide +kernel
theorem dX11_come_42 : decode cX11_come 42 = .ok (.iconst 1, 1) := by decide +kernel
theorem dX11_come_43 : decode cX11_come 43 = .ok (.iadd, 1) := by decide +kernel
theorem dX11_come_44 : decode cX11_come 44 = .ok (.invokestatic 177, 3) := by decide +kernel
theorem dX11_come_47 : decode cX11_come 47 = .ok (.aload_n 0, 1) := by decide +kernel
theorem dX11_come_48 : decode cX11_come 48 = .ok (.getfield 34, 3) := by decide +kernel
theorem dX11_come_51 : decode cX11_come 51 = .ok (.aload_n 0, 1) := by decide +kernel
theorem dX11_come_52 : decode cX11_come 52 = .ok (.getfield 41, 3) := by decide +kernel
theorem dX11_come_55 : decode cX11_come 55 = .ok (.invokevirtual 81, 3) := by decide +kernel
theorem dX11_come_58 : decode cX11_come 58 = .ok (.ifCond .le 11, 3) := by decide +kernel
theorem dX11_come_61 : decode cX11_come 61 = .ok (.aload_n 0, 1) := by decide +kernel
theorem dX11_come_62 : decode cX11_come 62 = .ok (.getfield 34, 3) := by decide +kernel
theorem dX11_come_65 : decode cX11_come 65 = .ok (.getfield 171, 3) := by decide +kernel
theorem dX11_come_68 : decode cX11_come 68 = .ok (.ireturn, 1) := by decide +kernel
theorem dX11_come_69 : decode cX11_come 69 = .ok (.aload_n 0, 1) := by decide +kernel
theorem dX11_come_70 : decode cX11_come 70 = .ok (.getfield 41, 3) := by decide +kernel
theorem dX11_come_73 : decode cX11_come 73 = .ok (.getfield 174, 3) := by decide +kernel
theorem dX11_come_76 : decode cX11_come 76 = .ok (.iload_n 1, 1) := by decide +kernel
theorem dX11_come_77 : decode cX11_come 77 = .ok (.iconst 0, 1) := by decide +kernel
theorem dX11_come_78 : decode cX11_come 78 = .ok (.invokestatic 177, 3) := by decide +kernel
theorem dX11_come_81 : decode cX11_come 81 = .ok (.aload_n 0, 1) := by decide +kernel
theorem dX11_come_82 : decode cX11_come 82 = .ok (.getfield 34, 3) := by decide +kernel
theorem dX11_come_85 : decode cX11_come 85 = .ok (.aload_n 0, 1) := by decide +kernel
theorem dX11_come_86 : decode cX11_come 86 = .ok (.getfield 41, 3) := by decide +kernel
theorem dX11_come_89 : decode cX11_come 89 = .ok (.invokevirtual 81, 3) := by decide +kernel
theorem dX11_come_92 : decode cX11_come 92 = .ok (.pop, 1) := by decide +kernel
theorem dX11_come_93 : decode cX11_come 93 = .ok (.iconst (-1), 1) := by decide +kernel
theorem dX11_come_94 : decode cX11_come 94 = .ok (.ireturn, 1) := by decide +kernel
theorem dX11_chance_0 : decode cX11_chance 0 = .ok (.aload_n 0, 1) := by decide +kernel
theorem dX11_chance_1 : decode cX11_chance 1 = .ok (.getfield 27, 3) := by decide +kernel
theorem dX11_chance_4 : decode cX11_chance 4 = .ok (.iload_n 1, 1) := by decide +kernel
theorem dX11_chance_5 : decode cX11_chance 5 = .ok (.invokevirtual 133, 3) := by decide +kernel
theorem dX11_chance_8 : decode cX11_chance 8 = .ok (.ifCond .eq 28, 3) := by decide +kernel
theorem dX11_chance_11 : decode cX11_chance 11 = .ok (.iload_n 2, 1) := by decide +kernel
theorem dX11_chance_12 : decode cX11_chance 12 = .ok (.iconst (-1), 1) := by decide +kernel
theorem dX11_chance_13 : decode cX11_chance 13 = .ok (.if_icmp .lt 23, 3) := by decide +kernel
theorem dX11_chance_16 : decode cX11_chance 16 = .ok (.iload_n 2, 1) := by decide +kernel
theorem dX11_chance_17 : decode cX11_chance 17 = .ok (.bipush 7, 2) := by decide +kernel
theorem dX11_chance_19 : decode cX11_chance 19 = .ok (.if_icmp .gt 17, 3) := by decide +kernel
theorem dX11_chance_22 : decode cX11_chance 22 = .ok (.iload_n 3, 1) := by decide +kernel
theorem dX11_chance_23 : decode cX11_chance 23 = .ok (.ifCond .lt 13, 3) := by decide +kernel
theorem dX11_chance_26 : decode cX11_chance 26 = .ok (.iload_n 3, 1) := by decide +kernel
theorem dX11_chance_27 : decode cX11_chance 27 = .ok (.bipush 100, 2) := by decide +kernel
theorem dX11_chance_29 : decode cX11_chance 29 = .ok (.if_icmp .gt 7, 3) := by decide +kernel
theorem dX11_chance_32 : decode cX11_chance 32 = .ok (.iconst 1, 1) := by decide +kernel
theorem dX11_chance_33 : decode cX11_chance 33 = .ok (.goto 4, 3) := by decide +kernel
theorem dX11_chance_36 : decode cX11_chance 36 = .ok (.iconst 0, 1) := by decide +kernel
theorem dX11_chance_37 : decode cX11_chance 37 = .ok (.istore 4, 2) := by decide +kernel
theorem dX11_chance_39 : decode cX11_chance 39 = .ok (.iload 4, 2) := by decide +kernel
theorem dX11_chance_41 : decode cX11_chance 41 = .ok (.ifCond .eq 15, 3) := by decide +kernel
theorem dX11_chance_44 : decode cX11_chance 44 = .ok (.aload_n 0, 1) := by decide +kernel
theorem dX11_chance_45 : decode cX11_chance 45 = .ok (.getfield 52, 3) := by decide +kernel
theorem dX11_chance_48 : decode cX11_chance 48 = .ok (.iload_n 1, 1) := by decide +kernel
theorem dX11_chance_49 : decode cX11_chance 49 = .ok (.iload_n 2, 1) := by decide +kernel
theorem dX11_chance_50 : decode cX11_chance 50 = .ok (.iconst 1, 1) := by decide +kernel
theorem dX11_chance_51 : decode cX11_chance 51 = .ok (.iadd, 1) := by decide +kernel
theorem dX11_chance_52 : decode cX11_chance 52 = .ok (.iload_n 3, 1) := by decide +kernel
theorem dX11_chance_53 : decode cX11_chance 53 = .ok (.invokevirtual 181, 3) := by decide +kernel
theorem dX11_chance_56 : decode cX11_chance 56 = .ok (.iload 4, 2) := by decide +kernel
theorem dX11_chance_58 : decode cX11_chance 58 = .ok (.ireturn, 1) := by decide +kernel
theorem dX11_sell_0 : decode cX11_sell 0 = .ok (.aload_n 0, 1) := by decide +kernel
theorem dX11_sell_1 : decode cX11_sell 1 = .ok (.getfield 27, 3) := by decide +kernel
theorem dX11_sell_4 : decode cX11_sell 4 = .ok (.iload_n 1, 1) := by decide +kernel
theorem dX11_sell_5 : decode cX11_sell 5 = .ok (.invokevirtual 147, 3) := by decide +kernel
theorem dX11_sell_8 : decode cX11_sell 8 = .ok (.ifnull 36, 3) := by decide +kernel
theorem dX11_sell_11 : decode cX11_sell 11 = .ok (.iload_n 2, 1) := by decide +kernel
theorem dX11_sell_12 : decode cX11_sell 12 = .ok (.ifCond .lt 32, 3) := by decide +kernel
theorem dX11_sell_15 : decode cX11_sell 15 = .ok (.iload_n 2, 1) := by decide +kernel
theorem dX11_sell_16 : decode cX11_sell 16 = .ok (.iconst 1, 1) := by decide +kernel
theorem dX11_sell_17 : decode cX11_sell 17 = .ok (.if_icmp .gt 27, 3) := by decide +kernel
theorem dX11_sell_20 : decode cX11_sell 20 = .ok (.aload_n 0, 1) := by decide +kernel
theorem dX11_sell_21 : decode cX11_sell 21 = .ok (.getfield 27, 3) := by decide +kernel
theorem dX11_sell_24 : decode cX11_sell 24 = .ok (.iload_n 3, 1) := by decide +kernel
theorem dX11_sell_25 : decode cX11_sell 25 = .ok (.invokevirtual 185, 3) := by decide +kernel
theorem dX11_sell_28 : decode cX11_sell 28 = .ok (.ifCond .eq 16, 3) := by decide +kernel
theorem dX11_sell_31 : decode cX11_sell 31 = .ok (.iload 4, 2) := by decide +kernel
theorem dX11_sell_33 : decode cX11_sell 33 = .ok (.ifCond .lt 11, 3) := by decide +kernel
theorem dX11_sell_36 : decode cX11_sell 36 = .ok (.iload 4, 2) := by decide +kernel
theorem dX11_sell_38 : decode cX11_sell 38 = .ok (.sipush 9999, 3) := by decide +kernel
theorem dX11_sell_41 : decode cX11_sell 41 = .ok (.if_icmp .le 5, 3) := by decide +kernel
theorem dX11_sell_44 : decode cX11_sell 44 = .ok (.iconst 0, 1) := by decide +kernel
theorem dX11_sell_45 : decode cX11_sell 45 = .ok (.ireturn, 1) := by decide +kernel
theorem dX11_sell_46 : decode cX11_sell 46 = .ok (.aload_n 0, 1) := by decide +kernel
theorem dX11_sell_47 : decode cX11_sell 47 = .ok (.getfield 41, 3) := by decide +kernel
theorem dX11_sell_50 : decode cX11_sell 50 = .ok (.iload_n 1, 1) := by decide +kernel
theorem dX11_sell_51 : decode cX11_sell 51 = .ok (.iload_n 2, 1) := by decide +kernel
theorem dX11_sell_52 : decode cX11_sell 52 = .ok (.invokevirtual 151, 3) := by decide +kernel
theorem dX11_sell_55 : decode cX11_sell 55 = .ok (.istore 5, 2) := by decide +kernel
theorem dX11_sell_57 : decode cX11_sell 57 = .ok (.iload 5, 2) := by decide +kernel
theorem dX11_sell_59 : decode cX11_sell 59 = .ok (.iload_n 3, 1) := by decide +kernel
theorem dX11_sell_60 : decode cX11_sell 60 = .ok (.if_icmp .eq 14, 3) := by decide +kernel
theorem dX11_sell_63 : decode cX11_sell 63 = .ok (.aload_n 0, 1) := by decide +kernel
theorem dX11_sell_64 : decode cX11_sell 64 = .ok (.getfield 34, 3) := by decide +kernel
theorem dX11_sell_67 : decode cX11_sell 67 = .ok (.iload_n 1, 1) := by decide +kernel
theorem dX11_sell_68 : decode cX11_sell 68 = .ok (.invokevirtual 188, 3) := by decide +kernel
theorem dX11_sell_71 : decode cX11_sell 71 = .ok (.ifCond .eq 5, 3) := by decide +kernel
theorem dX11_sell_74 : decode cX11_sell 74 = .ok (.iconst 0, 1) := by decide +kernel
theorem dX11_sell_75 : decode cX11_sell 75 = .ok (.ireturn, 1) := by decide +kernel
theorem dX11_sell_76 : decode cX11_sell 76 = .ok (.aload_n 0, 1) := by decide +kernel
theorem dX11_sell_77 : decode cX11_sell 77 = .ok (.getfield 41, 3) := by decide +kernel
theorem dX11_sell_80 : decode cX11_sell 80 = .ok (.iload_n 1, 1) := by decide +kernel
theorem dX11_sell_81 : decode cX11_sell 81 = .ok (.iload_n 2, 1) := by decide +kernel
theorem dX11_sell_82 : decode cX11_sell 82 = .ok (.iload_n 3, 1) := by decide +kernel
theorem dX11_sell_83 : decode cX11_sell 83 = .ok (.iload 4, 2) := by decide +kernel
theorem dX11_sell_85 : decode cX11_sell 85 = .ok (.invokevirtual 191, 3) := by decide +kernel
theorem dX11_sell_88 : decode cX11_sell 88 = .ok (.iconst 1, 1) := by decide +kernel
theorem dX11_sell_89 : decode cX11_sell 89 = .ok (.ireturn, 1) := by decide +kernel
theorem dX11_paid_0 : decode cX11_paid 0 = .ok (.aload_n 0, 1) := by decide +kernel
theorem dX11_paid_1 : decode cX11_paid 1 = .ok (.getfield 27, 3) := by decide +kernel
theorem dX11_paid_4 : decode cX11_paid 4 = .ok (.iload_n 1, 1) := by decide +kernel
theorem dX11_paid_5 : decode cX11_paid 5 = .ok (.invokevirtual 185, 3) := by decide +kernel
theorem dX11_paid_8 : decode cX11_paid 8 = .ok (.ifCond .eq 31, 3) := by decide +kernel
theorem dX11_paid_11 : decode cX11_paid 11 = .ok (.aload_n 0, 1) := by decide +kernel
theorem dX11_paid_12 : decode cX11_paid 12 = .ok (.getfield 27, 3) := by decide +kernel
theorem dX11_paid_15 : decode cX11_paid 15 = .ok (.iload_n 2, 1) := by decide +kernel
theorem dX11_paid_16 : decode cX11_paid 16 = .ok (.invokevirtual 185, 3) := by decide +kernel
theorem dX11_paid_19 : decode cX11_paid 19 = .ok (.ifCond .eq 20, 3) := by decide +kernel
theorem dX11_paid_22 : decode cX11_paid 22 = .ok (.iload_n 1, 1) := by decide +kernel
theorem dX11_paid_23 : decode cX11_paid 23 = .ok (.iload_n 2, 1) := by decide +kernel
theorem dX11_paid_24 : decode cX11_paid 24 = .ok (.if_icmp .eq 15, 3) := by decide +kernel
theorem dX11_paid_27 : decode cX11_paid 27 = .ok (.iload_n 3, 1) := by decide +kernel
theorem dX11_paid_28 : decode cX11_paid 28 = .ok (.iconst 1, 1) := by decide +kernel
theorem dX11_paid_29 : decode cX11_paid 29 = .ok (.if_icmp .lt 10, 3) := by decide +kernel
theorem dX11_paid_32 : decode cX11_paid 32 = .ok (.iload_n 3, 1) := by decide +kernel
theorem dX11_paid_33 : decode cX11_paid 33 = .ok (.sipush 9999, 3) := by decide +kernel
theorem dX11_paid_36 : decode cX11_paid 36 = .ok (.if_icmp .le 5, 3) := by decide +kernel
theorem dX11_paid_39 : decode cX11_paid 39 = .ok (.iconst 0, 1) := by decide +kernel
theorem dX11_paid_40 : decode cX11_paid 40 = .ok (.ireturn, 1) := by decide +kernel
theorem dX11_paid_41 : decode cX11_paid 41 = .ok (.aload_n 0, 1) := by decide +kernel
theorem dX11_paid_42 : decode cX11_paid 42 = .ok (.getfield 41, 3) := by decide +kernel
theorem dX11_paid_45 : decode cX11_paid 45 = .ok (.iload_n 1, 1) := by decide +kernel
theorem dX11_paid_46 : decode cX11_paid 46 = .ok (.iload_n 2, 1) := by decide +kernel
theorem dX11_paid_47 : decode cX11_paid 47 = .ok (.iload_n 3, 1) := by decide +kernel
theorem dX11_paid_48 : decode cX11_paid 48 = .ok (.invokevirtual 195, 3) := by decide +kernel
theorem dX11_paid_51 : decode cX11_paid 51 = .ok (.iconst 1, 1) := by decide +kernel
theorem dX11_paid_52 : decode cX11_paid 52 = .ok (.ireturn, 1) := by decide +kernel
theorem dX11_rows_0 : decode cX11_rows 0 = .ok (.iload_n 1, 1) := by decide +kernel
theorem dX11_rows_1 : decode cX11_rows 1 = .ok (.iconst (-1), 1) := by decide +kernel
theorem dX11_rows_2 : decode cX11_rows 2 = .ok (.if_icmp .ne 13, 3) := by decide +kernel
theorem dX11_rows_5 : decode cX11_rows 5 = .ok (.aload_n 0, 1) := by decide +kernel
theorem dX11_rows_6 : decode cX11_rows 6 = .ok (.getfield 34, 3) := by decide +kernel
theorem dX11_rows_9 : decode cX11_rows 9 = .ok (.getfield 171, 3) := by decide +kernel
theorem dX11_rows_12 : decode cX11_rows 12 = .ok (.goto 11, 3) := by decide +kernel
theorem dX11_rows_15 : decode cX11_rows 15 = .ok (.aload_n 0, 1) := by decide +kernel
theorem dX11_rows_16 : decode cX11_rows 16 = .ok (.getfield 34, 3) := by decide +kernel
theorem dX11_rows_19 : decode cX11_rows 19 = .ok (.iload_n 1, 1) := by decide +kernel
theorem dX11_rows_20 : decode cX11_rows 20 = .ok (.invokevirtual 198, 3) := by decide +kernel
theorem dX11_rows_23 : decode cX11_rows 23 = .ok (.ireturn, 1) := by decide +kernel
theorem dX11_fits_0 : decode cX11_fits 0 = .ok (.aload_n 0, 1) := by decide +kernel
theorem dX11_fits_1 : decode cX11_fits 1 = .ok (.getfield 34, 3) := by decide +kernel
theorem dX11_fits_4 : decode cX11_fits 4 = .ok (.iload_n 1, 1) := by decide +kernel
theorem dX11_fits_5 : decode cX11_fits 5 = .ok (.invokevirtual 201, 3) := by decide +kernel
theorem dX11_fits_8 : decode cX11_fits 8 = .ok (.lstore_n 2, 1) := by decide +kernel
theorem dX11_fits_9 : decode cX11_fits 9 = .ok (.lload_n 2, 1) := by decide +kernel
theorem dX11_fits_10 : decode cX11_fits 10 = .ok (.lconst 0, 1) := by decide +kernel
theorem dX11_fits_11 : decode cX11_fits 11 = .ok (.lcmp, 1) := by decide +kernel
theorem dX11_fits_12 : decode cX11_fits 12 = .ok (.ifCond .ne 5, 3) := by decide +kernel
theorem dX11_fits_15 : decode cX11_fits 15 = .ok (.iconst (-1), 1) := by decide +kernel
theorem dX11_fits_16 : decode cX11_fits 16 = .ok (.ireturn, 1) := by decide +kernel
theorem dX11_fits_17 : decode cX11_fits 17 = .ok (.lload_n 2, 1) := by decide +kernel
theorem dX11_fits_18 : decode cX11_fits 18 = .ok (.ldc2_w 205, 3) := by decide +kernel
theorem dX11_fits_21 : decode cX11_fits 21 = .ok (.land, 1) := by decide +kernel
theorem dX11_fits_22 : decode cX11_fits 22 = .ok (.lconst 0, 1) := by decide +kernel
theorem dX11_fits_23 : decode cX11_fits 23 = .ok (.lcmp, 1) := by decide +kernel
theorem dX11_fits_24 : decode cX11_fits 24 = .ok (.ifCond .eq 7, 3) := by decide +kernel
theorem dX11_fits_27 : decode cX11_fits 27 = .ok (.iconst 2, 1) := by decide +kernel
theorem dX11_fits_28 : decode cX11_fits 28 = .ok (.goto 18, 3) := by decide +kernel
theorem dX11_fits_31 : decode cX11_fits 31 = .ok (.lload_n 2, 1) := by decide +kernel
theorem dX11_fits_32 : decode cX11_fits 32 = .ok (.ldc2_w 207, 3) := by decide +kernel
theorem dX11_fits_35 : decode cX11_fits 35 = .ok (.land, 1) := by decide +kernel
theorem dX11_fits_36 : decode cX11_fits 36 = .ok (.lconst 0, 1) := by decide +kernel
theorem dX11_fits_37 : decode cX11_fits 37 = .ok (.lcmp, 1) := by decide +kernel
theorem dX11_fits_38 : decode cX11_fits 38 = .ok (.ifCond .eq 7, 3) := by decide +kernel
theorem dX11_fits_41 : decode cX11_fits 41 = .ok (.iconst 1, 1) := by decide +kernel
theorem dX11_fits_42 : decode cX11_fits 42 = .ok (.goto 4, 3) := by decide +kernel
theorem dX11_fits_45 : decode cX11_fits 45 = .ok (.iconst 0, 1) := by decide +kernel
theorem dX11_fits_46 : decode cX11_fits 46 = .ok (.ireturn, 1) := by decide +kernel
theorem dX11_pays_0 : decode cX11_pays 0 = .ok (.aload_n 0, 1) := by decide +kernel
theorem dX11_pays_1 : decode cX11_pays 1 = .ok (.getfield 27, 3) := by decide +kernel
theorem dX11_pays_4 : decode cX11_pays 4 = .ok (.iload_n 1, 1) := by decide +kernel
theorem dX11_pays_5 : decode cX11_pays 5 = .ok (.invokevirtual 147, 3) := by decide +kernel
theorem dX11_pays_8 : decode cX11_pays 8 = .ok (.astore_n 3, 1) := by decide +kernel
theorem dX11_pays_9 : decode cX11_pays 9 = .ok (.aload_n 0, 1) := by decide +kernel
theorem dX11_pays_10 : decode cX11_pays 10 = .ok (.getfield 34, 3) := by decide +kernel
theorem dX11_pays_13 : decode cX11_pays 13 = .ok (.iload_n 2, 1) := by decide +kernel
theorem dX11_pays_14 : decode cX11_pays 14 = .ok (.invokevirtual 201, 3) := by decide +kernel
theorem dX11_pays_17 : decode cX11_pays 17 = .ok (.lstore 4, 2) := by decide +kernel
theorem dX11_pays_19 : decode cX11_pays 19 = .ok (.aload_n 3, 1) := by decide +kernel
theorem dX11_pays_20 : decode cX11_pays 20 = .ok (.ifnull 10, 3) := by decide +kernel
theorem dX11_pays_23 : decode cX11_pays 23 = .ok (.lload 4, 2) := by decide +kernel
theorem dX11_pays_25 : decode cX11_pays 25 = .ok (.lconst 0, 1) := by decide +kernel
theorem dX11_pays_26 : decode cX11_pays 26 = .ok (.lcmp, 1) := by decide +kernel
theorem dX11_pays_27 : decode cX11_pays 27 = .ok (.ifCond .ne 8, 3) := by decide +kernel
theorem dX11_pays_30 : decode cX11_pays 30 = .ok (.ldc 209, 2) := by decide +kernel
theorem dX11_pays_32 : decode cX11_pays 32 = .ok (.goto 13, 3) := by decide +kernel
theorem dX11_pays_35 : decode cX11_pays 35 = .ok (.aload_n 3, 1) := by decide +kernel
theorem dX11_pays_36 : decode cX11_pays 36 = .ok (.lload 4, 2) := by decide +kernel
theorem dX11_pays_38 : decode cX11_pays 38 = .ok (.iload_n 1, 1) := by decide +kernel
theorem dX11_pays_39 : decode cX11_pays 39 = .ok (.invokestatic 210, 3) := by decide +kernel
theorem dX11_pays_42 : decode cX11_pays 42 = .ok (.invokevirtual 214, 3) := by decide +kernel
theorem dX11_pays_45 : decode cX11_pays 45 = .ok (.ireturn, 1) := by decide +kernel
theorem dX11_sure_0 : decode cX11_sure 0 = .ok (.aload_n 0, 1) := by decide +kernel
theorem dX11_sure_1 : decode cX11_sure 1 = .ok (.getfield 27, 3) := by decide +kernel
theorem dX11_sure_4 : decode cX11_sure 4 = .ok (.iload_n 1, 1) := by decide +kernel
theorem dX11_sure_5 : decode cX11_sure 5 = .ok (.invokevirtual 147, 3) := by decide +kernel
theorem dX11_sure_8 : decode cX11_sure 8 = .ok (.astore_n 3, 1) := by decide +kernel
theorem dX11_sure_9 : decode cX11_sure 9 = .ok (.aload_n 3, 1) := by decide +kernel
theorem dX11_sure_10 : decode cX11_sure 10 = .ok (.ifnull 12, 3) := by decide +kernel
theorem dX11_sure_13 : decode cX11_sure 13 = .ok (.iload_n 2, 1) := by decide +kernel
theorem dX11_sure_14 : decode cX11_sure 14 = .ok (.ifCond .lt 8, 3) := by decide +kernel
theorem dX11_sure_17 : decode cX11_sure 17 = .ok (.iload_n 2, 1) := by decide +kernel
theorem dX11_sure_18 : decode cX11_sure 18 = .ok (.iconst 1, 1) := by decide +kernel
theorem dX11_sure_19 : decode cX11_sure 19 = .ok (.if_icmp .le 6, 3) := by decide +kernel
theorem dX11_sure_22 : decode cX11_sure 22 = .ok (.ldc 209, 2) := by decide +kernel
theorem dX11_sure_24 : decode cX11_sure 24 = .ok (.ireturn, 1) := by decide +kernel
theorem dX11_sure_25 : decode cX11_sure 25 = .ok (.aload_n 0, 1) := by decide +kernel
theorem dX11_sure_26 : decode cX11_sure 26 = .ok (.getfield 34, 3) := by decide +kernel
theorem dX11_sure_29 : decode cX11_sure 29 = .ok (.iload_n 1, 1) := by decide +kernel
theorem dX11_sure_30 : decode cX11_sure 30 = .ok (.invokevirtual 188, 3) := by decide +kernel
theorem dX11_sure_33 : decode cX11_sure 33 = .ok (.ifCond .ne 5, 3) := by decide +kernel
theorem dX11_sure_36 : decode cX11_sure 36 = .ok (.iconst 0, 1) := by decide +kernel
theorem dX11_sure_37 : decode cX11_sure 37 = .ok (.ireturn, 1) := by decide +kernel
theorem dX11_sure_38 : decode cX11_sure 38 = .ok (.iload_n 2, 1) := by decide +kernel
theorem dX11_sure_39 : decode cX11_sure 39 = .ok (.ifCond .ne 7, 3) := by decide +kernel
theorem dX11_sure_42 : decode cX11_sure 42 = .ok (.iconst 1, 1) := by decide +kernel
theorem dX11_sure_43 : decode cX11_sure 43 = .ok (.goto 18, 3) := by decide +kernel
theorem dX11_sure_46 : decode cX11_sure 46 = .ok (.aload_n 3, 1) := by decide +kernel
theorem dX11_sure_47 : decode cX11_sure 47 = .ok (.aload_n 0, 1) := by decide +kernel
theorem dX11_sure_48 : decode cX11_sure 48 = .ok (.getfield 34, 3) := by decide +kernel
theorem dX11_sure_51 : decode cX11_sure 51 = .ok (.getfield 217, 3) := by decide +kernel
theorem dX11_sure_54 : decode cX11_sure 54 = .ok (.iload_n 1, 1) := by decide +kernel
theorem dX11_sure_55 : decode cX11_sure 55 = .ok (.invokestatic 210, 3) := by decide +kernel
theorem dX11_sure_58 : decode cX11_sure 58 = .ok (.invokevirtual 214, 3) := by decide +kernel
theorem dX11_sure_61 : decode cX11_sure 61 = .ok (.ireturn, 1) := by decide +kernel
theorem dX11_split_0 : decode cX11_split 0 = .ok (.aload_n 0, 1) := by decide +kernel
theorem dX11_split_1 : decode cX11_split 1 = .ok (.getfield 27, 3) := by decide +kernel
theorem dX11_split_4 : decode cX11_split 4 = .ok (.iload_n 1, 1) := by decide +kernel
theorem dX11_split_5 : decode cX11_split 5 = .ok (.invokevirtual 147, 3) := by decide +kernel
theorem dX11_split_8 : decode cX11_split 8 = .ok (.ifnonnull 5, 3) := by decide +kernel
theorem dX11_split_11 : decode cX11_split 11 = .ok (.iconst (-1), 1) := by decide +kernel
theorem dX11_split_12 : decode cX11_split 12 = .ok (.ireturn, 1) := by decide +kernel
theorem dX11_split_13 : decode cX11_split 13 = .ok (.iload_n 2, 1) := by decide +kernel
theorem dX11_split_14 : decode cX11_split 14 = .ok (.tableswitch 73 0 3 #[30, 41, 52, 62], 30) := by decide +kernel
theorem dX11_split_44 : decode cX11_split 44 = .ok (.aload_n 0, 1) := by decide +kernel
theorem dX11_split_45 : decode cX11_split 45 = .ok (.getfield 34, 3) := by decide +kernel
theorem dX11_split_48 : decode cX11_split 48 = .ok (.iload_n 1, 1) := by decide +kernel
theorem dX11_split_49 : decode cX11_split 49 = .ok (.bipush 24, 2) := by decide +kernel
theorem dX11_split_51 : decode cX11_split 51 = .ok (.invokevirtual 221, 3) := by decide +kernel
theorem dX11_split_54 : decode cX11_split 54 = .ok (.ireturn, 1) := by decide +kernel
theorem dX11_split_55 : decode cX11_split 55 = .ok (.aload_n 0, 1) := by decide +kernel
theorem dX11_split_56 : decode cX11_split 56 = .ok (.getfield 34, 3) := by decide +kernel
theorem dX11_split_59 : decode cX11_split 59 = .ok (.iload_n 1, 1) := by decide +kernel
theorem dX11_split_60 : decode cX11_split 60 = .ok (.bipush 6, 2) := by decide +kernel
theorem dX11_split_62 : decode cX11_split 62 = .ok (.invokevirtual 221, 3) := by decide +kernel
theorem dX11_split_65 : decode cX11_split 65 = .ok (.ireturn, 1) := by decide +kernel
theorem dX11_split_66 : decode cX11_split 66 = .ok (.aload_n 0, 1) := by decide +kernel
theorem dX11_split_67 : decode cX11_split 67 = .ok (.getfield 34, 3) := by decide +kernel
theorem dX11_split_70 : decode cX11_split 70 = .ok (.iload_n 1, 1) := by decide +kernel
theorem dX11_split_71 : decode cX11_split 71 = .ok (.iconst 1, 1) := by decide +kernel
theorem dX11_split_72 : decode cX11_split 72 = .ok (.invokevirtual 221, 3) := by decide +kernel
theorem dX11_split_75 : decode cX11_split 75 = .ok (.ireturn, 1) := by decide +kernel
theorem dX11_split_76 : decode cX11_split 76 = .ok (.aload_n 0, 1) := by decide +kernel
theorem dX11_split_77 : decode cX11_split 77 = .ok (.getfield 34, 3) := by decide +kernel
theorem dX11_split_80 : decode cX11_split 80 = .ok (.iload_n 1, 1) := by decide +kernel
theorem dX11_split_81 : decode cX11_split 81 = .ok (.bipush 20, 2) := by decide +kernel
theorem dX11_split_83 : decode cX11_split 83 = .ok (.invokevirtual 221, 3) := by decide +kernel
theorem dX11_split_86 : decode cX11_split 86 = .ok (.ireturn, 1) := by decide +kernel
theorem dX11_split_87 : decode cX11_split 87 = .ok (.iconst (-1), 1) := by decide +kernel
theorem dX11_split_88 : decode cX11_split 88 = .ok (.ireturn, 1) := by decide +kernel
theorem dX11_when_0 : decode cX11_when 0 = .ok (.aload_n 0, 1) := by decide +kernel
theorem dX11_when_1 : decode cX11_when 1 = .ok (.getfield 27, 3) := by decide +kernel
theorem dX11_when_4 : decode cX11_when 4 = .ok (.iload_n 1, 1) := by decide +kernel
theorem dX11_when_5 : decode cX11_when 5 = .ok (.invokevirtual 147, 3) := by decide +kernel
theorem dX11_when_8 : decode cX11_when 8 = .ok (.ifnull 24, 3) := by decide +kernel
theorem dX11_when_11 : decode cX11_when 11 = .ok (.aload_n 0, 1) := by decide +kernel
theorem dX11_when_12 : decode cX11_when 12 = .ok (.getfield 34, 3) := by decide +kernel
theorem dX11_when_15 : decode cX11_when 15 = .ok (.iload_n 2, 1) := by decide +kernel
theorem dX11_when_16 : decode cX11_when 16 = .ok (.invokevirtual 201, 3) := by decide +kernel
theorem dX11_when_19 : decode cX11_when 19 = .ok (.ldc2_w 207, 3) := by decide +kernel
theorem dX11_when_22 : decode cX11_when 22 = .ok (.land, 1) := by decide +kernel
theorem dX11_when_23 : decode cX11_when 23 = .ok (.lconst 0, 1) := by decide +kernel
theorem dX11_when_24 : decode cX11_when 24 = .ok (.lcmp, 1) := by decide +kernel
theorem dX11_when_25 : decode cX11_when 25 = .ok (.ifCond .eq 7, 3) := by decide +kernel
theorem dX11_when_28 : decode cX11_when 28 = .ok (.iconst 1, 1) := by decide +kernel
theorem dX11_when_29 : decode cX11_when 29 = .ok (.goto 4, 3) := by decide +kernel
theorem dX11_when_32 : decode cX11_when 32 = .ok (.iconst 0, 1) := by decide +kernel
theorem dX11_when_33 : decode cX11_when 33 = .ok (.istore_n 3, 1) := by decide +kernel
theorem dX11_when_34 : decode cX11_when 34 = .ok (.iload_n 3, 1) := by decide +kernel
theorem dX11_when_35 : decode cX11_when 35 = .ok (.ifCond .eq 15, 3) := by decide +kernel
theorem dX11_when_38 : decode cX11_when 38 = .ok (.aload_n 0, 1) := by decide +kernel
theorem dX11_when_39 : decode cX11_when 39 = .ok (.getfield 34, 3) := by decide +kernel
theorem dX11_when_42 : decode cX11_when 42 = .ok (.iload_n 1, 1) := by decide +kernel
theorem dX11_when_43 : decode cX11_when 43 = .ok (.iload_n 2, 1) := by decide +kernel
theorem dX11_when_44 : decode cX11_when 44 = .ok (.invokevirtual 224, 3) := by decide +kernel
theorem dX11_when_47 : decode cX11_when 47 = .ok (.goto 4, 3) := by decide +kernel
theorem dX11_when_50 : decode cX11_when 50 = .ok (.iconst (-1), 1) := by decide +kernel
theorem dX11_when_51 : decode cX11_when 51 = .ok (.ireturn, 1) := by decide +kernel
theorem dX11_latest_0 : decode cX11_latest 0 = .ok (.aload_n 0, 1) := by decide +kernel
theorem dX11_latest_1 : decode cX11_latest 1 = .ok (.getfield 27, 3) := by decide +kernel
theorem dX11_latest_4 : decode cX11_latest 4 = .ok (.iload_n 1, 1) := by decide +kernel
theorem dX11_latest_5 : decode cX11_latest 5 = .ok (.invokevirtual 147, 3) := by decide +kernel
theorem dX11_latest_8 : decode cX11_latest 8 = .ok (.ifnonnull 7, 3) := by decide +kernel
theorem dX11_latest_11 : decode cX11_latest 11 = .ok (.iconst (-1), 1) := by decide +kernel
theorem dX11_latest_12 : decode cX11_latest 12 = .ok (.goto 11, 3) := by decide +kernel
theorem dX11_latest_15 : decode cX11_latest 15 = .ok (.aload_n 0, 1) := by decide +kernel
theorem dX11_latest_16 : decode cX11_latest 16 = .ok (.getfield 34, 3) := by decide +kernel
theorem dX11_latest_19 : decode cX11_latest 19 = .ok (.iload_n 1, 1) := by decide +kernel
theorem dX11_latest_20 : decode cX11_latest 20 = .ok (.invokevirtual 227, 3) := by decide +kernel
theorem dX11_latest_23 : decode cX11_latest 23 = .ok (.ireturn, 1) := by decide +kernel
theorem dX11_hang_0 : decode cX11_hang 0 = .ok (.aload_n 0, 1) := by decide +kernel
theorem dX11_hang_1 : decode cX11_hang 1 = .ok (.getfield 27, 3) := by decide +kernel
theorem dX11_hang_4 : decode cX11_hang 4 = .ok (.iload_n 1, 1) := by decide +kernel
theorem dX11_hang_5 : decode cX11_hang 5 = .ok (.invokevirtual 147, 3) := by decide +kernel
theorem dX11_hang_8 : decode cX11_hang 8 = .ok (.ifnonnull 7, 3) := by decide +kernel
theorem dX11_hang_11 : decode cX11_hang 11 = .ok (.iconst (-1), 1) := by decide +kernel
theorem dX11_hang_12 : decode cX11_hang 12 = .ok (.goto 11, 3) := by decide +kernel
theorem dX11_hang_15 : decode cX11_hang 15 = .ok (.aload_n 0, 1) := by decide +kernel
theorem dX11_hang_16 : decode cX11_hang 16 = .ok (.getfield 34, 3) := by decide +kernel
theorem dX11_hang_19 : decode cX11_hang 19 = .ok (.iload_n 1, 1) := by decide +kernel
theorem dX11_hang_20 : decode cX11_hang 20 = .ok (.invokevirtual 230, 3) := by decide +kernel
theorem dX11_hang_23 : decode cX11_hang 23 = .ok (.ireturn, 1) := by decide +kernel
theorem dX11_same_0 : decode cX11_same 0 = .ok (.aload_n 0, 1) := by decide +kernel
theorem dX11_same_1 : decode cX11_same 1 = .ok (.getfield 27, 3) := by decide +kernel
theorem dX11_same_4 : decode cX11_same 4 = .ok (.iload_n 1, 1) := by decide +kernel
theorem dX11_same_5 : decode cX11_same 5 = .ok (.invokevirtual 147, 3) := by decide +kernel
theorem dX11_same_8 : decode cX11_same 8 = .ok (.astore_n 3, 1) := by decide +kernel
theorem dX11_same_9 : decode cX11_same 9 = .ok (.aload_n 0, 1) := by decide +kernel
theorem dX11_same_10 : decode cX11_same 10 = .ok (.getfield 27, 3) := by decide +kernel
theorem dX11_same_13 : decode cX11_same 13 = .ok (.iload_n 2, 1) := by decide +kernel
theorem dX11_same_14 : decode cX11_same 14 = .ok (.invokevirtual 147, 3) := by decide +kernel
theorem dX11_same_17 : decode cX11_same 17 = .ok (.astore 4, 2) := by decide +kernel
theorem dX11_same_19 : decode cX11_same 19 = .ok (.aload_n 3, 1) := by decide +kernel
theorem dX11_same_20 : decode cX11_same 20 = .ok (.ifnull 8, 3) := by decide +kernel
theorem dX11_same_23 : decode cX11_same 23 = .ok (.aload 4, 2) := by decide +kernel
theorem dX11_same_25 : decode cX11_same 25 = .ok (.ifnonnull 6, 3) := by decide +kernel
theorem dX11_same_28 : decode cX11_same 28 = .ok (.bipush (-2), 2) := by decide +kernel
theorem dX11_same_30 : decode cX11_same 30 = .ok (.ireturn, 1) := by decide +kernel
theorem dX11_same_31 : decode cX11_same 31 = .ok (.iconst 0, 1) := by decide +kernel
