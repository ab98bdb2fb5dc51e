def RJx145de : String := "java/io/Serializable"
def TJx145de : u_T := fun k => match k with
  | _ => ("", "", "", false)
def tyJx145de : Nat → FieldType := fun k => match k with
  | _ => .int
def RJxb160c : String := "java/lang/Comparable"
def TJxb160c : u_T := fun k => match k with
  | _ => ("", "", "", false)
def tyJxb160c : Nat → FieldType := fun k => match k with
  | _ => .int
def RJx29ce0 : String := "java/lang/Enum"
def TJx29ce0 : u_T := fun k => match k with
  | _ => ("", "", "", false)
def tyJx29ce0 : Nat → FieldType := fun k => match k with
  | _ => .int
def RJ6 : String := "java/lang/Integer"
def TJ6 : u_T := fun k => match k with
  | _ => ("", "", "", false)
def tyJ6 : Nat → FieldType := fun k => match k with
  | _ => .int
abbrev cJ6_compare_7cf53 : ByteArray := prog_16_method_40_code
def yJ6_compare_7cf53 : MethodName := ⟨RJ6, "compare", "(II)I"⟩
abbrev cJ6_numberOfTrailingZeros_0f7a4 : ByteArray := prog_16_method_48_code
def yJ6_numberOfTrailingZeros_0f7a4 : MethodName := ⟨RJ6, "numberOfTrailingZeros", "(I)I"⟩
abbrev cJ6_bitCount_0f7a4 : ByteArray := prog_16_method_49_code
def yJ6_bitCount_0f7a4 : MethodName := ⟨RJ6, "bitCount", "(I)I"⟩
def RJ13 : String := "java/lang/Long"
def TJ13 : u_T := fun k => match k with
  | _ => ("", "", "", false)
def tyJ13 : Nat → FieldType := fun k => match k with
  | _ => .int
abbrev cJ13_numberOfTrailingZeros_95d88 : ByteArray := prog_17_method_49_code
def yJ13_numberOfTrailingZeros_95d88 : MethodName := ⟨RJ13, "numberOfTrailingZeros", "(J)I"⟩
abbrev cJ13_bitCount_95d88 : ByteArray := prog_17_method_50_code
def yJ13_bitCount_95d88 : MethodName := ⟨RJ13, "bitCount", "(J)I"⟩
def RJ9 : String := "java/lang/Math"
def TJ9 : u_T := fun k => match k with
  | _ => ("", "", "", false)
def tyJ9 : Nat → FieldType := fun k => match k with
  | _ => .int
abbrev cJ9_abs_067f4 : ByteArray := prog_18_method_61_code
def yJ9_abs_067f4 : MethodName := ⟨RJ9, "abs", "(J)J"⟩
abbrev cJ9_max_7cf53 : ByteArray := prog_18_method_65_code
def yJ9_max_7cf53 : MethodName := ⟨RJ9, "max", "(II)I"⟩
abbrev cJ9_min_7cf53 : ByteArray := prog_18_method_69_code
def yJ9_min_7cf53 : MethodName := ⟨RJ9, "min", "(II)I"⟩
def RJxd2413 : String := "java/lang/Number"
def TJxd2413 : u_T := fun k => match k with
  | _ => ("", "", "", false)
def tyJxd2413 : Nat → FieldType := fun k => match k with
  | _ => .int
def RJxfd54e : String := "java/lang/constant/Constable"
def TJxfd54e : u_T := fun k => match k with
  | _ => ("", "", "", false)
def tyJxfd54e : Nat → FieldType := fun k => match k with
  | _ => .int
def RJx3cf43 : String := "java/lang/constant/ConstantDesc"
def TJx3cf43 : u_T := fun k => match k with
  | _ => ("", "", "", false)
def tyJx3cf43 : Nat → FieldType := fun k => match k with
  | _ => .int
def RJ7 : String := "java/util/Arrays"
def TJ7 : u_T := fun k => match k with
  | _ => ("", "", "", false)
def tyJ7 : Nat → FieldType := fun k => match k with
  | _ => .int
abbrev cJ7_fill_d0a16 : ByteArray := prog_20_method_101_code
def yJ7_fill_d0a16 : MethodName := ⟨RJ7, "fill", "([JJ)V"⟩
abbrev cJ7_fill_53178 : ByteArray := prog_20_method_103_code
def yJ7_fill_53178 : MethodName := ⟨RJ7, "fill", "([II)V"⟩
theorem dX12_settle_102 : decode cX12_settle 102 = .ok (.aload_n 0, 1) := by decide +kernel
theorem dX12_settle_103 : decode cX12_settle 103 = .ok (.getfield 109, 3) := by decide +kernel
theorem dX12_settle_106 : decode cX12_settle 106 = .ok (.iload_n 2, 1) := by decide +kernel
theorem dX12_settle_107 : decode cX12_settle 107 = .ok (.iaload, 1) := by decide +kernel
theorem dX12_settle_108 : decode cX12_settle 108 = .ok (.aload_n 0, 1) := by decide +kernel
theorem dX12_settle_109 : decode cX12_settle 109 = .ok (.getfield 109, 3) := by decide +kernel
theorem dX12_settle_112 : decode cX12_settle 112 = .ok (.iload_n 2, 1) := by decide +kernel
theorem dX12_settle_113 : decode cX12_settle 113 = .ok (.iconst 1, 1) := by decide +kernel
theorem dX12_settle_114 : decode cX12_settle 114 = .ok (.iload 4, 2) := by decide +kernel
theorem dX12_settle_116 : decode cX12_settle 116 = .ok (.ishl, 1) := by decide +kernel
theorem dX12_settle_117 : decode cX12_settle 117 = .ok (.iconst (-1), 1) := by decide +kernel
theorem dX12_settle_118 : decode cX12_settle 118 = .ok (.ixor, 1) := by decide +kernel
theorem dX12_settle_119 : decode cX12_settle 119 = .ok (.iand, 1) := by decide +kernel
theorem dX12_settle_120 : decode cX12_settle 120 = .ok (.iaload, 1) := by decide +kernel
theorem dX12_settle_121 : decode cX12_settle 121 = .ok (.invokestatic 402, 3) := by decide +kernel
theorem dX12_settle_124 : decode cX12_settle 124 = .ok (.iastore, 1) := by decide +kernel
theorem dX12_settle_125 : decode cX12_settle 125 = .ok (.iinc 4 1, 3) := by decide +kernel
theorem dX12_settle_128 : decode cX12_settle 128 = .ok (.goto (-62), 3) := by decide +kernel
theorem dX12_settle_131 : decode cX12_settle 131 = .ok (.aload_n 0, 1) := by decide +kernel
theorem dX12_settle_132 : decode cX12_settle 132 = .ok (.getfield 109, 3) := by decide +kernel
theorem dX12_settle_135 : decode cX12_settle 135 = .ok (.iload_n 2, 1) := by decide +kernel
theorem dX12_settle_136 : decode cX12_settle 136 = .ok (.dup2, 1) := by decide +kernel
theorem dX12_settle_137 : decode cX12_settle 137 = .ok (.iaload, 1) := by decide +kernel
theorem dX12_settle_138 : decode cX12_settle 138 = .ok (.iload_n 3, 1) := by decide +kernel
theorem dX12_settle_139 : decode cX12_settle 139 = .ok (.ifCond .ne 7, 3) := by decide +kernel
theorem dX12_settle_142 : decode cX12_settle 142 = .ok (.iconst 1, 1) := by decide +kernel
theorem dX12_settle_143 : decode cX12_settle 143 = .ok (.goto 4, 3) := by decide +kernel
theorem dX12_settle_146 : decode cX12_settle 146 = .ok (.iconst 0, 1) := by decide +kernel
theorem dX12_settle_147 : decode cX12_settle 147 = .ok (.invokestatic 319, 3) := by decide +kernel
theorem dX12_settle_150 : decode cX12_settle 150 = .ok (.iadd, 1) := by decide +kernel
theorem dX12_settle_151 : decode cX12_settle 151 = .ok (.iastore, 1) := by decide +kernel
theorem dX12_settle_152 : decode cX12_settle 152 = .ok (.iinc 2 1, 3) := by decide +kernel
theorem dX12_settle_155 : decode cX12_settle 155 = .ok (.goto (-111), 3) := by decide +kernel
theorem dX12_settle_158 : decode cX12_settle 158 = .ok (.aload_n 0, 1) := by decide +kernel
theorem dX12_settle_159 : decode cX12_settle 159 = .ok (.getfield 285, 3) := by decide +kernel
theorem dX12_settle_162 : decode cX12_settle 162 = .ok (.iload_n 1, 1) := by decide +kernel
theorem dX12_settle_163 : decode cX12_settle 163 = .ok (.isub, 1) := by decide +kernel
theorem dX12_settle_164 : decode cX12_settle 164 = .ok (.istore_n 2, 1) := by decide +kernel
theorem dX12_settle_165 : decode cX12_settle 165 = .ok (.aload_n 0, 1) := by decide +kernel
theorem dX12_settle_166 : decode cX12_settle 166 = .ok (.getfield 285, 3) := by decide +kernel
theorem dX12_settle_169 : decode cX12_settle 169 = .ok (.ifCond .ne 7, 3) := by decide +kernel
theorem dX12_settle_172 : decode cX12_settle 172 = .ok (.iconst 0, 1) := by decide +kernel
theorem dX12_settle_173 : decode cX12_settle 173 = .ok (.goto 20, 3) := by decide +kernel
theorem dX12_settle_176 : decode cX12_settle 176 = .ok (.iload_n 1, 1) := by decide +kernel
theorem dX12_settle_177 : decode cX12_settle 177 = .ok (.aload_n 0, 1) := by decide +kernel
theorem dX12_settle_178 : decode cX12_settle 178 = .ok (.getfield 109, 3) := by decide +kernel
theorem dX12_settle_181 : decode cX12_settle 181 = .ok (.iconst 1, 1) := by decide +kernel
theorem dX12_settle_182 : decode cX12_settle 182 = .ok (.aload_n 0, 1) := by decide +kernel
theorem dX12_settle_183 : decode cX12_settle 183 = .ok (.getfield 285, 3) := by decide +kernel
theorem dX12_settle_186 : decode cX12_settle 186 = .ok (.ishl, 1) := by decide +kernel
theorem dX12_settle_187 : decode cX12_settle 187 = .ok (.iconst 1, 1) := by decide +kernel
theorem dX12_settle_188 : decode cX12_settle 188 = .ok (.isub, 1) := by decide +kernel
theorem dX12_settle_189 : decode cX12_settle 189 = .ok (.iaload, 1) := by decide +kernel
theorem dX12_settle_190 : decode cX12_settle 190 = .ok (.iload_n 2, 1) := by decide +kernel
theorem dX12_settle_191 : decode cX12_settle 191 = .ok (.isub, 1) := by decide +kernel
theorem dX12_settle_192 : decode cX12_settle 192 = .ok (.isub, 1) := by decide +kernel
theorem dX12_settle_193 : decode cX12_settle 193 = .ok (.ireturn, 1) := by decide +kernel
theorem dX12_best_0 : decode cX12_best 0 = .ok (.aload_n 0, 1) := by decide +kernel
theorem dX12_best_1 : decode cX12_best 1 = .ok (.getfield 285, 3) := by decide +kernel
theorem dX12_best_4 : decode cX12_best 4 = .ok (.ifCond .eq 12, 3) := by decide +kernel
theorem dX12_best_7 : decode cX12_best 7 = .ok (.iload_n 1, 1) := by decide +kernel
theorem dX12_best_8 : decode cX12_best 8 = .ok (.iconst 0, 1) := by decide +kernel
theorem dX12_best_9 : decode cX12_best 9 = .ok (.iconst 1, 1) := by decide +kernel
theorem dX12_best_10 : decode cX12_best 10 = .ok (.invokestatic 153, 3) := by decide +kernel
theorem dX12_best_13 : decode cX12_best 13 = .ok (.ifCond .ne 5, 3) := by decide +kernel
theorem dX12_best_16 : decode cX12_best 16 = .ok (.iconst (-1), 1) := by decide +kernel
theorem dX12_best_17 : decode cX12_best 17 = .ok (.ireturn, 1) := by decide +kernel
theorem dX12_best_18 : decode cX12_best 18 = .ok (.aload_n 0, 1) := by decide +kernel
theorem dX12_best_19 : decode cX12_best 19 = .ok (.invokevirtual 393, 3) := by decide +kernel
theorem dX12_best_22 : decode cX12_best 22 = .ok (.iconst 0, 1) := by decide +kernel
theorem dX12_best_23 : decode cX12_best 23 = .ok (.istore_n 2, 1) := by decide +kernel
theorem dX12_best_24 : decode cX12_best 24 = .ok (.iconst 1, 1) := by decide +kernel
theorem dX12_best_25 : decode cX12_best 25 = .ok (.istore_n 3, 1) := by decide +kernel
theorem dX12_best_26 : decode cX12_best 26 = .ok (.iload_n 3, 1) := by decide +kernel
theorem dX12_best_27 : decode cX12_best 27 = .ok (.aload_n 0, 1) := by decide +kernel
theorem dX12_best_28 : decode cX12_best 28 = .ok (.getfield 285, 3) := by decide +kernel
theorem dX12_best_31 : decode cX12_best 31 = .ok (.if_icmp .ge 48, 3) := by decide +kernel
theorem dX12_best_34 : decode cX12_best 34 = .ok (.iload_n 1, 1) := by decide +kernel
theorem dX12_best_35 : decode cX12_best 35 = .ok (.ifCond .ne 21, 3) := by decide +kernel
theorem dX12_best_38 : decode cX12_best 38 = .ok (.aload_n 0, 1) := by decide +kernel
theorem dX12_best_39 : decode cX12_best 39 = .ok (.getfield 106, 3) := by decide +kernel
theorem dX12_best_42 : decode cX12_best 42 = .ok (.iload_n 3, 1) := by decide +kernel
theorem dX12_best_43 : decode cX12_best 43 = .ok (.iaload, 1) := by decide +kernel
theorem dX12_best_44 : decode cX12_best 44 = .ok (.aload_n 0, 1) := by decide +kernel
theorem dX12_best_45 : decode cX12_best 45 = .ok (.getfield 106, 3) := by decide +kernel
theorem dX12_best_48 : decode cX12_best 48 = .ok (.iload_n 2, 1) := by decide +kernel
theorem dX12_best_49 : decode cX12_best 49 = .ok (.iaload, 1) := by decide +kernel
theorem dX12_best_50 : decode cX12_best 50 = .ok (.if_icmp .le 23, 3) := by decide +kernel
theorem dX12_best_53 : decode cX12_best 53 = .ok (.goto 18, 3) := by decide +kernel
theorem dX12_best_56 : decode cX12_best 56 = .ok (.aload_n 0, 1) := by decide +kernel
theorem dX12_best_57 : decode cX12_best 57 = .ok (.getfield 106, 3) := by decide +kernel
theorem dX12_best_60 : decode cX12_best 60 = .ok (.iload_n 3, 1) := by decide +kernel
theorem dX12_best_61 : decode cX12_best 61 = .ok (.iaload, 1) := by decide +kernel
theorem dX12_best_62 : decode cX12_best 62 = .ok (.aload_n 0, 1) := by decide +kernel
theorem dX12_best_63 : decode cX12_best 63 = .ok (.getfield 106, 3) := by decide +kernel
theorem dX12_best_66 : decode cX12_best 66 = .ok (.iload_n 2, 1) := by decide +kernel
theorem dX12_best_67 : decode cX12_best 67 = .ok (.iaload, 1) := by decide +kernel
theorem dX12_best_68 : decode cX12_best 68 = .ok (.if_icmp .ge 5, 3) := by decide +kernel
theorem dX12_best_71 : decode cX12_best 71 = .ok (.iload_n 3, 1) := by decide +kernel
theorem dX12_best_72 : decode cX12_best 72 = .ok (.istore_n 2, 1) := by decide +kernel
theorem dX12_best_73 : decode cX12_best 73 = .ok (.iinc 3 1, 3) := by decide +kernel
theorem dX12_best_76 : decode cX12_best 76 = .ok (.goto (-50), 3) := by decide +kernel
theorem dX12_best_79 : decode cX12_best 79 = .ok (.iload_n 2, 1) := by decide +kernel
theorem dX12_best_80 : decode cX12_best 80 = .ok (.ireturn, 1) := by decide +kernel
theorem dX12_amount_0 : decode cX12_amount 0 = .ok (.iload_n 0, 1) := by decide +kernel
theorem dX12_amount_1 : decode cX12_amount 1 = .ok (.ifCond .ne 7, 3) := by decide +kernel
theorem dX12_amount_4 : decode cX12_amount 4 = .ok (.iconst 0, 1) := by decide +kernel
theorem dX12_amount_5 : decode cX12_amount 5 = .ok (.goto 37, 3) := by decide +kernel
theorem dX12_amount_8 : decode cX12_amount 8 = .ok (.iload_n 0, 1) := by decide +kernel
theorem dX12_amount_9 : decode cX12_amount 9 = .ok (.iconst 1, 1) := by decide +kernel
theorem dX12_amount_10 : decode cX12_amount 10 = .ok (.if_icmp .ne 7, 3) := by decide +kernel
theorem dX12_amount_13 : decode cX12_amount 13 = .ok (.iload_n 1, 1) := by decide +kernel
theorem dX12_amount_14 : decode cX12_amount 14 = .ok (.goto 28, 3) := by decide +kernel
theorem dX12_amount_17 : decode cX12_amount 17 = .ok (.iload_n 0, 1) := by decide +kernel
theorem dX12_amount_18 : decode cX12_amount 18 = .ok (.iconst 2, 1) := by decide +kernel
theorem dX12_amount_19 : decode cX12_amount 19 = .ok (.if_icmp .ne 8, 3) := by decide +kernel
theorem dX12_amount_22 : decode cX12_amount 22 = .ok (.iload_n 2, 1) := by decide +kernel
theorem dX12_amount_23 : decode cX12_amount 23 = .ok (.ineg, 1) := by decide +kernel
theorem dX12_amount_24 : decode cX12_amount 24 = .ok (.goto 18, 3) := by decide +kernel
theorem dX12_amount_27 : decode cX12_amount 27 = .ok (.iload_n 0, 1) := by decide +kernel
theorem dX12_amount_28 : decode cX12_amount 28 = .ok (.iconst 3, 1) := by decide +kernel
theorem dX12_amount_29 : decode cX12_amount 29 = .ok (.if_icmp .ne 9, 3) := by decide +kernel
theorem dX12_amount_32 : decode cX12_amount 32 = .ok (.iconst 2, 1) := by decide +kernel
theorem dX12_amount_33 : decode cX12_amount 33 = .ok (.iload_n 1, 1) := by decide +kernel
theorem dX12_amount_34 : decode cX12_amount 34 = .ok (.imul, 1) := by decide +kernel
theorem dX12_amount_35 : decode cX12_amount 35 = .ok (.goto 7, 3) := by decide +kernel
theorem dX12_amount_38 : decode cX12_amount 38 = .ok (.bipush (-2), 2) := by decide +kernel
theorem dX12_amount_40 : decode cX12_amount 40 = .ok (.iload_n 2, 1) := by decide +kernel
theorem dX12_amount_41 : decode cX12_amount 41 = .ok (.imul, 1) := by decide +kernel
theorem dX12_amount_42 : decode cX12_amount 42 = .ok (.ireturn, 1) := by decide +kernel
theorem dX12_meets_0 : decode cX12_meets 0 = .ok (.iconst 0, 1) := by decide +kernel
theorem dX12_meets_1 : decode cX12_meets 1 = .ok (.istore_n 1, 1) := by decide +kernel
theorem dX12_meets_2 : decode cX12_meets 2 = .ok (.iload_n 1, 1) := by decide +kernel
theorem dX12_meets_3 : decode cX12_meets 3 = .ok (.sipush 15625, 3) := by decide +kernel
theorem dX12_meets_6 : decode cX12_meets 6 = .ok (.if_icmp .ge 16, 3) := by decide +kernel
theorem dX12_meets_9 : decode cX12_meets 9 = .ok (.aload_n 0, 1) := by decide +kernel
theorem dX12_meets_10 : decode cX12_meets 10 = .ok (.getfield 112, 3) := by decide +kernel
theorem dX12_meets_13 : decode cX12_meets 13 = .ok (.iload_n 1, 1) := by decide +kernel
theorem dX12_meets_14 : decode cX12_meets 14 = .ok (.iconst 0, 1) := by decide +kernel
theorem dX12_meets_15 : decode cX12_meets 15 = .ok (.bastore, 1) := by decide +kernel
theorem dX12_meets_16 : decode cX12_meets 16 = .ok (.iinc 1 1, 3) := by decide +kernel
theorem dX12_meets_19 : decode cX12_meets 19 = .ok (.goto (-17), 3) := by decide +kernel
theorem dX12_meets_22 : decode cX12_meets 22 = .ok (.iconst 0, 1) := by decide +kernel
theorem dX12_meets_23 : decode cX12_meets 23 = .ok (.istore_n 1, 1) := by decide +kernel
theorem dX12_meets_24 : decode cX12_meets 24 = .ok (.iload_n 1, 1) := by decide +kernel
theorem dX12_meets_25 : decode cX12_meets 25 = .ok (.aload_n 0, 1) := by decide +kernel
theorem dX12_meets_26 : decode cX12_meets 26 = .ok (.getfield 329, 3) := by decide +kernel
theorem dX12_meets_29 : decode cX12_meets 29 = .ok (.if_icmp .ge 67, 3) := by decide +kernel
theorem dX12_meets_32 : decode cX12_meets 32 = .ok (.aload_n 0, 1) := by decide +kernel
theorem dX12_meets_33 : decode cX12_meets 33 = .ok (.iload_n 1, 1) := by decide +kernel
theorem dX12_meets_34 : decode cX12_meets 34 = .ok (.invokevirtual 348, 3) := by decide +kernel
theorem dX12_meets_37 : decode cX12_meets 37 = .ok (.ifCond .ne 6, 3) := by decide +kernel
theorem dX12_meets_40 : decode cX12_meets 40 = .ok (.goto 50, 3) := by decide +kernel
theorem dX12_meets_43 : decode cX12_meets 43 = .ok (.iconst 0, 1) := by decide +kernel
theorem dX12_meets_44 : decode cX12_meets 44 = .ok (.istore_n 2, 1) := by decide +kernel
theorem dX12_meets_45 : decode cX12_meets 45 = .ok (.aload_n 0, 1) := by decide +kernel
theorem dX12_meets_46 : decode cX12_meets 46 = .ok (.getfield 407, 3) := by decide +kernel
theorem dX12_meets_49 : decode cX12_meets 49 = .ok (.iconst 1, 1) := by decide +kernel
theorem dX12_meets_50 : decode cX12_meets 50 = .ok (.isub, 1) := by decide +kernel
theorem dX12_meets_51 : decode cX12_meets 51 = .ok (.istore_n 3, 1) := by decide +kernel
theorem dX12_meets_52 : decode cX12_meets 52 = .ok (.iload_n 3, 1) := by decide +kernel
theorem dX12_meets_53 : decode cX12_meets 53 = .ok (.ifCond .lt 30, 3) := by decide +kernel
theorem dX12_meets_56 : decode cX12_meets 56 = .ok (.iconst 5, 1) := by decide +kernel
theorem dX12_meets_57 : decode cX12_meets 57 = .ok (.iload_n 2, 1) := by decide +kernel
theorem dX12_meets_58 : decode cX12_meets 58 = .ok (.imul, 1) := by decide +kernel
theorem dX12_meets_59 : decode cX12_meets 59 = .ok (.aload_n 0, 1) := by decide +kernel
theorem dX12_meets_60 : decode cX12_meets 60 = .ok (.getfield 87, 3) := by decide +kernel
theorem dX12_meets_63 : decode cX12_meets 63 = .ok (.ldc 82, 2) := by decide +kernel
theorem dX12_meets_65 : decode cX12_meets 65 = .ok (.aload_n 0, 1) := by decide +kernel
theorem dX12_meets_66 : decode cX12_meets 66 = .ok (.getfield 115, 3) := by decide +kernel
theorem dX12_meets_69 : decode cX12_meets 69 = .ok (.iload_n 3, 1) := by decide +kernel
theorem dX12_meets_70 : decode cX12_meets 70 = .ok (.iaload, 1) := by decide +kernel
theorem dX12_meets_71 : decode cX12_meets 71 = .ok (.imul, 1) := by decide +kernel
theorem dX12_meets_72 : decode cX12_meets 72 = .ok (.iload_n 1, 1) := by decide +kernel
theorem dX12_meets_73 : decode cX12_meets 73 = .ok (.iadd, 1) := by decide +kernel
theorem dX12_meets_74 : decode cX12_meets 74 = .ok (.baload, 1) := by decide +kernel
theorem dX12_meets_75 : decode cX12_meets 75 = .ok (.iadd, 1) := by decide +kernel
theorem dX12_meets_76 : decode cX12_meets 76 = .ok (.istore_n 2, 1) := by decide +kernel
theorem dX12_meets_77 : decode cX12_meets 77 = .ok (.iinc 3 (-1), 3) := by decide +kernel
theorem dX12_meets_80 : decode cX12_meets 80 = .ok (.goto (-28), 3) := by decide +kernel
theorem dX12_meets_83 : decode cX12_meets 83 = .ok (.aload_n 0, 1) := by decide +kernel
theorem dX12_meets_84 : decode cX12_meets 84 = .ok (.getfield 112, 3) := by decide +kernel
theorem dX12_meets_87 : decode cX12_meets 87 = .ok (.iload_n 2, 1) := by decide +kernel
theorem dX12_meets_88 : decode cX12_meets 88 = .ok (.iconst 1, 1) := by decide +kernel
theorem dX12_meets_89 : decode cX12_meets 89 = .ok (.bastore, 1) := by decide +kernel
theorem dX12_meets_90 : decode cX12_meets 90 = .ok (.iinc 1 1, 3) := by decide +kernel
theorem dX12_meets_93 : decode cX12_meets 93 = .ok (.goto (-69), 3) := by decide +kernel
theorem dX12_meets_96 : decode cX12_meets 96 = .ok (.return_, 1) := by decide +kernel
theorem dX12_wins_0 : decode cX12_wins 0 = .ok (.iconst 0, 1) := by decide +kernel
theorem dX12_wins_1 : decode cX12_wins 1 = .ok (.istore_n 2, 1) := by decide +kernel
theorem dX12_wins_2 : decode cX12_wins 2 = .ok (.iconst 1, 1) := by decide +kernel
theorem dX12_wins_3 : decode cX12_wins 3 = .ok (.istore_n 3, 1) := by decide +kernel
theorem dX12_wins_4 : decode cX12_wins 4 = .ok (.iconst 0, 1) := by decide +kernel
theorem dX12_wins_5 : decode cX12_wins 5 = .ok (.istore 4, 2) := by decide +kernel
theorem dX12_wins_7 : decode cX12_wins 7 = .ok (.iload 4, 2) := by decide +kernel
theorem dX12_wins_9 : decode cX12_wins 9 = .ok (.aload_n 0, 1) := by decide +kernel
theorem dX12_wins_10 : decode cX12_wins 10 = .ok (.getfield 407, 3) := by decide +kernel
theorem dX12_wins_13 : decode cX12_wins 13 = .ok (.if_icmp .ge 13, 3) := by decide +kernel
theorem dX12_wins_16 : decode cX12_wins 16 = .ok (.iload_n 3, 1) := by decide +kernel
theorem dX12_wins_17 : decode cX12_wins 17 = .ok (.iconst 5, 1) := by decide +kernel
theorem dX12_wins_18 : decode cX12_wins 18 = .ok (.imul, 1) := by decide +kernel
theorem dX12_wins_19 : decode cX12_wins 19 = .ok (.istore_n 3, 1) := by decide +kernel
theorem dX12_wins_20 : decode cX12_wins 20 = .ok (.iinc 4 1, 3) := by decide +kernel
theorem dX12_wins_23 : decode cX12_wins 23 = .ok (.goto (-16), 3) := by decide +kernel
theorem dX12_wins_26 : decode cX12_wins 26 = .ok (.iconst 0, 1) := by decide +kernel
theorem dX12_wins_27 : decode cX12_wins 27 = .ok (.istore 4, 2) := by decide +kernel
theorem dX12_wins_29 : decode cX12_wins 29 = .ok (.iload 4, 2) := by decide +kernel
theorem dX12_wins_31 : decode cX12_wins 31 = .ok (.iload_n 3, 1) := by decide +kernel
theorem dX12_wins_32 : decode cX12_wins 32 = .ok (.if_icmp .ge 150, 3) := by decide +kernel
theorem dX12_wins_35 : decode cX12_wins 35 = .ok (.aload_n 0, 1) := by decide +kernel
theorem dX12_wins_36 : decode cX12_wins 36 = .ok (.getfield 112, 3) := by decide +kernel
theorem dX12_wins_39 : decode cX12_wins 39 = .ok (.iload 4, 2) := by decide +kernel
theorem dX12_wins_41 : decode cX12_wins 41 = .ok (.baload, 1) := by decide +kernel
theorem dX12_wins_42 : decode cX12_wins 42 = .ok (.ifCond .ne 6, 3) := by decide +kernel
theorem dX12_wins_45 : decode cX12_wins 45 = .ok (.goto 131, 3) := by decide +kernel
theorem dX12_wins_48 : decode cX12_wins 48 = .ok (.iconst 0, 1) := by decide +kernel
theorem dX12_wins_49 : decode cX12_wins 49 = .ok (.istore 5, 2) := by decide +kernel
theorem dX12_wins_51 : decode cX12_wins 51 = .ok (.iload 4, 2) := by decide +kernel
theorem dX12_wins_53 : decode cX12_wins 53 = .ok (.istore 6, 2) := by decide +kernel
theorem dX12_wins_55 : decode cX12_wins 55 = .ok (.iload_n 1, 1) := by decide +kernel
theorem dX12_wins_56 : decode cX12_wins 56 = .ok (.istore 7, 2) := by decide +kernel
theorem dX12_wins_58 : decode cX12_wins 58 = .ok (.iconst 0, 1) := by decide +kernel
theorem dX12_wins_59 : decode cX12_wins 59 = .ok (.istore 8, 2) := by decide +kernel
theorem dX12_wins_61 : decode cX12_wins 61 = .ok (.iload 8, 2) := by decide +kernel
theorem dX12_wins_63 : decode cX12_wins 63 = .ok (.aload_n 0, 1) := by decide +kernel
theorem dX12_wins_64 : decode cX12_wins 64 = .ok (.getfield 407, 3) := by decide +kernel
theorem dX12_wins_67 : decode cX12_wins 67 = .ok (.if_icmp .ge 87, 3) := by decide +kernel
theorem dX12_wins_70 : decode cX12_wins 70 = .ok (.iload 6, 2) := by decide +kernel
theorem dX12_wins_72 : decode cX12_wins 72 = .ok (.iconst 5, 1) := by decide +kernel
theorem dX12_wins_73 : decode cX12_wins 73 = .ok (.irem, 1) := by decide +kernel
theorem dX12_wins_74 : decode cX12_wins 74 = .ok (.aload_n 0, 1) := by decide +kernel
theorem dX12_wins_75 : decode cX12_wins 75 = .ok (.getfield 25, 3) := by decide +kernel
theorem dX12_wins_78 : decode cX12_wins 78 = .ok (.aload_n 0, 1) := by decide +kernel
theorem dX12_wins_79 : decode cX12_wins 79 = .ok (.getfield 115, 3) := by decide +kernel
theorem dX12_wins_82 : decode cX12_wins 82 = .ok (.iload 8, 2) := by decide +kernel
theorem dX12_wins_84 : decode cX12_wins 84 = .ok (.iaload, 1) := by decide +kernel
theorem dX12_wins_85 : decode cX12_wins 85 = .ok (.iaload, 1) := by decide +kernel
theorem dX12_wins_86 : decode cX12_wins 86 = .ok (.aload_n 0, 1) := by decide +kernel
theorem dX12_wins_87 : decode cX12_wins 87 = .ok (.getfield 22, 3) := by decide +kernel
theorem dX12_wins_90 : decode cX12_wins 90 = .ok (.aload_n 0, 1) := by decide +kernel
theorem dX12_wins_91 : decode cX12_wins 91 = .ok (.getfield 115, 3) := by decide +kernel
theorem dX12_wins_94 : decode cX12_wins 94 = .ok (.iload 8, 2) := by decide +kernel
theorem dX12_wins_96 : decode cX12_wins 96 = .ok (.iaload, 1) := by decide +kernel
theorem dX12_wins_97 : decode cX12_wins 97 = .ok (.iaload, 1) := by decide +kernel
theorem dX12_wins_98 : decode cX12_wins 98 = .ok (.invokestatic 410, 3) := by decide +kernel
theorem dX12_wins_101 : decode cX12_wins 101 = .ok (.istore 9, 2) := by decide +kernel
theorem dX12_wins_103 : decode cX12_wins 103 = .ok (.iload 5, 2) := by decide +kernel
theorem dX12_wins_105 : decode cX12_wins 105 = .ok (.iload 7, 2) := by decide +kernel
theorem dX12_wins_107 : decode cX12_wins 107 = .ok (.iconst 3, 1) := by decide +kernel
theorem dX12_wins_108 : decode cX12_wins 108 = .ok (.irem, 1) := by decide +kernel
theorem dX12_wins_109 : decode cX12_wins 109 = .ok (.iconst 1, 1) := by decide +kernel
theorem dX12_wins_110 : decode cX12_wins 110 = .ok (.if_icmp .ne 8, 3) := by decide +kernel
theorem dX12_wins_113 : decode cX12_wins 113 = .ok (.iload 9, 2) := by decide +kernel
theorem dX12_wins_115 : decode cX12_wins 115 = .ok (.goto 18, 3) := by decide +kernel
theorem dX12_wins_118 : decode cX12_wins 118 = .ok (.iload 7, 2) := by decide +kernel
theorem dX12_wins_120 : decode cX12_wins 120 = .ok (.iconst 3, 1) := by decide +kernel
theorem dX12_wins_121 : decode cX12_wins 121 = .ok (.irem, 1) := by decide +kernel
theorem dX12_wins_122 : decode cX12_wins 122 = .ok (.iconst 2, 1) := by decide +kernel
theorem dX12_wins_123 : decode cX12_wins 123 = .ok (.if_icmp .ne 9, 3) := by decide +kernel
theorem dX12_wins_126 : decode cX12_wins 126 = .ok (.iload 9, 2) := by decide +kernel
theorem dX12_wins_128 : decode cX12_wins 128 = .ok (.ineg, 1) := by decide +kernel
theorem dX12_wins_129 : decode cX12_wins 129 = .ok (.goto 4, 3) := by decide +kernel
theorem dX12_wins_132 : decode cX12_wins 132 = .ok (.iconst 0, 1) := by decide +kernel
theorem dX12_wins_133 : decode cX12_wins 133 = .ok (.iadd, 1) := by decide +kernel
theorem dX12_wins_134 : decode cX12_wins 134 = .ok (.istore 5, 2) := by decide +kernel
theorem dX12_wins_136 : decode cX12_wins 136 = .ok (.iload 6, 2) := by decide +kernel
theorem dX12_wins_138 : decode cX12_wins 138 = .ok (.iconst 5, 1) := by decide +kernel
theorem dX12_wins_139 : decode cX12_wins 139 = .ok (.idiv, 1) := by decide +kernel
theorem dX12_wins_140 : decode cX12_wins 140 = .ok (.istore 6, 2) := by decide +kernel
theorem dX12_wins_142 : decode cX12_wins 142 = .ok (.iload 7, 2) := by decide +kernel
theorem dX12_wins_144 : decode cX12_wins 144 = .ok (.iconst 3, 1) := by decide +kernel
theorem dX12_wins_145 : decode cX12_wins 145 = .ok (.idiv, 1) := by decide +kernel
theorem dX12_wins_146 : decode cX12_wins 146 = .ok (.istore 7, 2) := by decide +kernel
theorem dX12_wins_148 : decode cX12_wins 148 = .ok (.iinc 8 1, 3) := by decide +kernel
theorem dX12_wins_151 : decode cX12_wins 151 = .ok (.goto (-90), 3) := by decide +kernel
theorem dX12_wins_154 : decode cX12_wins 154 = .ok (.iload 5, 2) := by decide +kernel
theorem dX12_wins_156 : decode cX12_wins 156 = .ok (.ifCond .ge 5, 3) := by decide +kernel
theorem dX12_wins_159 : decode cX12_wins 159 = .ok (.iconst 0, 1) := by decide +kernel
theorem dX12_wins_160 : decode cX12_wins 160 = .ok (.ireturn, 1) := by decide +kernel
theorem dX12_wins_161 : decode cX12_wins 161 = .ok (.iload_n 2, 1) := by decide +kernel
theorem dX12_wins_162 : decode cX12_wins 162 = .ok (.ifCond .ne 8, 3) := by decide +kernel
theorem dX12_wins_165 : decode cX12_wins 165 = .ok (.iload 5, 2) := by decide +kernel
theorem dX12_wins_167 : decode cX12_wins 167 = .ok (.ifCond .le 7, 3) := by decide +kernel
theorem dX12_wins_170 : decode cX12_wins 170 = .ok (.iconst 1, 1) := by decide +kernel
theorem dX12_wins_171 : decode cX12_wins 171 = .ok (.goto 4, 3) := by decide +kernel
theorem dX12_wins_174 : decode cX12_wins 174 = .ok (.iconst 0, 1) := by decide +kernel
theorem dX12_wins_175 : decode cX12_wins 175 = .ok (.istore_n 2, 1) := by decide +kernel
theorem dX12_wins_176 : decode cX12_wins 176 = .ok (.iinc 4 1, 3) := by decide +kernel
theorem dX12_wins_179 : decode cX12_wins 179 = .ok (.goto (-150), 3) := by decide +kernel
theorem dX12_wins_182 : decode cX12_wins 182 = .ok (.iload_n 2, 1) := by decide +kernel
theorem dX12_wins_183 : decode cX12_wins 183 = .ok (.ireturn, 1) := by decide +kernel
theorem dX12_staked_0 : decode cX12_staked 0 = .ok (.iconst 0, 1) := by decide +kernel
theorem dX12_staked_1 : decode cX12_staked 1 = .ok (.istore_n 2, 1) := by decide +kernel
theorem dX12_staked_2 : decode cX12_staked 2 = .ok (.iload_n 1, 1) := by decide +kernel
theorem dX12_staked_3 : decode cX12_staked 3 = .ok (.istore_n 3, 1) := by decide +kernel
theorem dX12_staked_4 : decode cX12_staked 4 = .ok (.iconst 0, 1) := by decide +kernel
theorem dX12_staked_5 : decode cX12_staked 5 = .ok (.istore 4, 2) := by decide +kernel
theorem dX12_staked_7 : decode cX12_staked 7 = .ok (.iload 4, 2) := by decide +kernel
theorem dX12_staked_9 : decode cX12_staked 9 = .ok (.aload_n 0, 1) := by decide +kernel
theorem dX12_staked_10 : decode cX12_staked 10 = .ok (.getfield 407, 3) := by decide +kernel
theorem dX12_staked_13 : decode cX12_staked 13 = .ok (.if_icmp .ge 61, 3) := by decide +kernel
theorem dX12_staked_16 : decode cX12_staked 16 = .ok (.iload_n 2, 1) := by decide +kernel
theorem dX12_staked_17 : decode cX12_staked 17 = .ok (.iload_n 3, 1) := by decide +kernel
theorem dX12_staked_18 : decode cX12_staked 18 = .ok (.iconst 3, 1) := by decide +kernel
theorem dX12_staked_19 : decode cX12_staked 19 = .ok (.irem, 1) := by decide +kernel
theorem dX12_staked_20 : decode cX12_staked 20 = .ok (.iconst 1, 1) := by decide +kernel
theorem dX12_staked_21 : decode cX12_staked 21 = .ok (.if_icmp .ne 18, 3) := by decide +kernel
theorem dX12_staked_24 : decode cX12_staked 24 = .ok (.aload_n 0, 1) := by decide +kernel
theorem dX12_staked_25 : decode cX12_staked 25 = .ok (.getfield 22, 3) := by decide +kernel
theorem dX12_staked_28 : decode cX12_staked 28 = .ok (.aload_n 0, 1) := by decide +kernel
theorem dX12_staked_29 : decode cX12_staked 29 = .ok (.getfield 115, 3) := by decide +kernel
theorem dX12_staked_32 : decode cX12_staked 32 = .ok (.iload 4, 2) := by decide +kernel
theorem dX12_staked_34 : decode cX12_staked 34 = .ok (.iaload, 1) := by decide +kernel
theorem dX12_staked_35 : decode cX12_staked 35 = .ok (.iaload, 1) := by decide +kernel
theorem dX12_staked_36 : decode cX12_staked 36 = .ok (.goto 26, 3) := by decide +kernel
theorem dX12_staked_39 : decode cX12_staked 39 = .ok (.iload_n 3, 1) := by decide +kernel
theorem dX12_staked_40 : decode cX12_staked 40 = .ok (.iconst 3, 1) := by decide +kernel
theorem dX12_staked_41 : decode cX12_staked 41 = .ok (.irem, 1) := by decide +kernel
theorem dX12_staked_42 : decode cX12_staked 42 = .ok (.iconst 2, 1) := by decide +kernel
theorem dX12_staked_43 : decode cX12_staked 43 = .ok (.if_icmp .ne 18, 3) := by decide +kernel
theorem dX12_staked_46 : decode cX12_staked 46 = .ok (.aload_n 0, 1) := by decide +kernel
theorem dX12_staked_47 : decode cX12_staked 47 = .ok (.getfield 25, 3) := by decide +kernel
theorem dX12_staked_50 : decode cX12_staked 50 = .ok (.aload_n 0, 1) := by decide +kernel
theorem dX12_staked_51 : decode cX12_staked 51 = .ok (.getfield 115, 3) := by decide +kernel
theorem dX12_staked_54 : decode cX12_staked 54 = .ok (.iload 4, 2) := by decide +kernel
theorem dX12_staked_56 : decode cX12_staked 56 = .ok (.iaload, 1) := by decide +kernel
theorem dX12_staked_57 : decode cX12_staked 57 = .ok (.iaload, 1) := by decide +kernel
theorem dX12_staked_58 : decode cX12_staked 58 = .ok (.goto 4, 3) := by decide +kernel
theorem dX12_staked_61 : decode cX12_staked 61 = .ok (.iconst 0, 1) := by decide +kernel
theorem dX12_staked_62 : decode cX12_staked 62 = .ok (.iadd, 1) := by decide +kernel
theorem dX12_staked_63 : decode cX12_staked 63 = .ok (.istore_n 2, 1) := by decide +kernel
theorem dX12_staked_64 : decode cX12_staked 64 = .ok (.iload_n 3, 1) := by decide +kernel
theorem dX12_staked_65 : decode cX12_staked 65 = .ok (.iconst 3, 1) := by decide +kernel
theorem dX12_staked_66 : decode cX12_staked 66 = .ok (.idiv, 1) := by decide +kernel
theorem dX12_staked_67 : decode cX12_staked 67 = .ok (.istore_n 3, 1) := by decide +kernel
theorem dX12_staked_68 : decode cX12_staked 68 = .ok (.iinc 4 1, 3) := by decide +kernel
theorem dX12_staked_71 : decode cX12_staked 71 = .ok (.goto (-64), 3) := by decide +kernel
theorem dX12_staked_74 : decode cX12_staked 74 = .ok (.iload_n 2, 1) := by decide +kernel
theorem dX12_staked_75 : decode cX12_staked 75 = .ok (.ireturn, 1) := by decide +kernel
theorem dX12_win_0 : decode cX12_win 0 = .ok (.iload_n 2, 1) := by decide +kernel
theorem dX12_win_1 : decode cX12_win 1 = .ok (.iconst 0, 1) := by decide +kernel
theorem dX12_win_2 : decode cX12_win 2 = .ok (.iconst 1, 1) := by decide +kernel
theorem dX12_win_3 : decode cX12_win 3 = .ok (.invokestatic 153, 3) := by decide +kernel
theorem dX12_win_6 : decode cX12_win 6 = .ok (.ifCond .eq 16, 3) := by decide +kernel
theorem dX12_win_9 : decode cX12_win 9 = .ok (.iload_n 1, 1) := by decide +kernel
theorem dX12_win_10 : decode cX12_win 10 = .ok (.ifCond .lt 12, 3) := by decide +kernel
theorem dX12_win_13 : decode cX12_win 13 = .ok (.iload_n 1, 1) := by decide +kernel
theorem dX12_win_14 : decode cX12_win 14 = .ok (.aload_n 0, 1) := by decide +kernel
theorem dX12_win_15 : decode cX12_win 15 = .ok (.getfield 288, 3) := by decide +kernel
theorem dX12_win_18 : decode cX12_win 18 = .ok (.ishr, 1) := by decide +kernel
theorem dX12_win_19 : decode cX12_win 19 = .ok (.ifCond .le 5, 3) := by decide +kernel
theorem dX12_win_22 : decode cX12_win 22 = .ok (.iconst (-1), 1) := by decide +kernel
theorem dX12_win_23 : decode cX12_win 23 = .ok (.ireturn, 1) := by decide +kernel
theorem dX12_win_24 : decode cX12_win 24 = .ok (.aload_n 0, 1) := by decide +kernel
theorem dX12_win_25 : decode cX12_win 25 = .ok (.iconst 0, 1) := by decide +kernel
theorem dX12_win_26 : decode cX12_win 26 = .ok (.putfield 407, 3) := by decide +kernel
theorem dX12_win_29 : decode cX12_win 29 = .ok (.iconst 0, 1) := by decide +kernel
theorem dX12_win_30 : decode cX12_win 30 = .ok (.istore_n 3, 1) := by decide +kernel
theorem dX12_win_31 : decode cX12_win 31 = .ok (.iload_n 3, 1) := by decide +kernel
theorem dX12_win_32 : decode cX12_win 32 = .ok (.aload_n 0, 1) := by decide +kernel
theorem dX12_win_33 : decode cX12_win 33 = .ok (.getfield 288, 3) := by decide +kernel
theorem dX12_win_36 : decode cX12_win 36 = .ok (.if_icmp .ge 59, 3) := by decide +kernel
theorem dX12_win_39 : decode cX12_win 39 = .ok (.iload_n 1, 1) := by decide +kernel
theorem dX12_win_40 : decode cX12_win 40 = .ok (.iload_n 3, 1) := by decide +kernel
theorem dX12_win_41 : decode cX12_win 41 = .ok (.invokestatic 345, 3) := by decide +kernel
theorem dX12_win_44 : decode cX12_win 44 = .ok (.ifCond .eq 45, 3) := by decide +kernel
theorem dX12_win_47 : decode cX12_win 47 = .ok (.aload_n 0, 1) := by decide +kernel
theorem dX12_win_48 : decode cX12_win 48 = .ok (.iload_n 3, 1) := by decide +kernel
theorem dX12_win_49 : decode cX12_win 49 = .ok (.invokevirtual 372, 3) := by decide +kernel
theorem dX12_win_52 : decode cX12_win 52 = .ok (.ifCond .eq 6, 3) := by decide +kernel
theorem dX12_win_55 : decode cX12_win 55 = .ok (.goto 34, 3) := by decide +kernel
theorem dX12_win_58 : decode cX12_win 58 = .ok (.aload_n 0, 1) := by decide +kernel
theorem dX12_win_59 : decode cX12_win 59 = .ok (.getfield 407, 3) := by decide +kernel
theorem dX12_win_62 : decode cX12_win 62 = .ok (.bipush 6, 2) := by decide +kernel
theorem dX12_win_64 : decode cX12_win 64 = .ok (.if_icmp .ne 5, 3) := by decide +kernel
theorem dX12_win_67 : decode cX12_win 67 = .ok (.iconst (-1), 1) := by decide +kernel
theorem dX12_win_68 : decode cX12_win 68 = .ok (.ireturn, 1) := by decide +kernel
theorem dX12_win_69 : decode cX12_win 69 = .ok (.aload_n 0, 1) := by decide +kernel
theorem dX12_win_70 : decode cX12_win 70 = .ok (.getfield 115, 3) := by decide +kernel
theorem dX12_win_73 : decode cX12_win 73 = .ok (.aload_n 0, 1) := by decide +kernel
theorem dX12_win_74 : decode cX12_win 74 = .ok (.getfield 407, 3) := by decide +kernel
theorem dX12_win_77 : decode cX12_win 77 = .ok (.iload_n 3, 1) := by decide +kernel
theorem dX12_win_78 : decode cX12_win 78 = .ok (.iastore, 1) := by decide +kernel
theorem dX12_win_79 : decode cX12_win 79 = .ok (.aload_n 0, 1) := by decide +kernel
theorem dX12_win_80 : decode cX12_win 80 = .ok (.dup, 1) := by decide +kernel
theorem dX12_win_81 : decode cX12_win 81 = .ok (.getfield 407, 3) := by decide +kernel
theorem dX12_win_84 : decode cX12_win 84 = .ok (.iconst 1, 1) := by decide +kernel
theorem dX12_win_85 : decode cX12_win 85 = .ok (.iadd, 1) := by decide +kernel
theorem dX12_win_86 : decode cX12_win 86 = .ok (.putfield 407, 3) := by decide +kernel
theorem dX12_win_89 : decode cX12_win 89 = .ok (.iinc 3 1, 3) := by decide +kernel
theorem dX12_win_92 : decode cX12_win 92 = .ok (.goto (-61), 3) := by decide +kernel
theorem dX12_win_95 : decode cX12_win 95 = .ok (.aload_n 0, 1) := by decide +kernel
theorem dX12_win_96 : decode cX12_win 96 = .ok (.getfield 407, 3) := by decide +kernel
theorem dX12_win_99 : decode cX12_win 99 = .ok (.ifCond .ne 5, 3) := by decide +kernel
theorem dX12_win_102 : decode cX12_win 102 = .ok (.iconst (-1), 1) := by decide +kernel
theorem dX12_win_103 : decode cX12_win 103 = .ok (.ireturn, 1) := by decide +kernel
theorem dX12_win_104 : decode cX12_win 104 = .ok (.aload_n 0, 1) := by decide +kernel
theorem dX12_win_105 : decode cX12_win 105 = .ok (.invokevirtual 414, 3) := by decide +kernel
theorem dX12_win_108 : decode cX12_win 108 = .ok (.iconst 1, 1) := by decide +kernel
theorem dX12_win_109 : decode cX12_win 109 = .ok (.istore_n 3, 1) := by decide +kernel
theorem dX12_win_110 : decode cX12_win 110 = .ok (.iconst 0, 1) := by decide +kernel
theorem dX12_win_111 : decode cX12_win 111 = .ok (.istore 4, 2) := by decide +kernel
theorem dX12_win_113 : decode cX12_win 113 = .ok (.iload 4, 2) := by decide +kernel
theorem dX12_win_115 : decode cX12_win 115 = .ok (.aload_n 0, 1) := by decide +kernel
theorem dX12_win_116 : decode cX12_win 116 = .ok (.getfield 407, 3) := by decide +kernel
theorem dX12_win_119 : decode cX12_win 119 = .ok (.if_icmp .ge 13, 3) := by decide +kernel
theorem dX12_win_122 : decode cX12_win 122 = .ok (.iload_n 3, 1) := by decide +kernel
theorem dX12_win_123 : decode cX12_win 123 = .ok (.iconst 3, 1) := by decide +kernel
theorem dX12_win_124 : decode cX12_win 124 = .ok (.imul, 1) := by decide +kernel
theorem dX12_win_125 : decode cX12_win 125 = .ok (.istore_n 3, 1) := by decide +kernel
theorem dX12_win_126 : decode cX12_win 126 = .ok (.iinc 4 1, 3) := by decide +kernel
theorem dX12_win_129 : decode cX12_win 129 = .ok (.goto (-16), 3) := by decide +kernel
theorem dX12_win_132 : decode cX12_win 132 = .ok (.aload_n 0, 1) := by decide +kernel
theorem dX12_win_133 : decode cX12_win 133 = .ok (.iconst (-1), 1) := by decide +kernel
theorem dX12_win_134 : decode cX12_win 134 = .ok (.putfield 417, 3) := by decide +kernel
theorem dX12_win_137 : decode cX12_win 137 = .ok (.aload_n 0, 1) := by decide +kernel
theorem dX12_win_138 : decode cX12_win 138 = .ok (.iconst (-1), 1) := by decide +kernel
theorem dX12_win_139 : decode cX12_win 139 = .ok (.putfield 420, 3) := by decide +kernel
theorem dX12_win_142 : decode cX12_win 142 = .ok (.iconst 1, 1) := by decide +kernel
theorem dX12_win_143 : decode cX12_win 143 = .ok (.istore 4, 2) := by decide +kernel
theorem dX12_win_145 : decode cX12_win 145 = .ok (.iload 4, 2) := by decide +kernel
theorem dX12_win_147 : decode cX12_win 147 = .ok (.iload_n 3, 1) := by decide +kernel
theorem dX12_win_148 : decode cX12_win 148 = .ok (.if_icmp .ge 58, 3) := by decide +kernel
theorem dX12_win_151 : decode cX12_win 151 = .ok (.aload_n 0, 1) := by decide +kernel
theorem dX12_win_152 : decode cX12_win 152 = .ok (.iload 4, 2) := by decide +kernel
theorem dX12_win_154 : decode cX12_win 154 = .ok (.invokevirtual 423, 3) := by decide +kernel
theorem dX12_win_157 : decode cX12_win 157 = .ok (.istore 5, 2) := by decide +kernel
theorem dX12_win_159 : decode cX12_win 159 = .ok (.aload_n 0, 1) := by decide +kernel
theorem dX12_win_160 : decode cX12_win 160 = .ok (.getfield 417, 3) := by decide +kernel
theorem dX12_win_163 : decode cX12_win 163 = .ok (.iconst (-1), 1) := by decide +kernel
theorem dX12_win_164 : decode cX12_win 164 = .ok (.if_icmp .eq 12, 3) := by decide +kernel
theorem dX12_win_167 : decode cX12_win 167 = .ok (.iload 5, 2) := by decide +kernel
theorem dX12_win_169 : decode cX12_win 169 = .ok (.aload_n 0, 1) := by decide +kernel
theorem dX12_win_170 : decode cX12_win 170 = .ok (.getfield 420, 3) := by decide +kernel
theorem dX12_win_173 : decode cX12_win 173 = .ok (.if_icmp .ge 27, 3) := by decide +kernel
theorem dX12_win_176 : decode cX12_win 176 = .ok (.aload_n 0, 1) := by decide +kernel
theorem dX12_win_177 : decode cX12_win 177 = .ok (.iload 4, 2) := by decide +kernel
theorem dX12_win_179 : decode cX12_win 179 = .ok (.invokevirtual 426, 3) := by decide +kernel
theorem dX12_win_182 : decode cX12_win 182 = .ok (.ifCond .ne 6, 3) := by decide +kernel
theorem dX12_win_185 : decode cX12_win 185 = .ok (.goto 15, 3) := by decide +kernel
theorem dX12_win_188 : decode cX12_win 188 = .ok (.aload_n 0, 1) := by decide +kernel
theorem dX12_win_189 : decode cX12_win 189 = .ok (.iload 4, 2) := by decide +kernel
theorem dX12_win_191 : decode cX12_win 191 = .ok (.putfield 417, 3) := by decide +kernel
theorem dX12_win_194 : decode cX12_win 194 = .ok (.aload_n 0, 1) := by decide +kernel
theorem dX12_win_195 : decode cX12_win 195 = .ok (.iload 5, 2) := by decide +kernel
theorem dX12_win_197 : decode cX12_win 197 = .ok (.putfield 420, 3) := by decide +kernel
theorem dX12_win_200 : decode cX12_win 200 = .ok (.iinc 4 1, 3) := by decide +kernel
theorem dX12_win_203 : decode cX12_win 203 = .ok (.goto (-58), 3) := by decide +kernel
theorem dX12_win_206 : decode cX12_win 206 = .ok (.iload_n 2, 1) := by decide +kernel
theorem dX12_win_207 : decode cX12_win 207 = .ok (.ifCond .ne 10, 3) := by decide +kernel
theorem dX12_win_210 : decode cX12_win 210 = .ok (.aload_n 0, 1) := by decide +kernel
theorem dX12_win_211 : decode cX12_win 211 = .ok (.getfield 417, 3) := by decide +kernel
theorem dX12_win_214 : decode cX12_win 214 = .ok (.goto 7, 3) := by decide +kernel
theorem dX12_win_217 : decode cX12_win 217 = .ok (.aload_n 0, 1) := by decide +kernel
theorem dX12_win_218 : decode cX12_win 218 = .ok (.getfield 420, 3) := by decide +kernel
theorem dX12_win_221 : decode cX12_win 221 = .ok (.ireturn, 1) := by decide +kernel
theorem dX12_chance_0 : decode cX12_chance 0 = .ok (.aload_n 0, 1) := by decide +kernel
theorem dX12_chance_1 : decode cX12_chance 1 = .ok (.iload_n 1, 1) := by decide +kernel
theorem dX12_chance_2 : decode cX12_chance 2 = .ok (.invokevirtual 355, 3) := by decide +kernel
theorem dX12_chance_5 : decode cX12_chance 5 = .ok (.ifCond .eq 23, 3) := by decide +kernel
theorem dX12_chance_8 : decode cX12_chance 8 = .ok (.iload_n 2, 1) := by decide +kernel
theorem dX12_chance_9 : decode cX12_chance 9 = .ok (.iconst (-1), 1) := by decide +kernel
theorem dX12_chance_10 : decode cX12_chance 10 = .ok (.bipush 7, 2) := by decide +kernel
theorem dX12_chance_12 : decode cX12_chance 12 = .ok (.invokestatic 153, 3) := by decide +kernel
theorem dX12_chance_15 : decode cX12_chance 15 = .ok (.ifCond .eq 13, 3) := by decide +kernel
theorem dX12_chance_18 : decode cX12_chance 18 = .ok (.iload_n 3, 1) := by decide +kernel
theorem dX12_chance_19 : decode cX12_chance 19 = .ok (.iconst 0, 1) := by decide +kernel
theorem dX12_chance_20 : decode cX12_chance 20 = .ok (.bipush 100, 2) := by decide +kernel
theorem dX12_chance_22 : decode cX12_chance 22 = .ok (.invokestatic 153, 3) := by decide +kernel
theorem dX12_chance_25 : decode cX12_chance 25 = .ok (.ifCond .ne 5, 3) := by decide +kernel
theorem dX12_chance_28 : decode cX12_chance 28 = .ok (.iconst 0, 1) := by decide +kernel
theorem dX12_chance_29 : decode cX12_chance 29 = .ok (.ireturn, 1) := by decide +kernel
theorem dX12_chance_30 : decode cX12_chance 30 = .ok (.aload_n 0, 1) := by decide +kernel
theorem dX12_chance_31 : decode cX12_chance 31 = .ok (.getfield 118, 3) := by decide +kernel
theorem dX12_chance_34 : decode cX12_chance 34 = .ok (.bipush 9, 2) := by decide +kernel
theorem dX12_chance_36 : decode cX12_chance 36 = .ok (.iload_n 1, 1) := by decide +kernel
theorem dX12_chance_37 : decode cX12_chance 37 = .ok (.imul, 1) := by decide +kernel
theorem dX12_chance_38 : decode cX12_chance 38 = .ok (.iload_n 2, 1) := by decide +kernel
theorem dX12_chance_39 : decode cX12_chance 39 = .ok (.iadd, 1) := by decide +kernel
theorem dX12_chance_40 : decode cX12_chance 40 = .ok (.iconst 1, 1) := by decide +kernel
theorem dX12_chance_41 : decode cX12_chance 41 = .ok (.iadd, 1) := by decide +kernel
theorem dX12_chance_42 : decode cX12_chance 42 = .ok (.iload_n 3, 1) := by decide +kernel
theorem dX12_chance_43 : decode cX12_chance 43 = .ok (.iastore, 1) := by decide +kernel
theorem dX12_chance_44 : decode cX12_chance 44 = .ok (.iconst 1, 1) := by decide +kernel
theorem dX12_chance_45 : decode cX12_chance 45 = .ok (.ireturn, 1) := by decide +kernel
theorem dX12_areWhole_0 : decode cX12_areWhole 0 = .ok (.iconst 1, 1) := by decide +kernel
theorem dX12_areWhole_1 : decode cX12_areWhole 1 = .ok (.istore_n 1, 1) := by decide +kernel
theorem dX12_areWhole_2 : decode cX12_areWhole 2 = .ok (.iconst 0, 1) := by decide +kernel
theorem dX12_areWhole_3 : decode cX12_areWhole 3 = .ok (.istore_n 2, 1) := by decide +kernel
theorem dX12_areWhole_4 : decode cX12_areWhole 4 = .ok (.iload_n 2, 1) := by decide +kernel
theorem dX12_areWhole_5 : decode cX12_areWhole 5 = .ok (.aload_n 0, 1) := by decide +kernel
theorem dX12_areWhole_6 : decode cX12_areWhole 6 = .ok (.getfield 282, 3) := by decide +kernel
theorem dX12_areWhole_9 : decode cX12_areWhole 9 = .ok (.if_icmp .ge 58, 3) := by decide +kernel
theorem dX12_areWhole_12 : decode cX12_areWhole 12 = .ok (.iconst 0, 1) := by decide +kernel
theorem dX12_areWhole_13 : decode cX12_areWhole 13 = .ok (.istore_n 3, 1) := by decide +kernel
theorem dX12_areWhole_14 : decode cX12_areWhole 14 = .ok (.iconst 0, 1) := by decide +kernel
theorem dX12_areWhole_15 : decode cX12_areWhole 15 = .ok (.istore 4, 2) := by decide +kernel
theorem dX12_areWhole_17 : decode cX12_areWhole 17 = .ok (.iload 4, 2) := by decide +kernel
theorem dX12_areWhole_19 : decode cX12_areWhole 19 = .ok (.bipush 9, 2) := by decide +kernel
theorem dX12_areWhole_21 : decode cX12_areWhole 21 = .ok (.if_icmp .ge 24, 3) := by decide +kernel
theorem dX12_areWhole_24 : decode cX12_areWhole 24 = .ok (.iload_n 3, 1) := by decide +kernel
theorem dX12_areWhole_25 : decode cX12_areWhole 25 = .ok (.aload_n 0, 1) := by decide +kernel
theorem dX12_areWhole_26 : decode cX12_areWhole 26 = .ok (.getfield 118, 3) := by decide +kernel
theorem dX12_areWhole_29 : decode cX12_areWhole 29 = .ok (.bipush 9, 2) := by decide +kernel
theorem dX12_areWhole_31 : decode cX12_areWhole 31 = .ok (.iload_n 2, 1) := by decide +kernel
theorem dX12_areWhole_32 : decode cX12_areWhole 32 = .ok (.imul, 1) := by decide +kernel
theorem dX12_areWhole_33 : decode cX12_areWhole 33 = .ok (.iload 4, 2) := by decide +kernel
theorem dX12_areWhole_35 : decode cX12_areWhole 35 = .ok (.iadd, 1) := by decide +kernel
theorem dX12_areWhole_36 : decode cX12_areWhole 36 = .ok (.iaload, 1) := by decide +kernel
theorem dX12_areWhole_37 : decode cX12_areWhole 37 = .ok (.iadd, 1) := by decide +kernel
theorem dX12_areWhole_38 : decode cX12_areWhole 38 = .ok (.istore_n 3, 1) := by decide +kernel
theorem dX12_areWhole_39 : decode cX12_areWhole 39 = .ok (.iinc 4 1, 3) := by decide +kernel
theorem dX12_areWhole_42 : decode cX12_areWhole 42 = .ok (.goto (-25), 3) := by decide +kernel
theorem dX12_areWhole_45 : decode cX12_areWhole 45 = .ok (.iload_n 1, 1) := by decide +kernel
theorem dX12_areWhole_46 : decode cX12_areWhole 46 = .ok (.ifCond .eq 13, 3) := by decide +kernel
theorem dX12_areWhole_49 : decode cX12_areWhole 49 = .ok (.iload_n 3, 1) := by decide +kernel
theorem dX12_areWhole_50 : decode cX12_areWhole 50 = .ok (.bipush 100, 2) := by decide +kernel
theorem dX12_areWhole_52 : decode cX12_areWhole 52 = .ok (.if_icmp .ne 7, 3) := by decide +kernel
theorem dX12_areWhole_55 : decode cX12_areWhole 55 = .ok (.iconst 1, 1) := by decide +kernel
theorem dX12_areWhole_56 : decode cX12_areWhole 56 = .ok (.goto 4, 3) := by decide +kernel
theorem dX12_areWhole_59 : decode cX12_areWhole 59 = .ok (.iconst 0, 1) := by decide +kernel
theorem dX12_areWhole_60 : decode cX12_areWhole 60 = .ok (.istore_n 1, 1) := by decide +kernel
theorem dX12_areWhole_61 : decode cX12_areWhole 61 = .ok (.iinc 2 1, 3) := by decide +kernel
theorem dX12_areWhole_64 : decode cX12_areWhole 64 = .ok (.goto (-60), 3) := by decide +kernel
theorem dX12_areWhole_67 : decode cX12_areWhole 67 = .ok (.iload_n 1, 1) := by decide +kernel
theorem dX12_areWhole_68 : decode cX12_areWhole 68 = .ok (.ireturn, 1) := by decide +kernel
theorem dX12_weightOf_0 : decode cX12_weightOf 0 = .ok (.lconst 1, 1) := by decide +kernel
theorem dX12_weightOf_1 : decode cX12_weightOf 1 = .ok (.lstore_n 2, 1) := by decide +kernel
theorem dX12_weightOf_2 : decode cX12_weightOf 2 = .ok (.iload_n 1, 1) := by decide +kernel
theorem dX12_weightOf_3 : decode cX12_weightOf 3 = .ok (.istore 4, 2) := by decide +kernel
theorem dX12_weightOf_5 : decode cX12_weightOf 5 = .ok (.iconst 0, 1) := by decide +kernel
theorem dX12_weightOf_6 : decode cX12_weightOf 6 = .ok (.istore 5, 2) := by decide +kernel
theorem dX12_weightOf_8 : decode cX12_weightOf 8 = .ok (.iload 5, 2) := by decide +kernel
theorem dX12_weightOf_10 : decode cX12_weightOf 10 = .ok (.aload_n 0, 1) := by decide +kernel
theorem dX12_weightOf_11 : decode cX12_weightOf 11 = .ok (.getfield 282, 3) := by decide +kernel
theorem dX12_weightOf_14 : decode cX12_weightOf 14 = .ok (.if_icmp .ge 36, 3) := by decide +kernel
theorem dX12_weightOf_17 : decode cX12_weightOf 17 = .ok (.lload_n 2, 1) := by decide +kernel
theorem dX12_weightOf_18 : decode cX12_weightOf 18 = .ok (.aload_n 0, 1) := by decide +kernel
theorem dX12_weightOf_19 : decode cX12_weightOf 19 = .ok (.getfield 118, 3) := by decide +kernel
theorem dX12_weightOf_22 : decode cX12_weightOf 22 = .ok (.bipush 9, 2) := by decide +kernel
theorem dX12_weightOf_24 : decode cX12_weightOf 24 = .ok (.iload 5, 2) := by decide +kernel
theorem dX12_weightOf_26 : decode cX12_weightOf 26 = .ok (.imul, 1) := by decide +kernel
theorem dX12_weightOf_27 : decode cX12_weightOf 27 = .ok (.iload 4, 2) := by decide +kernel
theorem dX12_weightOf_29 : decode cX12_weightOf 29 = .ok (.bipush 9, 2) := by decide +kernel
theorem dX12_weightOf_31 : decode cX12_weightOf 31 = .ok (.irem, 1) := by decide +kernel
theorem dX12_weightOf_32 : decode cX12_weightOf 32 = .ok (.iadd, 1) := by decide +kernel
theorem dX12_weightOf_33 : decode cX12_weightOf 33 = .ok (.iaload, 1) := by decide +kernel
theorem dX12_weightOf_34 : decode cX12_weightOf 34 = .ok (.i2l, 1) := by decide +kernel
theorem dX12_weightOf_35 : decode cX12_weightOf 35 = .ok (.lmul, 1) := by decide +kernel
theorem dX12_weightOf_36 : decode cX12_weightOf 36 = .ok (.lstore_n 2, 1) := by decide +kernel
theorem dX12_weightOf_37 : decode cX12_weightOf 37 = .ok (.iload 4, 2) := by decide +kernel
theorem dX12_weightOf_39 : decode cX12_weightOf 39 = .ok (.bipush 9, 2) := by decide +kernel
theorem dX12_weightOf_41 : decode cX12_weightOf 41 = .ok (.idiv, 1) := by decide +kernel
theorem dX12_weightOf_42 : decode cX12_weightOf 42 = .ok (.istore 4, 2) := by decide +kernel
theorem dX12_weightOf_44 : decode cX12_weightOf 44 = .ok (.iinc 5 1, 3) := by decide +kernel
theorem dX12_weightOf_47 : decode cX12_weightOf 47 = .ok (.goto (-39), 3) := by decide +kernel
theorem dX12_weightOf_50 : decode cX12_weightOf 50 = .ok (.lload_n 2, 1) := by decide +kernel
theorem dX12_weightOf_51 : decode cX12_weightOf 51 = .ok (.lreturn, 1) := by decide +kernel
theorem dX12_divisor_0 : decode cX12_divisor 0 = .ok (.lload_n 0, 1) := by decide +kernel
theorem dX12_divisor_1 : decode cX12_divisor 1 = .ok (.invokestatic 429, 3) := by decide +kernel
theorem dX12_divisor_4 : decode cX12_divisor 4 = .ok (.lstore 4, 2) := by decide +kernel
theorem dX12_divisor_6 : decode cX12_divisor 6 = .ok (.lload_n 2, 1) := by decide +kernel
theorem dX12_divisor_7 : decode cX12_divisor 7 = .ok (.invokestatic 429, 3) := by decide +kernel
theorem dX12_divisor_10 : decode cX12_divisor 10 = .ok (.lstore 6, 2) := by decide +kernel
theorem dX12_divisor_12 : decode cX12_divisor 12 = .ok (.lload 6, 2) := by decide +kernel
theorem dX12_divisor_14 : decode cX12_divisor 14 = .ok (.lconst 0, 1) := by decide +kernel
theorem dX12_divisor_15 : decode cX12_divisor 15 = .ok (.lcmp, 1) := by decide +kernel
theorem dX12_divisor_16 : decode cX12_divisor 16 = .ok (.ifCond .le 21, 3) := by decide +kernel
theorem dX12_divisor_19 : decode cX12_divisor 19 = .ok (.lload 4, 2) := by decide +kernel
theorem dX12_divisor_21 : decode cX12_divisor 21 = .ok (.lload 6, 2) := by decide +kernel
theorem dX12_divisor_23 : decode cX12_divisor 23 = .ok (.lrem, 1) := by decide +kernel
theorem dX12_divisor_24 : decode cX12_divisor 24 = .ok (.lstore 8, 2) := by decide +kernel
theorem dX12_divisor_26 : decode cX12_divisor 26 = .ok (.lload 6, 2) := by decide +kernel
theorem dX12_divisor_28 : decode cX12_divisor 28 = .ok (.lstore 4, 2) := by decide +kernel
theorem dX12_divisor_30 : decode cX12_divisor 30 = .ok (.lload 8, 2) := by decide +kernel
theorem dX12_divisor_32 : decode cX12_divisor 32 = .ok (.lstore 6, 2) := by decide +kernel
theorem dX12_divisor_34 : decode cX12_divisor 34 = .ok (.goto (-22), 3) := by decide +kernel
theorem dX12_divisor_37 : decode cX12_divisor 37 = .ok (.lload 4, 2) := by decide +kernel
theorem dX12_divisor_39 : decode cX12_divisor 39 = .ok (.lreturn, 1) := by decide +kernel
theorem dX12_part_0 : decode cX12_part 0 = .ok (.lload_n 2, 1) := by decide +kernel
theorem dX12_part_1 : decode cX12_part 1 = .ok (.lconst 0, 1) := by decide +kernel
theorem dX12_part_2 : decode cX12_part 2 = .ok (.lcmp, 1) := by decide +kernel
theorem dX12_part_3 : decode cX12_part 3 = .ok (.ifCond .ne 9, 3) := by decide +kernel
theorem dX12_part_6 : decode cX12_part 6 = .ok (.ldc2_w 433, 3) := by decide +kernel
theorem dX12_part_9 : decode cX12_part 9 = .ok (.goto 19, 3) := by decide +kernel
theorem dX12_part_12 : decode cX12_part 12 = .ok (.iload 4, 2) := by decide +kernel
theorem dX12_part_14 : decode cX12_part 14 = .ok (.ifCond .ne 7, 3) := by decide +kernel
theorem dX12_part_17 : decode cX12_part 17 = .ok (.lload_n 0, 1) := by decide +kernel
theorem dX12_part_18 : decode cX12_part 18 = .ok (.goto 4, 3) := by decide +kernel
theorem dX12_part_21 : decode cX12_part 21 = .ok (.lload_n 2, 1) := by decide +kernel
theorem dX12_part_22 : decode cX12_part 22 = .ok (.lload_n 0, 1) := by decide +kernel
theorem dX12_part_23 : decode cX12_part 23 = .ok (.lload_n 2, 1) := by decide +kernel
theorem dX12_part_24 : decode cX12_part 24 = .ok (.invokestatic 435, 3) := by decide +kernel
theorem dX12_part_27 : decode cX12_part 27 = .ok (.ldiv, 1) := by decide +kernel
theorem dX12_part_28 : decode cX12_part 28 = .ok (.lreturn, 1) := by decide +kernel
theorem dX12_worth_0 : decode cX12_worth 0 = .ok (.aload_n 0, 1) := by decide +kernel
theorem dX12_worth_1 : decode cX12_worth 1 = .ok (.iload_n 1, 1) := by decide +kernel
theorem dX12_worth_2 : decode cX12_worth 2 = .ok (.invokevirtual 361, 3) := by decide +kernel
theorem dX12_worth_5 : decode cX12_worth 5 = .ok (.ifCond .eq 19, 3) := by decide +kernel
theorem dX12_worth_8 : decode cX12_worth 8 = .ok (.iload_n 2, 1) := by decide +kernel
theorem dX12_worth_9 : decode cX12_worth 9 = .ok (.iconst 0, 1) := by decide +kernel
theorem dX12_worth_10 : decode cX12_worth 10 = .ok (.iconst 1, 1) := by decide +kernel
theorem dX12_worth_11 : decode cX12_worth 11 = .ok (.invokestatic 153, 3) := by decide +kernel
theorem dX12_worth_14 : decode cX12_worth 14 = .ok (.ifCond .eq 10, 3) := by decide +kernel
theorem dX12_worth_17 : decode cX12_worth 17 = .ok (.aload_n 0, 1) := by decide +kernel
theorem dX12_worth_18 : decode cX12_worth 18 = .ok (.invokevirtual 439, 3) := by decide +kernel
theorem dX12_worth_21 : decode cX12_worth 21 = .ok (.ifCond .ne 7, 3) := by decide +kernel
theorem dX12_worth_24 : decode cX12_worth 24 = .ok (.ldc2_w 433, 3) := by decide +kernel
theorem dX12_worth_27 : decode cX12_worth 27 = .ok (.lreturn, 1) := by decide +kernel
theorem dX12_worth_28 : decode cX12_worth 28 = .ok (.lconst 0, 1) := by decide +kernel
theorem dX12_worth_29 : decode cX12_worth 29 = .ok (.lstore_n 3, 1) := by decide +kernel
theorem dX12_worth_30 : decode cX12_worth 30 = .ok (.lconst 0, 1) := by decide +kernel
theorem dX12_worth_31 : decode cX12_worth 31 = .ok (.lstore 5, 2) := by decide +kernel
theorem dX12_worth_33 : decode cX12_worth 33 = .ok (.iconst 0, 1) := by decide +kernel
theorem dX12_worth_34 : decode cX12_worth 34 = .ok (.istore 7, 2) := by decide +kernel
theorem dX12_worth_36 : decode cX12_worth 36 = .ok (.iload 7, 2) := by decide +kernel
theorem dX12_worth_38 : decode cX12_worth 38 = .ok (.aload_n 0, 1) := by decide +kernel
theorem dX12_worth_39 : decode cX12_worth 39 = .ok (.getfield 329, 3) := by decide +kernel
theorem dX12_worth_42 : decode cX12_worth 42 = .ok (.if_icmp .ge 50, 3) := by decide +kernel
theorem dX12_worth_45 : decode cX12_worth 45 = .ok (.aload_n 0, 1) := by decide +kernel
theorem dX12_worth_46 : decode cX12_worth 46 = .ok (.iload 7, 2) := by decide +kernel
theorem dX12_worth_48 : decode cX12_worth 48 = .ok (.invokevirtual 348, 3) := by decide +kernel
theorem dX12_worth_51 : decode cX12_worth 51 = .ok (.ifCond .ne 6, 3) := by decide +kernel
theorem dX12_worth_54 : decode cX12_worth 54 = .ok (.goto 32, 3) := by decide +kernel
theorem dX12_worth_57 : decode cX12_worth 57 = .ok (.aload_n 0, 1) := by decide +kernel
theorem dX12_worth_58 : decode cX12_worth 58 = .ok (.iload 7, 2) := by decide +kernel
theorem dX12_worth_60 : decode cX12_worth 60 = .ok (.invokevirtual 442, 3) := by decide +kernel
theorem dX12_worth_63 : decode cX12_worth 63 = .ok (.lstore 8, 2) := by decide +kernel
theorem dX12_worth_65 : decode cX12_worth 65 = .ok (.lload_n 3, 1) := by decide +kernel
theorem dX12_worth_66 : decode cX12_worth 66 = .ok (.lload 8, 2) := by decide +kernel
theorem dX12_worth_68 : decode cX12_worth 68 = .ok (.aload_n 0, 1) := by decide +kernel
theorem dX12_worth_69 : decode cX12_worth 69 = .ok (.iload_n 1, 1) := by decide +kernel
theorem dX12_worth_70 : decode cX12_worth 70 = .ok (.iload 7, 2) := by decide +kernel
theorem dX12_worth_72 : decode cX12_worth 72 = .ok (.invokevirtual 364, 3) := by decide +kernel
theorem dX12_worth_75 : decode cX12_worth 75 = .ok (.i2l, 1) := by decide +kernel
theorem dX12_worth_76 : decode cX12_worth 76 = .ok (.lmul, 1) := by decide +kernel
theorem dX12_worth_77 : decode cX12_worth 77 = .ok (.ladd, 1) := by decide +kernel
theorem dX12_worth_78 : decode cX12_worth 78 = .ok (.lstore_n 3, 1) := by decide +kernel
theorem dX12_worth_79 : decode cX12_worth 79 = .ok (.lload 5, 2) := by decide +kernel
theorem dX12_worth_81 : decode cX12_worth 81 = .ok (.lload 8, 2) := by decide +kernel
theorem dX12_worth_83 : decode cX12_worth 83 = .ok (.ladd, 1) := by decide +kernel
theorem dX12_worth_84 : decode cX12_worth 84 = .ok (.lstore 5, 2) := by decide +kernel
theorem dX12_worth_86 : decode cX12_worth 86 = .ok (.iinc 7 1, 3) := by decide +kernel
theorem dX12_worth_89 : decode cX12_worth 89 = .ok (.goto (-53), 3) := by decide +kernel
theorem dX12_worth_92 : decode cX12_worth 92 = .ok (.lload_n 3, 1) := by decide +kernel
theorem dX12_worth_93 : decode cX12_worth 93 = .ok (.lload 5, 2) := by decide +kernel
theorem dX12_worth_95 : decode cX12_worth 95 = .ok (.iload_n 2, 1) := by decide +kernel
theorem dX12_worth_96 : decode cX12_worth 96 = .ok (.invokestatic 446, 3) := by decide +kernel
theorem dX12_worth_99 : decode cX12_worth 99 = .ok (.lreturn, 1) := by decide +kernel
theorem dX12_holds_0 : decode cX12_holds 0 = .ok (.aload_n 0, 1) := by decide +kernel
theorem dX12_holds_1 : decode cX12_holds 1 = .ok (.iload_n 1, 1) := by decide +kernel
theorem dX12_holds_2 : decode cX12_holds 2 = .ok (.invokevirtual 390, 3) := by decide +kernel
theorem dX12_holds_5 : decode cX12_holds 5 = .ok (.ifCond .eq 19, 3) := by decide +kernel
theorem dX12_holds_8 : decode cX12_holds 8 = .ok (.iload_n 2, 1) := by decide +kernel
theorem dX12_holds_9 : decode cX12_holds 9 = .ok (.iconst 0, 1) := by decide +kernel
theorem dX12_holds_10 : decode cX12_holds 10 = .ok (.iconst 1, 1) := by decide +kernel
theorem dX12_holds_11 : decode cX12_holds 11 = .ok (.invokestatic 153, 3) := by decide +kernel
theorem dX12_holds_14 : decode cX12_holds 14 = .ok (.ifCond .eq 10, 3) := by decide +kernel
theorem dX12_holds_17 : decode cX12_holds 17 = .ok (.aload_n 0, 1) := by decide +kernel
theorem dX12_holds_18 : decode cX12_holds 18 = .ok (.invokevirtual 439, 3) := by decide +kernel
theorem dX12_holds_21 : decode cX12_holds 21 = .ok (.ifCond .ne 7, 3) := by decide +kernel
theorem dX12_holds_24 : decode cX12_holds 24 = .ok (.ldc2_w 433, 3) := by decide +kernel
theorem dX12_holds_27 : decode cX12_holds 27 = .ok (.lreturn, 1) := by decide +kernel
theorem dX12_holds_28 : decode cX12_holds 28 = .ok (.lconst 0, 1) := by decide +kernel
theorem dX12_holds_29 : decode cX12_holds 29 = .ok (.lstore_n 3, 1) := by decide +kernel
theorem dX12_holds_30 : decode cX12_holds 30 = .ok (.lconst 0, 1) := by decide +kernel
theorem dX12_holds_31 : decode cX12_holds 31 = .ok (.lstore 5, 2) := by decide +kernel
theorem dX12_holds_33 : decode cX12_holds 33 = .ok (.iconst 0, 1) := by decide +kernel
theorem dX12_holds_34 : decode cX12_holds 34 = .ok (.istore 7, 2) := by decide +kernel
theorem dX12_holds_36 : decode cX12_holds 36 = .ok (.iload 7, 2) := by decide +kernel
theorem dX12_holds_38 : decode cX12_holds 38 = .ok (.aload_n 0, 1) := by decide +kernel
theorem dX12_holds_39 : decode cX12_holds 39 = .ok (.getfield 329, 3) := by decide +kernel
theorem dX12_holds_42 : decode cX12_holds 42 = .ok (.if_icmp .ge 57, 3) := by decide +kernel
theorem dX12_holds_45 : decode cX12_holds 45 = .ok (.aload_n 0, 1) := by decide +kernel
theorem dX12_holds_46 : decode cX12_holds 46 = .ok (.iload 7, 2) := by decide +kernel
theorem dX12_holds_48 : decode cX12_holds 48 = .ok (.invokevirtual 348, 3) := by decide +kernel
theorem dX12_holds_51 : decode cX12_holds 51 = .ok (.ifCond .ne 6, 3) := by decide +kernel
theorem dX12_holds_54 : decode cX12_holds 54 = .ok (.goto 39, 3) := by decide +kernel
theorem dX12_holds_57 : decode cX12_holds 57 = .ok (.aload_n 0, 1) := by decide +kernel
theorem dX12_holds_58 : decode cX12_holds 58 = .ok (.iload 7, 2) := by decide +kernel
theorem dX12_holds_60 : decode cX12_holds 60 = .ok (.invokevirtual 442, 3) := by decide +kernel
theorem dX12_holds_63 : decode cX12_holds 63 = .ok (.lstore 8, 2) := by decide +kernel
theorem dX12_holds_65 : decode cX12_holds 65 = .ok (.lload_n 3, 1) := by decide +kernel
theorem dX12_holds_66 : decode cX12_holds 66 = .ok (.lload 8, 2) := by decide +kernel
theorem dX12_holds_68 : decode cX12_holds 68 = .ok (.aload_n 0, 1) := by decide +kernel
theorem dX12_holds_69 : decode cX12_holds 69 = .ok (.iload_n 1, 1) := by decide +kernel
theorem dX12_holds_70 : decode cX12_holds 70 = .ok (.iload 7, 2) := by decide +kernel
theorem dX12_holds_72 : decode cX12_holds 72 = .ok (.invokevirtual 399, 3) := by decide +kernel
theorem dX12_holds_75 : decode cX12_holds 75 = .ok (.aload_n 0, 1) := by decide +kernel
theorem dX12_holds_76 : decode cX12_holds 76 = .ok (.getfield 103, 3) := by decide +kernel
theorem dX12_holds_79 : decode cX12_holds 79 = .ok (.iload_n 1, 1) := by decide +kernel
theorem dX12_holds_80 : decode cX12_holds 80 = .ok (.iaload, 1) := by decide +kernel
theorem dX12_holds_81 : decode cX12_holds 81 = .ok (.isub, 1) := by decide +kernel
theorem dX12_holds_82 : decode cX12_holds 82 = .ok (.i2l, 1) := by decide +kernel
theorem dX12_holds_83 : decode cX12_holds 83 = .ok (.lmul, 1) := by decide +kernel
theorem dX12_holds_84 : decode cX12_holds 84 = .ok (.ladd, 1) := by decide +kernel
theorem dX12_holds_85 : decode cX12_holds 85 = .ok (.lstore_n 3, 1) := by decide +kernel
theorem dX12_holds_86 : decode cX12_holds 86 = .ok (.lload 5, 2) := by decide +kernel
theorem dX12_holds_88 : decode cX12_holds 88 = .ok (.lload 8, 2) := by decide +kernel
theorem dX12_holds_90 : decode cX12_holds 90 = .ok (.ladd, 1) := by decide +kernel
theorem dX12_holds_91 : decode cX12_holds 91 = .ok (.lstore 5, 2) := by decide +kernel
theorem dX12_holds_93 : decode cX12_holds 93 = .ok (.iinc 7 1, 3) := by decide +kernel
theorem dX12_holds_96 : decode cX12_holds 96 = .ok (.goto (-60), 3) := by decide +kernel
theorem dX12_holds_99 : decode cX12_holds 99 = .ok (.lload_n 3, 1) := by decide +kernel
theorem dX12_holds_100 : decode cX12_holds 100 = .ok (.lload 5, 2) := by decide +kernel
theorem dX12_holds_102 : decode cX12_holds 102 = .ok (.iload_n 2, 1) := by decide +kernel
theorem dX12_holds_103 : decode cX12_holds 103 = .ok (.invokestatic 446, 3) := by decide +kernel
theorem dX12_holds_106 : decode cX12_holds 106 = .ok (.lreturn, 1) := by decide +kernel
theorem dX12_possibleMany_0 : decode cX12_possibleMany 0 = .ok (.iconst 0, 1) := by decide +kernel
theorem dX12_possibleMany_1 : decode cX12_possibleMany 1 = .ok (.istore_n 1, 1) := by decide +kernel
theorem dX12_possibleMany_2 : decode cX12_possibleMany 2 = .ok (.iconst 0, 1) := by decide +kernel
theorem dX12_possibleMany_3 : decode cX12_possibleMany 3 = .ok (.istore_n 2, 1) := by decide +kernel
theorem dX12_possibleMany_4 : decode cX12_possibleMany 4 = .ok (.iload_n 2, 1) := by decide +kernel
theorem dX12_possibleMany_5 : decode cX12_possibleMany 5 = .ok (.aload_n 0, 1) := by decide +kernel
theorem dX12_possibleMany_6 : decode cX12_possibleMany 6 = .ok (.getfield 329, 3) := by decide +kernel
theorem dX12_possibleMany_9 : decode cX12_possibleMany 9 = .ok (.if_icmp .ge 20, 3) := by decide +kernel
theorem dX12_possibleMany_12 : decode cX12_possibleMany 12 = .ok (.iload_n 1, 1) := by decide +kernel
theorem dX12_possibleMany_13 : decode cX12_possibleMany 13 = .ok (.aload_n 0, 1) := by decide +kernel
theorem dX12_possibleMany_14 : decode cX12_possibleMany 14 = .ok (.iload_n 2, 1) := by decide +kernel
theorem dX12_possibleMany_15 : decode cX12_possibleMany 15 = .ok (.invokevirtual 342, 3) := by decide +kernel
theorem dX12_possibleMany_18 : decode cX12_possibleMany 18 = .ok (.invokestatic 319, 3) := by decide +kernel
theorem dX12_possibleMany_21 : decode cX12_possibleMany 21 = .ok (.iadd, 1) := by decide +kernel
theorem dX12_possibleMany_22 : decode cX12_possibleMany 22 = .ok (.istore_n 1, 1) := by decide +kernel
theorem dX12_possibleMany_23 : decode cX12_possibleMany 23 = .ok (.iinc 2 1, 3) := by decide +kernel
theorem dX12_possibleMany_26 : decode cX12_possibleMany 26 = .ok (.goto (-22), 3) := by decide +kernel
theorem dX12_possibleMany_29 : decode cX12_possibleMany 29 = .ok (.iload_n 1, 1) := by decide +kernel
theorem dX12_possibleMany_30 : decode cX12_possibleMany 30 = .ok (.ireturn, 1) := by decide +kernel
theorem dX12_luck_0 : decode cX12_luck 0 = .ok (.aload_n 0, 1) := by decide +kernel
theorem dX12_luck_1 : decode cX12_luck 1 = .ok (.iload_n 1, 1) := by decide +kernel
theorem dX12_luck_2 : decode cX12_luck 2 = .ok (.invokevirtual 390, 3) := by decide +kernel
theorem dX12_luck_5 : decode cX12_luck 5 = .ok (.ifCond .eq 20, 3) := by decide +kernel
theorem dX12_luck_8 : decode cX12_luck 8 = .ok (.iload_n 2, 1) := by decide +kernel
theorem dX12_luck_9 : decode cX12_luck 9 = .ok (.iconst 0, 1) := by decide +kernel
theorem dX12_luck_10 : decode cX12_luck 10 = .ok (.iconst 1, 1) := by decide +kernel
theorem dX12_luck_11 : decode cX12_luck 11 = .ok (.invokestatic 153, 3) := by decide +kernel
theorem dX12_luck_14 : decode cX12_luck 14 = .ok (.ifCond .eq 11, 3) := by decide +kernel
theorem dX12_luck_17 : decode cX12_luck 17 = .ok (.aload_n 0, 1) := by decide +kernel
theorem dX12_luck_18 : decode cX12_luck 18 = .ok (.invokevirtual 351, 3) := by decide +kernel
theorem dX12_luck_21 : decode cX12_luck 21 = .ok (.iconst 1, 1) := by decide +kernel
theorem dX12_luck_22 : decode cX12_luck 22 = .ok (.if_icmp .eq 5, 3) := by decide +kernel
theorem dX12_luck_25 : decode cX12_luck 25 = .ok (.iconst (-1), 1) := by decide +kernel
theorem dX12_luck_26 : decode cX12_luck 26 = .ok (.ireturn, 1) := by decide +kernel
theorem dX12_luck_27 : decode cX12_luck 27 = .ok (.iload_n 2, 1) := by decide +kernel
theorem dX12_luck_28 : decode cX12_luck 28 = .ok (.iconst 1, 1) := by decide +kernel
theorem dX12_luck_29 : decode cX12_luck 29 = .ok (.if_icmp .ne 8, 3) := by decide +kernel
theorem dX12_luck_32 : decode cX12_luck 32 = .ok (.aload_n 0, 1) := by decide +kernel
theorem dX12_luck_33 : decode cX12_luck 33 = .ok (.invokevirtual 450, 3) := by decide +kernel
theorem dX12_luck_36 : decode cX12_luck 36 = .ok (.ireturn, 1) := by decide +kernel
theorem dX12_luck_37 : decode cX12_luck 37 = .ok (.aload_n 0, 1) := by decide +kernel
theorem dX12_luck_38 : decode cX12_luck 38 = .ok (.iload_n 1, 1) := by decide +kernel
theorem dX12_luck_39 : decode cX12_luck 39 = .ok (.aload_n 0, 1) := by decide +kernel
theorem dX12_luck_40 : decode cX12_luck 40 = .ok (.iconst 0, 1) := by decide +kernel
theorem dX12_luck_41 : decode cX12_luck 41 = .ok (.invokevirtual 453, 3) := by decide +kernel
theorem dX12_luck_44 : decode cX12_luck 44 = .ok (.invokevirtual 399, 3) := by decide +kernel
theorem dX12_luck_47 : decode cX12_luck 47 = .ok (.istore_n 3, 1) := by decide +kernel
theorem dX12_luck_48 : decode cX12_luck 48 = .ok (.iconst 0, 1) := by decide +kernel
theorem dX12_luck_49 : decode cX12_luck 49 = .ok (.istore 4, 2) := by decide +kernel
theorem dX12_luck_51 : decode cX12_luck 51 = .ok (.iconst 0, 1) := by decide +kernel
theorem dX12_luck_52 : decode cX12_luck 52 = .ok (.istore 5, 2) := by decide +kernel
theorem dX12_luck_54 : decode cX12_luck 54 = .ok (.iload 5, 2) := by decide +kernel
theorem dX12_luck_56 : decode cX12_luck 56 = .ok (.aload_n 0, 1) := by decide +kernel
theorem dX12_luck_57 : decode cX12_luck 57 = .ok (.getfield 329, 3) := by decide +kernel
theorem dX12_luck_60 : decode cX12_luck 60 = .ok (.if_icmp .ge 42, 3) := by decide +kernel
theorem dX12_luck_63 : decode cX12_luck 63 = .ok (.iload 4, 2) := by decide +kernel
theorem dX12_luck_65 : decode cX12_luck 65 = .ok (.aload_n 0, 1) := by decide +kernel
theorem dX12_luck_66 : decode cX12_luck 66 = .ok (.iload 5, 2) := by decide +kernel
theorem dX12_luck_68 : decode cX12_luck 68 = .ok (.invokevirtual 342, 3) := by decide +kernel
theorem dX12_luck_71 : decode cX12_luck 71 = .ok (.ifCond .eq 18, 3) := by decide +kernel
theorem dX12_luck_74 : decode cX12_luck 74 = .ok (.aload_n 0, 1) := by decide +kernel
theorem dX12_luck_75 : decode cX12_luck 75 = .ok (.iload_n 1, 1) := by decide +kernel
theorem dX12_luck_76 : decode cX12_luck 76 = .ok (.iload 5, 2) := by decide +kernel
theorem dX12_luck_78 : decode cX12_luck 78 = .ok (.invokevirtual 399, 3) := by decide +kernel
theorem dX12_luck_81 : decode cX12_luck 81 = .ok (.iload_n 3, 1) := by decide +kernel
theorem dX12_luck_82 : decode cX12_luck 82 = .ok (.if_icmp .lt 7, 3) := by decide +kernel
theorem dX12_luck_85 : decode cX12_luck 85 = .ok (.iconst 1, 1) := by decide +kernel
theorem dX12_luck_86 : decode cX12_luck 86 = .ok (.goto 4, 3) := by decide +kernel
theorem dX12_luck_89 : decode cX12_luck 89 = .ok (.iconst 0, 1) := by decide +kernel
theorem dX12_luck_90 : decode cX12_luck 90 = .ok (.invokestatic 319, 3) := by decide +kernel
theorem dX12_luck_93 : decode cX12_luck 93 = .ok (.iadd, 1) := by decide +kernel
theorem dX12_luck_94 : decode cX12_luck 94 = .ok (.istore 4, 2) := by decide +kernel
theorem dX12_luck_96 : decode cX12_luck 96 = .ok (.iinc 5 1, 3) := by decide +kernel
theorem dX12_luck_99 : decode cX12_luck 99 = .ok (.goto (-45), 3) := by decide +kernel
theorem dX12_luck_102 : decode cX12_luck 102 = .ok (.iload 4, 2) := by decide +kernel
theorem dX12_luck_104 : decode cX12_luck 104 = .ok (.ireturn, 1) := by decide +kernel
theorem dX12_image_0 : decode cX12_image 0 = .ok (.aload_n 0, 1) := by decide +kernel
theorem dX12_image_1 : decode cX12_image 1 = .ok (.getfield 310, 3) := by decide +kernel
theorem dX12_image_4 : decode cX12_image 4 = .ok (.iconst 4, 1) := by decide +kernel
theorem dX12_image_5 : decode cX12_image 5 = .ok (.if_icmp .ne 5, 3) := by decide +kernel
theorem dX12_image_8 : decode cX12_image 8 = .ok (.iconst (-1), 1) := by decide +kernel
theorem dX12_image_9 : decode cX12_image 9 = .ok (.ireturn, 1) := by decide +kernel
theorem dX12_image_10 : decode cX12_image 10 = .ok (.bipush 40, 2) := by decide +kernel
theorem dX12_image_12 : decode cX12_image 12 = .ok (.aload_n 0, 1) := by decide +kernel
theorem dX12_image_13 : decode cX12_image 13 = .ok (.getfield 310, 3) := by decide +kernel
theorem dX12_image_16 : decode cX12_image 16 = .ok (.imul, 1) := by decide +kernel
theorem dX12_image_17 : decode cX12_image 17 = .ok (.istore_n 1, 1) := by decide +kernel
theorem dX12_image_18 : decode cX12_image 18 = .ok (.aload_n 0, 1) := by decide +kernel
theorem dX12_image_19 : decode cX12_image 19 = .ok (.getfield 121, 3) := by decide +kernel
theorem dX12_image_22 : decode cX12_image 22 = .ok (.iload_n 1, 1) := by decide +kernel
theorem dX12_image_23 : decode cX12_image 23 = .ok (.aload_n 0, 1) := by decide +kernel
theorem dX12_image_24 : decode cX12_image 24 = .ok (.getfield 301, 3) := by decide +kernel
theorem dX12_image_27 : decode cX12_image 27 = .ok (.iastore, 1) := by decide +kernel
theorem dX12_image_28 : decode cX12_image 28 = .ok (.aload_n 0, 1) := by decide +kernel
theorem dX12_image_29 : decode cX12_image 29 = .ok (.getfield 121, 3) := by decide +kernel
theorem dX12_image_32 : decode cX12_image 32 = .ok (.iload_n 1, 1) := by decide +kernel
theorem dX12_image_33 : decode cX12_image 33 = .ok (.iconst 1, 1) := by decide +kernel
theorem dX12_image_34 : decode cX12_image 34 = .ok (.iadd, 1) := by decide +kernel
theorem dX12_image_35 : decode cX12_image 35 = .ok (.aload_n 0, 1) := by decide +kernel
theorem dX12_image_36 : decode cX12_image 36 = .ok (.getfield 304, 3) := by decide +kernel
theorem dX12_image_39 : decode cX12_image 39 = .ok (.iastore, 1) := by decide +kernel
theorem dX12_image_40 : decode cX12_image 40 = .ok (.aload_n 0, 1) := by decide +kernel
theorem dX12_image_41 : decode cX12_image 41 = .ok (.getfield 121, 3) := by decide +kernel
theorem dX12_image_44 : decode cX12_image 44 = .ok (.iload_n 1, 1) := by decide +kernel
theorem dX12_image_45 : decode cX12_image 45 = .ok (.iconst 2, 1) := by decide +kernel
theorem dX12_image_46 : decode cX12_image 46 = .ok (.iadd, 1) := by decide +kernel
theorem dX12_image_47 : decode cX12_image 47 = .ok (.aload_n 0, 1) := by decide +kernel
theorem dX12_image_48 : decode cX12_image 48 = .ok (.getfield 307, 3) := by decide +kernel
theorem dX12_image_51 : decode cX12_image 51 = .ok (.iastore, 1) := by decide +kernel
theorem dX12_image_52 : decode cX12_image 52 = .ok (.iconst 0, 1) := by decide +kernel
theorem dX12_image_53 : decode cX12_image 53 = .ok (.istore_n 2, 1) := by decide +kernel
theorem dX12_image_54 : decode cX12_image 54 = .ok (.iload_n 2, 1) := by decide +kernel
theorem dX12_image_55 : decode cX12_image 55 = .ok (.iconst 5, 1) := by decide +kernel
theorem dX12_image_56 : decode cX12_image 56 = .ok (.if_icmp .ge 25, 3) := by decide +kernel
theorem dX12_image_59 : decode cX12_image 59 = .ok (.aload_n 0, 1) := by decide +kernel
theorem dX12_image_60 : decode cX12_image 60 = .ok (.getfield 121, 3) := by decide +kernel
theorem dX12_image_63 : decode cX12_image 63 = .ok (.iload_n 1, 1) := by decide +kernel
theorem dX12_image_64 : decode cX12_image 64 = .ok (.iconst 3, 1) := by decide +kernel
theorem dX12_image_65 : decode cX12_image 65 = .ok (.iadd, 1) := by decide +kernel
theorem dX12_image_66 : decode cX12_image 66 = .ok (.iload_n 2, 1) := by decide +kernel
theorem dX12_image_67 : decode cX12_image 67 = .ok (.iadd, 1) := by decide +kernel
theorem dX12_image_68 : decode cX12_image 68 = .ok (.aload_n 0, 1) := by decide +kernel
theorem dX12_image_69 : decode cX12_image 69 = .ok (.getfield 94, 3) := by decide +kernel
theorem dX12_image_72 : decode cX12_image 72 = .ok (.iload_n 2, 1) := by decide +kernel
theorem dX12_image_73 : decode cX12_image 73 = .ok (.iaload, 1) := by decide +kernel
theorem dX12_image_74 : decode cX12_image 74 = .ok (.iastore, 1) := by decide +kernel
theorem dX12_image_75 : decode cX12_image 75 = .ok (.iinc 2 1, 3) := by decide +kernel
theorem dX12_image_78 : decode cX12_image 78 = .ok (.goto (-24), 3) := by decide +kernel
theorem dX12_image_81 : decode cX12_image 81 = .ok (.iconst 0, 1) := by decide +kernel
theorem dX12_image_82 : decode cX12_image 82 = .ok (.istore_n 2, 1) := by decide +kernel
theorem dX12_image_83 : decode cX12_image 83 = .ok (.iload_n 2, 1) := by decide +kernel
theorem dX12_image_84 : decode cX12_image 84 = .ok (.bipush 24, 2) := by decide +kernel
theorem dX12_image_86 : decode cX12_image 86 = .ok (.if_icmp .ge 26, 3) := by decide +kernel
theorem dX12_image_89 : decode cX12_image 89 = .ok (.aload_n 0, 1) := by decide +kernel
theorem dX12_image_90 : decode cX12_image 90 = .ok (.getfield 121, 3) := by decide +kernel
theorem dX12_image_93 : decode cX12_image 93 = .ok (.iload_n 1, 1) := by decide +kernel
theorem dX12_image_94 : decode cX12_image 94 = .ok (.bipush 8, 2) := by decide +kernel
theorem dX12_image_96 : decode cX12_image 96 = .ok (.iadd, 1) := by decide +kernel
theorem dX12_image_97 : decode cX12_image 97 = .ok (.iload_n 2, 1) := by decide +kernel
theorem dX12_image_98 : decode cX12_image 98 = .ok (.iadd, 1) := by decide +kernel
theorem dX12_image_99 : decode cX12_image 99 = .ok (.aload_n 0, 1) := by decide +kernel
theorem dX12_image_100 : decode cX12_image 100 = .ok (.getfield 100, 3) := by decide +kernel
theorem dX12_image_103 : decode cX12_image 103 = .ok (.iload_n 2, 1) := by decide +kernel
theorem dX12_image_104 : decode cX12_image 104 = .ok (.iaload, 1) := by decide +kernel
theorem dX12_image_105 : decode cX12_image 105 = .ok (.iastore, 1) := by decide +kernel
theorem dX12_image_106 : decode cX12_image 106 = .ok (.iinc 2 1, 3) := by decide +kernel
theorem dX12_image_109 : decode cX12_image 109 = .ok (.goto (-26), 3) := by decide +kernel
theorem dX12_image_112 : decode cX12_image 112 = .ok (.iconst 0, 1) := by decide +kernel
theorem dX12_image_113 : decode cX12_image 113 = .ok (.istore_n 2, 1) := by decide +kernel
theorem dX12_image_114 : decode cX12_image 114 = .ok (.iload_n 2, 1) := by decide +kernel
theorem dX12_image_115 : decode cX12_image 115 = .ok (.bipush 6, 2) := by decide +kernel
theorem dX12_image_117 : decode cX12_image 117 = .ok (.if_icmp .ge 26, 3) := by decide +kernel
theorem dX12_image_120 : decode cX12_image 120 = .ok (.aload_n 0, 1) := by decide +kernel
theorem dX12_image_121 : decode cX12_image 121 = .ok (.getfield 121, 3) := by decide +kernel
theorem dX12_image_124 : decode cX12_image 124 = .ok (.iload_n 1, 1) := by decide +kernel
theorem dX12_image_125 : decode cX12_image 125 = .ok (.bipush 32, 2) := by decide +kernel
theorem dX12_image_127 : decode cX12_image 127 = .ok (.iadd, 1) := by decide +kernel
theorem dX12_image_128 : decode cX12_image 128 = .ok (.iload_n 2, 1) := by decide +kernel
theorem dX12_image_129 : decode cX12_image 129 = .ok (.iadd, 1) := by decide +kernel
theorem dX12_image_130 : decode cX12_image 130 = .ok (.aload_n 0, 1) := by decide +kernel
theorem dX12_image_131 : decode cX12_image 131 = .ok (.getfield 103, 3) := by decide +kernel
theorem dX12_image_134 : decode cX12_image 134 = .ok (.iload_n 2, 1) := by decide +kernel
theorem dX12_image_135 : decode cX12_image 135 = .ok (.iaload, 1) := by decide +kernel
theorem dX12_image_136 : decode cX12_image 136 = .ok (.iastore, 1) := by decide +kernel
theorem dX12_image_137 : decode cX12_image 137 = .ok (.iinc 2 1, 3) := by decide +kernel
theorem dX12_image_140 : decode cX12_image 140 = .ok (.goto (-26), 3) := by decide +kernel
theorem dX12_image_143 : decode cX12_image 143 = .ok (.aload_n 0, 1) := by decide +kernel
theorem dX12_image_144 : decode cX12_image 144 = .ok (.dup, 1) := by decide +kernel
theorem dX12_image_145 : decode cX12_image 145 = .ok (.getfield 310, 3) := by decide +kernel
theorem dX12_image_148 : decode cX12_image 148 = .ok (.iconst 1, 1) := by decide +kernel
theorem dX12_image_149 : decode cX12_image 149 = .ok (.iadd, 1) := by decide +kernel
theorem dX12_image_150 : decode cX12_image 150 = .ok (.putfield 310, 3) := by decide +kernel
theorem dX12_image_153 : decode cX12_image 153 = .ok (.aload_n 0, 1) := by decide +kernel
theorem dX12_image_154 : decode cX12_image 154 = .ok (.getfield 310, 3) := by decide +kernel
theorem dX12_image_157 : decode cX12_image 157 = .ok (.iconst 1, 1) := by decide +kernel
theorem dX12_image_158 : decode cX12_image 158 = .ok (.isub, 1) := by decide +kernel
theorem dX12_image_159 : decode cX12_image 159 = .ok (.ireturn, 1) := by decide +kernel
theorem dX12_back_0 : decode cX12_back 0 = .ok (.iload_n 1, 1) := by decide +kernel
theorem dX12_back_1 : decode cX12_back 1 = .ok (.iconst 0, 1) := by decide +kernel
theorem dX12_back_2 : decode cX12_back 2 = .ok (.aload_n 0, 1) := by decide +kernel
theorem dX12_back_3 : decode cX12_back 3 = .ok (.getfield 310, 3) := by decide +kernel
theorem dX12_back_6 : decode cX12_back 6 = .ok (.iconst 1, 1) := by decide +kernel
theorem dX12_back_7 : decode cX12_back 7 = .ok (.isub, 1) := by decide +kernel
theorem dX12_back_8 : decode cX12_back 8 = .ok (.invokestatic 153, 3) := by decide +kernel
theorem dX12_back_11 : decode cX12_back 11 = .ok (.ifCond .ne 5, 3) := by decide +kernel
theorem dX12_back_14 : decode cX12_back 14 = .ok (.iconst 0, 1) := by decide +kernel
theorem dX12_back_15 : decode cX12_back 15 = .ok (.ireturn, 1) := by decide +kernel
theorem dX12_back_16 : decode cX12_back 16 = .ok (.bipush 40, 2) := by decide +kernel
theorem dX12_back_18 : decode cX12_back 18 = .ok (.iload_n 1, 1) := by decide +kernel
theorem dX12_back_19 : decode cX12_back 19 = .ok (.imul, 1) := by decide +kernel
theorem dX12_back_20 : decode cX12_back 20 = .ok (.istore_n 2, 1) := by decide +kernel
theorem dX12_back_21 : decode cX12_back 21 = .ok (.aload_n 0, 1) := by decide +kernel
theorem dX12_back_22 : decode cX12_back 22 = .ok (.aload_n 0, 1) := by decide +kernel
theorem dX12_back_23 : decode cX12_back 23 = .ok (.getfield 121, 3) := by decide +kernel
theorem dX12_back_26 : decode cX12_back 26 = .ok (.iload_n 2, 1) := by decide +kernel
theorem dX12_back_27 : decode cX12_back 27 = .ok (.iaload, 1) := by decide +kernel
theorem dX12_back_28 : decode cX12_back 28 = .ok (.putfield 301, 3) := by decide +kernel
theorem dX12_back_31 : decode cX12_back 31 = .ok (.aload_n 0, 1) := by decide +kernel
theorem dX12_back_32 : decode cX12_back 32 = .ok (.aload_n 0, 1) := by decide +kernel
theorem dX12_back_33 : decode cX12_back 33 = .ok (.getfield 121, 3) := by decide +kernel
theorem dX12_back_36 : decode cX12_back 36 = .ok (.iload_n 2, 1) := by decide +kernel
theorem dX12_back_37 : decode cX12_back 37 = .ok (.iconst 1, 1) := by decide +kernel
theorem dX12_back_38 : decode cX12_back 38 = .ok (.iadd, 1) := by decide +kernel
theorem dX12_back_39 : decode cX12_back 39 = .ok (.iaload, 1) := by decide +kernel
theorem dX12_back_40 : decode cX12_back 40 = .ok (.putfield 304, 3) := by decide +kernel
theorem dX12_back_43 : decode cX12_back 43 = .ok (.aload_n 0, 1) := by decide +kernel
theorem dX12_back_44 : decode cX12_back 44 = .ok (.aload_n 0, 1) := by decide +kernel
theorem dX12_back_45 : decode cX12_back 45 = .ok (.getfield 121, 3) := by decide +kernel
theorem dX12_back_48 : decode cX12_back 48 = .ok (.iload_n 2, 1) := by decide +kernel
theorem dX12_back_49 : decode cX12_back 49 = .ok (.iconst 2, 1) := by decide +kernel
theorem dX12_back_50 : decode cX12_back 50 = .ok (.iadd, 1) := by decide +kernel
theorem dX12_back_51 : decode cX12_back 51 = .ok (.iaload, 1) := by decide +kernel
theorem dX12_back_52 : decode cX12_back 52 = .ok (.putfield 307, 3) := by decide +kernel
theorem dX12_back_55 : decode cX12_back 55 = .ok (.iconst 0, 1) := by decide +kernel
theorem dX12_back_56 : decode cX12_back 56 = .ok (.istore_n 3, 1) := by decide +kernel
theorem dX12_back_57 : decode cX12_back 57 = .ok (.iload_n 3, 1) := by decide +kernel
theorem dX12_back_58 : decode cX12_back 58 = .ok (.iconst 5, 1) := by decide +kernel
theorem dX12_back_59 : decode cX12_back 59 = .ok (.if_icmp .ge 25, 3) := by decide +kernel
theorem dX12_back_62 : decode cX12_back 62 = .ok (.aload_n 0, 1) := by decide +kernel
theorem dX12_back_63 : decode cX12_back 63 = .ok (.getfield 94, 3) := by decide +kernel
theorem dX12_back_66 : decode cX12_back 66 = .ok (.iload_n 3, 1) := by decide +kernel
theorem dX12_back_67 : decode cX12_back 67 = .ok (.aload_n 0, 1) := by decide +kernel
theorem dX12_back_68 : decode cX12_back 68 = .ok (.getfield 121, 3) := by decide +kernel
theorem dX12_back_71 : decode cX12_back 71 = .ok (.iload_n 2, 1) := by decide +kernel
theorem dX12_back_72 : decode cX12_back 72 = .ok (.iconst 3, 1) := by decide +kernel
theorem dX12_back_73 : decode cX12_back 73 = .ok (.iadd, 1) := by decide +kernel
theorem dX12_back_74 : decode cX12_back 74 = .ok (.iload_n 3, 1) := by decide +kernel
theorem dX12_back_75 : decode cX12_back 75 = .ok (.iadd, 1) := by decide +kernel
theorem dX12_back_76 : decode cX12_back 76 = .ok (.iaload, 1) := by decide +kernel
theorem dX12_back_77 : decode cX12_back 77 = .ok (.iastore, 1) := by decide +kernel
theorem dX12_back_78 : decode cX12_back 78 = .ok (.iinc 3 1, 3) := by decide +kernel
theorem dX12_back_81 : decode cX12_back 81 = .ok (.goto (-24), 3) := by decide +kernel
theorem dX12_back_84 : decode cX12_back 84 = .ok (.iconst 0, 1) := by decide +kernel
theorem dX12_back_85 : decode cX12_back 85 = .ok (.istore_n 3, 1) := by decide +kernel
theorem dX12_back_86 : decode cX12_back 86 = .ok (.iload_n 3, 1) := by decide +kernel
theorem dX12_back_87 : decode cX12_back 87 = .ok (.bipush 24, 2) := by decide +kernel
theorem dX12_back_89 : decode cX12_back 89 = .ok (.if_icmp .ge 26, 3) := by decide +kernel
theorem dX12_back_92 : decode cX12_back 92 = .ok (.aload_n 0, 1) := by decide +kernel
theorem dX12_back_93 : decode cX12_back 93 = .ok (.getfield 100, 3) := by decide +kernel
theorem dX12_back_96 : decode cX12_back 96 = .ok (.iload_n 3, 1) := by decide +kernel
theorem dX12_back_97 : decode cX12_back 97 = .ok (.aload_n 0, 1) := by decide +kernel
theorem dX12_back_98 : decode cX12_back 98 = .ok (.getfield 121, 3) := by decide +kernel
theorem dX12_back_101 : decode cX12_back 101 = .ok (.iload_n 2, 1) := by decide +kernel
theorem dX12_back_102 : decode cX12_back 102 = .ok (.bipush 8, 2) := by decide +kernel
theorem dX12_back_104 : decode cX12_back 104 = .ok (.iadd, 1) := by decide +kernel
theorem dX12_back_105 : decode cX12_back 105 = .ok (.iload_n 3, 1) := by decide +kernel
theorem dX12_back_106 : decode cX12_back 106 = .ok (.iadd, 1) := by decide +kernel
theorem dX12_back_107 : decode cX12_back 107 = .ok (.iaload, 1) := by decide +kernel
theorem dX12_back_108 : decode cX12_back 108 = .ok (.iastore, 1) := by decide +kernel
theorem dX12_back_109 : decode cX12_back 109 = .ok (.iinc 3 1, 3) := by decide +kernel
theorem dX12_back_112 : decode cX12_back 112 = .ok (.goto (-26), 3) := by decide +kernel
theorem dX12_back_115 : decode cX12_back 115 = .ok (.iconst 0, 1) := by decide +kernel
theorem dX12_back_116 : decode cX12_back 116 = .ok (.istore_n 3, 1) := by decide +kernel
theorem dX12_back_117 : decode cX12_back 117 = .ok (.iload_n 3, 1) := by decide +kernel
theorem dX12_back_118 : decode cX12_back 118 = .ok (.bipush 6, 2) := by decide +kernel
theorem dX12_back_120 : decode cX12_back 120 = .ok (.if_icmp .ge 26, 3) := by decide +kernel
theorem dX12_back_123 : decode cX12_back 123 = .ok (.aload_n 0, 1) := by decide +kernel
theorem dX12_back_124 : decode cX12_back 124 = .ok (.getfield 103, 3) := by decide +kernel
theorem dX12_back_127 : decode cX12_back 127 = .ok (.iload_n 3, 1) := by decide +kernel
theorem dX12_back_128 : decode cX12_back 128 = .ok (.aload_n 0, 1) := by decide +kernel
theorem dX12_back_129 : decode cX12_back 129 = .ok (.getfield 121, 3) := by decide +kernel
theorem dX12_back_132 : decode cX12_back 132 = .ok (.iload_n 2, 1) := by decide +kernel
theorem dX12_back_133 : decode cX12_back 133 = .ok (.bipush 32, 2) := by decide +kernel
theorem dX12_back_135 : decode cX12_back 135 = .ok (.iadd, 1) := by decide +kernel
theorem dX12_back_136 : decode cX12_back 136 = .ok (.iload_n 3, 1) := by decide +kernel
theorem dX12_back_137 : decode cX12_back 137 = .ok (.iadd, 1) := by decide +kernel
theorem dX12_back_138 : decode cX12_back 138 = .ok (.iaload, 1) := by decide +kernel
theorem dX12_back_139 : decode cX12_back 139 = .ok (.iastore, 1) := by decide +kernel
theorem dX12_back_140 : decode cX12_back 140 = .ok (.iinc 3 1, 3) := by decide +kernel
theorem dX12_back_143 : decode cX12_back 143 = .ok (.goto (-26), 3) := by decide +kernel
theorem dX12_back_146 : decode cX12_back 146 = .ok (.iconst 1, 1) := by decide +kernel
theorem dX12_back_147 : decode cX12_back 147 = .ok (.ireturn, 1) := by decide +kernel
theorem dX12_count_0 : decode cX12_count 0 = .ok (.iconst 0, 1) := by decide +kernel
theorem dX12_count_1 : decode cX12_count 1 = .ok (.istore_n 2, 1) := by decide +kernel
theorem dX12_count_2 : decode cX12_count 2 = .ok (.iload_n 1, 1) := by decide +kernel
theorem dX12_count_3 : decode cX12_count 3 = .ok (.tableswitch 121 0 8 #[49, 54, 59, 64, 69, 74, 103, 108, 116], 49) := by decide +kernel
theorem dX12_count_52 : decode cX12_count 52 = .ok (.aload_n 0, 1) := by decide +kernel
theorem dX12_count_53 : decode cX12_count 53 = .ok (.getfield 313, 3) := by decide +kernel
theorem dX12_count_56 : decode cX12_count 56 = .ok (.ireturn, 1) := by decide +kernel
theorem dX12_count_57 : decode cX12_count 57 = .ok (.aload_n 0, 1) := by decide +kernel
theorem dX12_count_58 : decode cX12_count 58 = .ok (.getfield 301, 3) := by decide +kernel
theorem dX12_count_61 : decode cX12_count 61 = .ok (.ireturn, 1) := by decide +kernel
theorem dX12_count_62 : decode cX12_count 62 = .ok (.aload_n 0, 1) := by decide +kernel
theorem dX12_count_63 : decode cX12_count 63 = .ok (.getfield 304, 3) := by decide +kernel
theorem dX12_count_66 : decode cX12_count 66 = .ok (.ireturn, 1) := by decide +kernel
theorem dX12_count_67 : decode cX12_count 67 = .ok (.aload_n 0, 1) := by decide +kernel
theorem dX12_count_68 : decode cX12_count 68 = .ok (.getfield 127, 3) := by decide +kernel
theorem dX12_count_71 : decode cX12_count 71 = .ok (.ireturn, 1) := by decide +kernel
theorem dX12_count_72 : decode cX12_count 72 = .ok (.aload_n 0, 1) := by decide +kernel
theorem dX12_count_73 : decode cX12_count 73 = .ok (.getfield 310, 3) := by decide +kernel
theorem dX12_count_76 : decode cX12_count 76 = .ok (.ireturn, 1) := by decide +kernel
theorem dX12_count_77 : decode cX12_count 77 = .ok (.iconst 0, 1) := by decide +kernel
theorem dX12_count_78 : decode cX12_count 78 = .ok (.istore_n 3, 1) := by decide +kernel
theorem dX12_count_79 : decode cX12_count 79 = .ok (.iload_n 3, 1) := by decide +kernel
theorem dX12_count_80 : decode cX12_count 80 = .ok (.aload_n 0, 1) := by decide +kernel
theorem dX12_count_81 : decode cX12_count 81 = .ok (.getfield 288, 3) := by decide +kernel
theorem dX12_count_84 : decode cX12_count 84 = .ok (.if_icmp .ge 20, 3) := by decide +kernel
theorem dX12_count_87 : decode cX12_count 87 = .ok (.iload_n 2, 1) := by decide +kernel
theorem dX12_count_88 : decode cX12_count 88 = .ok (.aload_n 0, 1) := by decide +kernel
theorem dX12_count_89 : decode cX12_count 89 = .ok (.iload_n 3, 1) := by decide +kernel
theorem dX12_count_90 : decode cX12_count 90 = .ok (.invokevirtual 372, 3) := by decide +kernel
theorem dX12_count_93 : decode cX12_count 93 = .ok (.invokestatic 319, 3) := by decide +kernel
theorem dX12_count_96 : decode cX12_count 96 = .ok (.iadd, 1) := by decide +kernel
theorem dX12_count_97 : decode cX12_count 97 = .ok (.istore_n 2, 1) := by decide +kernel
theorem dX12_count_98 : decode cX12_count 98 = .ok (.iinc 3 1, 3) := by decide +kernel
theorem dX12_count_101 : decode cX12_count 101 = .ok (.goto (-22), 3) := by decide +kernel
theorem dX12_count_104 : decode cX12_count 104 = .ok (.iload_n 2, 1) := by decide +kernel
theorem dX12_count_105 : decode cX12_count 105 = .ok (.ireturn, 1) := by decide +kernel
theorem dX12_count_106 : decode cX12_count 106 = .ok (.aload_n 0, 1) := by decide +kernel
theorem dX12_count_107 : decode cX12_count 107 = .ok (.invokevirtual 450, 3) := by decide +kernel
theorem dX12_count_110 : decode cX12_count 110 = .ok (.ireturn, 1) := by decide +kernel
theorem dX12_count_111 : decode cX12_count 111 = .ok (.aload_n 0, 1) := by decide +kernel
theorem dX12_count_112 : decode cX12_count 112 = .ok (.invokevirtual 439, 3) := by decide +kernel
theorem dX12_count_115 : decode cX12_count 115 = .ok (.invokestatic 319, 3) := by decide +kernel
theorem dX12_count_118 : decode cX12_count 118 = .ok (.ireturn, 1) := by decide +kernel
theorem dX12_count_119 : decode cX12_count 119 = .ok (.aload_n 0, 1) := by decide +kernel
theorem dX12_count_120 : decode cX12_count 120 = .ok (.getfield 307, 3) := by decide +kernel
theorem dX12_count_123 : decode cX12_count 123 = .ok (.ireturn, 1) := by decide +kernel
theorem dX12_count_124 : decode cX12_count 124 = .ok (.iconst (-1), 1) := by decide +kernel
theorem dX12_count_125 : decode cX12_count 125 = .ok (.ireturn, 1) := by decide +kernel
theorem dJ6_compare_7cf53_0 : decode cJ6_compare_7cf53 0 = .ok (.iload_n 0, 1) := by decide +kernel
theorem dJ6_compare_7cf53_1 : decode cJ6_compare_7cf53 1 = .ok (.iload_n 1, 1) := by decide +kernel
theorem dJ6_compare_7cf53_2 : decode cJ6_compare_7cf53 2 = .ok (.if_icmp .ge 7, 3) := by decide +kernel
theorem dJ6_compare_7cf53_5 : decode cJ6_compare_7cf53 5 = .ok (.iconst (-1), 1) := by decide +kernel
theorem dJ6_compare_7cf53_6 : decode cJ6_compare_7cf53 6 = .ok (.goto 13, 3) := by decide +kernel
theorem dJ6_compare_7cf53_9 : decode cJ6_compare_7cf53 9 = .ok (.iload_n 0, 1) := by decide +kernel
theorem dJ6_compare_7cf53_10 : decode cJ6_compare_7cf53 10 = .ok (.iload_n 1, 1) := by decide +kernel
theorem dJ6_compare_7cf53_11 : decode cJ6_compare_7cf53 11 = .ok (.if_icmp .ne 7, 3) := by decide +kernel
theorem dJ6_compare_7cf53_14 : decode cJ6_compare_7cf53 14 = .ok (.iconst 0, 1) := by decide +kernel
theorem dJ6_compare_7cf53_15 : decode cJ6_compare_7cf53 15 = .ok (.goto 4, 3) := by decide +kernel
theorem dJ6_compare_7cf53_18 : decode cJ6_compare_7cf53 18 = .ok (.iconst 1, 1) := by decide +kernel
theorem dJ6_compare_7cf53_19 : decode cJ6_compare_7cf53 19 = .ok (.ireturn, 1) := by decide +kernel
theorem dJ6_numberOfTrailingZeros_0f7a4_0 : decode cJ6_numberOfTrailingZeros_0f7a4 0 = .ok (.iload_n 0, 1) := by decide +kernel
theorem dJ6_numberOfTrailingZeros_0f7a4_1 : decode cJ6_numberOfTrailingZeros_0f7a4 1 = .ok (.iconst (-1), 1) := by decide +kernel
theorem dJ6_numberOfTrailingZeros_0f7a4_2 : decode cJ6_numberOfTrailingZeros_0f7a4 2 = .ok (.ixor, 1) := by decide +kernel
theorem dJ6_numberOfTrailingZeros_0f7a4_3 : decode cJ6_numberOfTrailingZeros_0f7a4 3 = .ok (.iload_n 0, 1) := by decide +kernel
theorem dJ6_numberOfTrailingZeros_0f7a4_4 : decode cJ6_numberOfTrailingZeros_0f7a4 4 = .ok (.iconst 1, 1) := by decide +kernel
theorem dJ6_numberOfTrailingZeros_0f7a4_5 : decode cJ6_numberOfTrailingZeros_0f7a4 5 = .ok (.isub, 1) := by decide +kernel
theorem dJ6_numberOfTrailingZeros_0f7a4_6 : decode cJ6_numberOfTrailingZeros_0f7a4 6 = .ok (.iand, 1) := by decide +kernel
theorem dJ6_numberOfTrailingZeros_0f7a4_7 : decode cJ6_numberOfTrailingZeros_0f7a4 7 = .ok (.istore_n 0, 1) := by decide +kernel
theorem dJ6_numberOfTrailingZeros_0f7a4_8 : decode cJ6_numberOfTrailingZeros_0f7a4 8 = .ok (.iload_n 0, 1) := by decide +kernel
theorem dJ6_numberOfTrailingZeros_0f7a4_9 : decode cJ6_numberOfTrailingZeros_0f7a4 9 = .ok (.ifCond .gt 8, 3) := by decide +kernel
theorem dJ6_numberOfTrailingZeros_0f7a4_12 : decode cJ6_numberOfTrailingZeros_0f7a4 12 = .ok (.iload_n 0, 1) := by decide +kernel
theorem dJ6_numberOfTrailingZeros_0f7a4_13 : decode cJ6_numberOfTrailingZeros_0f7a4 13 = .ok (.bipush 32, 2) := by decide +kernel
theorem dJ6_numberOfTrailingZeros_0f7a4_15 : decode cJ6_numberOfTrailingZeros_0f7a4 15 = .ok (.iand, 1) := by decide +kernel
theorem dJ6_numberOfTrailingZeros_0f7a4_16 : decode cJ6_numberOfTrailingZeros_0f7a4 16 = .ok (.ireturn, 1) := by decide +kernel
theorem dJ6_numberOfTrailingZeros_0f7a4_17 : decode cJ6_numberOfTrailingZeros_0f7a4 17 = .ok (.iconst 1, 1) := by decide +kernel
theorem dJ6_numberOfTrailingZeros_0f7a4_18 : decode cJ6_numberOfTrailingZeros_0f7a4 18 = .ok (.istore_n 1, 1) := by decide +kernel
theorem dJ6_numberOfTrailingZeros_0f7a4_19 : decode cJ6_numberOfTrailingZeros_0f7a4 19 = .ok (.iload_n 0, 1) := by decide +kernel
theorem dJ6_numberOfTrailingZeros_0f7a4_20 : decode cJ6_numberOfTrailingZeros_0f7a4 20 = .ok (.ldc_w 264, 3) := by decide +kernel
theorem dJ6_numberOfTrailingZeros_0f7a4_23 : decode cJ6_numberOfTrailingZeros_0f7a4 23 = .ok (.if_icmp .le 11, 3) := by decide +kernel
theorem dJ6_numberOfTrailingZeros_0f7a4_26 : decode cJ6_numberOfTrailingZeros_0f7a4 26 = .ok (.iinc 1 16, 3) := by decide +kernel
theorem dJ6_numberOfTrailingZeros_0f7a4_29 : decode cJ6_numberOfTrailingZeros_0f7a4 29 = .ok (.iload_n 0, 1) := by decide +kernel
theorem dJ6_numberOfTrailingZeros_0f7a4_30 : decode cJ6_numberOfTrailingZeros_0f7a4 30 = .ok (.bipush 16, 2) := by decide +kernel
theorem dJ6_numberOfTrailingZeros_0f7a4_32 : decode cJ6_numberOfTrailingZeros_0f7a4 32 = .ok (.iushr, 1) := by decide +kernel
theorem dJ6_numberOfTrailingZeros_0f7a4_33 : decode cJ6_numberOfTrailingZeros_0f7a4 33 = .ok (.istore_n 0, 1) := by decide +kernel
theorem dJ6_numberOfTrailingZeros_0f7a4_34 : decode cJ6_numberOfTrailingZeros_0f7a4 34 = .ok (.iload_n 0, 1) := by decide +kernel
theorem dJ6_numberOfTrailingZeros_0f7a4_35 : decode cJ6_numberOfTrailingZeros_0f7a4 35 = .ok (.sipush 256, 3) := by decide +kernel
theorem dJ6_numberOfTrailingZeros_0f7a4_38 : decode cJ6_numberOfTrailingZeros_0f7a4 38 = .ok (.if_icmp .le 11, 3) := by decide +kernel
theorem dJ6_numberOfTrailingZeros_0f7a4_41 : decode cJ6_numberOfTrailingZeros_0f7a4 41 = .ok (.iinc 1 8, 3) := by decide +kernel
theorem dJ6_numberOfTrailingZeros_0f7a4_44 : decode cJ6_numberOfTrailingZeros_0f7a4 44 = .ok (.iload_n 0, 1) := by decide +kernel
theorem dJ6_numberOfTrailingZeros_0f7a4_45 : decode cJ6_numberOfTrailingZeros_0f7a4 45 = .ok (.bipush 8, 2) := by decide +kernel
theorem dJ6_numberOfTrailingZeros_0f7a4_47 : decode cJ6_numberOfTrailingZeros_0f7a4 47 = .ok (.iushr, 1) := by decide +kernel
theorem dJ6_numberOfTrailingZeros_0f7a4_48 : decode cJ6_numberOfTrailingZeros_0f7a4 48 = .ok (.istore_n 0, 1) := by decide +kernel
theorem dJ6_numberOfTrailingZeros_0f7a4_49 : decode cJ6_numberOfTrailingZeros_0f7a4 49 = .ok (.iload_n 0, 1) := by decide +kernel
theorem dJ6_numberOfTrailingZeros_0f7a4_50 : decode cJ6_numberOfTrailingZeros_0f7a4 50 = .ok (.bipush 16, 2) := by decide +kernel
theorem dJ6_numberOfTrailingZeros_0f7a4_52 : decode cJ6_numberOfTrailingZeros_0f7a4 52 = .ok (.if_icmp .le 10, 3) := by decide +kernel
theorem dJ6_numberOfTrailingZeros_0f7a4_55 : decode cJ6_numberOfTrailingZeros_0f7a4 55 = .ok (.iinc 1 4, 3) := by decide +kernel
theorem dJ6_numberOfTrailingZeros_0f7a4_58 : decode cJ6_numberOfTrailingZeros_0f7a4 58 = .ok (.iload_n 0, 1) := by decide +kernel
theorem dJ6_numberOfTrailingZeros_0f7a4_59 : decode cJ6_numberOfTrailingZeros_0f7a4 59 = .ok (.iconst 4, 1) := by decide +kernel
theorem dJ6_numberOfTrailingZeros_0f7a4_60 : decode cJ6_numberOfTrailingZeros_0f7a4 60 = .ok (.iushr, 1) := by decide +kernel
theorem dJ6_numberOfTrailingZeros_0f7a4_61 : decode cJ6_numberOfTrailingZeros_0f7a4 61 = .ok (.istore_n 0, 1) := by decide +kernel
theorem dJ6_numberOfTrailingZeros_0f7a4_62 : decode cJ6_numberOfTrailingZeros_0f7a4 62 = .ok (.iload_n 0, 1) := by decide +kernel
theorem dJ6_numberOfTrailingZeros_0f7a4_63 : decode cJ6_numberOfTrailingZeros_0f7a4 63 = .ok (.iconst 4, 1) := by decide +kernel
theorem dJ6_numberOfTrailingZeros_0f7a4_64 : decode cJ6_numberOfTrailingZeros_0f7a4 64 = .ok (.if_icmp .le 10, 3) := by decide +kernel
theorem dJ6_numberOfTrailingZeros_0f7a4_67 : decode cJ6_numberOfTrailingZeros_0f7a4 67 = .ok (.iinc 1 2, 3) := by decide +kernel
theorem dJ6_numberOfTrailingZeros_0f7a4_70 : decode cJ6_numberOfTrailingZeros_0f7a4 70 = .ok (.iload_n 0, 1) := by decide +kernel
theorem dJ6_numberOfTrailingZeros_0f7a4_71 : decode cJ6_numberOfTrailingZeros_0f7a4 71 = .ok (.iconst 2, 1) := by decide +kernel
theorem dJ6_numberOfTrailingZeros_0f7a4_72 : decode cJ6_numberOfTrailingZeros_0f7a4 72 = .ok (.iushr, 1) := by decide +kernel
theorem dJ6_numberOfTrailingZeros_0f7a4_73 : decode cJ6_numberOfTrailingZeros_0f7a4 73 = .ok (.istore_n 0, 1) := by decide +kernel
theorem dJ6_numberOfTrailingZeros_0f7a4_74 : decode cJ6_numberOfTrailingZeros_0f7a4 74 = .ok (.iload_n 1, 1) := by decide +kernel
theorem dJ6_numberOfTrailingZeros_0f7a4_75 : decode cJ6_numberOfTrailingZeros_0f7a4 75 = .ok (.iload_n 0, 1) := by decide +kernel
theorem dJ6_numberOfTrailingZeros_0f7a4_76 : decode cJ6_numberOfTrailingZeros_0f7a4 76 = .ok (.iconst 1, 1) := by decide +kernel
theorem dJ6_numberOfTrailingZeros_0f7a4_77 : decode cJ6_numberOfTrailingZeros_0f7a4 77 = .ok (.iushr, 1) := by decide +kernel
theorem dJ6_numberOfTrailingZeros_0f7a4_78 : decode cJ6_numberOfTrailingZeros_0f7a4 78 = .ok (.iadd, 1) := by decide +kernel
theorem dJ6_numberOfTrailingZeros_0f7a4_79 : decode cJ6_numberOfTrailingZeros_0f7a4 79 = .ok (.ireturn, 1) := by decide +kernel
theorem dJ6_bitCount_0f7a4_0 : decode cJ6_bitCount_0f7a4 0 = .ok (.iload_n 0, 1) := by decide +kernel
theorem dJ6_bitCount_0f7a4_1 : decode cJ6_bitCount_0f7a4 1 = .ok (.iload_n 0, 1) := by decide +kernel
theorem dJ6_bitCount_0f7a4_2 : decode cJ6_bitCount_0f7a4 2 = .ok (.iconst 1, 1) := by decide +kernel
theorem dJ6_bitCount_0f7a4_3 : decode cJ6_bitCount_0f7a4 3 = .ok (.iushr, 1) := by decide +kernel
theorem dJ6_bitCount_0f7a4_4 : decode cJ6_bitCount_0f7a4 4 = .ok (.ldc_w 265, 3) := by decide +kernel
theorem dJ6_bitCount_0f7a4_7 : decode cJ6_bitCount_0f7a4 7 = .ok (.iand, 1) := by decide +kernel
theorem dJ6_bitCount_0f7a4_8 : decode cJ6_bitCount_0f7a4 8 = .ok (.isub, 1) := by decide +kernel
theorem dJ6_bitCount_0f7a4_9 : decode cJ6_bitCount_0f7a4 9 = .ok (.istore_n 0, 1) := by decide +kernel
theorem dJ6_bitCount_0f7a4_10 : decode cJ6_bitCount_0f7a4 10 = .ok (.iload_n 0, 1) := by decide +kernel
theorem dJ6_bitCount_0f7a4_11 : decode cJ6_bitCount_0f7a4 11 = .ok (.ldc_w 266, 3) := by decide +kernel
theorem dJ6_bitCount_0f7a4_14 : decode cJ6_bitCount_0f7a4 14 = .ok (.iand, 1) := by decide +kernel
theorem dJ6_bitCount_0f7a4_15 : decode cJ6_bitCount_0f7a4 15 = .ok (.iload_n 0, 1) := by decide +kernel
theorem dJ6_bitCount_0f7a4_16 : decode cJ6_bitCount_0f7a4 16 = .ok (.iconst 2, 1) := by decide +kernel
theorem dJ6_bitCount_0f7a4_17 : decode cJ6_bitCount_0f7a4 17 = .ok (.iushr, 1) := by decide +kernel
theorem dJ6_bitCount_0f7a4_18 : decode cJ6_bitCount_0f7a4 18 = .ok (.ldc_w 266, 3) := by decide +kernel
theorem dJ6_bitCount_0f7a4_21 : decode cJ6_bitCount_0f7a4 21 = .ok (.iand, 1) := by decide +kernel
theorem dJ6_bitCount_0f7a4_22 : decode cJ6_bitCount_0f7a4 22 = .ok (.iadd, 1) := by decide +kernel
theorem dJ6_bitCount_0f7a4_23 : decode cJ6_bitCount_0f7a4 23 = .ok (.istore_n 0, 1) := by decide +kernel
theorem dJ6_bitCount_0f7a4_24 : decode cJ6_bitCount_0f7a4 24 = .ok (.iload_n 0, 1) := by decide +kernel
theorem dJ6_bitCount_0f7a4_25 : decode cJ6_bitCount_0f7a4 25 = .ok (.iload_n 0, 1) := by decide +kernel
theorem dJ6_bitCount_0f7a4_26 : decode cJ6_bitCount_0f7a4 26 = .ok (.iconst 4, 1) := by decide +kernel
theorem dJ6_bitCount_0f7a4_27 : decode cJ6_bitCount_0f7a4 27 = .ok (.iushr, 1) := by decide +kernel
theorem dJ6_bitCount_0f7a4_28 : decode cJ6_bitCount_0f7a4 28 = .ok (.iadd, 1) := by decide +kernel
theorem dJ6_bitCount_0f7a4_29 : decode cJ6_bitCount_0f7a4 29 = .ok (.ldc_w 267, 3) := by decide +kernel
theorem dJ6_bitCount_0f7a4_32 : decode cJ6_bitCount_0f7a4 32 = .ok (.iand, 1) := by decide +kernel
theorem dJ6_bitCount_0f7a4_33 : decode cJ6_bitCount_0f7a4 33 = .ok (.istore_n 0, 1) := by decide +kernel
theorem dJ6_bitCount_0f7a4_34 : decode cJ6_bitCount_0f7a4 34 = .ok (.iload_n 0, 1) := by decide +kernel
theorem dJ6_bitCount_0f7a4_35 : decode cJ6_bitCount_0f7a4 35 = .ok (.iload_n 0, 1) := by decide +kernel
theorem dJ6_bitCount_0f7a4_36 : decode cJ6_bitCount_0f7a4 36 = .ok (.bipush 8, 2) := by decide +kernel
theorem dJ6_bitCount_0f7a4_38 : decode cJ6_bitCount_0f7a4 38 = .ok (.iushr, 1) := by decide +kernel
theorem dJ6_bitCount_0f7a4_39 : decode cJ6_bitCount_0f7a4 39 = .ok (.iadd, 1) := by decide +kernel
theorem dJ6_bitCount_0f7a4_40 : decode cJ6_bitCount_0f7a4 40 = .ok (.istore_n 0, 1) := by decide +kernel
theorem dJ6_bitCount_0f7a4_41 : decode cJ6_bitCount_0f7a4 41 = .ok (.iload_n 0, 1) := by decide +kernel
theorem dJ6_bitCount_0f7a4_42 : decode cJ6_bitCount_0f7a4 42 = .ok (.iload_n 0, 1) := by decide +kernel
theorem dJ6_bitCount_0f7a4_43 : decode cJ6_bitCount_0f7a4 43 = .ok (.bipush 16, 2) := by decide +kernel
theorem dJ6_bitCount_0f7a4_45 : decode cJ6_bitCount_0f7a4 45 = .ok (.iushr, 1) := by decide +kernel
theorem dJ6_bitCount_0f7a4_46 : decode cJ6_bitCount_0f7a4 46 = .ok (.iadd, 1) := by decide +kernel
theorem dJ6_bitCount_0f7a4_47 : decode cJ6_bitCount_0f7a4 47 = .ok (.istore_n 0, 1) := by decide +kernel
theorem dJ6_bitCount_0f7a4_48 : decode cJ6_bitCount_0f7a4 48 = .ok (.iload_n 0, 1) := by decide +kernel
theorem dJ6_bitCount_0f7a4_49 : decode cJ6_bitCount_0f7a4 49 = .ok (.bipush 63, 2) := by decide +kernel
theorem dJ6_bitCount_0f7a4_51 : decode cJ6_bitCount_0f7a4 51 = .ok (.iand, 1) := by decide +kernel
theorem dJ6_bitCount_0f7a4_52 : decode cJ6_bitCount_0f7a4 52 = .ok (.ireturn, 1) := by decide +kernel
theorem dJ13_numberOfTrailingZeros_95d88_0 : decode cJ13_numberOfTrailingZeros_95d88 0 = .ok (.lload_n 0, 1) := by decide +kernel
theorem dJ13_numberOfTrailingZeros_95d88_1 : decode cJ13_numberOfTrailingZeros_95d88 1 = .ok (.l2i, 1) := by decide +kernel
theorem dJ13_numberOfTrailingZeros_95d88_2 : decode cJ13_numberOfTrailingZeros_95d88 2 = .ok (.istore_n 2, 1) := by decide +kernel
theorem dJ13_numberOfTrailingZeros_95d88_3 : decode cJ13_numberOfTrailingZeros_95d88 3 = .ok (.iload_n 2, 1) := by decide +kernel
theorem dJ13_numberOfTrailingZeros_95d88_4 : decode cJ13_numberOfTrailingZeros_95d88 4 = .ok (.ifCond .ne 17, 3) := by decide +kernel
theorem dJ13_numberOfTrailingZeros_95d88_7 : decode cJ13_numberOfTrailingZeros_95d88 7 = .ok (.bipush 32, 2) := by decide +kernel
theorem dJ13_numberOfTrailingZeros_95d88_9 : decode cJ13_numberOfTrailingZeros_95d88 9 = .ok (.lload_n 0, 1) := by decide +kernel
theorem dJ13_numberOfTrailingZeros_95d88_10 : decode cJ13_numberOfTrailingZeros_95d88 10 = .ok (.bipush 32, 2) := by decide +kernel
theorem dJ13_numberOfTrailingZeros_95d88_12 : decode cJ13_numberOfTrailingZeros_95d88 12 = .ok (.lushr, 1) := by decide +kernel
theorem dJ13_numberOfTrailingZeros_95d88_13 : decode cJ13_numberOfTrailingZeros_95d88 13 = .ok (.l2i, 1) := by decide +kernel
theorem dJ13_numberOfTrailingZeros_95d88_14 : decode cJ13_numberOfTrailingZeros_95d88 14 = .ok (.invokestatic 311, 3) := by decide +kernel
theorem dJ13_numberOfTrailingZeros_95d88_17 : decode cJ13_numberOfTrailingZeros_95d88 17 = .ok (.iadd, 1) := by decide +kernel
theorem dJ13_numberOfTrailingZeros_95d88_18 : decode cJ13_numberOfTrailingZeros_95d88 18 = .ok (.goto 7, 3) := by decide +kernel
theorem dJ13_numberOfTrailingZeros_95d88_21 : decode cJ13_numberOfTrailingZeros_95d88 21 = .ok (.iload_n 2, 1) := by decide +kernel
theorem dJ13_numberOfTrailingZeros_95d88_22 : decode cJ13_numberOfTrailingZeros_95d88 22 = .ok (.invokestatic 311, 3) := by decide +kernel
theorem dJ13_numberOfTrailingZeros_95d88_25 : decode cJ13_numberOfTrailingZeros_95d88 25 = .ok (.ireturn, 1) := by decide +kernel
theorem dJ13_bitCount_95d88_0 : decode cJ13_bitCount_95d88 0 = .ok (.lload_n 0, 1) := by decide +kernel
theorem dJ13_bitCount_95d88_1 : decode cJ13_bitCount_95d88 1 = .ok (.lload_n 0, 1) := by decide +kernel
theorem dJ13_bitCount_95d88_2 : decode cJ13_bitCount_95d88 2 = .ok (.iconst 1, 1) := by decide +kernel
theorem dJ13_bitCount_95d88_3 : decode cJ13_bitCount_95d88 3 = .ok (.lushr, 1) := by decide +kernel
theorem dJ13_bitCount_95d88_4 : decode cJ13_bitCount_95d88 4 = .ok (.ldc2_w 314, 3) := by decide +kernel
theorem dJ13_bitCount_95d88_7 : decode cJ13_bitCount_95d88 7 = .ok (.land, 1) := by decide +kernel
theorem dJ13_bitCount_95d88_8 : decode cJ13_bitCount_95d88 8 = .ok (.lsub, 1) := by decide +kernel
theorem dJ13_bitCount_95d88_9 : decode cJ13_bitCount_95d88 9 = .ok (.lstore_n 0, 1) := by decide +kernel
theorem dJ13_bitCount_95d88_10 : decode cJ13_bitCount_95d88 10 = .ok (.lload_n 0, 1) := by decide +kernel
theorem dJ13_bitCount_95d88_11 : decode cJ13_bitCount_95d88 11 = .ok (.ldc2_w 316, 3) := by decide +kernel
theorem dJ13_bitCount_95d88_14 : decode cJ13_bitCount_95d88 14 = .ok (.land, 1) := by decide +kernel
theorem dJ13_bitCount_95d88_15 : decode cJ13_bitCount_95d88 15 = .ok (.lload_n 0, 1) := by decide +kernel
theorem dJ13_bitCount_95d88_16 : decode cJ13_bitCount_95d88 16 = .ok (.iconst 2, 1) := by decide +kernel
theorem dJ13_bitCount_95d88_17 : decode cJ13_bitCount_95d88 17 = .ok (.lushr, 1) := by decide +kernel
theorem dJ13_bitCount_95d88_18 : decode cJ13_bitCount_95d88 18 = .ok (.ldc2_w 316, 3) := by decide +kernel
theorem dJ13_bitCount_95d88_21 : decode cJ13_bitCount_95d88 21 = .ok (.land, 1) := by decide +kernel
theorem dJ13_bitCount_95d88_22 : decode cJ13_bitCount_95d88 22 = .ok (.ladd, 1) := by decide +kernel
theorem dJ13_bitCount_95d88_23 : decode cJ13_bitCount_95d88 23 = .ok (.lstore_n 0, 1) := by decide +kernel
theorem dJ13_bitCount_95d88_24 : decode cJ13_bitCount_95d88 24 = .ok (.lload_n 0, 1) := by decide +kernel
theorem dJ13_bitCount_95d88_25 : decode cJ13_bitCount_95d88 25 = .ok (.lload_n 0, 1) := by decide +kernel
theorem dJ13_bitCount_95d88_26 : decode cJ13_bitCount_95d88 26 = .ok (.iconst 4, 1) := by decide +kernel
theorem dJ13_bitCount_95d88_27 : decode cJ13_bitCount_95d88 27 = .ok (.lushr, 1) := by decide +kernel
theorem dJ13_bitCount_95d88_28 : decode cJ13_bitCount_95d88 28 = .ok (.ladd, 1) := by decide +kernel
theorem dJ13_bitCount_95d88_29 : decode cJ13_bitCount_95d88 29 = .ok (.ldc2_w 318, 3) := by decide +kernel
theorem dJ13_bitCount_95d88_32 : decode cJ13_bitCount_95d88 32 = .ok (.land, 1) := by decide +kernel
theorem dJ13_bitCount_95d88_33 : decode cJ13_bitCount_95d88 33 = .ok (.lstore_n 0, 1) := by decide +kernel
theorem dJ13_bitCount_95d88_34 : decode cJ13_bitCount_95d88 34 = .ok (.lload_n 0, 1) := by decide +kernel
theorem dJ13_bitCount_95d88_35 : decode cJ13_bitCount_95d88 35 = .ok (.lload_n 0, 1) := by decide +kernel
theorem dJ13_bitCount_95d88_36 : decode cJ13_bitCount_95d88 36 = .ok (.bipush 8, 2) := by decide +kernel
theorem dJ13_bitCount_95d88_38 : decode cJ13_bitCount_95d88 38 = .ok (.lushr, 1) := by decide +kernel
theorem dJ13_bitCount_95d88_39 : decode cJ13_bitCount_95d88 39 = .ok (.ladd, 1) := by decide +kernel
theorem dJ13_bitCount_95d88_40 : decode cJ13_bitCount_95d88 40 = .ok (.lstore_n 0, 1) := by decide +kernel
theorem dJ13_bitCount_95d88_41 : decode cJ13_bitCount_95d88 41 = .ok (.lload_n 0, 1) := by decide +kernel
theorem dJ13_bitCount_95d88_42 : decode cJ13_bitCount_95d88 42 = .ok (.lload_n 0, 1) := by decide +kernel
theorem dJ13_bitCount_95d88_43 : decode cJ13_bitCount_95d88 43 = .ok (.bipush 16, 2) := by decide +kernel
theorem dJ13_bitCount_95d88_45 : decode cJ13_bitCount_95d88 45 = .ok (.lushr, 1) := by decide +kernel
theorem dJ13_bitCount_95d88_46 : decode cJ13_bitCount_95d88 46 = .ok (.ladd, 1) := by decide +kernel
theorem dJ13_bitCount_95d88_47 : decode cJ13_bitCount_95d88 47 = .ok (.lstore_n 0, 1) := by decide +kernel
theorem dJ13_bitCount_95d88_48 : decode cJ13_bitCount_95d88 48 = .ok (.lload_n 0, 1) := by decide +kernel
theorem dJ13_bitCount_95d88_49 : decode cJ13_bitCount_95d88 49 = .ok (.lload_n 0, 1) := by decide +kernel
theorem dJ13_bitCount_95d88_50 : decode cJ13_bitCount_95d88 50 = .ok (.bipush 32, 2) := by decide +kernel
theorem dJ13_bitCount_95d88_52 : decode cJ13_bitCount_95d88 52 = .ok (.lushr, 1) := by decide +kernel
theorem dJ13_bitCount_95d88_53 : decode cJ13_bitCount_95d88 53 = .ok (.ladd, 1) := by decide +kernel
theorem dJ13_bitCount_95d88_54 : decode cJ13_bitCount_95d88 54 = .ok (.lstore_n 0, 1) := by decide +kernel
theorem dJ13_bitCount_95d88_55 : decode cJ13_bitCount_95d88 55 = .ok (.lload_n 0, 1) := by decide +kernel
theorem dJ13_bitCount_95d88_56 : decode cJ13_bitCount_95d88 56 = .ok (.l2i, 1) := by decide +kernel
theorem dJ13_bitCount_95d88_57 : decode cJ13_bitCount_95d88 57 = .ok (.bipush 127, 2) := by decide +kernel
theorem dJ13_bitCount_95d88_59 : decode cJ13_bitCount_95d88 59 = .ok (.iand, 1) := by decide +kernel
theorem dJ13_bitCount_95d88_60 : decode cJ13_bitCount_95d88 60 = .ok (.ireturn, 1) := by decide +kernel
theorem dJ9_abs_067f4_0 : decode cJ9_abs_067f4 0 = .ok (.lload_n 0, 1) := by decide +kernel
theorem dJ9_abs_067f4_1 : decode cJ9_abs_067f4 1 = .ok (.lconst 0, 1) := by decide +kernel
theorem dJ9_abs_067f4_2 : decode cJ9_abs_067f4 2 = .ok (.lcmp, 1) := by decide +kernel
theorem dJ9_abs_067f4_3 : decode cJ9_abs_067f4 3 = .ok (.ifCond .ge 8, 3) := by decide +kernel
theorem dJ9_abs_067f4_6 : decode cJ9_abs_067f4 6 = .ok (.lload_n 0, 1) := by decide +kernel
theorem dJ9_abs_067f4_7 : decode cJ9_abs_067f4 7 = .ok (.lneg, 1) := by decide +kernel
theorem dJ9_abs_067f4_8 : decode cJ9_abs_067f4 8 = .ok (.goto 4, 3) := by decide +kernel
theorem dJ9_abs_067f4_11 : decode cJ9_abs_067f4 11 = .ok (.lload_n 0, 1) := by decide +kernel
theorem dJ9_abs_067f4_12 : decode cJ9_abs_067f4 12 = .ok (.lreturn, 1) := by decide +kernel
theorem dJ9_max_7cf53_0 : decode cJ9_max_7cf53 0 = .ok (.iload_n 0, 1) := by decide +kernel
theorem dJ9_max_7cf53_1 : decode cJ9_max_7cf53 1 = .ok (.iload_n 1, 1) := by decide +kernel
theorem dJ9_max_7cf53_2 : decode cJ9_max_7cf53 2 = .ok (.if_icmp .lt 7, 3) := by decide +kernel
theorem dJ9_max_7cf53_5 : decode cJ9_max_7cf53 5 = .ok (.iload_n 0, 1) := by decide +kernel
theorem dJ9_max_7cf53_6 : decode cJ9_max_7cf53 6 = .ok (.goto 4, 3) := by decide +kernel
theorem dJ9_max_7cf53_9 : decode cJ9_max_7cf53 9 = .ok (.iload_n 1, 1) := by decide +kernel
theorem dJ9_max_7cf53_10 : decode cJ9_max_7cf53 10 = .ok (.ireturn, 1) := by decide +kernel
theorem dJ9_min_7cf53_0 : decode cJ9_min_7cf53 0 = .ok (.iload_n 0, 1) := by decide +kernel
theorem dJ9_min_7cf53_1 : decode cJ9_min_7cf53 1 = .ok (.iload_n 1, 1) := by decide +kernel
theorem dJ9_min_7cf53_2 : decode cJ9_min_7cf53 2 = .ok (.if_icmp .gt 7, 3) := by decide +kernel
theorem dJ9_min_7cf53_5 : decode cJ9_min_7cf53 5 = .ok (.iload_n 0, 1) := by decide +kernel
theorem dJ9_min_7cf53_6 : decode cJ9_min_7cf53 6 = .ok (.goto 4, 3) := by decide +kernel
theorem dJ9_min_7cf53_9 : decode cJ9_min_7cf53 9 = .ok (.iload_n 1, 1) := by decide +kernel
theorem dJ9_min_7cf53_10 : decode cJ9_min_7cf53 10 = .ok (.ireturn, 1) := by decide +kernel
theorem dJ7_fill_d0a16_0 : decode cJ7_fill_d0a16 0 = .ok (.iconst 0, 1) := by decide +kernel
theorem dJ7_fill_d0a16_1 : decode cJ7_fill_d0a16 1 = .ok (.istore_n 3, 1) := by decide +kernel
theorem dJ7_fill_d0a16_2 : decode cJ7_fill_d0a16 2 = .ok (.aload_n 0, 1) := by decide +kernel
theorem dJ7_fill_d0a16_3 : decode cJ7_fill_d0a16 3 = .ok (.arraylength, 1) := by decide +kernel
theorem dJ7_fill_d0a16_4 : decode cJ7_fill_d0a16 4 = .ok (.istore 4, 2) := by decide +kernel
theorem dJ7_fill_d0a16_6 : decode cJ7_fill_d0a16 6 = .ok (.iload_n 3, 1) := by decide +kernel
theorem dJ7_fill_d0a16_7 : decode cJ7_fill_d0a16 7 = .ok (.iload 4, 2) := by decide +kernel
theorem dJ7_fill_d0a16_9 : decode cJ7_fill_d0a16 9 = .ok (.if_icmp .ge 13, 3) := by decide +kernel
theorem dJ7_fill_d0a16_12 : decode cJ7_fill_d0a16 12 = .ok (.aload_n 0, 1) := by decide +kernel
theorem dJ7_fill_d0a16_13 : decode cJ7_fill_d0a16 13 = .ok (.iload_n 3, 1) := by decide +kernel
theorem dJ7_fill_d0a16_14 : decode cJ7_fill_d0a16 14 = .ok (.lload_n 1, 1) := by decide +kernel
theorem dJ7_fill_d0a16_15 : decode cJ7_fill_d0a16 15 = .ok (.lastore, 1) := by decide +kernel
theorem dJ7_fill_d0a16_16 : decode cJ7_fill_d0a16 16 = .ok (.iinc 3 1, 3) := by decide +kernel
theorem dJ7_fill_d0a16_19 : decode cJ7_fill_d0a16 19 = .ok (.goto (-13), 3) := by decide +kernel
theorem dJ7_fill_d0a16_22 : decode cJ7_fill_d0a16 22 = .ok (.return_, 1) := by decide +kernel
theorem dJ7_fill_53178_0 : decode cJ7_fill_53178 0 = .ok (.iconst 0, 1) := by decide +kernel
theorem dJ7_fill_53178_1 : decode cJ7_fill_53178 1 = .ok (.istore_n 2, 1) := by decide +kernel
theorem dJ7_fill_53178_2 : decode cJ7_fill_53178 2 = .ok (.aload_n 0, 1) := by decide +kernel
theorem dJ7_fill_53178_3 : decode cJ7_fill_53178 3 = .ok (.arraylength, 1) := by decide +kernel
theorem dJ7_fill_53178_4 : decode cJ7_fill_53178 4 = .ok (.istore_n 3, 1) := by decide +kernel
theorem dJ7_fill_53178_5 : decode cJ7_fill_53178 5 = .ok (.iload_n 2, 1) := by decide +kernel
theorem dJ7_fill_53178_6 : decode cJ7_fill_53178 6 = .ok (.iload_n 3, 1) := by decide +kernel
theorem dJ7_fill_53178_7 : decode cJ7_fill_53178 7 = .ok (.if_icmp .ge 13, 3) := by decide +kernel
theorem dJ7_fill_53178_10 : decode cJ7_fill_53178 10 = .ok (.aload_n 0, 1) := by decide +kernel
theorem dJ7_fill_53178_11 : decode cJ7_fill_53178 11 = .ok (.iload_n 2, 1) := by decide +kernel
theorem dJ7_fill_53178_12 : decode cJ7_fill_53178 12 = .ok (.iload_n 1, 1) := by decide +kernel
theorem dJ7_fill_53178_13 : decode cJ7_fill_53178 13 = .ok (.iastore, 1) := by decide +kernel
theorem dJ7_fill_53178_14 : decode cJ7_fill_53178 14 = .ok (.iinc 2 1, 3) := by decide +kernel
theorem dJ7_fill_53178_17 : decode cJ7_fill_53178 17 = .ok (.goto (-12), 3) := by decide +kernel
theorem dJ7_fill_53178_20 : decode cJ7_fill_53178 20 = .ok (.return_, 1) := by decide +kernel
theorem dL_law_0 : decode cL_law 0 = .ok (.new 7, 3) := by decide +kernel
theorem dL_law_3 : decode cL_law 3 = .ok (.dup, 1) := by decide +kernel
theorem dL_law_4 : decode cL_law 4 = .ok (.invokespecial 9, 3) := by decide +kernel
theorem dL_law_7 : decode cL_law 7 = .ok (.astore_n 1, 1) := by decide +kernel
theorem dL_law_8 : decode cL_law 8 = .ok (.new 10, 3) := by decide +kernel
theorem dL_law_11 : decode cL_law 11 = .ok (.dup, 1) := by decide +kernel
theorem dL_law_12 : decode cL_law 12 = .ok (.invokespecial 12, 3) := by decide +kernel
theorem dL_law_15 : decode cL_law 15 = .ok (.astore_n 2, 1) := by decide +kernel
theorem dL_law_16 : decode cL_law 16 = .ok (.iconst 0, 1) := by decide +kernel
theorem dL_law_17 : decode cL_law 17 = .ok (.istore_n 3, 1) := by decide +kernel
theorem dL_law_18 : decode cL_law 18 = .ok (.iload_n 3, 1) := by decide +kernel
theorem dL_law_19 : decode cL_law 19 = .ok (.aload_n 0, 1) := by decide +kernel
theorem dL_law_20 : decode cL_law 20 = .ok (.arraylength, 1) := by decide +kernel
theorem dL_law_21 : decode cL_law 21 = .ok (.bipush 6, 2) := by decide +kernel
theorem dL_law_23 : decode cL_law 23 = .ok (.isub, 1) := by decide +kernel
theorem dL_law_24 : decode cL_law 24 = .ok (.if_icmp .gt 1069, 3) := by decide +kernel
theorem dL_law_27 : decode cL_law 27 = .ok (.aload_n 0, 1) := by decide +kernel
theorem dL_law_28 : decode cL_law 28 = .ok (.iload_n 3, 1) := by decide +kernel
theorem dL_law_29 : decode cL_law 29 = .ok (.iaload, 1) := by decide +kernel
theorem dL_law_30 : decode cL_law 30 = .ok (.bipush 31, 2) := by decide +kernel
theorem dL_law_32 : decode cL_law 32 = .ok (.iand, 1) := by decide +kernel
theorem dL_law_33 : decode cL_law 33 = .ok (.tableswitch 1054 0 30 #[139, 202, 225, 238, 261, 294, 317, 340, 383, 436, 479, 502, 525, 558, 591, 624, 657, 680, 703, 736, 759, 792, 825, 838, 861, 894, 928, 962, 995, 1008, 1031], 139) := by decide +kernel
theorem dL_law_172 : decode cL_law 172 = .ok (.aload_n 1, 1) := by decide +kernel
theorem dL_law_173 : decode cL_law 173 = .ok (.aload_n 0, 1) := by decide +kernel
theorem dL_law_174 : decode cL_law 174 = .ok (.iload_n 3, 1) := by decide +kernel
theorem dL_law_175 : decode cL_law 175 = .ok (.iconst 1, 1) := by decide +kernel
theorem dL_law_176 : decode cL_law 176 = .ok (.iadd, 1) := by decide +kernel
theorem dL_law_177 : decode cL_law 177 = .ok (.iaload, 1) := by decide +kernel
theorem dL_law_178 : decode cL_law 178 = .ok (.aload_n 0, 1) := by decide +kernel
theorem dL_law_179 : decode cL_law 179 = .ok (.iload_n 3, 1) := by decide +kernel
theorem dL_law_180 : decode cL_law 180 = .ok (.iconst 2, 1) := by decide +kernel
theorem dL_law_181 : decode cL_law 181 = .ok (.iadd, 1) := by decide +kernel
theorem dL_law_182 : decode cL_law 182 = .ok (.iaload, 1) := by decide +kernel
theorem dL_law_183 : decode cL_law 183 = .ok (.aload_n 0, 1) := by decide +kernel
theorem dL_law_184 : decode cL_law 184 = .ok (.iload_n 3, 1) := by decide +kernel
theorem dL_law_185 : decode cL_law 185 = .ok (.iconst 3, 1) := by decide +kernel
theorem dL_law_186 : decode cL_law 186 = .ok (.iadd, 1) := by decide +kernel
theorem dL_law_187 : decode cL_law 187 = .ok (.iaload, 1) := by decide +kernel
theorem dL_law_188 : decode cL_law 188 = .ok (.aload_n 0, 1) := by decide +kernel
theorem dL_law_189 : decode cL_law 189 = .ok (.iload_n 3, 1) := by decide +kernel
theorem dL_law_190 : decode cL_law 190 = .ok (.iconst 4, 1) := by decide +kernel
theorem dL_law_191 : decode cL_law 191 = .ok (.iadd, 1) := by decide +kernel
theorem dL_law_192 : decode cL_law 192 = .ok (.iaload, 1) := by decide +kernel
theorem dL_law_193 : decode cL_law 193 = .ok (.aload_n 0, 1) := by decide +kernel
theorem dL_law_194 : decode cL_law 194 = .ok (.iload_n 3, 1) := by decide +kernel
theorem dL_law_195 : decode cL_law 195 = .ok (.iconst 5, 1) := by decide +kernel
theorem dL_law_196 : decode cL_law 196 = .ok (.iadd, 1) := by decide +kernel
theorem dL_law_197 : decode cL_law 197 = .ok (.iaload, 1) := by decide +kernel
theorem dL_law_198 : decode cL_law 198 = .ok (.invokevirtual 13, 3) := by decide +kernel
theorem dL_law_201 : decode cL_law 201 = .ok (.aload_n 2, 1) := by decide +kernel
theorem dL_law_202 : decode cL_law 202 = .ok (.aload_n 0, 1) := by decide +kernel
theorem dL_law_203 : decode cL_law 203 = .ok (.iload_n 3, 1) := by decide +kernel
theorem dL_law_204 : decode cL_law 204 = .ok (.iconst 1, 1) := by decide +kernel
theorem dL_law_205 : decode cL_law 205 = .ok (.iadd, 1) := by decide +kernel
theorem dL_law_206 : decode cL_law 206 = .ok (.iaload, 1) := by decide +kernel
theorem dL_law_207 : decode cL_law 207 = .ok (.aload_n 0, 1) := by decide +kernel
theorem dL_law_208 : decode cL_law 208 = .ok (.iload_n 3, 1) := by decide +kernel
theorem dL_law_209 : decode cL_law 209 = .ok (.iconst 2, 1) := by decide +kernel
theorem dL_law_210 : decode cL_law 210 = .ok (.iadd, 1) := by decide +kernel
theorem dL_law_211 : decode cL_law 211 = .ok (.iaload, 1) := by decide +kernel
theorem dL_law_212 : decode cL_law 212 = .ok (.aload_n 0, 1) := by decide +kernel
theorem dL_law_213 : decode cL_law 213 = .ok (.iload_n 3, 1) := by decide +kernel
theorem dL_law_214 : decode cL_law 214 = .ok (.iconst 3, 1) := by decide +kernel
theorem dL_law_215 : decode cL_law 215 = .ok (.iadd, 1) := by decide +kernel
theorem dL_law_216 : decode cL_law 216 = .ok (.iaload, 1) := by decide +kernel
theorem dL_law_217 : decode cL_law 217 = .ok (.aload_n 0, 1) := by decide +kernel
theorem dL_law_218 : decode cL_law 218 = .ok (.iload_n 3, 1) := by decide +kernel
theorem dL_law_219 : decode cL_law 219 = .ok (.iconst 4, 1) := by decide +kernel
theorem dL_law_220 : decode cL_law 220 = .ok (.iadd, 1) := by decide +kernel
theorem dL_law_221 : decode cL_law 221 = .ok (.iaload, 1) := by decide +kernel
theorem dL_law_222 : decode cL_law 222 = .ok (.aload_n 0, 1) := by decide +kernel
theorem dL_law_223 : decode cL_law 223 = .ok (.iload_n 3, 1) := by decide +kernel
theorem dL_law_224 : decode cL_law 224 = .ok (.iconst 5, 1) := by decide +kernel
theorem dL_law_225 : decode cL_law 225 = .ok (.iadd, 1) := by decide +kernel
theorem dL_law_226 : decode cL_law 226 = .ok (.iaload, 1) := by decide +kernel
theorem dL_law_227 : decode cL_law 227 = .ok (.invokevirtual 17, 3) := by decide +kernel
theorem dL_law_230 : decode cL_law 230 = .ok (.if_icmp .eq 857, 3) := by decide +kernel
theorem dL_law_233 : decode cL_law 233 = .ok (.iconst 0, 1) := by decide +kernel
theorem dL_law_234 : decode cL_law 234 = .ok (.ireturn, 1) := by decide +kernel
theorem dL_law_235 : decode cL_law 235 = .ok (.aload_n 1, 1) := by decide +kernel
theorem dL_law_236 : decode cL_law 236 = .ok (.aload_n 0, 1) := by decide +kernel
theorem dL_law_237 : decode cL_law 237 = .ok (.iload_n 3, 1) := by decide +kernel
theorem dL_law_238 : decode cL_law 238 = .ok (.iconst 1, 1) := by decide +kernel
theorem dL_law_239 : decode cL_law 239 = .ok (.iadd, 1) := by decide +kernel
theorem dL_law_240 : decode cL_law 240 = .ok (.iaload, 1) := by decide +kernel
theorem dL_law_241 : decode cL_law 241 = .ok (.invokevirtual 18, 3) := by decide +kernel
theorem dL_law_244 : decode cL_law 244 = .ok (.aload_n 2, 1) := by decide +kernel
theorem dL_law_245 : decode cL_law 245 = .ok (.aload_n 0, 1) := by decide +kernel
theorem dL_law_246 : decode cL_law 246 = .ok (.iload_n 3, 1) := by decide +kernel
theorem dL_law_247 : decode cL_law 247 = .ok (.iconst 1, 1) := by decide +kernel
theorem dL_law_248 : decode cL_law 248 = .ok (.iadd, 1) := by decide +kernel
theorem dL_law_249 : decode cL_law 249 = .ok (.iaload, 1) := by decide +kernel
theorem dL_law_250 : decode cL_law 250 = .ok (.invokevirtual 22, 3) := by decide +kernel
theorem dL_law_253 : decode cL_law 253 = .ok (.if_icmp .eq 834, 3) := by decide +kernel
theorem dL_law_256 : decode cL_law 256 = .ok (.iconst 0, 1) := by decide +kernel
theorem dL_law_257 : decode cL_law 257 = .ok (.ireturn, 1) := by decide +kernel
theorem dL_law_258 : decode cL_law 258 = .ok (.aload_n 1, 1) := by decide +kernel
theorem dL_law_259 : decode cL_law 259 = .ok (.invokevirtual 23, 3) := by decide +kernel
theorem dL_law_262 : decode cL_law 262 = .ok (.aload_n 2, 1) := by decide +kernel
theorem dL_law_263 : decode cL_law 263 = .ok (.invokevirtual 27, 3) := by decide +kernel
theorem dL_law_266 : decode cL_law 266 = .ok (.if_icmp .eq 821, 3) := by decide +kernel
theorem dL_law_269 : decode cL_law 269 = .ok (.iconst 0, 1) := by decide +kernel
theorem dL_law_270 : decode cL_law 270 = .ok (.ireturn, 1) := by decide +kernel
theorem dL_law_271 : decode cL_law 271 = .ok (.aload_n 1, 1) := by decide +kernel
theorem dL_law_272 : decode cL_law 272 = .ok (.aload_n 0, 1) := by decide +kernel
theorem dL_law_273 : decode cL_law 273 = .ok (.iload_n 3, 1) := by decide +kernel
theorem dL_law_274 : decode cL_law 274 = .ok (.iconst 1, 1) := by decide +kernel
theorem dL_law_275 : decode cL_law 275 = .ok (.iadd, 1) := by decide +kernel
theorem dL_law_276 : decode cL_law 276 = .ok (.iaload, 1) := by decide +kernel
theorem dL_law_277 : decode cL_law 277 = .ok (.invokevirtual 28, 3) := by decide +kernel
theorem dL_law_280 : decode cL_law 280 = .ok (.aload_n 2, 1) := by decide +kernel
theorem dL_law_281 : decode cL_law 281 = .ok (.aload_n 0, 1) := by decide +kernel
theorem dL_law_282 : decode cL_law 282 = .ok (.iload_n 3, 1) := by decide +kernel
theorem dL_law_283 : decode cL_law 283 = .ok (.iconst 1, 1) := by decide +kernel
theorem dL_law_284 : decode cL_law 284 = .ok (.iadd, 1) := by decide +kernel
theorem dL_law_285 : decode cL_law 285 = .ok (.iaload, 1) := by decide +kernel
theorem dL_law_286 : decode cL_law 286 = .ok (.invokevirtual 31, 3) := by decide +kernel
theorem dL_law_289 : decode cL_law 289 = .ok (.if_icmp .eq 798, 3) := by decide +kernel
theorem dL_law_292 : decode cL_law 292 = .ok (.iconst 0, 1) := by decide +kernel
theorem dL_law_293 : decode cL_law 293 = .ok (.ireturn, 1) := by decide +kernel
theorem dL_law_294 : decode cL_law 294 = .ok (.aload_n 1, 1) := by decide +kernel
theorem dL_law_295 : decode cL_law 295 = .ok (.aload_n 0, 1) := by decide +kernel
theorem dL_law_296 : decode cL_law 296 = .ok (.iload_n 3, 1) := by decide +kernel
theorem dL_law_297 : decode cL_law 297 = .ok (.iconst 1, 1) := by decide +kernel
theorem dL_law_298 : decode cL_law 298 = .ok (.iadd, 1) := by decide +kernel
theorem dL_law_299 : decode cL_law 299 = .ok (.iaload, 1) := by decide +kernel
theorem dL_law_300 : decode cL_law 300 = .ok (.aload_n 0, 1) := by decide +kernel
theorem dL_law_301 : decode cL_law 301 = .ok (.iload_n 3, 1) := by decide +kernel
theorem dL_law_302 : decode cL_law 302 = .ok (.iconst 2, 1) := by decide +kernel
theorem dL_law_303 : decode cL_law 303 = .ok (.iadd, 1) := by decide +kernel
theorem dL_law_304 : decode cL_law 304 = .ok (.iaload, 1) := by decide +kernel
theorem dL_law_305 : decode cL_law 305 = .ok (.invokevirtual 32, 3) := by decide +kernel
theorem dL_law_308 : decode cL_law 308 = .ok (.aload_n 2, 1) := by decide +kernel
theorem dL_law_309 : decode cL_law 309 = .ok (.aload_n 0, 1) := by decide +kernel
theorem dL_law_310 : decode cL_law 310 = .ok (.iload_n 3, 1) := by decide +kernel
theorem dL_law_311 : decode cL_law 311 = .ok (.iconst 1, 1) := by decide +kernel
theorem dL_law_312 : decode cL_law 312 = .ok (.iadd, 1) := by decide +kernel
theorem dL_law_313 : decode cL_law 313 = .ok (.iaload, 1) := by decide +kernel
theorem dL_law_314 : decode cL_law 314 = .ok (.aload_n 0, 1) := by decide +kernel
theorem dL_law_315 : decode cL_law 315 = .ok (.iload_n 3, 1) := by decide +kernel
theorem dL_law_316 : decode cL_law 316 = .ok (.iconst 2, 1) := by decide +kernel
theorem dL_law_317 : decode cL_law 317 = .ok (.iadd, 1) := by decide +kernel
theorem dL_law_318 : decode cL_law 318 = .ok (.iaload, 1) := by decide +kernel
theorem dL_law_319 : decode cL_law 319 = .ok (.invokevirtual 36, 3) := by decide +kernel
theorem dL_law_322 : decode cL_law 322 = .ok (.if_icmp .eq 765, 3) := by decide +kernel
theorem dL_law_325 : decode cL_law 325 = .ok (.iconst 0, 1) := by decide +kernel
theorem dL_law_326 : decode cL_law 326 = .ok (.ireturn, 1) := by decide +kernel
theorem dL_law_327 : decode cL_law 327 = .ok (.aload_n 1, 1) := by decide +kernel
theorem dL_law_328 : decode cL_law 328 = .ok (.aload_n 0, 1) := by decide +kernel
theorem dL_law_329 : decode cL_law 329 = .ok (.iload_n 3, 1) := by decide +kernel
theorem dL_law_330 : decode cL_law 330 = .ok (.iconst 1, 1) := by decide +kernel
theorem dL_law_331 : decode cL_law 331 = .ok (.iadd, 1) := by decide +kernel
theorem dL_law_332 : decode cL_law 332 = .ok (.iaload, 1) := by decide +kernel
theorem dL_law_333 : decode cL_law 333 = .ok (.invokevirtual 37, 3) := by decide +kernel
theorem dL_law_336 : decode cL_law 336 = .ok (.aload_n 2, 1) := by decide +kernel
theorem dL_law_337 : decode cL_law 337 = .ok (.aload_n 0, 1) := by decide +kernel
theorem dL_law_338 : decode cL_law 338 = .ok (.iload_n 3, 1) := by decide +kernel
theorem dL_law_339 : decode cL_law 339 = .ok (.iconst 1, 1) := by decide +kernel
theorem dL_law_340 : decode cL_law 340 = .ok (.iadd, 1) := by decide +kernel
theorem dL_law_341 : decode cL_law 341 = .ok (.iaload, 1) := by decide +kernel
theorem dL_law_342 : decode cL_law 342 = .ok (.invokevirtual 40, 3) := by decide +kernel
theorem dL_law_345 : decode cL_law 345 = .ok (.if_icmp .eq 742, 3) := by decide +kernel
theorem dL_law_348 : decode cL_law 348 = .ok (.iconst 0, 1) := by decide +kernel
theorem dL_law_349 : decode cL_law 349 = .ok (.ireturn, 1) := by decide +kernel
theorem dL_law_350 : decode cL_law 350 = .ok (.aload_n 1, 1) := by decide +kernel
theorem dL_law_351 : decode cL_law 351 = .ok (.aload_n 0, 1) := by decide +kernel
theorem dL_law_352 : decode cL_law 352 = .ok (.iload_n 3, 1) := by decide +kernel
theorem dL_law_353 : decode cL_law 353 = .ok (.iconst 1, 1) := by decide +kernel
theorem dL_law_354 : decode cL_law 354 = .ok (.iadd, 1) := by decide +kernel
theorem dL_law_355 : decode cL_law 355 = .ok (.iaload, 1) := by decide +kernel
theorem dL_law_356 : decode cL_law 356 = .ok (.invokevirtual 41, 3) := by decide +kernel
theorem dL_law_359 : decode cL_law 359 = .ok (.aload_n 2, 1) := by decide +kernel
theorem dL_law_360 : decode cL_law 360 = .ok (.aload_n 0, 1) := by decide +kernel
theorem dL_law_361 : decode cL_law 361 = .ok (.iload_n 3, 1) := by decide +kernel
theorem dL_law_362 : decode cL_law 362 = .ok (.iconst 1, 1) := by decide +kernel
theorem dL_law_363 : decode cL_law 363 = .ok (.iadd, 1) := by decide +kernel
theorem dL_law_364 : decode cL_law 364 = .ok (.iaload, 1) := by decide +kernel
theorem dL_law_365 : decode cL_law 365 = .ok (.invokevirtual 44, 3) := by decide +kernel
theorem dL_law_368 : decode cL_law 368 = .ok (.if_icmp .eq 719, 3) := by decide +kernel
theorem dL_law_371 : decode cL_law 371 = .ok (.iconst 0, 1) := by decide +kernel
theorem dL_law_372 : decode cL_law 372 = .ok (.ireturn, 1) := by decide +kernel
theorem dL_law_373 : decode cL_law 373 = .ok (.aload_n 1, 1) := by decide +kernel
theorem dL_law_374 : decode cL_law 374 = .ok (.aload_n 0, 1) := by decide +kernel
theorem dL_law_375 : decode cL_law 375 = .ok (.iload_n 3, 1) := by decide +kernel
theorem dL_law_376 : decode cL_law 376 = .ok (.iconst 1, 1) := by decide +kernel
theorem dL_law_377 : decode cL_law 377 = .ok (.iadd, 1) := by decide +kernel
theorem dL_law_378 : decode cL_law 378 = .ok (.iaload, 1) := by decide +kernel
theorem dL_law_379 : decode cL_law 379 = .ok (.aload_n 0, 1) := by decide +kernel
theorem dL_law_380 : decode cL_law 380 = .ok (.iload_n 3, 1) := by decide +kernel
theorem dL_law_381 : decode cL_law 381 = .ok (.iconst 2, 1) := by decide +kernel
theorem dL_law_382 : decode cL_law 382 = .ok (.iadd, 1) := by decide +kernel
theorem dL_law_383 : decode cL_law 383 = .ok (.iaload, 1) := by decide +kernel
theorem dL_law_384 : decode cL_law 384 = .ok (.aload_n 0, 1) := by decide +kernel
theorem dL_law_385 : decode cL_law 385 = .ok (.iload_n 3, 1) := by decide +kernel
theorem dL_law_386 : decode cL_law 386 = .ok (.iconst 3, 1) := by decide +kernel
theorem dL_law_387 : decode cL_law 387 = .ok (.iadd, 1) := by decide +kernel
theorem dL_law_388 : decode cL_law 388 = .ok (.iaload, 1) := by decide +kernel
theorem dL_law_389 : decode cL_law 389 = .ok (.invokevirtual 45, 3) := by decide +kernel
theorem dL_law_392 : decode cL_law 392 = .ok (.aload_n 2, 1) := by decide +kernel
theorem dL_law_393 : decode cL_law 393 = .ok (.aload_n 0, 1) := by decide +kernel
theorem dL_law_394 : decode cL_law 394 = .ok (.iload_n 3, 1) := by decide +kernel
theorem dL_law_395 : decode cL_law 395 = .ok (.iconst 1, 1) := by decide +kernel
theorem dL_law_396 : decode cL_law 396 = .ok (.iadd, 1) := by decide +kernel
theorem dL_law_397 : decode cL_law 397 = .ok (.iaload, 1) := by decide +kernel
theorem dL_law_398 : decode cL_law 398 = .ok (.aload_n 0, 1) := by decide +kernel
theorem dL_law_399 : decode cL_law 399 = .ok (.iload_n 3, 1) := by decide +kernel
theorem dL_law_400 : decode cL_law 400 = .ok (.iconst 2, 1) := by decide +kernel
theorem dL_law_401 : decode cL_law 401 = .ok (.iadd, 1) := by decide +kernel
theorem dL_law_402 : decode cL_law 402 = .ok (.iaload, 1) := by decide +kernel
theorem dL_law_403 : decode cL_law 403 = .ok (.aload_n 0, 1) := by decide +kernel
theorem dL_law_404 : decode cL_law 404 = .ok (.iload_n 3, 1) := by decide +kernel
theorem dL_law_405 : decode cL_law 405 = .ok (.iconst 3, 1) := by decide +kernel
theorem dL_law_406 : decode cL_law 406 = .ok (.iadd, 1) := by decide +kernel
theorem dL_law_407 : decode cL_law 407 = .ok (.iaload, 1) := by decide +kernel
theorem dL_law_408 : decode cL_law 408 = .ok (.invokevirtual 49, 3) := by decide +kernel
theorem dL_law_411 : decode cL_law 411 = .ok (.if_icmp .eq 676, 3) := by decide +kernel
theorem dL_law_414 : decode cL_law 414 = .ok (.iconst 0, 1) := by decide +kernel
theorem dL_law_415 : decode cL_law 415 = .ok (.ireturn, 1) := by decide +kernel
theorem dL_law_416 : decode cL_law 416 = .ok (.aload_n 1, 1) := by decide +kernel
theorem dL_law_417 : decode cL_law 417 = .ok (.aload_n 0, 1) := by decide +kernel
theorem dL_law_418 : decode cL_law 418 = .ok (.iload_n 3, 1) := by decide +kernel
theorem dL_law_419 : decode cL_law 419 = .ok (.iconst 1, 1) := by decide +kernel
theorem dL_law_420 : decode cL_law 420 = .ok (.iadd, 1) := by decide +kernel
theorem dL_law_421 : decode cL_law 421 = .ok (.iaload, 1) := by decide +kernel
theorem dL_law_422 : decode cL_law 422 = .ok (.aload_n 0, 1) := by decide +kernel
theorem dL_law_423 : decode cL_law 423 = .ok (.iload_n 3, 1) := by decide +kernel
theorem dL_law_424 : decode cL_law 424 = .ok (.iconst 2, 1) := by decide +kernel
theorem dL_law_425 : decode cL_law 425 = .ok (.iadd, 1) := by decide +kernel
theorem dL_law_426 : decode cL_law 426 = .ok (.iaload, 1) := by decide +kernel
theorem dL_law_427 : decode cL_law 427 = .ok (.aload_n 0, 1) := by decide +kernel
theorem dL_law_428 : decode cL_law 428 = .ok (.iload_n 3, 1) := by decide +kernel
theorem dL_law_429 : decode cL_law 429 = .ok (.iconst 3, 1) := by decide +kernel
theorem dL_law_430 : decode cL_law 430 = .ok (.iadd, 1) := by decide +kernel
theorem dL_law_431 : decode cL_law 431 = .ok (.iaload, 1) := by decide +kernel
theorem dL_law_432 : decode cL_law 432 = .ok (.aload_n 0, 1) := by decide +kernel
theorem dL_law_433 : decode cL_law 433 = .ok (.iload_n 3, 1) := by decide +kernel
theorem dL_law_434 : decode cL_law 434 = .ok (.iconst 4, 1) := by decide +kernel
theorem dL_law_435 : decode cL_law 435 = .ok (.iadd, 1) := by decide +kernel
theorem dL_law_436 : decode cL_law 436 = .ok (.iaload, 1) := by decide +kernel
theorem dL_law_437 : decode cL_law 437 = .ok (.invokevirtual 50, 3) := by decide +kernel
theorem dL_law_440 : decode cL_law 440 = .ok (.aload_n 2, 1) := by decide +kernel
theorem dL_law_441 : decode cL_law 441 = .ok (.aload_n 0, 1) := by decide +kernel
theorem dL_law_442 : decode cL_law 442 = .ok (.iload_n 3, 1) := by decide +kernel
theorem dL_law_443 : decode cL_law 443 = .ok (.iconst 1, 1) := by decide +kernel
theorem dL_law_444 : decode cL_law 444 = .ok (.iadd, 1) := by decide +kernel
theorem dL_law_445 : decode cL_law 445 = .ok (.iaload, 1) := by decide +kernel
theorem dL_law_446 : decode cL_law 446 = .ok (.aload_n 0, 1) := by decide +kernel
theorem dL_law_447 : decode cL_law 447 = .ok (.iload_n 3, 1) := by decide +kernel
theorem dL_law_448 : decode cL_law 448 = .ok (.iconst 2, 1) := by decide +kernel
theorem dL_law_449 : decode cL_law 449 = .ok (.iadd, 1) := by decide +kernel
theorem dL_law_450 : decode cL_law 450 = .ok (.iaload, 1) := by decide +kernel
theorem dL_law_451 : decode cL_law 451 = .ok (.aload_n 0, 1) := by decide +kernel
theorem dL_law_452 : decode cL_law 452 = .ok (.iload_n 3, 1) := by decide +kernel
theorem dL_law_453 : decode cL_law 453 = .ok (.iconst 3, 1) := by decide +kernel
theorem dL_law_454 : decode cL_law 454 = .ok (.iadd, 1) := by decide +kernel
theorem dL_law_455 : decode cL_law 455 = .ok (.iaload, 1) := by decide +kernel
theorem dL_law_456 : decode cL_law 456 = .ok (.aload_n 0, 1) := by decide +kernel
theorem dL_law_457 : decode cL_law 457 = .ok (.iload_n 3, 1) := by decide +kernel
theorem dL_law_458 : decode cL_law 458 = .ok (.iconst 4, 1) := by decide +kernel
theorem dL_law_459 : decode cL_law 459 = .ok (.iadd, 1) := by decide +kernel
theorem dL_law_460 : decode cL_law 460 = .ok (.iaload, 1) := by decide +kernel
theorem dL_law_461 : decode cL_law 461 = .ok (.invokevirtual 54, 3) := by decide +kernel
theorem dL_law_464 : decode cL_law 464 = .ok (.if_icmp .eq 623, 3) := by decide +kernel
theorem dL_law_467 : decode cL_law 467 = .ok (.iconst 0, 1) := by decide +kernel
theorem dL_law_468 : decode cL_law 468 = .ok (.ireturn, 1) := by decide +kernel
theorem dL_law_469 : decode cL_law 469 = .ok (.aload_n 1, 1) := by decide +kernel
theorem dL_law_470 : decode cL_law 470 = .ok (.aload_n 0, 1) := by decide +kernel
theorem dL_law_471 : decode cL_law 471 = .ok (.iload_n 3, 1) := by decide +kernel
theorem dL_law_472 : decode cL_law 472 = .ok (.iconst 1, 1) := by decide +kernel
theorem dL_law_473 : decode cL_law 473 = .ok (.iadd, 1) := by decide +kernel
theorem dL_law_474 : decode cL_law 474 = .ok (.iaload, 1) := by decide +kernel
theorem dL_law_475 : decode cL_law 475 = .ok (.aload_n 0, 1) := by decide +kernel
theorem dL_law_476 : decode cL_law 476 = .ok (.iload_n 3, 1) := by decide +kernel
theorem dL_law_477 : decode cL_law 477 = .ok (.iconst 2, 1) := by decide +kernel
theorem dL_law_478 : decode cL_law 478 = .ok (.iadd, 1) := by decide +kernel
theorem dL_law_479 : decode cL_law 479 = .ok (.iaload, 1) := by decide +kernel
theorem dL_law_480 : decode cL_law 480 = .ok (.aload_n 0, 1) := by decide +kernel
theorem dL_law_481 : decode cL_law 481 = .ok (.iload_n 3, 1) := by decide +kernel
theorem dL_law_482 : decode cL_law 482 = .ok (.iconst 3, 1) := by decide +kernel
theorem dL_law_483 : decode cL_law 483 = .ok (.iadd, 1) := by decide +kernel
theorem dL_law_484 : decode cL_law 484 = .ok (.iaload, 1) := by decide +kernel
theorem dL_law_485 : decode cL_law 485 = .ok (.invokevirtual 55, 3) := by decide +kernel
theorem dL_law_488 : decode cL_law 488 = .ok (.aload_n 2, 1) := by decide +kernel
theorem dL_law_489 : decode cL_law 489 = .ok (.aload_n 0, 1) := by decide +kernel
theorem dL_law_490 : decode cL_law 490 = .ok (.iload_n 3, 1) := by decide +kernel
theorem dL_law_491 : decode cL_law 491 = .ok (.iconst 1, 1) := by decide +kernel
theorem dL_law_492 : decode cL_law 492 = .ok (.iadd, 1) := by decide +kernel
theorem dL_law_493 : decode cL_law 493 = .ok (.iaload, 1) := by decide +kernel
theorem dL_law_494 : decode cL_law 494 = .ok (.aload_n 0, 1) := by decide +kernel
theorem dL_law_495 : decode cL_law 495 = .ok (.iload_n 3, 1) := by decide +kernel
theorem dL_law_496 : decode cL_law 496 = .ok (.iconst 2, 1) := by decide +kernel
theorem dL_law_497 : decode cL_law 497 = .ok (.iadd, 1) := by decide +kernel
theorem dL_law_498 : decode cL_law 498 = .ok (.iaload, 1) := by decide +kernel
theorem dL_law_499 : decode cL_law 499 = .ok (.aload_n 0, 1) := by decide +kernel
theorem dL_law_500 : decode cL_law 500 = .ok (.iload_n 3, 1) := by decide +kernel
theorem dL_law_501 : decode cL_law 501 = .ok (.iconst 3, 1) := by decide +kernel
theorem dL_law_502 : decode cL_law 502 = .ok (.iadd, 1) := by decide +kernel
theorem dL_law_503 : decode cL_law 503 = .ok (.iaload, 1) := by decide +kernel
theorem dL_law_504 : decode cL_law 504 = .ok (.invokevirtual 58, 3) := by decide +kernel
theorem dL_law_507 : decode cL_law 507 = .ok (.if_icmp .eq 580, 3) := by decide +kernel
theorem dL_law_510 : decode cL_law 510 = .ok (.iconst 0, 1) := by decide +kernel
theorem dL_law_511 : decode cL_law 511 = .ok (.ireturn, 1) := by decide +kernel
theorem dL_law_512 : decode cL_law 512 = .ok (.aload_n 1, 1) := by decide +kernel
theorem dL_law_513 : decode cL_law 513 = .ok (.aload_n 0, 1) := by decide +kernel
theorem dL_law_514 : decode cL_law 514 = .ok (.iload_n 3, 1) := by decide +kernel
theorem dL_law_515 : decode cL_law 515 = .ok (.iconst 1, 1) := by decide +kernel
theorem dL_law_516 : decode cL_law 516 = .ok (.iadd, 1) := by decide +kernel
theorem dL_law_517 : decode cL_law 517 = .ok (.iaload, 1) := by decide +kernel
theorem dL_law_518 : decode cL_law 518 = .ok (.invokevirtual 59, 3) := by decide +kernel
theorem dL_law_521 : decode cL_law 521 = .ok (.aload_n 2, 1) := by decide +kernel
theorem dL_law_522 : decode cL_law 522 = .ok (.aload_n 0, 1) := by decide +kernel
theorem dL_law_523 : decode cL_law 523 = .ok (.iload_n 3, 1) := by decide +kernel
theorem dL_law_524 : decode cL_law 524 = .ok (.iconst 1, 1) := by decide +kernel
theorem dL_law_525 : decode cL_law 525 = .ok (.iadd, 1) := by decide +kernel
theorem dL_law_526 : decode cL_law 526 = .ok (.iaload, 1) := by decide +kernel
theorem dL_law_527 : decode cL_law 527 = .ok (.invokevirtual 62, 3) := by decide +kernel
theorem dL_law_530 : decode cL_law 530 = .ok (.if_icmp .eq 557, 3) := by decide +kernel
theorem dL_law_533 : decode cL_law 533 = .ok (.iconst 0, 1) := by decide +kernel
theorem dL_law_534 : decode cL_law 534 = .ok (.ireturn, 1) := by decide +kernel
theorem dL_law_535 : decode cL_law 535 = .ok (.aload_n 1, 1) := by decide +kernel
theorem dL_law_536 : decode cL_law 536 = .ok (.aload_n 0, 1) := by decide +kernel
theorem dL_law_537 : decode cL_law 537 = .ok (.iload_n 3, 1) := by decide +kernel
theorem dL_law_538 : decode cL_law 538 = .ok (.iconst 1, 1) := by decide +kernel
theorem dL_law_539 : decode cL_law 539 = .ok (.iadd, 1) := by decide +kernel
theorem dL_law_540 : decode cL_law 540 = .ok (.iaload, 1) := by decide +kernel
theorem dL_law_541 : decode cL_law 541 = .ok (.invokevirtual 63, 3) := by decide +kernel
theorem dL_law_544 : decode cL_law 544 = .ok (.aload_n 2, 1) := by decide +kernel
theorem dL_law_545 : decode cL_law 545 = .ok (.aload_n 0, 1) := by decide +kernel
theorem dL_law_546 : decode cL_law 546 = .ok (.iload_n 3, 1) := by decide +kernel
theorem dL_law_547 : decode cL_law 547 = .ok (.iconst 1, 1) := by decide +kernel
theorem dL_law_548 : decode cL_law 548 = .ok (.iadd, 1) := by decide +kernel
theorem dL_law_549 : decode cL_law 549 = .ok (.iaload, 1) := by decide +kernel
theorem dL_law_550 : decode cL_law 550 = .ok (.invokevirtual 66, 3) := by decide +kernel
theorem dL_law_553 : decode cL_law 553 = .ok (.if_icmp .eq 534, 3) := by decide +kernel
theorem dL_law_556 : decode cL_law 556 = .ok (.iconst 0, 1) := by decide +kernel
theorem dL_law_557 : decode cL_law 557 = .ok (.ireturn, 1) := by decide +kernel
theorem dL_law_558 : decode cL_law 558 = .ok (.aload_n 1, 1) := by decide +kernel
theorem dL_law_559 : decode cL_law 559 = .ok (.aload_n 0, 1) := by decide +kernel
theorem dL_law_560 : decode cL_law 560 = .ok (.iload_n 3, 1) := by decide +kernel
theorem dL_law_561 : decode cL_law 561 = .ok (.iconst 1, 1) := by decide +kernel
theorem dL_law_562 : decode cL_law 562 = .ok (.iadd, 1) := by decide +kernel
theorem dL_law_563 : decode cL_law 563 = .ok (.iaload, 1) := by decide +kernel
theorem dL_law_564 : decode cL_law 564 = .ok (.aload_n 0, 1) := by decide +kernel
theorem dL_law_565 : decode cL_law 565 = .ok (.iload_n 3, 1) := by decide +kernel
theorem dL_law_566 : decode cL_law 566 = .ok (.iconst 2, 1) := by decide +kernel
theorem dL_law_567 : decode cL_law 567 = .ok (.iadd, 1) := by decide +kernel
theorem dL_law_568 : decode cL_law 568 = .ok (.iaload, 1) := by decide +kernel
theorem dL_law_569 : decode cL_law 569 = .ok (.invokevirtual 67, 3) := by decide +kernel
theorem dL_law_572 : decode cL_law 572 = .ok (.aload_n 2, 1) := by decide +kernel
theorem dL_law_573 : decode cL_law 573 = .ok (.aload_n 0, 1) := by decide +kernel
theorem dL_law_574 : decode cL_law 574 = .ok (.iload_n 3, 1) := by decide +kernel
theorem dL_law_575 : decode cL_law 575 = .ok (.iconst 1, 1) := by decide +kernel
theorem dL_law_576 : decode cL_law 576 = .ok (.iadd, 1) := by decide +kernel
theorem dL_law_577 : decode cL_law 577 = .ok (.iaload, 1) := by decide +kernel
theorem dL_law_578 : decode cL_law 578 = .ok (.aload_n 0, 1) := by decide +kernel
theorem dL_law_579 : decode cL_law 579 = .ok (.iload_n 3, 1) := by decide +kernel
theorem dL_law_580 : decode cL_law 580 = .ok (.iconst 2, 1) := by decide +kernel
theorem dL_law_581 : decode cL_law 581 = .ok (.iadd, 1) := by decide +kernel
theorem dL_law_582 : decode cL_law 582 = .ok (.iaload, 1) := by decide +kernel
theorem dL_law_583 : decode cL_law 583 = .ok (.invokevirtual 70, 3) := by decide +kernel
theorem dL_law_586 : decode cL_law 586 = .ok (.if_icmp .eq 501, 3) := by decide +kernel
theorem dL_law_589 : decode cL_law 589 = .ok (.iconst 0, 1) := by decide +kernel
theorem dL_law_590 : decode cL_law 590 = .ok (.ireturn, 1) := by decide +kernel
theorem dL_law_591 : decode cL_law 591 = .ok (.aload_n 1, 1) := by decide +kernel
theorem dL_law_592 : decode cL_law 592 = .ok (.aload_n 0, 1) := by decide +kernel
theorem dL_law_593 : decode cL_law 593 = .ok (.iload_n 3, 1) := by decide +kernel
theorem dL_law_594 : decode cL_law 594 = .ok (.iconst 1, 1) := by decide +kernel
theorem dL_law_595 : decode cL_law 595 = .ok (.iadd, 1) := by decide +kernel
theorem dL_law_596 : decode cL_law 596 = .ok (.iaload, 1) := by decide +kernel
theorem dL_law_597 : decode cL_law 597 = .ok (.aload_n 0, 1) := by decide +kernel
theorem dL_law_598 : decode cL_law 598 = .ok (.iload_n 3, 1) := by decide +kernel
theorem dL_law_599 : decode cL_law 599 = .ok (.iconst 2, 1) := by decide +kernel
theorem dL_law_600 : decode cL_law 600 = .ok (.iadd, 1) := by decide +kernel
theorem dL_law_601 : decode cL_law 601 = .ok (.iaload, 1) := by decide +kernel
theorem dL_law_602 : decode cL_law 602 = .ok (.invokevirtual 71, 3) := by decide +kernel
theorem dL_law_605 : decode cL_law 605 = .ok (.aload_n 2, 1) := by decide +kernel
theorem dL_law_606 : decode cL_law 606 = .ok (.aload_n 0, 1) := by decide +kernel
theorem dL_law_607 : decode cL_law 607 = .ok (.iload_n 3, 1) := by decide +kernel
theorem dL_law_608 : decode cL_law 608 = .ok (.iconst 1, 1) := by decide +kernel
theorem dL_law_609 : decode cL_law 609 = .ok (.iadd, 1) := by decide +kernel
theorem dL_law_610 : decode cL_law 610 = .ok (.iaload, 1) := by decide +kernel
theorem dL_law_611 : decode cL_law 611 = .ok (.aload_n 0, 1) := by decide +kernel
theorem dL_law_612 : decode cL_law 612 = .ok (.iload_n 3, 1) := by decide +kernel
theorem dL_law_613 : decode cL_law 613 = .ok (.iconst 2, 1) := by decide +kernel
theorem dL_law_614 : decode cL_law 614 = .ok (.iadd, 1) := by decide +kernel
theorem dL_law_615 : decode cL_law 615 = .ok (.iaload, 1) := by decide +kernel
theorem dL_law_616 : decode cL_law 616 = .ok (.invokevirtual 74, 3) := by decide +kernel
theorem dL_law_619 : decode cL_law 619 = .ok (.if_icmp .eq 468, 3) := by decide +kernel
theorem dL_law_622 : decode cL_law 622 = .ok (.iconst 0, 1) := by decide +kernel
theorem dL_law_623 : decode cL_law 623 = .ok (.ireturn, 1) := by decide +kernel
theorem dL_law_624 : decode cL_law 624 = .ok (.aload_n 1, 1) := by decide +kernel
theorem dL_law_625 : decode cL_law 625 = .ok (.aload_n 0, 1) := by decide +kernel
theorem dL_law_626 : decode cL_law 626 = .ok (.iload_n 3, 1) := by decide +kernel
theorem dL_law_627 : decode cL_law 627 = .ok (.iconst 1, 1) := by decide +kernel
theorem dL_law_628 : decode cL_law 628 = .ok (.iadd, 1) := by decide +kernel
theorem dL_law_629 : decode cL_law 629 = .ok (.iaload, 1) := by decide +kernel
theorem dL_law_630 : decode cL_law 630 = .ok (.aload_n 0, 1) := by decide +kernel
theorem dL_law_631 : decode cL_law 631 = .ok (.iload_n 3, 1) := by decide +kernel
theorem dL_law_632 : decode cL_law 632 = .ok (.iconst 2, 1) := by decide +kernel
theorem dL_law_633 : decode cL_law 633 = .ok (.iadd, 1) := by decide +kernel
theorem dL_law_634 : decode cL_law 634 = .ok (.iaload, 1) := by decide +kernel
theorem dL_law_635 : decode cL_law 635 = .ok (.invokevirtual 75, 3) := by decide +kernel
theorem dL_law_638 : decode cL_law 638 = .ok (.aload_n 2, 1) := by decide +kernel
theorem dL_law_639 : decode cL_law 639 = .ok (.aload_n 0, 1) := by decide +kernel
theorem dL_law_640 : decode cL_law 640 = .ok (.iload_n 3, 1) := by decide +kernel
theorem dL_law_641 : decode cL_law 641 = .ok (.iconst 1, 1) := by decide +kernel
theorem dL_law_642 : decode cL_law 642 = .ok (.iadd, 1) := by decide +kernel
theorem dL_law_643 : decode cL_law 643 = .ok (.iaload, 1) := by decide +kernel
theorem dL_law_644 : decode cL_law 644 = .ok (.aload_n 0, 1) := by decide +kernel
theorem dL_law_645 : decode cL_law 645 = .ok (.iload_n 3, 1) := by decide +kernel
theorem dL_law_646 : decode cL_law 646 = .ok (.iconst 2, 1) := by decide +kernel
theorem dL_law_647 : decode cL_law 647 = .ok (.iadd, 1) := by decide +kernel
theorem dL_law_648 : decode cL_law 648 = .ok (.iaload, 1) := by decide +kernel
theorem dL_law_649 : decode cL_law 649 = .ok (.invokevirtual 78, 3) := by decide +kernel
theorem dL_law_652 : decode cL_law 652 = .ok (.if_icmp .eq 435, 3) := by decide +kernel
theorem dL_law_655 : decode cL_law 655 = .ok (.iconst 0, 1) := by decide +kernel
theorem dL_law_656 : decode cL_law 656 = .ok (.ireturn, 1) := by decide +kernel
theorem dL_law_657 : decode cL_law 657 = .ok (.aload_n 1, 1) := by decide +kernel
theorem dL_law_658 : decode cL_law 658 = .ok (.aload_n 0, 1) := by decide +kernel
theorem dL_law_659 : decode cL_law 659 = .ok (.iload_n 3, 1) := by decide +kernel
theorem dL_law_660 : decode cL_law 660 = .ok (.iconst 1, 1) := by decide +kernel
theorem dL_law_661 : decode cL_law 661 = .ok (.iadd, 1) := by decide +kernel
theorem dL_law_662 : decode cL_law 662 = .ok (.iaload, 1) := by decide +kernel
theorem dL_law_663 : decode cL_law 663 = .ok (.aload_n 0, 1) := by decide +kernel
theorem dL_law_664 : decode cL_law 664 = .ok (.iload_n 3, 1) := by decide +kernel
theorem dL_law_665 : decode cL_law 665 = .ok (.iconst 2, 1) := by decide +kernel
theorem dL_law_666 : decode cL_law 666 = .ok (.iadd, 1) := by decide +kernel
theorem dL_law_667 : decode cL_law 667 = .ok (.iaload, 1) := by decide +kernel
theorem dL_law_668 : decode cL_law 668 = .ok (.invokevirtual 79, 3) := by decide +kernel
theorem dL_law_671 : decode cL_law 671 = .ok (.aload_n 2, 1) := by decide +kernel
theorem dL_law_672 : decode cL_law 672 = .ok (.aload_n 0, 1) := by decide +kernel
theorem dL_law_673 : decode cL_law 673 = .ok (.iload_n 3, 1) := by decide +kernel
theorem dL_law_674 : decode cL_law 674 = .ok (.iconst 1, 1) := by decide +kernel
theorem dL_law_675 : decode cL_law 675 = .ok (.iadd, 1) := by decide +kernel
theorem dL_law_676 : decode cL_law 676 = .ok (.iaload, 1) := by decide +kernel
theorem dL_law_677 : decode cL_law 677 = .ok (.aload_n 0, 1) := by decide +kernel
theorem dL_law_678 : decode cL_law 678 = .ok (.iload_n 3, 1) := by decide +kernel
theorem dL_law_679 : decode cL_law 679 = .ok (.iconst 2, 1) := by decide +kernel
theorem dL_law_680 : decode cL_law 680 = .ok (.iadd, 1) := by decide +kernel
theorem dL_law_681 : decode cL_law 681 = .ok (.iaload, 1) := by decide +kernel
theorem dL_law_682 : decode cL_law 682 = .ok (.invokevirtual 82, 3) := by decide +kernel
theorem dL_law_685 : decode cL_law 685 = .ok (.if_icmp .eq 402, 3) := by decide +kernel
theorem dL_law_688 : decode cL_law 688 = .ok (.iconst 0, 1) := by decide +kernel
theorem dL_law_689 : decode cL_law 689 = .ok (.ireturn, 1) := by decide +kernel
theorem dL_law_690 : decode cL_law 690 = .ok (.aload_n 1, 1) := by decide +kernel
theorem dL_law_691 : decode cL_law 691 = .ok (.aload_n 0, 1) := by decide +kernel
theorem dL_law_692 : decode cL_law 692 = .ok (.iload_n 3, 1) := by decide +kernel
theorem dL_law_693 : decode cL_law 693 = .ok (.iconst 1, 1) := by decide +kernel
theorem dL_law_694 : decode cL_law 694 = .ok (.iadd, 1) := by decide +kernel
theorem dL_law_695 : decode cL_law 695 = .ok (.iaload, 1) := by decide +kernel
theorem dL_law_696 : decode cL_law 696 = .ok (.invokevirtual 83, 3) := by decide +kernel
theorem dL_law_699 : decode cL_law 699 = .ok (.aload_n 2, 1) := by decide +kernel
theorem dL_law_700 : decode cL_law 700 = .ok (.aload_n 0, 1) := by decide +kernel
theorem dL_law_701 : decode cL_law 701 = .ok (.iload_n 3, 1) := by decide +kernel
theorem dL_law_702 : decode cL_law 702 = .ok (.iconst 1, 1) := by decide +kernel
theorem dL_law_703 : decode cL_law 703 = .ok (.iadd, 1) := by decide +kernel
theorem dL_law_704 : decode cL_law 704 = .ok (.iaload, 1) := by decide +kernel
theorem dL_law_705 : decode cL_law 705 = .ok (.invokevirtual 86, 3) := by decide +kernel
theorem dL_law_708 : decode cL_law 708 = .ok (.if_icmp .eq 379, 3) := by decide +kernel
theorem dL_law_711 : decode cL_law 711 = .ok (.iconst 0, 1) := by decide +kernel
theorem dL_law_712 : decode cL_law 712 = .ok (.ireturn, 1) := by decide +kernel
theorem dL_law_713 : decode cL_law 713 = .ok (.aload_n 1, 1) := by decide +kernel
theorem dL_law_714 : decode cL_law 714 = .ok (.aload_n 0, 1) := by decide +kernel
theorem dL_law_715 : decode cL_law 715 = .ok (.iload_n 3, 1) := by decide +kernel
theorem dL_law_716 : decode cL_law 716 = .ok (.iconst 1, 1) := by decide +kernel
theorem dL_law_717 : decode cL_law 717 = .ok (.iadd, 1) := by decide +kernel
theorem dL_law_718 : decode cL_law 718 = .ok (.iaload, 1) := by decide +kernel
theorem dL_law_719 : decode cL_law 719 = .ok (.invokevirtual 87, 3) := by decide +kernel
theorem dL_law_722 : decode cL_law 722 = .ok (.aload_n 2, 1) := by decide +kernel
theorem dL_law_723 : decode cL_law 723 = .ok (.aload_n 0, 1) := by decide +kernel
theorem dL_law_724 : decode cL_law 724 = .ok (.iload_n 3, 1) := by decide +kernel
theorem dL_law_725 : decode cL_law 725 = .ok (.iconst 1, 1) := by decide +kernel
theorem dL_law_726 : decode cL_law 726 = .ok (.iadd, 1) := by decide +kernel
theorem dL_law_727 : decode cL_law 727 = .ok (.iaload, 1) := by decide +kernel
theorem dL_law_728 : decode cL_law 728 = .ok (.invokevirtual 90, 3) := by decide +kernel
theorem dL_law_731 : decode cL_law 731 = .ok (.if_icmp .eq 356, 3) := by decide +kernel
theorem dL_law_734 : decode cL_law 734 = .ok (.iconst 0, 1) := by decide +kernel
theorem dL_law_735 : decode cL_law 735 = .ok (.ireturn, 1) := by decide +kernel
theorem dL_law_736 : decode cL_law 736 = .ok (.aload_n 1, 1) := by decide +kernel
theorem dL_law_737 : decode cL_law 737 = .ok (.aload_n 0, 1) := by decide +kernel
theorem dL_law_738 : decode cL_law 738 = .ok (.iload_n 3, 1) := by decide +kernel
theorem dL_law_739 : decode cL_law 739 = .ok (.iconst 1, 1) := by decide +kernel
theorem dL_law_740 : decode cL_law 740 = .ok (.iadd, 1) := by decide +kernel
theorem dL_law_741 : decode cL_law 741 = .ok (.iaload, 1) := by decide +kernel
theorem dL_law_742 : decode cL_law 742 = .ok (.aload_n 0, 1) := by decide +kernel
theorem dL_law_743 : decode cL_law 743 = .ok (.iload_n 3, 1) := by decide +kernel
theorem dL_law_744 : decode cL_law 744 = .ok (.iconst 2, 1) := by decide +kernel
theorem dL_law_745 : decode cL_law 745 = .ok (.iadd, 1) := by decide +kernel
theorem dL_law_746 : decode cL_law 746 = .ok (.iaload, 1) := by decide +kernel
theorem dL_law_747 : decode cL_law 747 = .ok (.invokevirtual 91, 3) := by decide +kernel
theorem dL_law_750 : decode cL_law 750 = .ok (.aload_n 2, 1) := by decide +kernel
theorem dL_law_751 : decode cL_law 751 = .ok (.aload_n 0, 1) := by decide +kernel
theorem dL_law_752 : decode cL_law 752 = .ok (.iload_n 3, 1) := by decide +kernel
theorem dL_law_753 : decode cL_law 753 = .ok (.iconst 1, 1) := by decide +kernel
theorem dL_law_754 : decode cL_law 754 = .ok (.iadd, 1) := by decide +kernel
theorem dL_law_755 : decode cL_law 755 = .ok (.iaload, 1) := by decide +kernel
theorem dL_law_756 : decode cL_law 756 = .ok (.aload_n 0, 1) := by decide +kernel
theorem dL_law_757 : decode cL_law 757 = .ok (.iload_n 3, 1) := by decide +kernel
theorem dL_law_758 : decode cL_law 758 = .ok (.iconst 2, 1) := by decide +kernel
theorem dL_law_759 : decode cL_law 759 = .ok (.iadd, 1) := by decide +kernel
theorem dL_law_760 : decode cL_law 760 = .ok (.iaload, 1) := by decide +kernel
theorem dL_law_761 : decode cL_law 761 = .ok (.invokevirtual 94, 3) := by decide +kernel
theorem dL_law_764 : decode cL_law 764 = .ok (.if_icmp .eq 323, 3) := by decide +kernel
theorem dL_law_767 : decode cL_law 767 = .ok (.iconst 0, 1) := by decide +kernel
theorem dL_law_768 : decode cL_law 768 = .ok (.ireturn, 1) := by decide +kernel
theorem dL_law_769 : decode cL_law 769 = .ok (.aload_n 1, 1) := by decide +kernel
theorem dL_law_770 : decode cL_law 770 = .ok (.aload_n 0, 1) := by decide +kernel
theorem dL_law_771 : decode cL_law 771 = .ok (.iload_n 3, 1) := by decide +kernel
theorem dL_law_772 : decode cL_law 772 = .ok (.iconst 1, 1) := by decide +kernel
theorem dL_law_773 : decode cL_law 773 = .ok (.iadd, 1) := by decide +kernel
theorem dL_law_774 : decode cL_law 774 = .ok (.iaload, 1) := by decide +kernel
theorem dL_law_775 : decode cL_law 775 = .ok (.invokevirtual 95, 3) := by decide +kernel
theorem dL_law_778 : decode cL_law 778 = .ok (.aload_n 2, 1) := by decide +kernel
theorem dL_law_779 : decode cL_law 779 = .ok (.aload_n 0, 1) := by decide +kernel
theorem dL_law_780 : decode cL_law 780 = .ok (.iload_n 3, 1) := by decide +kernel
theorem dL_law_781 : decode cL_law 781 = .ok (.iconst 1, 1) := by decide +kernel
theorem dL_law_782 : decode cL_law 782 = .ok (.iadd, 1) := by decide +kernel
theorem dL_law_783 : decode cL_law 783 = .ok (.iaload, 1) := by decide +kernel
theorem dL_law_784 : decode cL_law 784 = .ok (.invokevirtual 98, 3) := by decide +kernel
theorem dL_law_787 : decode cL_law 787 = .ok (.if_icmp .eq 300, 3) := by decide +kernel
theorem dL_law_790 : decode cL_law 790 = .ok (.iconst 0, 1) := by decide +kernel
theorem dL_law_791 : decode cL_law 791 = .ok (.ireturn, 1) := by decide +kernel
theorem dL_law_792 : decode cL_law 792 = .ok (.aload_n 1, 1) := by decide +kernel
theorem dL_law_793 : decode cL_law 793 = .ok (.aload_n 0, 1) := by decide +kernel
theorem dL_law_794 : decode cL_law 794 = .ok (.iload_n 3, 1) := by decide +kernel
theorem dL_law_795 : decode cL_law 795 = .ok (.iconst 1, 1) := by decide +kernel
theorem dL_law_796 : decode cL_law 796 = .ok (.iadd, 1) := by decide +kernel
theorem dL_law_797 : decode cL_law 797 = .ok (.iaload, 1) := by decide +kernel
theorem dL_law_798 : decode cL_law 798 = .ok (.aload_n 0, 1) := by decide +kernel
theorem dL_law_799 : decode cL_law 799 = .ok (.iload_n 3, 1) := by decide +kernel
theorem dL_law_800 : decode cL_law 800 = .ok (.iconst 2, 1) := by decide +kernel
theorem dL_law_801 : decode cL_law 801 = .ok (.iadd, 1) := by decide +kernel
theorem dL_law_802 : decode cL_law 802 = .ok (.iaload, 1) := by decide +kernel
theorem dL_law_803 : decode cL_law 803 = .ok (.invokevirtual 99, 3) := by decide +kernel
theorem dL_law_806 : decode cL_law 806 = .ok (.aload_n 2, 1) := by decide +kernel
theorem dL_law_807 : decode cL_law 807 = .ok (.aload_n 0, 1) := by decide +kernel
theorem dL_law_808 : decode cL_law 808 = .ok (.iload_n 3, 1) := by decide +kernel
theorem dL_law_809 : decode cL_law 809 = .ok (.iconst 1, 1) := by decide +kernel
theorem dL_law_810 : decode cL_law 810 = .ok (.iadd, 1) := by decide +kernel
theorem dL_law_811 : decode cL_law 811 = .ok (.iaload, 1) := by decide +kernel
theorem dL_law_812 : decode cL_law 812 = .ok (.aload_n 0, 1) := by decide +kernel
theorem dL_law_813 : decode cL_law 813 = .ok (.iload_n 3, 1) := by decide +kernel
theorem dL_law_814 : decode cL_law 814 = .ok (.iconst 2, 1) := by decide +kernel
theorem dL_law_815 : decode cL_law 815 = .ok (.iadd, 1) := by decide +kernel
theorem dL_law_816 : decode cL_law 816 = .ok (.iaload, 1) := by decide +kernel
theorem dL_law_817 : decode cL_law 817 = .ok (.invokevirtual 102, 3) := by decide +kernel
theorem dL_law_820 : decode cL_law 820 = .ok (.if_icmp .eq 267, 3) := by decide +kernel
theorem dL_law_823 : decode cL_law 823 = .ok (.iconst 0, 1) := by decide +kernel
theorem dL_law_824 : decode cL_law 824 = .ok (.ireturn, 1) := by decide +kernel
theorem dL_law_825 : decode cL_law 825 = .ok (.aload_n 1, 1) := by decide +kernel
theorem dL_law_826 : decode cL_law 826 = .ok (.aload_n 0, 1) := by decide +kernel
theorem dL_law_827 : decode cL_law 827 = .ok (.iload_n 3, 1) := by decide +kernel
theorem dL_law_828 : decode cL_law 828 = .ok (.iconst 1, 1) := by decide +kernel
theorem dL_law_829 : decode cL_law 829 = .ok (.iadd, 1) := by decide +kernel
theorem dL_law_830 : decode cL_law 830 = .ok (.iaload, 1) := by decide +kernel
theorem dL_law_831 : decode cL_law 831 = .ok (.aload_n 0, 1) := by decide +kernel
theorem dL_law_832 : decode cL_law 832 = .ok (.iload_n 3, 1) := by decide +kernel
theorem dL_law_833 : decode cL_law 833 = .ok (.iconst 2, 1) := by decide +kernel
theorem dL_law_834 : decode cL_law 834 = .ok (.iadd, 1) := by decide +kernel
theorem dL_law_835 : decode cL_law 835 = .ok (.iaload, 1) := by decide +kernel
theorem dL_law_836 : decode cL_law 836 = .ok (.invokevirtual 103, 3) := by decide +kernel
theorem dL_law_839 : decode cL_law 839 = .ok (.aload_n 2, 1) := by decide +kernel
theorem dL_law_840 : decode cL_law 840 = .ok (.aload_n 0, 1) := by decide +kernel
theorem dL_law_841 : decode cL_law 841 = .ok (.iload_n 3, 1) := by decide +kernel
theorem dL_law_842 : decode cL_law 842 = .ok (.iconst 1, 1) := by decide +kernel
theorem dL_law_843 : decode cL_law 843 = .ok (.iadd, 1) := by decide +kernel
theorem dL_law_844 : decode cL_law 844 = .ok (.iaload, 1) := by decide +kernel
theorem dL_law_845 : decode cL_law 845 = .ok (.aload_n 0, 1) := by decide +kernel
theorem dL_law_846 : decode cL_law 846 = .ok (.iload_n 3, 1) := by decide +kernel
theorem dL_law_847 : decode cL_law 847 = .ok (.iconst 2, 1) := by decide +kernel
theorem dL_law_848 : decode cL_law 848 = .ok (.iadd, 1) := by decide +kernel
theorem dL_law_849 : decode cL_law 849 = .ok (.iaload, 1) := by decide +kernel
theorem dL_law_850 : decode cL_law 850 = .ok (.invokevirtual 106, 3) := by decide +kernel
theorem dL_law_853 : decode cL_law 853 = .ok (.if_icmp .eq 234, 3) := by decide +kernel
theorem dL_law_856 : decode cL_law 856 = .ok (.iconst 0, 1) := by decide +kernel
theorem dL_law_857 : decode cL_law 857 = .ok (.ireturn, 1) := by decide +kernel
theorem dL_law_858 : decode cL_law 858 = .ok (.aload_n 1, 1) := by decide +kernel
theorem dL_law_859 : decode cL_law 859 = .ok (.invokevirtual 107, 3) := by decide +kernel
theorem dL_law_862 : decode cL_law 862 = .ok (.aload_n 2, 1) := by decide +kernel
theorem dL_law_863 : decode cL_law 863 = .ok (.invokevirtual 110, 3) := by decide +kernel
theorem dL_law_866 : decode cL_law 866 = .ok (.if_icmp .eq 221, 3) := by decide +kernel
theorem dL_law_869 : decode cL_law 869 = .ok (.iconst 0, 1) := by decide +kernel
theorem dL_law_870 : decode cL_law 870 = .ok (.ireturn, 1) := by decide +kernel
theorem dL_law_871 : decode cL_law 871 = .ok (.aload_n 1, 1) := by decide +kernel
theorem dL_law_872 : decode cL_law 872 = .ok (.aload_n 0, 1) := by decide +kernel
theorem dL_law_873 : decode cL_law 873 = .ok (.iload_n 3, 1) := by decide +kernel
theorem dL_law_874 : decode cL_law 874 = .ok (.iconst 1, 1) := by decide +kernel
theorem dL_law_875 : decode cL_law 875 = .ok (.iadd, 1) := by decide +kernel
theorem dL_law_876 : decode cL_law 876 = .ok (.iaload, 1) := by decide +kernel
theorem dL_law_877 : decode cL_law 877 = .ok (.invokevirtual 111, 3) := by decide +kernel
theorem dL_law_880 : decode cL_law 880 = .ok (.aload_n 2, 1) := by decide +kernel
theorem dL_law_881 : decode cL_law 881 = .ok (.aload_n 0, 1) := by decide +kernel
theorem dL_law_882 : decode cL_law 882 = .ok (.iload_n 3, 1) := by decide +kernel
theorem dL_law_883 : decode cL_law 883 = .ok (.iconst 1, 1) := by decide +kernel
theorem dL_law_884 : decode cL_law 884 = .ok (.iadd, 1) := by decide +kernel
theorem dL_law_885 : decode cL_law 885 = .ok (.iaload, 1) := by decide +kernel
theorem dL_law_886 : decode cL_law 886 = .ok (.invokevirtual 114, 3) := by decide +kernel
theorem dL_law_889 : decode cL_law 889 = .ok (.if_icmp .eq 198, 3) := by decide +kernel
theorem dL_law_892 : decode cL_law 892 = .ok (.iconst 0, 1) := by decide +kernel
theorem dL_law_893 : decode cL_law 893 = .ok (.ireturn, 1) := by decide +kernel
theorem dL_law_894 : decode cL_law 894 = .ok (.aload_n 1, 1) := by decide +kernel
theorem dL_law_895 : decode cL_law 895 = .ok (.aload_n 0, 1) := by decide +kernel
theorem dL_law_896 : decode cL_law 896 = .ok (.iload_n 3, 1) := by decide +kernel
theorem dL_law_897 : decode cL_law 897 = .ok (.iconst 1, 1) := by decide +kernel
theorem dL_law_898 : decode cL_law 898 = .ok (.iadd, 1) := by decide +kernel
theorem dL_law_899 : decode cL_law 899 = .ok (.iaload, 1) := by decide +kernel
theorem dL_law_900 : decode cL_law 900 = .ok (.aload_n 0, 1) := by decide +kernel
theorem dL_law_901 : decode cL_law 901 = .ok (.iload_n 3, 1) := by decide +kernel
theorem dL_law_902 : decode cL_law 902 = .ok (.iconst 2, 1) := by decide +kernel
theorem dL_law_903 : decode cL_law 903 = .ok (.iadd, 1) := by decide +kernel
theorem dL_law_904 : decode cL_law 904 = .ok (.iaload, 1) := by decide +kernel
theorem dL_law_905 : decode cL_law 905 = .ok (.invokevirtual 115, 3) := by decide +kernel
theorem dL_law_908 : decode cL_law 908 = .ok (.aload_n 2, 1) := by decide +kernel
theorem dL_law_909 : decode cL_law 909 = .ok (.aload_n 0, 1) := by decide +kernel
theorem dL_law_910 : decode cL_law 910 = .ok (.iload_n 3, 1) := by decide +kernel
theorem dL_law_911 : decode cL_law 911 = .ok (.iconst 1, 1) := by decide +kernel
theorem dL_law_912 : decode cL_law 912 = .ok (.iadd, 1) := by decide +kernel
theorem dL_law_913 : decode cL_law 913 = .ok (.iaload, 1) := by decide +kernel
theorem dL_law_914 : decode cL_law 914 = .ok (.aload_n 0, 1) := by decide +kernel
theorem dL_law_915 : decode cL_law 915 = .ok (.iload_n 3, 1) := by decide +kernel
theorem dL_law_916 : decode cL_law 916 = .ok (.iconst 2, 1) := by decide +kernel
theorem dL_law_917 : decode cL_law 917 = .ok (.iadd, 1) := by decide +kernel
theorem dL_law_918 : decode cL_law 918 = .ok (.iaload, 1) := by decide +kernel
theorem dL_law_919 : decode cL_law 919 = .ok (.invokevirtual 118, 3) := by decide +kernel
theorem dL_law_922 : decode cL_law 922 = .ok (.if_icmp .eq 165, 3) := by decide +kernel
theorem dL_law_925 : decode cL_law 925 = .ok (.iconst 0, 1) := by decide +kernel
theorem dL_law_926 : decode cL_law 926 = .ok (.ireturn, 1) := by decide +kernel
theorem dL_law_927 : decode cL_law 927 = .ok (.aload_n 1, 1) := by decide +kernel
theorem dL_law_928 : decode cL_law 928 = .ok (.aload_n 0, 1) := by decide +kernel
theorem dL_law_929 : decode cL_law 929 = .ok (.iload_n 3, 1) := by decide +kernel
theorem dL_law_930 : decode cL_law 930 = .ok (.iconst 1, 1) := by decide +kernel
theorem dL_law_931 : decode cL_law 931 = .ok (.iadd, 1) := by decide +kernel
theorem dL_law_932 : decode cL_law 932 = .ok (.iaload, 1) := by decide +kernel
theorem dL_law_933 : decode cL_law 933 = .ok (.aload_n 0, 1) := by decide +kernel
theorem dL_law_934 : decode cL_law 934 = .ok (.iload_n 3, 1) := by decide +kernel
theorem dL_law_935 : decode cL_law 935 = .ok (.iconst 2, 1) := by decide +kernel
theorem dL_law_936 : decode cL_law 936 = .ok (.iadd, 1) := by decide +kernel
theorem dL_law_937 : decode cL_law 937 = .ok (.iaload, 1) := by decide +kernel
theorem dL_law_938 : decode cL_law 938 = .ok (.invokevirtual 119, 3) := by decide +kernel
theorem dL_law_941 : decode cL_law 941 = .ok (.aload_n 2, 1) := by decide +kernel
theorem dL_law_942 : decode cL_law 942 = .ok (.aload_n 0, 1) := by decide +kernel
theorem dL_law_943 : decode cL_law 943 = .ok (.iload_n 3, 1) := by decide +kernel
theorem dL_law_944 : decode cL_law 944 = .ok (.iconst 1, 1) := by decide +kernel
theorem dL_law_945 : decode cL_law 945 = .ok (.iadd, 1) := by decide +kernel
theorem dL_law_946 : decode cL_law 946 = .ok (.iaload, 1) := by decide +kernel
theorem dL_law_947 : decode cL_law 947 = .ok (.aload_n 0, 1) := by decide +kernel
theorem dL_law_948 : decode cL_law 948 = .ok (.iload_n 3, 1) := by decide +kernel
theorem dL_law_949 : decode cL_law 949 = .ok (.iconst 2, 1) := by decide +kernel
theorem dL_law_950 : decode cL_law 950 = .ok (.iadd, 1) := by decide +kernel
theorem dL_law_951 : decode cL_law 951 = .ok (.iaload, 1) := by decide +kernel
theorem dL_law_952 : decode cL_law 952 = .ok (.invokevirtual 123, 3) := by decide +kernel
theorem dL_law_955 : decode cL_law 955 = .ok (.lcmp, 1) := by decide +kernel
theorem dL_law_956 : decode cL_law 956 = .ok (.ifCond .eq 131, 3) := by decide +kernel
theorem dL_law_959 : decode cL_law 959 = .ok (.iconst 0, 1) := by decide +kernel
theorem dL_law_960 : decode cL_law 960 = .ok (.ireturn, 1) := by decide +kernel
theorem dL_law_961 : decode cL_law 961 = .ok (.aload_n 1, 1) := by decide +kernel
theorem dL_law_962 : decode cL_law 962 = .ok (.aload_n 0, 1) := by decide +kernel
theorem dL_law_963 : decode cL_law 963 = .ok (.iload_n 3, 1) := by decide +kernel
theorem dL_law_964 : decode cL_law 964 = .ok (.iconst 1, 1) := by decide +kernel
theorem dL_law_965 : decode cL_law 965 = .ok (.iadd, 1) := by decide +kernel
theorem dL_law_966 : decode cL_law 966 = .ok (.iaload, 1) := by decide +kernel
theorem dL_law_967 : decode cL_law 967 = .ok (.aload_n 0, 1) := by decide +kernel
theorem dL_law_968 : decode cL_law 968 = .ok (.iload_n 3, 1) := by decide +kernel
theorem dL_law_969 : decode cL_law 969 = .ok (.iconst 2, 1) := by decide +kernel
theorem dL_law_970 : decode cL_law 970 = .ok (.iadd, 1) := by decide +kernel
theorem dL_law_971 : decode cL_law 971 = .ok (.iaload, 1) := by decide +kernel
theorem dL_law_972 : decode cL_law 972 = .ok (.invokevirtual 124, 3) := by decide +kernel
theorem dL_law_975 : decode cL_law 975 = .ok (.aload_n 2, 1) := by decide +kernel
theorem dL_law_976 : decode cL_law 976 = .ok (.aload_n 0, 1) := by decide +kernel
theorem dL_law_977 : decode cL_law 977 = .ok (.iload_n 3, 1) := by decide +kernel
theorem dL_law_978 : decode cL_law 978 = .ok (.iconst 1, 1) := by decide +kernel
theorem dL_law_979 : decode cL_law 979 = .ok (.iadd, 1) := by decide +kernel
theorem dL_law_980 : decode cL_law 980 = .ok (.iaload, 1) := by decide +kernel
theorem dL_law_981 : decode cL_law 981 = .ok (.aload_n 0, 1) := by decide +kernel
theorem dL_law_982 : decode cL_law 982 = .ok (.iload_n 3, 1) := by decide +kernel
theorem dL_law_983 : decode cL_law 983 = .ok (.iconst 2, 1) := by decide +kernel
theorem dL_law_984 : decode cL_law 984 = .ok (.iadd, 1) := by decide +kernel
theorem dL_law_985 : decode cL_law 985 = .ok (.iaload, 1) := by decide +kernel
theorem dL_law_986 : decode cL_law 986 = .ok (.invokevirtual 127, 3) := by decide +kernel
theorem dL_law_989 : decode cL_law 989 = .ok (.lcmp, 1) := by decide +kernel
theorem dL_law_990 : decode cL_law 990 = .ok (.ifCond .eq 97, 3) := by decide +kernel
theorem dL_law_993 : decode cL_law 993 = .ok (.iconst 0, 1) := by decide +kernel
theorem dL_law_994 : decode cL_law 994 = .ok (.ireturn, 1) := by decide +kernel
theorem dL_law_995 : decode cL_law 995 = .ok (.aload_n 1, 1) := by decide +kernel
theorem dL_law_996 : decode cL_law 996 = .ok (.aload_n 0, 1) := by decide +kernel
theorem dL_law_997 : decode cL_law 997 = .ok (.iload_n 3, 1) := by decide +kernel
theorem dL_law_998 : decode cL_law 998 = .ok (.iconst 1, 1) := by decide +kernel
theorem dL_law_999 : decode cL_law 999 = .ok (.iadd, 1) := by decide +kernel
theorem dL_law_1000 : decode cL_law 1000 = .ok (.iaload, 1) := by decide +kernel
theorem dL_law_1001 : decode cL_law 1001 = .ok (.aload_n 0, 1) := by decide +kernel
theorem dL_law_1002 : decode cL_law 1002 = .ok (.iload_n 3, 1) := by decide +kernel
theorem dL_law_1003 : decode cL_law 1003 = .ok (.iconst 2, 1) := by decide +kernel
theorem dL_law_1004 : decode cL_law 1004 = .ok (.iadd, 1) := by decide +kernel
theorem dL_law_1005 : decode cL_law 1005 = .ok (.iaload, 1) := by decide +kernel
theorem dL_law_1006 : decode cL_law 1006 = .ok (.invokevirtual 128, 3) := by decide +kernel
theorem dL_law_1009 : decode cL_law 1009 = .ok (.aload_n 2, 1) := by decide +kernel
theorem dL_law_1010 : decode cL_law 1010 = .ok (.aload_n 0, 1) := by decide +kernel
theorem dL_law_1011 : decode cL_law 1011 = .ok (.iload_n 3, 1) := by decide +kernel
theorem dL_law_1012 : decode cL_law 1012 = .ok (.iconst 1, 1) := by decide +kernel
theorem dL_law_1013 : decode cL_law 1013 = .ok (.iadd, 1) := by decide +kernel
theorem dL_law_1014 : decode cL_law 1014 = .ok (.iaload, 1) := by decide +kernel
theorem dL_law_1015 : decode cL_law 1015 = .ok (.aload_n 0, 1) := by decide +kernel
theorem dL_law_1016 : decode cL_law 1016 = .ok (.iload_n 3, 1) := by decide +kernel
theorem dL_law_1017 : decode cL_law 1017 = .ok (.iconst 2, 1) := by decide +kernel
theorem dL_law_1018 : decode cL_law 1018 = .ok (.iadd, 1) := by decide +kernel
theorem dL_law_1019 : decode cL_law 1019 = .ok (.iaload, 1) := by decide +kernel
theorem dL_law_1020 : decode cL_law 1020 = .ok (.invokevirtual 131, 3) := by decide +kernel
theorem dL_law_1023 : decode cL_law 1023 = .ok (.if_icmp .eq 64, 3) := by decide +kernel
theorem dL_law_1026 : decode cL_law 1026 = .ok (.iconst 0, 1) := by decide +kernel
theorem dL_law_1027 : decode cL_law 1027 = .ok (.ireturn, 1) := by decide +kernel
theorem dL_law_1028 : decode cL_law 1028 = .ok (.aload_n 1, 1) := by decide +kernel
theorem dL_law_1029 : decode cL_law 1029 = .ok (.invokevirtual 132, 3) := by decide +kernel
theorem dL_law_1032 : decode cL_law 1032 = .ok (.aload_n 2, 1) := by decide +kernel
theorem dL_law_1033 : decode cL_law 1033 = .ok (.invokevirtual 135, 3) := by decide +kernel
theorem dL_law_1036 : decode cL_law 1036 = .ok (.if_icmp .eq 51, 3) := by decide +kernel
theorem dL_law_1039 : decode cL_law 1039 = .ok (.iconst 0, 1) := by decide +kernel
theorem dL_law_1040 : decode cL_law 1040 = .ok (.ireturn, 1) := by decide +kernel
theorem dL_law_1041 : decode cL_law 1041 = .ok (.aload_n 1, 1) := by decide +kernel
theorem dL_law_1042 : decode cL_law 1042 = .ok (.aload_n 0, 1) := by decide +kernel
theorem dL_law_1043 : decode cL_law 1043 = .ok (.iload_n 3, 1) := by decide +kernel
theorem dL_law_1044 : decode cL_law 1044 = .ok (.iconst 1, 1) := by decide +kernel
theorem dL_law_1045 : decode cL_law 1045 = .ok (.iadd, 1) := by decide +kernel
theorem dL_law_1046 : decode cL_law 1046 = .ok (.iaload, 1) := by decide +kernel
theorem dL_law_1047 : decode cL_law 1047 = .ok (.invokevirtual 136, 3) := by decide +kernel
theorem dL_law_1050 : decode cL_law 1050 = .ok (.aload_n 2, 1) := by decide +kernel
theorem dL_law_1051 : decode cL_law 1051 = .ok (.aload_n 0, 1) := by decide +kernel
theorem dL_law_1052 : decode cL_law 1052 = .ok (.iload_n 3, 1) := by decide +kernel
theorem dL_law_1053 : decode cL_law 1053 = .ok (.iconst 1, 1) := by decide +kernel
theorem dL_law_1054 : decode cL_law 1054 = .ok (.iadd, 1) := by decide +kernel
theorem dL_law_1055 : decode cL_law 1055 = .ok (.iaload, 1) := by decide +kernel
theorem dL_law_1056 : decode cL_law 1056 = .ok (.invokevirtual 140, 3) := by decide +kernel
theorem dL_law_1059 : decode cL_law 1059 = .ok (.if_icmp .eq 28, 3) := by decide +kernel
theorem dL_law_1062 : decode cL_law 1062 = .ok (.iconst 0, 1) := by decide +kernel
theorem dL_law_1063 : decode cL_law 1063 = .ok (.ireturn, 1) := by decide +kernel
theorem dL_law_1064 : decode cL_law 1064 = .ok (.aload_n 1, 1) := by decide +kernel
theorem dL_law_1065 : decode cL_law 1065 = .ok (.aload_n 0, 1) := by decide +kernel
theorem dL_law_1066 : decode cL_law 1066 = .ok (.iload_n 3, 1) := by decide +kernel
theorem dL_law_1067 : decode cL_law 1067 = .ok (.iconst 1, 1) := by decide +kernel
theorem dL_law_1068 : decode cL_law 1068 = .ok (.iadd, 1) := by decide +kernel
theorem dL_law_1069 : decode cL_law 1069 = .ok (.iaload, 1) := by decide +kernel
theorem dL_law_1070 : decode cL_law 1070 = .ok (.invokevirtual 141, 3) := by decide +kernel
theorem dL_law_1073 : decode cL_law 1073 = .ok (.aload_n 2, 1) := by decide +kernel
theorem dL_law_1074 : decode cL_law 1074 = .ok (.aload_n 0, 1) := by decide +kernel
theorem dL_law_1075 : decode cL_law 1075 = .ok (.iload_n 3, 1) := by decide +kernel
theorem dL_law_1076 : decode cL_law 1076 = .ok (.iconst 1, 1) := by decide +kernel
theorem dL_law_1077 : decode cL_law 1077 = .ok (.iadd, 1) := by decide +kernel
theorem dL_law_1078 : decode cL_law 1078 = .ok (.iaload, 1) := by decide +kernel
theorem dL_law_1079 : decode cL_law 1079 = .ok (.invokevirtual 144, 3) := by decide +kernel
theorem dL_law_1082 : decode cL_law 1082 = .ok (.if_icmp .eq 5, 3) := by decide +kernel
theorem dL_law_1085 : decode cL_law 1085 = .ok (.iconst 0, 1) := by decide +kernel
theorem dL_law_1086 : decode cL_law 1086 = .ok (.ireturn, 1) := by decide +kernel
theorem dL_law_1087 : decode cL_law 1087 = .ok (.iinc 3 6, 3) := by decide +kernel
theorem dL_law_1090 : decode cL_law 1090 = .ok (.goto (-1072), 3) := by decide +kernel
theorem dL_law_1093 : decode cL_law 1093 = .ok (.iconst 1, 1) := by decide +kernel
theorem dL_law_1094 : decode cL_law 1094 = .ok (.ireturn, 1) := by decide +kernel
