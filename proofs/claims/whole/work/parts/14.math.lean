/-! Math: rows of the kit, turned to the light rows -/
abbrev xmax (x y : Int32) : Int32 := if x < y then y else x
abbrev xmin (x y : Int32) : Int32 := if y < x then y else x
abbrev xabs (x : Int64) : Int64 := if 0 < x then x else -x
theorem jmath_ini : Cond.initialized "java/lang/Math" ∈ xT := (xT_tb 18 (by decide +kernel) (by decide +kernel))
section XMath
variable {Z : xZ} {code : ByteArray} {y : MethodName} {nL : Nat} {H : xH} {pc : Nat} {pl : xPL} {st : List Value}
theorem jm_max1 : Cond.static Lib.Math.max.name ∈ xT := (xT_tb 758 (by decide +kernel) (by decide +kernel))
theorem jm_max2 : Cond.code Lib.Math.max.name Lib.Math.max.code 2 (some .int) ∈ xT := (xT_tb 759 (by decide +kernel) (by decide +kernel))
theorem jm_max_X11_252 : Cond.methodLink RX11 252 Lib.Math.max.name ∈ xT := (xT_tb 855 (by decide +kernel) (by decide +kernel))
theorem jm_max_X6_98 : Cond.methodLink RX6 98 Lib.Math.max.name ∈ xT := (xT_tb 757 (by decide +kernel) (by decide +kernel))
theorem jm_max_X12_402 : Cond.methodLink RX12 402 Lib.Math.max.name ∈ xT := (xT_tb 1484 (by decide +kernel) (by decide +kernel))
theorem x_mmax {idx : Nat} {a b : Int32} (hl : Cond.methodLink y.cls idx Lib.Math.max.name ∈ xT) (hZ : Z.1 = (code, y, nL)) (hδ : 1 ≤ Z.2.1) (hs : (st.map fun v => v.category).sum ≤ 8) (hd : decode code pc = .ok (.invokestatic idx, 3)) (kk : xWq Z H (pc + 3) pl (.int (xmax a b) :: st)) : xWq Z H pc pl (.int b :: .int a :: st) := by
  refine ⟨kk.1, fun X hX => ?_⟩
  have k2 := kk.2 X hX
  have k1 := kk.1
  obtain ⟨p, l, e, R, s, m, args, below, meth, c, Q, D, da, q0, n0, sl0⟩ := X
  intro Hr locs ls h1 h2 h3 h4 h5
  have w := k2 Hr locs ls h1 h2 h3 h4 h5
  obtain ⟨o1, o2, o3, o4, o5, o6, o7, o8, o9, o10⟩ := hX
  rw [hZ] at o2 o3 o4
  obtain ⟨lv, g1, -⟩ := h5
  exact va_mmax o1 o2 (by rw [o3, g1.1, hZ]) o4 (o5 _ hl) (o5 _ jm_max1) (o5 _ jmath_ini) (o5 _ jm_max2) (by omega) (by omega) (by omega) (by omega) hd w
theorem jm_min1 : Cond.static Lib.Math.min.name ∈ xT := (xT_tb 755 (by decide +kernel) (by decide +kernel))
theorem jm_min2 : Cond.code Lib.Math.min.name Lib.Math.min.code 2 (some .int) ∈ xT := (xT_tb 756 (by decide +kernel) (by decide +kernel))
theorem jm_min_X11_247 : Cond.methodLink RX11 247 Lib.Math.min.name ∈ xT := (xT_tb 854 (by decide +kernel) (by decide +kernel))
theorem jm_min_X6_130 : Cond.methodLink RX6 130 Lib.Math.min.name ∈ xT := (xT_tb 754 (by decide +kernel) (by decide +kernel))
theorem x_mmin {idx : Nat} {a b : Int32} (hl : Cond.methodLink y.cls idx Lib.Math.min.name ∈ xT) (hZ : Z.1 = (code, y, nL)) (hδ : 1 ≤ Z.2.1) (hs : (st.map fun v => v.category).sum ≤ 8) (hd : decode code pc = .ok (.invokestatic idx, 3)) (kk : xWq Z H (pc + 3) pl (.int (xmin a b) :: st)) : xWq Z H pc pl (.int b :: .int a :: st) := by
  refine ⟨kk.1, fun X hX => ?_⟩
  have k2 := kk.2 X hX
  have k1 := kk.1
  obtain ⟨p, l, e, R, s, m, args, below, meth, c, Q, D, da, q0, n0, sl0⟩ := X
  intro Hr locs ls h1 h2 h3 h4 h5
  have w := k2 Hr locs ls h1 h2 h3 h4 h5
  obtain ⟨o1, o2, o3, o4, o5, o6, o7, o8, o9, o10⟩ := hX
  rw [hZ] at o2 o3 o4
  obtain ⟨lv, g1, -⟩ := h5
  exact va_mmin o1 o2 (by rw [o3, g1.1, hZ]) o4 (o5 _ hl) (o5 _ jm_min1) (o5 _ jmath_ini) (o5 _ jm_min2) (by omega) (by omega) (by omega) (by omega) hd w
theorem jm_abs1 : Cond.static Lib.MathLoose.abs_long.x ∈ xT := (xT_tb 940 (by decide +kernel) (by decide +kernel))
theorem jm_abs2 : Cond.code Lib.MathLoose.abs_long.x Lib.MathLoose.abs_long.code 2 (some .long) ∈ xT := (xT_tb 941 (by decide +kernel) (by decide +kernel))
theorem jm_abs_X5_64 : Cond.methodLink RX5 64 Lib.MathLoose.abs_long.x ∈ xT := (xT_tb 939 (by decide +kernel) (by decide +kernel))
theorem jm_abs_X12_429 : Cond.methodLink RX12 429 Lib.MathLoose.abs_long.x ∈ xT := (xT_tb 1531 (by decide +kernel) (by decide +kernel))
theorem x_mabs {idx : Nat} {a : Int64} (hl : Cond.methodLink y.cls idx Lib.MathLoose.abs_long.x ∈ xT) (hZ : Z.1 = (code, y, nL)) (hδ : 1 ≤ Z.2.1) (hs : (st.map fun v => v.category).sum ≤ 8) (hd : decode code pc = .ok (.invokestatic idx, 3)) (kk : xWq Z H (pc + 3) pl (.long (xabs a) :: st)) : xWq Z H pc pl (.long a :: st) := by
  refine ⟨kk.1, fun X hX => ?_⟩
  have k2 := kk.2 X hX
  have k1 := kk.1
  obtain ⟨p, l, e, R, s, m, args, below, meth, c, Q, D, da, q0, n0, sl0⟩ := X
  intro Hr locs ls h1 h2 h3 h4 h5
  have w := k2 Hr locs ls h1 h2 h3 h4 h5
  obtain ⟨o1, o2, o3, o4, o5, o6, o7, o8, o9, o10⟩ := hX
  rw [hZ] at o2 o3 o4
  obtain ⟨lv, g1, -⟩ := h5
  exact va_mabs_long o1 o2 (by rw [o3, g1.1, hZ]) o4 (o5 _ hl) (o5 _ jm_abs1) (o5 _ jmath_ini) (o5 _ jm_abs2) (by omega) (by omega) (by omega) (by omega) hd w
end XMath
