/-! PURE: the start: the reference. -/
variable {stf : Nat → Nat} {N K b m : Nat} {β : sB} {δ : sD} {H : xH}
def CM0 : Nat → xE := fun i => match i with
  | 1 => aI 10 (fun _ => 0)
  | 2 => aI 10 (fun _ => 0)
  | 3 => aI 24 (fun _ => 0)
  | 4 => aI 24 (fun _ => 0)
  | 5 => aI 24 (fun _ => 0)
  | 6 => aI 24 (fun _ => 0)
  | 7 => aI 80 (fun _ => 0)
  | 8 => aI 80 (fun _ => 0)
  | 9 => aI 80 (fun _ => 0)
  | 10 => aI 80 (fun _ => 0)
  | 11 => aI 24 (fun _ => 0)
  | 12 => aI 24 (fun _ => 0)
  | 13 => aI 24 (fun _ => 0)
  | 14 => aI 24 (fun _ => 0)
  | 15 => aI 1400 (fun _ => 0)
  | 16 => aI 1400 (fun _ => 0)
  | 17 => aI 1400 (fun _ => 0)
  | 18 => aJ 5 (fun _ => 0)
  | 19 => aJ 6 (fun _ => 0)
  | 20 => aB 1200 (fun _ => 0)
  | 21 => aB 1200 (fun _ => 0)
  | 22 => aI 5 (fun _ => 0)
  | 23 => aB 59049 (fun _ => 0)
  | 24 => aB 708588 (fun _ => 0)
  | 25 => aZ 64 (fun _ => 0)
  | 26 => aI 5 (fun _ => 0)
  | 27 => aI 59049 (fun _ => 0)
  | 28 => aI 24 (fun _ => 0)
  | 29 => aI 6 (fun _ => 0)
  | 30 => aI 6 (fun _ => 0)
  | 31 => aI 64 (fun _ => 0)
  | 32 => aZ 15625 (fun _ => 0)
  | 33 => aI 6 (fun _ => 0)
  | 34 => aI 45 (fun _ => 0)
  | _ => aI 160 (fun _ => 0)
def v0 : Nat → Int32 := fun i => if i = 35 then -1 else 0
def ml (f : Nat → Value) : List Value := (List.range 64).map f
theorem ml_set {f : Nat → Value} {j : Nat} {x : Value} : (ml f).set j x = ml (fun i => if i = j then x else f i) := by
  unfold ml
  apply List.ext_getElem
  · simp
  · intro i h1 h2
    simp only [List.getElem_set, List.getElem_map, List.getElem_range]
    by_cases q : j = i
    · rw [if_pos q, if_pos q.symm]
    · rw [if_neg q, if_neg (fun w => q w.symm)]
theorem bl.obj {ci a k s : Nat} {C : Nat → xE} {fs : List Value} {H0 : xH} (h : bl ci a C fs H0 H k s) : H.1 a = some (ob ci fs) := h.1
theorem mst1 {α γ : Type} {o : Option α} {Y : α} {f : α → Option γ} {R : Option γ} (h2 : o = some Y) (h3 : f Y = R) : o.bind f = R := by
  rw [h2, Option.bind_some]
  exact h3
theorem mst2 {α ε γ : Type} {o : Option α} {X : α} {p : α → Option ε} {Y : ε} {f : ε → Option γ} {R : Option γ} (h1 : o = some X) (h2 : p X = some Y) (h3 : f Y = R) : (o.bind fun Z => (p Z).bind f) = R := by
  rw [h1, Option.bind_some, h2, Option.bind_some]
  exact h3
theorem mst3 {α : Type} {o : Option α} : (o.bind fun x => some x) = o := by cases o <;> rfl
theorem ml_len {f : Nat → Value} : (ml f).length = 64 := by simp [ml]
theorem bl.s64 {ci a k s z j : Nat} {C : Nat → xE} {f : Nat → Value} {H0 : xH} (h : bl ci a C (ml f) H0 H k s) (hk : 1 ≤ k) (hj : j < 64) : ∃ H2, xpA (xnw H (C k) z) (some a) ci j (some H.2.1) = some H2 ∧ bl ci a C (ml (fun i => if i = j then va_rf (some (a + k)) else f i)) H0 H2 (k + 1) (s + z) := by
  obtain ⟨H2, e, n⟩ := h.st (z := z) hk (by rw [ml_len]; exact hj)
  rw [ml_set] at n
  exact ⟨H2, e, n⟩
theorem bl.i64 {ci a k s j : Nat} {C : Nat → xE} {f : Nat → Value} {H0 : xH} (h : bl ci a C (ml f) H0 H k s) {x : Int32} (hk : 1 ≤ k) (hj : j < 64) : ∃ H2, xpI H (some a) ci j x = some H2 ∧ bl ci a C (ml (fun i => if i = j then .int x else f i)) H0 H2 k s := by
  obtain ⟨H2, e, n⟩ := h.int (x := x) hk (by rw [ml_len]; exact hj)
  rw [ml_set] at n
  exact ⟨H2, e, n⟩
def fz : Nat → Value := fun i => if i < 6 ∨ (23 ≤ i ∧ i ≤ 28) ∨ (31 ≤ i ∧ i ≤ 35) ∨ (38 ≤ i ∧ i ≤ 41) ∨ i = 46 ∨ i = 47 ∨ i = 49 ∨ i = 51 ∨ i = 58 ∨ i = 59 ∨ i = 60 ∨ i = 62 then .int 0 else .null
theorem fz_e : xdf_12 = ml fz := rfl
theorem mfs_e {a : Nat} : mfs a v0 = ml (fun i => if i = 63 then va_rf (some (a + 35)) else if i = 61 then va_rf (some (a + 34)) else if i = 57 then va_rf (some (a + 33)) else if i = 56 then va_rf (some (a + 32)) else if i = 55 then va_rf (some (a + 31)) else if i = 54 then va_rf (some (a + 30)) else if i = 53 then va_rf (some (a + 29)) else if i = 52 then va_rf (some (a + 28)) else if i = 50 then va_rf (some (a + 27)) else if i = 48 then va_rf (some (a + 26)) else if i = 45 then va_rf (some (a + 25)) else if i = 44 then va_rf (some (a + 24)) else if i = 43 then va_rf (some (a + 23)) else if i = 42 then va_rf (some (a + 22)) else if i = 37 then va_rf (some (a + 21)) else if i = 36 then va_rf (some (a + 20)) else if i = 35 then .int (-1) else if i = 30 then va_rf (some (a + 19)) else if i = 29 then va_rf (some (a + 18)) else if i = 22 then va_rf (some (a + 17)) else if i = 21 then va_rf (some (a + 16)) else if i = 20 then va_rf (some (a + 15)) else if i = 19 then va_rf (some (a + 14)) else if i = 18 then va_rf (some (a + 13)) else if i = 17 then va_rf (some (a + 12)) else if i = 16 then va_rf (some (a + 11)) else if i = 15 then va_rf (some (a + 10)) else if i = 14 then va_rf (some (a + 9)) else if i = 13 then va_rf (some (a + 8)) else if i = 12 then va_rf (some (a + 7)) else if i = 11 then va_rf (some (a + 6)) else if i = 10 then va_rf (some (a + 5)) else if i = 9 then va_rf (some (a + 4)) else if i = 8 then va_rf (some (a + 3)) else if i = 7 then va_rf (some (a + 2)) else if i = 6 then va_rf (some (a + 1)) else fz i) := by
  show mfs a v0 = ((List.range 64).map _)
  rw [show List.range 64 = [0,1,2,3,4,5,6,7,8,9,10,11,12,13,14,15,16,17,18,19,20,21,22,23,24,25,26,27,28,29,30,31,32,33,34,35,36,37,38,39,40,41,42,43,44,45,46,47,48,49,50,51,52,53,54,55,56,57,58,59,60,61,62,63] from rfl]
  simp only [List.map_cons, List.map_nil]
  rfl
set_option maxHeartbeats 1600000 in
theorem M_new (hw : hW H) : ∃ H1, F_X12_init N (some H.2.1) (xnw H (ob 11 xdf_12) 64) = F_X12_makes N (some H.2.1) H1 ∧ bl 11 H.2.1 CM0 (mfs H.2.1 v0) H H1 36 (64 + 10 + 10 + 24 + 24 + 24 + 24 + 80 + 80 + 80 + 80 + 24 + 24 + 24 + 24 + 1400 + 1400 + 1400 + 5 + 6 + 1200 + 1200 + 5 + 59049 + 708588 + 64 + 5 + 59049 + 24 + 6 + 6 + 64 + 15625 + 6 + 45 + 160) := by
  have n1 : bl 11 H.2.1 CM0 (ml fz) H (xnw H (ob 11 xdf_12) 64) 1 64 := by rw [fz_e]; exact bl.new hw
  unfold F_X12_init
  generalize xnw H (ob 11 xdf_12) 64 = H1 at *
  obtain ⟨H2, e2, n2⟩ := bl.s64 (k := 1) n1 (z := 10) (j := 6) (by decide) (by decide)
  have a1 : xnI .int H1 (10 : Int32) = some (xnw H1 (CM0 1) 10) := xnI_n (H := H1) (k := 10) (by decide)
  obtain ⟨H3, e3, n3⟩ := bl.s64 (k := 2) n2 (z := 10) (j := 7) (by decide) (by decide)
  have a2 : xnI .int H2 (10 : Int32) = some (xnw H2 (CM0 2) 10) := xnI_n (H := H2) (k := 10) (by decide)
  obtain ⟨H4, e4, n4⟩ := bl.s64 (k := 3) n3 (z := 24) (j := 8) (by decide) (by decide)
  have a3 : xnI .int H3 (24 : Int32) = some (xnw H3 (CM0 3) 24) := xnI_n (H := H3) (k := 24) (by decide)
  obtain ⟨H5, e5, n5⟩ := bl.s64 (k := 4) n4 (z := 24) (j := 9) (by decide) (by decide)
  have a4 : xnI .int H4 (24 : Int32) = some (xnw H4 (CM0 4) 24) := xnI_n (H := H4) (k := 24) (by decide)
  obtain ⟨H6, e6, n6⟩ := bl.s64 (k := 5) n5 (z := 24) (j := 10) (by decide) (by decide)
  have a5 : xnI .int H5 (24 : Int32) = some (xnw H5 (CM0 5) 24) := xnI_n (H := H5) (k := 24) (by decide)
  obtain ⟨H7, e7, n7⟩ := bl.s64 (k := 6) n6 (z := 24) (j := 11) (by decide) (by decide)
  have a6 : xnI .int H6 (24 : Int32) = some (xnw H6 (CM0 6) 24) := xnI_n (H := H6) (k := 24) (by decide)
  obtain ⟨H8, e8, n8⟩ := bl.s64 (k := 7) n7 (z := 80) (j := 12) (by decide) (by decide)
  have a7 : xnI .int H7 (80 : Int32) = some (xnw H7 (CM0 7) 80) := xnI_n (H := H7) (k := 80) (by decide)
  obtain ⟨H9, e9, n9⟩ := bl.s64 (k := 8) n8 (z := 80) (j := 13) (by decide) (by decide)
  have a8 : xnI .int H8 (80 : Int32) = some (xnw H8 (CM0 8) 80) := xnI_n (H := H8) (k := 80) (by decide)
  obtain ⟨H10, e10, n10⟩ := bl.s64 (k := 9) n9 (z := 80) (j := 14) (by decide) (by decide)
  have a9 : xnI .int H9 (80 : Int32) = some (xnw H9 (CM0 9) 80) := xnI_n (H := H9) (k := 80) (by decide)
  obtain ⟨H11, e11, n11⟩ := bl.s64 (k := 10) n10 (z := 80) (j := 15) (by decide) (by decide)
  have a10 : xnI .int H10 (80 : Int32) = some (xnw H10 (CM0 10) 80) := xnI_n (H := H10) (k := 80) (by decide)
  obtain ⟨H12, e12, n12⟩ := bl.s64 (k := 11) n11 (z := 24) (j := 16) (by decide) (by decide)
  have a11 : xnI .int H11 (24 : Int32) = some (xnw H11 (CM0 11) 24) := xnI_n (H := H11) (k := 24) (by decide)
  obtain ⟨H13, e13, n13⟩ := bl.s64 (k := 12) n12 (z := 24) (j := 17) (by decide) (by decide)
  have a12 : xnI .int H12 (24 : Int32) = some (xnw H12 (CM0 12) 24) := xnI_n (H := H12) (k := 24) (by decide)
  obtain ⟨H14, e14, n14⟩ := bl.s64 (k := 13) n13 (z := 24) (j := 18) (by decide) (by decide)
  have a13 : xnI .int H13 (24 : Int32) = some (xnw H13 (CM0 13) 24) := xnI_n (H := H13) (k := 24) (by decide)
  obtain ⟨H15, e15, n15⟩ := bl.s64 (k := 14) n14 (z := 24) (j := 19) (by decide) (by decide)
  have a14 : xnI .int H14 (24 : Int32) = some (xnw H14 (CM0 14) 24) := xnI_n (H := H14) (k := 24) (by decide)
  obtain ⟨H16, e16, n16⟩ := bl.s64 (k := 15) n15 (z := 1400) (j := 20) (by decide) (by decide)
  have a15 : xnI .int H15 (1400 : Int32) = some (xnw H15 (CM0 15) 1400) := xnI_n (H := H15) (k := 1400) (by decide)
  obtain ⟨H17, e17, n17⟩ := bl.s64 (k := 16) n16 (z := 1400) (j := 21) (by decide) (by decide)
  have a16 : xnI .int H16 (1400 : Int32) = some (xnw H16 (CM0 16) 1400) := xnI_n (H := H16) (k := 1400) (by decide)
  obtain ⟨H18, e18, n18⟩ := bl.s64 (k := 17) n17 (z := 1400) (j := 22) (by decide) (by decide)
  have a17 : xnI .int H17 (1400 : Int32) = some (xnw H17 (CM0 17) 1400) := xnI_n (H := H17) (k := 1400) (by decide)
  obtain ⟨H19, e19, n19⟩ := bl.s64 (k := 18) n18 (z := 5) (j := 29) (by decide) (by decide)
  have a18 : xnJ H18 (5 : Int32) = some (xnw H18 (CM0 18) 5) := xnJ_n (H := H18) (k := 5) (by decide)
  obtain ⟨H20, e20, n20⟩ := bl.s64 (k := 19) n19 (z := 6) (j := 30) (by decide) (by decide)
  have a19 : xnJ H19 (6 : Int32) = some (xnw H19 (CM0 19) 6) := xnJ_n (H := H19) (k := 6) (by decide)
  obtain ⟨H21, e21, n21⟩ := bl.i64 n20 (j := 35) (x := -1) (by decide) (by decide)
  obtain ⟨H22, e22, n22⟩ := bl.s64 (k := 20) n21 (z := 1200) (j := 36) (by decide) (by decide)
  have a21 : xnI .byte H21 (1200 : Int32) = some (xnw H21 (CM0 20) 1200) := xnI_n (H := H21) (k := 1200) (by decide)
  obtain ⟨H23, e23, n23⟩ := bl.s64 (k := 21) n22 (z := 1200) (j := 37) (by decide) (by decide)
  have a22 : xnI .byte H22 (1200 : Int32) = some (xnw H22 (CM0 21) 1200) := xnI_n (H := H22) (k := 1200) (by decide)
  obtain ⟨H24, e24, n24⟩ := bl.s64 (k := 22) n23 (z := 5) (j := 42) (by decide) (by decide)
  have a23 : xnI .int H23 (5 : Int32) = some (xnw H23 (CM0 22) 5) := xnI_n (H := H23) (k := 5) (by decide)
  obtain ⟨H25, e25, n25⟩ := bl.s64 (k := 23) n24 (z := 59049) (j := 43) (by decide) (by decide)
  have a24 : xnI .byte H24 (59049 : Int32) = some (xnw H24 (CM0 23) 59049) := xnI_n (H := H24) (k := 59049) (by decide)
  obtain ⟨H26, e26, n26⟩ := bl.s64 (k := 24) n25 (z := 708588) (j := 44) (by decide) (by decide)
  have a25 : xnI .byte H25 (708588 : Int32) = some (xnw H25 (CM0 24) 708588) := xnI_n (H := H25) (k := 708588) (by decide)
  obtain ⟨H27, e27, n27⟩ := bl.s64 (k := 25) n26 (z := 64) (j := 45) (by decide) (by decide)
  have a26 : xnI .boolean H26 (64 : Int32) = some (xnw H26 (CM0 25) 64) := xnI_n (H := H26) (k := 64) (by decide)
  obtain ⟨H28, e28, n28⟩ := bl.s64 (k := 26) n27 (z := 5) (j := 48) (by decide) (by decide)
  have a27 : xnI .int H27 (5 : Int32) = some (xnw H27 (CM0 26) 5) := xnI_n (H := H27) (k := 5) (by decide)
  obtain ⟨H29, e29, n29⟩ := bl.s64 (k := 27) n28 (z := 59049) (j := 50) (by decide) (by decide)
  have a28 : xnI .int H28 (59049 : Int32) = some (xnw H28 (CM0 27) 59049) := xnI_n (H := H28) (k := 59049) (by decide)
  obtain ⟨H30, e30, n30⟩ := bl.s64 (k := 28) n29 (z := 24) (j := 52) (by decide) (by decide)
  have a29 : xnI .int H29 (24 : Int32) = some (xnw H29 (CM0 28) 24) := xnI_n (H := H29) (k := 24) (by decide)
  obtain ⟨H31, e31, n31⟩ := bl.s64 (k := 29) n30 (z := 6) (j := 53) (by decide) (by decide)
  have a30 : xnI .int H30 (6 : Int32) = some (xnw H30 (CM0 29) 6) := xnI_n (H := H30) (k := 6) (by decide)
  obtain ⟨H32, e32, n32⟩ := bl.s64 (k := 30) n31 (z := 6) (j := 54) (by decide) (by decide)
  have a31 : xnI .int H31 (6 : Int32) = some (xnw H31 (CM0 30) 6) := xnI_n (H := H31) (k := 6) (by decide)
  obtain ⟨H33, e33, n33⟩ := bl.s64 (k := 31) n32 (z := 64) (j := 55) (by decide) (by decide)
  have a32 : xnI .int H32 (64 : Int32) = some (xnw H32 (CM0 31) 64) := xnI_n (H := H32) (k := 64) (by decide)
  obtain ⟨H34, e34, n34⟩ := bl.s64 (k := 32) n33 (z := 15625) (j := 56) (by decide) (by decide)
  have a33 : xnI .boolean H33 (15625 : Int32) = some (xnw H33 (CM0 32) 15625) := xnI_n (H := H33) (k := 15625) (by decide)
  obtain ⟨H35, e35, n35⟩ := bl.s64 (k := 33) n34 (z := 6) (j := 57) (by decide) (by decide)
  have a34 : xnI .int H34 (6 : Int32) = some (xnw H34 (CM0 33) 6) := xnI_n (H := H34) (k := 6) (by decide)
  obtain ⟨H36, e36, n36⟩ := bl.s64 (k := 34) n35 (z := 45) (j := 61) (by decide) (by decide)
  have a35 : xnI .int H35 (45 : Int32) = some (xnw H35 (CM0 34) 45) := xnI_n (H := H35) (k := 45) (by decide)
  obtain ⟨H37, e37, n37⟩ := bl.s64 (k := 35) n36 (z := 160) (j := 63) (by decide) (by decide)
  have a36 : xnI .int H36 (160 : Int32) = some (xnw H36 (CM0 35) 160) := xnI_n (H := H36) (k := 160) (by decide)
  have nF : bl 11 H.2.1 CM0 (mfs H.2.1 v0) H H37 36 (64 + 10 + 10 + 24 + 24 + 24 + 24 + 80 + 80 + 80 + 80 + 24 + 24 + 24 + 24 + 1400 + 1400 + 1400 + 5 + 6 + 1200 + 1200 + 5 + 59049 + 708588 + 64 + 5 + 59049 + 24 + 6 + 6 + 64 + 15625 + 6 + 45 + 160) := by
    rw [show mfs H.2.1 v0 = ml _ from mfs_e]
    exact n37
  refine ⟨H37, ?_, nF⟩
  refine mst1 (show some H.2.1 = some H.2.1 from rfl) ?_
  refine mst2 a1 e2 ?_
  refine mst2 a2 e3 ?_
  refine mst2 a3 e4 ?_
  refine mst2 a4 e5 ?_
  refine mst2 a5 e6 ?_
  refine mst2 a6 e7 ?_
  refine mst2 a7 e8 ?_
  refine mst2 a8 e9 ?_
  refine mst2 a9 e10 ?_
  refine mst2 a10 e11 ?_
  refine mst2 a11 e12 ?_
  refine mst2 a12 e13 ?_
  refine mst2 a13 e14 ?_
  refine mst2 a14 e15 ?_
  refine mst2 a15 e16 ?_
  refine mst2 a16 e17 ?_
  refine mst2 a17 e18 ?_
  refine mst2 a18 e19 ?_
  refine mst2 a19 e20 ?_
  refine mst1 e21 ?_
  refine mst2 a21 e22 ?_
  refine mst2 a22 e23 ?_
  refine mst2 a23 e24 ?_
  refine mst2 a24 e25 ?_
  refine mst2 a25 e26 ?_
  refine mst2 a26 e27 ?_
  refine mst2 a27 e28 ?_
  refine mst2 a28 e29 ?_
  refine mst2 a29 e30 ?_
  refine mst2 a30 e31 ?_
  refine mst2 a31 e32 ?_
  refine mst2 a32 e33 ?_
  refine mst2 a33 e34 ?_
  refine mst2 a34 e35 ?_
  refine mst2 a35 e36 ?_
  refine mst2 a36 e37 ?_
  refine mst1 (obx nF.obj) ?_
  exact mst3
theorem M_start (hN : 59049 < N) (hw : hW H) : ∃ (H' : xH) (v : Nat → Int32), F_X12_init N (some H.2.1) (xnw H (ob 11 xdf_12) 64) = some H' ∧ mR H.2.1 v (bet tS0) d0 H' ∧ (∀ q, q < H.2.1 → H'.1 q = H.1 q) ∧ H'.2.1 = H.2.1 + 36 ∧ H'.2.2.1 = H.2.2.1 + 849903 ∧ H'.2.2.2 = H.2.2.2 ∧ hW H' := by
  obtain ⟨H1, e1, h1, h2, h3, h4, h5, h6, h7⟩ := M_new (N := N) hw
  generalize hm : H.2.1 = m at *
  have q : ∀ i, 1 ≤ i → i < 36 → H1.1 (m + i) = some (CM0 i) := h7
  have hG : aG m (fun _ _ => 0) H1 := fun a a1 a2 => by
    rw [q a a1 (by omega)]
    have : a = 1 ∨ a = 2 ∨ a = 3 ∨ a = 4 ∨ a = 5 ∨ a = 6 ∨ a = 7 ∨ a = 8 ∨ a = 9 ∨ a = 10 ∨ a = 11 ∨ a = 12 ∨ a = 13 ∨ a = 14 := by omega
    rcases this with rfl | rfl | rfl | rfl | rfl | rfl | rfl | rfl | rfl | rfl | rfl | rfl | rfl | rfl <;> rfl
  have hB : gB m v0 (fun _ _ => 0) ((fun _ => 0), (fun _ => 0), fun _ => 0) H1 := ⟨h1, hG, q 15 (by decide) (by decide), q 16 (by decide) (by decide), q 17 (by decide) (by decide)⟩
  have hD : yD tS0 ((fun _ => 0), (fun _ => 0), fun _ => 0) (fun _ _ => 0) := ⟨fun j hj => absurd hj (Nat.not_lt_zero _), fun j hj => absurd hj (Nat.not_lt_zero _), fun j hj => absurd hj (Nat.not_lt_zero _)⟩
  obtain ⟨H', g22, g23, g24, g25, e2, k0, kF, k22, k23, k24, k25, k23', k24'⟩ := M_makes (N := N) hN hB hD yOk0 rfl rfl rfl (Nat.zero_le _) (Nat.zero_le _) (Nat.zero_le _) (q 22 (by decide) (by decide)) (q 23 (by decide) (by decide)) (q 24 (by decide) (by decide)) (q 25 (by decide) (by decide))
  have k : ∀ i, 1 ≤ i → i < 36 → ¬ (22 ≤ i ∧ i ≤ 25) → H'.1 (m + i) = some (CM0 i) := fun i i1 i2 i3 => (kF.2 _ (by unfold sB4; omega)).trans (q i i1 i2)
  have hw' : hW H' := h5.fr kF (fun a ha => by
    unfold sB4 at ha
    rcases ha with rfl | ha
    · exact ⟨_, h1⟩
    · have := q (a - m) (by omega) (by omega)
      rw [show m + (a - m) = a by omega] at this
      exact ⟨_, this⟩)
  refine ⟨H', upd v0 41 (nI (9 ^ yT tS0)), e1.trans e2, ⟨⟨k0, ⟨rfl, rfl, rfl, rfl, rfl, rfl⟩, ⟨0, by decide, rfl, fun j _ => by simp [d0, l0, newL, dL, lC]⟩, ⟨_, k 26 (by decide) (by decide) (by decide), fun j _ hj => absurd rfl hj⟩, ⟨g23, k23, k23'⟩, ⟨g24, k24, k24'⟩, ⟨_, k 5 (by decide) (by decide) (by decide), fun j hj => absurd hj (Nat.not_lt_zero _)⟩, ⟨_, k 6 (by decide) (by decide) (by decide), fun j hj => absurd hj (Nat.not_lt_zero _)⟩⟩, ⟨rfl, rfl, rfl, rfl, rfl⟩, ⟨_, k 1 (by decide) (by decide) (by decide), fun j hj => absurd hj (Nat.not_lt_zero _)⟩, ⟨_, k 2 (by decide) (by decide) (by decide), fun j hj => absurd hj (Nat.not_lt_zero _)⟩, ⟨_, _, _, k 12 (by decide) (by decide) (by decide), k 13 (by decide) (by decide) (by decide), k 14 (by decide) (by decide) (by decide), fun j hj => absurd hj (Nat.not_lt_zero _)⟩, ⟨_, k 20 (by decide) (by decide) (by decide), fun j hj => absurd hj (Nat.not_lt_zero _)⟩, ⟨_, k 28 (by decide) (by decide) (by decide), fun j hj => ?_⟩, ⟨_, k 29 (by decide) (by decide) (by decide), fun j hj => rfl⟩, ⟨_, k 34 (by decide) (by decide) (by decide), fun j hj => rfl⟩, ⟨_, k 35 (by decide) (by decide) (by decide), fun j hj => absurd hj (Nat.not_lt_zero _)⟩, fun a ha => ?_, fun a a1 a2 => ?_, fun a a1 a2 => ?_, ⟨_, k 18 (by decide) (by decide) (by decide)⟩, ⟨_, k 19 (by decide) (by decide) (by decide)⟩, ⟨_, k 21 (by decide) (by decide) (by decide)⟩, ⟨_, k22⟩, ⟨_, k25⟩, ⟨_, k 27 (by decide) (by decide) (by decide)⟩, ⟨_, k 30 (by decide) (by decide) (by decide)⟩, ⟨_, k 31 (by decide) (by decide) (by decide), rfl⟩, ⟨_, k 32 (by decide) (by decide) (by decide)⟩, ⟨_, k 33 (by decide) (by decide) (by decide)⟩⟩, fun a ha => (kF.2 a (by unfold sB4; omega)).trans (h6 a ha), by rw [kF.1]; exact h2, by rw [kF.1]; exact h3, by rw [kF.1]; exact h4, hw'⟩
  · show (0 : Int32) = nH tS0 (fun _ => 0) j
    unfold nH
    rw [if_neg (by show ¬ j < 2 * 0; omega)]
  · rcases ha with rfl | rfl | rfl
    · exact ⟨_, k 3 (by decide) (by decide) (by decide)⟩
    · exact ⟨_, k 4 (by decide) (by decide) (by decide)⟩
    · exact ⟨_, k 11 (by decide) (by decide) (by decide)⟩
  · have : a = 7 ∨ a = 8 ∨ a = 9 ∨ a = 10 := by omega
    rcases this with rfl | rfl | rfl | rfl
    · exact ⟨_, k 7 (by decide) (by decide) (by decide)⟩
    · exact ⟨_, k 8 (by decide) (by decide) (by decide)⟩
    · exact ⟨_, k 9 (by decide) (by decide) (by decide)⟩
    · exact ⟨_, k 10 (by decide) (by decide) (by decide)⟩
  · have : a = 15 ∨ a = 16 ∨ a = 17 := by omega
    rcases this with rfl | rfl | rfl
    · exact ⟨_, k 15 (by decide) (by decide) (by decide)⟩
    · exact ⟨_, k 16 (by decide) (by decide) (by decide)⟩
    · exact ⟨_, k 17 (by decide) (by decide) (by decide)⟩
/-- THE PURE STATEMENT -/
theorem law_pure : LawPure := fun b stf L xs hst hL => by
  have hN : 59049 < 100000 := by decide
  obtain ⟨H1, e1, t1, w1, s1, f1, o1⟩ := C_start (N := 100000) hN hst
  obtain ⟨H2, v, e2, m2, o2, t2, s2, f2, w2⟩ := M_start (N := 100000) hN w1
  rw [t1] at e2 m2 o2 t2
  have hB : bOk (bet tS0) := ⟨Nat.zero_le _, Nat.zero_le _, Nat.zero_le _, fun k _ hk => hk.1, fun w k => outc_lt _ _, fun w hw => absurd hw (Nat.not_lt_zero _)⟩
  have hd : dOk 0 (bet tS0) d0 := dYes_ok (δ := (l0, 0, (fun _ => l0), (fun _ => 0), 0, (fun _ => 0), -1, 0)) (Nat.zero_le _) yOk0
  have hF : Fr (fun q => b + 53 ≤ q ∧ q < b + 53 + 36) H1 (H2.1, H1.2) := ⟨rfl, fun q hq => by
    by_cases z : q < b + 53
    · exact o2 q z
    · have y1 : H1.1 q = none := by
        cases e : H1.1 q with
        | none => rfl
        | some x => have := w1 q x e; omega
      have y2 : H2.1 q = none := by
        cases e : H2.1 q with
        | none => rfl
        | some x => have := w2 q x e; omega
      show H2.1 q = H1.1 q
      rw [y1, y2]⟩
  obtain ⟨c1, c2, c3, c4, c5, c6, c7, c8, c9, c10, c11, c12, ⟨c13, -, c14⟩, r1, r2, -, -⟩ := o1.fr hF
  have hR : Rel stf 0 b (b + 53) (bet tS0) d0 H2 := ⟨⟨⟨_, _, _, _, _, _, _, _, c1, c2, c3, c4, c5, c6, c7, c8, c9, c10, c11, c12, ⟨c13, f2.trans f1, c14⟩, r1, r2, by show H2.2.1 + 0 ≤ b + 300 + 40 * 0; omega, by show H2.2.2.1 + 5 * 0 ≤ 1500000 + 500 * 0 + 4 * 1 + 2 * 0; omega⟩, hB, hd, w2, by omega⟩, v, m2, hB, hd⟩
  obtain ⟨Hf, r, r1, r2⟩ := law_all (N := 100000) (xs := xs) hN hL 100000 0 (by omega) _ _ H2 (by omega) hR
  refine ⟨100000, Hf, ?_, r1, r2⟩
  unfold F_L_law
  simp only [x_ltS, xnoE]
  rw [show (xH0 b stf).2.1 = b from rfl, e1, Option.bind_some, t1, e2, Option.bind_some]
  exact r
