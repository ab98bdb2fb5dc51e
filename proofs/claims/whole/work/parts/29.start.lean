/-! THE LAW'S BODY out of one pure statement, LawPure -/
def xlet : Nat → Int64 := fun k => match k with
  | 0 => 21243335
  | 1 => 215533
  | 2 => 22499628
  | 3 => 441878706
  | 4 => 67155
  | 5 => 86292723
  | 6 => 302
  | 7 => 2228
  | 8 => 655
  | 9 => 663604
  | 10 => 15558
  | 11 => 150636933
  | 12 => 498
  | 13 => 1476
  | 14 => 14836
  | 15 => 3650739
  | 16 => 89
  | 17 => 72564293
  | _ => 12748404
def xh0 (stf : Nat → Nat) : Nat → Option xE := fun a =>
  if a = stf 19 then some (false, .inl (.object "BettingBook$Word", 19, .inr (.inr (.inr (.inr (fun j => if j < 19 then some (stf j) else none))))))
  else match (List.range 19).find? (fun i => decide (a = stf i)) with
    | some i => some (false, .inr (99, [.long (xlet i)]))
    | none => none
def xH0 (q0 : Nat) (stf : Nat → Nat) : xH := (xh0 stf, q0, 0, stf)
/-- the addresses of Word's statics: different ones, all older than q0 -/
def xSt (q0 : Nat) (stf : Nat → Nat) : Prop := (∀ i j, i < 20 → j < 20 → stf i = stf j → i = j) ∧ ∀ i, i < 20 → stf i < q0
/-- THE PURE STATEMENT: the law's function answers 1, within the room -/
def LawPure : Prop := ∀ (q0 : Nat) (stf : Nat → Nat) (L : Nat) (xs : Nat → Int32), xSt q0 stf → L ≤ 3072 → ∃ (N : Nat) (Hf : xH), F_L_law N L xs (xH0 q0 stf) = some (1, Hf) ∧ Hf.2.1 - q0 ≤ 600000 ∧ Hf.2.2.1 ≤ 7302250
theorem tbm {w : Cond} (i : Nat) (h : tables_1[i]? = some w) : w ∈ lw_tbl := List.mem_append_right _ (List.mem_of_getElem? h)
theorem st_cls {s : State} {args : Array Value} (hts : ∀ w ∈ lw_tbl, w.before args s = true) : ∀ k : Nat, ∃ (d : ClassId × (Nat → Nat)), ∀ q : vw_C, vwCl[k]? = some q → u_Kn s q.1 q.2.1 q.2.2 d.1 d.2 := by
  intro k
  match k with
  | 0 =>
    obtain ⟨c, i, h⟩ := u_known (C := RX0) (T := TX0) (N := 7) (n := 7) hts inX0 (hts (.instantiable RX0 7) (tbm 570 (by decide +kernel)))
    exact ⟨(c, i), fun q hq => by cases hq; exact h⟩
  | 1 =>
    obtain ⟨c, i, h⟩ := u_known (C := RX1) (T := TX1) (N := 5) (n := 5) hts inX1 (hts (.instantiable RX1 5) (tbm 530 (by decide +kernel)))
    exact ⟨(c, i), fun q hq => by cases hq; exact h⟩
  | 2 =>
    obtain ⟨c, i, h⟩ := u_known (C := RX2) (T := TX2) (N := 13) (n := 13) hts inX2 (hts (.instantiable RX2 13) (tbm 51 (by decide +kernel)))
    exact ⟨(c, i), fun q hq => by cases hq; exact h⟩
  | 3 =>
    obtain ⟨c, i, h⟩ := u_known (C := RX3) (T := TX3) (N := 1) (n := 1) hts inX3 (hts (.instantiable RX3 1) (tbm 193 (by decide +kernel)))
    exact ⟨(c, i), fun q hq => by cases hq; exact h⟩
  | 4 =>
    obtain ⟨c, i, h⟩ := u_known (C := RX4) (T := TX4) (N := 5) (n := 5) hts inX4 (hts (.instantiable RX4 5) (tbm 156 (by decide +kernel)))
    exact ⟨(c, i), fun q hq => by cases hq; exact h⟩
  | 5 =>
    obtain ⟨c, i, h⟩ := u_known (C := RX5) (T := TX5) (N := 1) (n := 1) hts inX5 (hts (.instantiable RX5 1) (tbm 183 (by decide +kernel)))
    exact ⟨(c, i), fun q hq => by cases hq; exact h⟩
  | 6 =>
    obtain ⟨c, i, h⟩ := u_known (C := RX6) (T := TX6) (N := 9) (n := 9) hts inX6 (hts (.instantiable RX6 9) (tbm 114 (by decide +kernel)))
    exact ⟨(c, i), fun q hq => by cases hq; exact h⟩
  | 7 =>
    obtain ⟨c, i, h⟩ := u_known (C := RX7) (T := TX7) (N := 2) (n := 2) hts inX7 (hts (.instantiable RX7 2) (tbm 393 (by decide +kernel)))
    exact ⟨(c, i), fun q hq => by cases hq; exact h⟩
  | 8 =>
    obtain ⟨c, i, h⟩ := u_known (C := RX8) (T := TX8) (N := 4) (n := 4) hts inX8 (hts (.instantiable RX8 4) (tbm 29 (by decide +kernel)))
    exact ⟨(c, i), fun q hq => by cases hq; exact h⟩
  | 9 =>
    obtain ⟨c, i, h⟩ := u_known (C := RX9) (T := TX9) (N := 7) (n := 7) hts inX9 (hts (.instantiable RX9 7) (tbm 203 (by decide +kernel)))
    exact ⟨(c, i), fun q hq => by cases hq; exact h⟩
  | 10 =>
    obtain ⟨c, i, h⟩ := u_known (C := RX11) (T := TX11) (N := 15) (n := 15) hts inX11 (hts (.instantiable RX11 15) (tbm 21 (by decide +kernel)))
    exact ⟨(c, i), fun q hq => by cases hq; exact h⟩
  | 11 =>
    obtain ⟨c, i, h⟩ := u_known (C := RX12) (T := TX12) (N := 64) (n := 64) hts inX12 (hts (.instantiable RX12 64) (tbm 981 (by decide +kernel)))
    exact ⟨(c, i), fun q hq => by cases hq; exact h⟩
  | n + 12 => exact ⟨((0 : Nat), fun _ => 0), fun q hq => by simp at hq⟩
theorem st_arr {s : State} {args : Array Value} {ty : FieldType} (h : (Cond.arrayClass ty).before args s = true) (hra : ∀ cA : ClassId, s.vm.findClass ("[" ++ ty.toString) = some cA → va_RA s cA ty) : ∃ cA : ClassId, ArrOfT s cA ty ∧ va_RA s cA ty := by
  obtain ⟨cA, kA, comp, h1, h2, h3⟩ := Cond.arrayClass_spec h
  exact ⟨cA, fun n z => ⟨fun k h => (by cases h), kA, h2, comp, h3⟩, hra cA h1⟩
theorem st_arq {s : State} {C : String} (h : va_AO C s) : ∃ cA : ClassId, ArrOfT s cA (.object C) ∧ va_RA s cA (.object C) := by
  obtain ⟨comp, c, k, h1, h2, h3, h4, h5⟩ := Cond.arrayOver_spec (va_AO.use (A := #[]) h)
  exact ⟨c, fun n z => ⟨fun k h => (by cases h), k, h3, comp, h4⟩, k, comp, h3, h4, h1, h5⟩
theorem st_da {s : State} {args : Array Value} (hts : ∀ w ∈ lw_tbl, w.before args s = true) : ∃ da : FieldType → ClassId, ∀ (k : Nat) (q : ClassId × FieldType), (xtys da)[k]? = some q → ArrOfT s q.1 q.2 ∧ va_RA s q.1 q.2 := by
  obtain ⟨c1, hc1⟩ := st_arr (ty := .int) (hts (.arrayClass .int) (tbm 48 (by decide +kernel))) (fun _ h => h)
  obtain ⟨c2, hc2⟩ := st_arr (ty := .long) (hts (.arrayClass .long) (tbm 49 (by decide +kernel))) (fun _ h => h)
  obtain ⟨c3, hc3⟩ := st_arr (ty := .byte) (hts (.arrayClass .byte) (tbm 47 (by decide +kernel))) (fun _ h => h)
  obtain ⟨c4, hc4⟩ := st_arr (ty := .boolean) (hts (.arrayClass .boolean) (tbm 1215 (by decide +kernel))) (fun _ h => h)
  obtain ⟨c5, hc5⟩ := st_arq (C := "BettingBook$Bet") (va_AO.of (hts (.arrayOver (.object "BettingBook$Bet")) (tbm 57 (by decide +kernel))))
  obtain ⟨c6, hc6⟩ := st_arq (C := "BettingBook$Ledger") (va_AO.of (hts (.arrayOver (.object "BettingBook$Ledger")) (tbm 181 (by decide +kernel))))
  refine ⟨fun ty => if ty = .int then c1 else if ty = .long then c2 else if ty = .byte then c3 else if ty = .boolean then c4 else if ty = .object "BettingBook$Bet" then c5 else c6, fun k q hq => ?_⟩
  match k with
  | 0 => cases hq; exact hc1
  | 1 => cases hq; exact hc2
  | 2 => cases hq; exact hc3
  | 3 => cases hq; exact hc4
  | 4 => cases hq; exact hc5
  | 5 => cases hq; exact hc6
  | n + 6 => simp [xtys] at hq
theorem st_nk {s : State} {args : Array Value} (hts : ∀ w ∈ lw_tbl, w.before args s = true) : xNk s := fun w hw => by
  have hi := (List.mem_filter.mp hw).2
  have hn := hts w (List.mem_append_right _ (List.mem_filter.mp hw).1)
  revert hn hi
  cases w <;> intro hi hn <;> first | exact va_Nw.of rfl hn | cases hi
theorem st_ev {s : State} {b : Nat} (hs : ∀ c ∈ flatC (Jvm.Cond.and given_1 narrow_1), c.before #[Value.ref b] s = true) : ∀ i : Nat, ∃ a : Nat, i < 20 → (Term.static "BettingBook$Word" (xsn i).1 (xsn i).2).eval #[Value.ref b] s none [] s = some (.ref a) := by
  intro i
  match i with

  | 0 =>
    obtain ⟨a, c, cell, k, q1, q2, q3, q4, q5, q6, -⟩ := Cond.exactly_spec (hs (.exactly (.static "BettingBook$Word" "THING" "LBettingBook$Word;") "BettingBook$Word") (List.mem_of_getElem? (i := 4) (by decide +kernel)))
    exact ⟨a, fun _ => q1⟩
  | 1 =>
    obtain ⟨a, c, cell, k, q1, q2, q3, q4, q5, q6, -⟩ := Cond.exactly_spec (hs (.exactly (.static "BettingBook$Word" "FROM" "LBettingBook$Word;") "BettingBook$Word") (List.mem_of_getElem? (i := 31) (by decide +kernel)))
    exact ⟨a, fun _ => q1⟩
  | 2 =>
    obtain ⟨a, c, cell, k, q1, q2, q3, q4, q5, q6, -⟩ := Cond.exactly_spec (hs (.exactly (.static "BettingBook$Word" "UNTIL" "LBettingBook$Word;") "BettingBook$Word") (List.mem_of_getElem? (i := 35) (by decide +kernel)))
    exact ⟨a, fun _ => q1⟩
  | 3 =>
    obtain ⟨a, c, cell, k, q1, q2, q3, q4, q5, q6, -⟩ := Cond.exactly_spec (hs (.exactly (.static "BettingBook$Word" "MEMBER" "LBettingBook$Word;") "BettingBook$Word") (List.mem_of_getElem? (i := 40) (by decide +kernel)))
    exact ⟨a, fun _ => q1⟩
  | 4 =>
    obtain ⟨a, c, cell, k, q1, q2, q3, q4, q5, q6, -⟩ := Cond.exactly_spec (hs (.exactly (.static "BettingBook$Word" "BARS" "LBettingBook$Word;") "BettingBook$Word") (List.mem_of_getElem? (i := 46) (by decide +kernel)))
    exact ⟨a, fun _ => q1⟩
  | 5 =>
    obtain ⟨a, c, cell, k, q1, q2, q3, q4, q5, q6, -⟩ := Cond.exactly_spec (hs (.exactly (.static "BettingBook$Word" "BRINGS" "LBettingBook$Word;") "BettingBook$Word") (List.mem_of_getElem? (i := 61) (by decide +kernel)))
    exact ⟨a, fun _ => q1⟩
  | 6 =>
    obtain ⟨a, c, cell, k, q1, q2, q3, q4, q5, q6, -⟩ := Cond.exactly_spec (hs (.exactly (.static "BettingBook$Word" "IN" "LBettingBook$Word;") "BettingBook$Word") (List.mem_of_getElem? (i := 53) (by decide +kernel)))
    exact ⟨a, fun _ => q1⟩
  | 7 =>
    obtain ⟨a, c, cell, k, q1, q2, q3, q4, q5, q6, -⟩ := Cond.exactly_spec (hs (.exactly (.static "BettingBook$Word" "BET" "LBettingBook$Word;") "BettingBook$Word") (List.mem_of_getElem? (i := 70) (by decide +kernel)))
    exact ⟨a, fun _ => q1⟩
  | 8 =>
    obtain ⟨a, c, cell, k, q1, q2, q3, q4, q5, q6, -⟩ := Cond.exactly_spec (hs (.exactly (.static "BettingBook$Word" "TO" "LBettingBook$Word;") "BettingBook$Word") (List.mem_of_getElem? (i := 80) (by decide +kernel)))
    exact ⟨a, fun _ => q1⟩
  | 9 =>
    obtain ⟨a, c, cell, k, q1, q2, q3, q4, q5, q6, -⟩ := Cond.exactly_spec (hs (.exactly (.static "BettingBook$Word" "THAT" "LBettingBook$Word;") "BettingBook$Word") (List.mem_of_getElem? (i := 91) (by decide +kernel)))
    exact ⟨a, fun _ => q1⟩
  | 10 =>
    obtain ⟨a, c, cell, k, q1, q2, q3, q4, q5, q6, -⟩ := Cond.exactly_spec (hs (.exactly (.static "BettingBook$Word" "OFF" "LBettingBook$Word;") "BettingBook$Word") (List.mem_of_getElem? (i := 215) (by decide +kernel)))
    exact ⟨a, fun _ => q1⟩
  | 11 =>
    obtain ⟨a, c, cell, k, q1, q2, q3, q4, q5, q6, -⟩ := Cond.exactly_spec (hs (.exactly (.static "BettingBook$Word" "DOUBLE" "LBettingBook$Word;") "BettingBook$Word") (List.mem_of_getElem? (i := 235) (by decide +kernel)))
    exact ⟨a, fun _ => q1⟩
  | 12 =>
    obtain ⟨a, c, cell, k, q1, q2, q3, q4, q5, q6, -⟩ := Cond.exactly_spec (hs (.exactly (.static "BettingBook$Word" "OR" "LBettingBook$Word;") "BettingBook$Word") (List.mem_of_getElem? (i := 103) (by decide +kernel)))
    exact ⟨a, fun _ => q1⟩
  | 13 =>
    obtain ⟨a, c, cell, k, q1, q2, q3, q4, q5, q6, -⟩ := Cond.exactly_spec (hs (.exactly (.static "BettingBook$Word" "AND" "LBettingBook$Word;") "BettingBook$Word") (List.mem_of_getElem? (i := 196) (by decide +kernel)))
    exact ⟨a, fun _ => q1⟩
  | 14 =>
    obtain ⟨a, c, cell, k, q1, q2, q3, q4, q5, q6, -⟩ := Cond.exactly_spec (hs (.exactly (.static "BettingBook$Word" "NOT" "LBettingBook$Word;") "BettingBook$Word") (List.mem_of_getElem? (i := 116) (by decide +kernel)))
    exact ⟨a, fun _ => q1⟩
  | 15 =>
    obtain ⟨a, c, cell, k, q1, q2, q3, q4, q5, q6, -⟩ := Cond.exactly_spec (hs (.exactly (.static "BettingBook$Word" "COMES" "LBettingBook$Word;") "BettingBook$Word") (List.mem_of_getElem? (i := 161) (by decide +kernel)))
    exact ⟨a, fun _ => q1⟩
  | 16 =>
    obtain ⟨a, c, cell, k, q1, q2, q3, q4, q5, q6, -⟩ := Cond.exactly_spec (hs (.exactly (.static "BettingBook$Word" "BY" "LBettingBook$Word;") "BettingBook$Word") (List.mem_of_getElem? (i := 145) (by decide +kernel)))
    exact ⟨a, fun _ => q1⟩
  | 17 =>
    obtain ⟨a, c, cell, k, q1, q2, q3, q4, q5, q6, -⟩ := Cond.exactly_spec (hs (.exactly (.static "BettingBook$Word" "BEFORE" "LBettingBook$Word;") "BettingBook$Word") (List.mem_of_getElem? (i := 178) (by decide +kernel)))
    exact ⟨a, fun _ => q1⟩
  | 18 =>
    obtain ⟨a, c, cell, k, q1, q2, q3, q4, q5, q6, -⟩ := Cond.exactly_spec (hs (.exactly (.static "BettingBook$Word" "LEAST" "LBettingBook$Word;") "BettingBook$Word") (List.mem_of_getElem? (i := 130) (by decide +kernel)))
    exact ⟨a, fun _ => q1⟩
  | 19 =>
    obtain ⟨a, c, cell, k, q1, q2, q3, q4, q5, q6, -⟩ := Cond.exactly_spec (hs (.exactly (.static "BettingBook$Word" "ALL" "[LBettingBook$Word;") "[LBettingBook$Word;") (List.mem_of_getElem? (i := 8) (by decide +kernel)))
    exact ⟨a, fun _ => q1⟩
  | n + 20 => exact ⟨0, fun h => absurd h (by omega)⟩
def xps : List (List Nat) := [[], [34], [38, 39], [43, 44, 45], [49, 50, 51, 52], [64, 65, 66, 67, 68], [56, 57, 58, 59, 60, 69], [73, 74, 75, 76, 77, 79, 78], [83, 84, 85, 86, 87, 89, 88, 90], [94, 95, 96, 97, 98, 100, 99, 101, 102], [218, 219, 220, 221, 222, 224, 223, 225, 226, 227], [238, 239, 240, 241, 242, 244, 243, 245, 246, 247, 255], [106, 107, 108, 109, 110, 112, 111, 113, 114, 115, 228, 248], [199, 200, 201, 202, 203, 205, 204, 206, 207, 208, 234, 254, 209], [119, 120, 121, 122, 123, 125, 124, 126, 127, 128, 229, 249, 129, 210], [164, 165, 166, 167, 168, 170, 169, 171, 172, 173, 232, 252, 174, 213, 175], [148, 149, 150, 151, 152, 154, 153, 155, 156, 157, 231, 251, 158, 212, 159, 177], [181, 182, 183, 184, 185, 187, 186, 188, 189, 190, 233, 253, 191, 214, 192, 195, 194], [133, 134, 135, 136, 137, 139, 138, 140, 141, 142, 230, 250, 143, 211, 144, 176, 160, 193]]
theorem st_ne {s : State} {b : Nat} (hs : ∀ c ∈ flatC (Jvm.Cond.and given_1 narrow_1), c.before #[Value.ref b] s = true) {stf : Nat → Nat} (hev : ∀ i, i < 20 → (Term.static "BettingBook$Word" (xsn i).1 (xsn i).2).eval #[Value.ref b] s none [] s = some (.ref (stf i))) : ∀ i j, i < 19 → j < 19 → i < j → stf i ≠ stf j := by
  intro i j hi hj hij
  have key : ∀ i : Nat, i < 19 → ∀ j : Nat, j < i → (flatC (Jvm.Cond.and given_1 narrow_1))[((xps.getD i []).getD j 0)]? = some (Cond.not (.eq (.static "BettingBook$Word" (xsn j).1 (xsn j).2) (.static "BettingBook$Word" (xsn i).1 (xsn i).2))) ∨ (flatC (Jvm.Cond.and given_1 narrow_1))[((xps.getD i []).getD j 0)]? = some (Cond.not (.eq (.static "BettingBook$Word" (xsn i).1 (xsn i).2) (.static "BettingBook$Word" (xsn j).1 (xsn j).2))) := by decide +kernel
  rcases key j hj i hij with h | h
  · exact va_neR (hs _ (List.mem_of_getElem? h)) (hev i (by omega)) (hev j (by omega))
  · exact fun e => va_neR (hs _ (List.mem_of_getElem? h)) (hev j (by omega)) (hev i (by omega)) e.symm
theorem st_ne9 {s : State} {b : Nat} (hs : ∀ c ∈ flatC (Jvm.Cond.and given_1 narrow_1), c.before #[Value.ref b] s = true) {stf : Nat → Nat} (hev : ∀ i, i < 20 → (Term.static "BettingBook$Word" (xsn i).1 (xsn i).2).eval #[Value.ref b] s none [] s = some (.ref (stf i))) : ∀ i, i < 19 → stf 19 ≠ stf i := by
  intro i hi e
  have hx : (Cond.exactly (.static "BettingBook$Word" (xsn i).1 (xsn i).2) "BettingBook$Word").before #[Value.ref b] s = true := by
    have key : ∀ i : Nat, i < 19 → (Cond.exactly (.static "BettingBook$Word" (xsn i).1 (xsn i).2) "BettingBook$Word") ∈ flatC (Jvm.Cond.and given_1 narrow_1) := by decide +kernel
    exact hs _ (key i hi)
  obtain ⟨a, c, cell, k, q1, q2, q3, q4, q5, q6, -⟩ := Cond.exactly_spec hx
  obtain ⟨a', c', cell', k', p1, p2, p3, p4, p5, p6, -⟩ := Cond.exactly_spec (hs (.exactly (.static "BettingBook$Word" "ALL" "[LBettingBook$Word;") "[LBettingBook$Word;") (List.mem_of_getElem? (i := 8) (by decide +kernel)))
  have e1 := (hev i (by omega)).symm.trans q1
  have e2 := (hev 19 (by omega)).symm.trans p1
  have ha : stf i = a := by injection e1 with e1; injection e1
  have ha' : stf 19 = a' := by injection e2 with e2; injection e2
  rw [ha, ha'] at e
  subst e
  cases q3.symm.trans p3
  have hcc : c = c' := q6.symm.trans p6
  subst hcc
  obtain ⟨k1, hk1, hn1⟩ := Vm.findClass_spec q2
  obtain ⟨k2, hk2, hn2⟩ := Vm.findClass_spec p2
  cases hk1.symm.trans hk2
  have : ("BettingBook$Word" : String) = "[LBettingBook$Word;" := hn1.symm.trans hn2
  exact absurd this (by decide)
theorem st_eqr {args : Array Value} {s : State} {t u : Term} {a : Nat} (h : (Cond.eq t u).before args s = true) (hu : u.eval args s none [] s = some (.ref a)) : t.eval args s none [] s = some (.ref a) := by
  cases hv : t.eval args s none [] s with
  | none => simp [Cond.before, Cond.holds, Cond.value, hv] at h
  | some w =>
    simp only [Cond.before, Cond.holds, Cond.value, hv, hu] at h
    cases w <;> simp_all
theorem whole_open (hp : LawPure) {p : Program} {e : Env} {s : State} {m : MethodId} {below : List Frame} {meth : Method} {c : Code} (l : Launch) (hflags : l.flags = flags0) {b L : Nat} {xs : Nat → Int32} (hL : L ≤ 3072) (C0 : lw_At p s m meth c b L xs) : W p l e room_1 s m #[Value.ref b] below meth c s.heap [] 0 0 (lw_Z below #[Value.ref b] s) (entryFrame m ([Value.ref b] : List Value).toArray 4) := by
  obtain ⟨hx, hb, hr, hml, hown, hts, hX, hbl, hlocks, hgv⟩ := C0
  have hs := flat_of_before _ hgv
  have htsT : ∀ w ∈ xT, w.before #[Value.ref b] s = true := fun w hw => hts w (List.mem_filter.mp hw).1
  obtain ⟨d, hd⟩ := Classical.axiomOfChoice (st_cls hts)
  obtain ⟨da, hda⟩ := st_da hts
  obtain ⟨stf, hst⟩ := Classical.axiomOfChoice (st_ev hs)
  have hK : xK (fun k => (d k).1, fun k => (d k).2) da s := ⟨⟨fun k q hq => hd k q hq, hda⟩, va_AO.of (hts (.arrayOver (.object "BettingBook$Bet")) (tbm 57 (by decide +kernel))), va_AO.of (hts (.arrayOver (.object "BettingBook$Ledger")) (tbm 181 (by decide +kernel))), st_nk hts⟩
  have hA : ∀ a : Nat, a < s.heap.size → ¬ (fun q : Nat => s.heap.size ≤ q) a := fun a h => Nat.not_le.mpr h
  have hini : (Cond.initialized "BettingBook$Word").before #[Value.ref b] s = true := hts (.initialized "BettingBook$Word") (tbm 14 (by decide +kernel))
  have hlay : ∀ i, i < 20 → (Cond.laysStatic "BettingBook$Word" (xsn i).1 (xsn i).2).before #[Value.ref b] s = true := by
    have key : ∀ i : Nat, i < 20 → (Cond.laysStatic "BettingBook$Word" (xsn i).1 (xsn i).2) ∈ tables_1 := by decide +kernel
    exact fun i hi => hts _ (List.mem_append_right _ (key i hi))
  have hZs : ∀ i, i < 20 → va_Z "BettingBook$Word" (xsn i).1 (xsn i).2 (.ref (stf i)) (fun q => s.heap.size ≤ q) s s.heap := fun i hi => va_Zof (hlay i hi) hini (hst i hi) hA
  have hne := st_ne hs hst
  have hne9 := st_ne9 hs hst
  -- the array of all words
  obtain ⟨t, ht, hT⟩ := va_Tof (tm := .static "BettingBook$Word" "ALL" "[LBettingBook$Word;") (ty := .object "BettingBook$Word") (N := 19) (f := fun j => .ref (stf j)) (A := fun q => s.heap.size ≤ q) (s := s) (args := #[Value.ref b]) (by decide) (hs (.arrayOf (.static "BettingBook$Word" "ALL" "[LBettingBook$Word;") (.object "BettingBook$Word")) (List.mem_of_getElem? (i := 9) (by decide +kernel))) (va_eqt (hs (.eq (.length (.static "BettingBook$Word" "ALL" "[LBettingBook$Word;")) (.int 19)) (List.mem_of_getElem? (i := 10) (by decide +kernel)))) (fun j hj => by
    have key : ∀ j : Nat, j < 19 → (Cond.eq (.elem (.static "BettingBook$Word" "ALL" "[LBettingBook$Word;") (.int (Int32.ofNat j))) (.static "BettingBook$Word" (xsn j).1 (xsn j).2)) ∈ flatC (Jvm.Cond.and given_1 narrow_1) := by decide +kernel
    exact st_eqr (hs _ (key j hj)) (hst j (by omega))) hA
  have ht19 : stf 19 = t := by
    have e2 := (hst 19 (by omega)).symm.trans ht
    injection e2 with e2; injection e2
  have hO : ∀ i, i < 19 → va_OF "BettingBook$Word" "letters" "J" (.long (xlet i)) (stf i) (fun q => s.heap.size ≤ q) s s.heap := by
    intro i hi
    have key : ∀ i : Nat, i < 19 → (Cond.eq (.field (.static "BettingBook$Word" (xsn i).1 (xsn i).2) "BettingBook$Word" "letters" "J") (.long (xlet i))) ∈ flatC (Jvm.Cond.and given_1 narrow_1) := by decide +kernel
    have hv := va_eqtl (hs _ (key i hi))
    cases hfo : s.fieldFound? "BettingBook$Word" "letters" "J" with
    | none =>
      rw [va_fe (hst i (by omega))] at hv
      simp [State.fieldOf?, State.fieldNamed?, hfo] at hv
    | some x =>
      obtain ⟨cf, k, fi, f⟩ := x
      obtain ⟨g1, cell, g2, g3, -, -, g6⟩ := Term.field_spec hfo (hst i (by omega)) hv
      exact ⟨cf, k, fi, f, cell, hfo, g1, g2, g3, g6, hA _ (Array.getElem?_eq_some_iff.mp g2).1⟩
  have hlt : ∀ i, i < 20 → stf i < s.heap.size := by
    intro i hi
    rcases Nat.lt_or_ge i 19 with h | h
    · obtain ⟨_, _, _, _, cell, _, _, g, _⟩ := hO i h
      exact (Array.getElem?_eq_some_iff.mp g).1
    · have : i = 19 := by omega
      subst this
      rw [ht19]
      obtain ⟨cell, g, _⟩ := hT
      exact (Array.getElem?_eq_some_iff.mp g).1
  have hSt : xSt s.heap.size stf := by
    refine ⟨fun i j hi hj e => ?_, hlt⟩
    rcases Nat.lt_trichotomy i j with h | h | h
    · rcases Nat.lt_or_ge j 19 with q | q
      · exact absurd e (hne i j (by omega) q h)
      · have : j = 19 := by omega
        subst this
        exact absurd e.symm (hne9 i h)
    · exact h
    · rcases Nat.lt_or_ge i 19 with q | q
      · exact absurd e.symm (hne j i (by omega) q h)
      · have : i = 19 := by omega
        subst this
        exact absurd e (hne9 j h)
  have hR : xR (fun k => (d k).1, fun k => (d k).2) da s.heap.size (xH0 s.heap.size stf) s s.heap := by
    refine ⟨⟨rfl, Nat.le_refl _⟩, fun a f hf => ?_, hZs⟩
    have hf' : xh0 stf a = some f := hf
    unfold xh0 at hf'
    split at hf'
    · rename_i ha
      cases hf'
      refine ⟨rfl, _, rfl, ?_⟩
      rw [ha, ht19]
      obtain ⟨cell, g1, g2, g3, g4, g5, g6, g7⟩ := hT
      refine ⟨cell, g1, g2, g3, g4, g5, fun j hj => ?_, g7⟩
      have hj' : j < 19 := hj
      rw [g6 j hj]
      simp [hj', va_rf]
    · split at hf'
      · rename_i i hfi
        cases hf'
        have h1 := List.find?_some hfi
        have h2 := List.mem_range.mp (List.mem_of_find?_eq_some hfi)
        have h3 : a = stf i := by simpa using h1
        exact ⟨xlet i, rfl, by rw [h3]; exact hO i h2⟩
      · cases hf'
  obtain ⟨N, Hf, hF, hc1, hc2⟩ := hp s.heap.size stf L xs hSt hL
  have w := (P_L_law (b := b) (nm := meth.name) (Z := xZl meth.name 53 b L xs Hf) rfl (xH0 s.heap.size stf) hF).2 (p, l, e, room_1, s, m, #[Value.ref b], below, meth, c, lw_Z below #[Value.ref b] s, (fun k => (d k).1, fun k => (d k).2), da, s.heap.size, s.heap.size, 0)
    ⟨hx, hb, hml, hown, htsT, ⟨hlocks, rfl⟩, hK, ⟨hc1, hc2⟩, ⟨Nat.le_of_ble_eq_true rfl, Nat.le_of_ble_eq_true rfl⟩, rfl, rfl, hX, hbl, rfl, hr, rfl⟩
    s.heap [] _ hR (Nat.le_refl _) (Nat.zero_le _) va_S.rf ⟨_, lv_entry ([.ref b]) (n := 4) (Nat.le_of_ble_eq_true rfl), fun i o h => ?_⟩
  · rw [lg_entry_eq]
    have e1 : (xH0 s.heap.size stf).2.1 - s.heap.size = 0 := Nat.sub_self _
    have e2 : (xH0 s.heap.size stf).2.2.1 - 0 = 0 := rfl
    rw [e1, e2] at w
    exact w
  · match i with
    | 0 => have : (Sum.inr (Sum.inr (some b)) : xV) = o := by simpa using h
           subst this
           exact List.mem_cons_self
    | 1 => simp at h
    | 2 => simp at h
    | 3 => simp at h
    | n + 4 => simp at h
