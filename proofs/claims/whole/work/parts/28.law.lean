/-! THE CLAIM OUT OF ONE WALK OF THE LAW'S BODY. Your part is whole_start (and what it stands on); all else here is the same for every law, but numbers. -/
def R_law : String := "BettingBookLaw"
def lw_P (b : Addr) (xs : List Int32) (args : Array Value) (s : State) : Prop := args = #[.ref b] ∧ s.IntsAt b xs ∧ xs.length ≤ 3072 ∧ (Jvm.Cond.and given_1 narrow_1).before args s = true
def lw_Q (_ : Array Value) (s : State) (o : Outcome) (t : State) : Prop := o = .returned (some (.int 1)) ∧ Framed s o t [] 600000 7302250
def lw_Z (below : List Frame) (a : Array Value) (s : State) : State → Prop := fun t => ∃ o, t.status = .running ∧ Ended t below o ∧ lw_Q a s o t
/-- the law's own end, with 1 on the stack, nothing written that was there before, its room as the claim has it -/
theorem lw_ret {p : Program} {l : Launch} {e : Env} {s : State} {m : MethodId} {below : List Frame} {meth : Method} {c : Code} {b : Nat} (hx : p.tables.exec = Jvm.exec) (hb : c.code = code) (hr : meth.sig.returnType = ret) (hlocks : meth.locks = false) {pc : Nat} {H : Heap} {ls : Array Slot} (hdg : decode code pc = .ok (.ireturn, 1)) : W p l e room_1 s m #[Value.ref b] below meth c H [] 600000 7302250 (lw_Z below #[Value.ref b] s) (F0 m pc ls [.int 1]) := by
  intro T hT X
  obtain ⟨fs, hret, hrun, hended, hW, hframe⟩ := X.leave (v := some (.int 1)) (hlocks := hlocks) (fun h => by rw [hr] at h; cases h)
  have hmeth' : T.vm.method? m = some meth := X.method'
  refine ⟨T.setFrames fs, ?_, .returned (some (.int 1)), hrun, hended, rfl, ⟨_, rfl⟩, hW, hframe⟩
  jvm_step X.here [X.here.top, hx, hb, hdg, hmeth', hr, ret, narrow_b1]
  (try refine ⟨rfl, ?_⟩); (try refine ⟨rfl, ?_⟩)
  first | (intro acts; rw [hret _ acts rfl rfl rfl]) | rw [hret _ _ rfl rfl rfl]
  exact Steps.refl _
/-- what holds at the law's entry: the machine, the code, the tables' words (any of lw_tbl by 'hts w (by decide +kernel)'), the script of L ints xs at the cell b, what the Statement gives of the start (any of its parts by flat_of_before) -/
def lw_At (p : Program) (s : State) (m : MethodId) (meth : Method) (c : Code) (b L : Nat) (xs : Nat → Int32) : Prop :=
  p.tables.exec = Jvm.exec ∧ c.code = code ∧ meth.sig.returnType = ret ∧ c.maxLocals = 4 ∧ s.vm.findClass R_law = some m.cls ∧ (∀ w ∈ lw_tbl, w.before #[Value.ref b] s = true) ∧ va_X b L xs s s.heap ∧ b < s.heap.size ∧ meth.locks = false ∧ (Jvm.Cond.and given_1 narrow_1).before #[Value.ref b] s = true

def xlS (L : Nat) (xs : Nat → Int32) (i : Int32) : Option Int32 := if ¬ (i < 0 ∨ L ≤ i.toNatClampNeg) then some (xs i.toNatClampNeg) else none
def xKl (b L : Nat) (xs : Nat → Int32) : xX → Prop := fun X => match X with
  | (p, l, e, R, s, m, args, below, meth, c, Q, D, da, q0, n0, sl0) => R = room_1 ∧ args = #[Value.ref b] ∧ va_X b L xs s s.heap ∧ b < s.heap.size ∧ q0 = s.heap.size ∧ meth.sig.returnType = ret ∧ Q = lw_Z below #[Value.ref b] s
def xZl (nm : String) (δ b L : Nat) (xs : Nat → Int32) (Hf : xH) : xZ := ((cL_law, (⟨RL, nm, "([I)Z"⟩ : MethodName), 4), δ, Hf.2.1, Hf.2.2.1, xKl b L xs)
theorem x_l01 {H Hf : xH} (h : some ((0 : Int32), H) = some ((1 : Int32), Hf)) : False := absurd (congrArg Prod.fst (Option.some.inj h)) (show ¬ (0 : Int32) = 1 by decide)
section XLaw
variable {Z : xZ} {code' : ByteArray} {y : MethodName} {nL : Nat} {H : xH} {pc : Nat} {pl : xPL} {st : List Value}
theorem x_sald {b L : Nat} {xs : Nat → Int32} {i v : Int32} (hK : Z.2.2.2.2 = xKl b L xs) (hZ : Z.1 = (code', y, nL)) (hd : decode code' pc = .ok (.iaload, 1)) (h : xlS L xs i = some v) (kk : xWq Z H (pc + 1) pl (.int v :: st)) : xWq Z H pc pl (.int i :: va_rf (some b) :: st) := by
  unfold xlS at h
  split at h
  · rename_i hin
    cases h
    refine ⟨kk.1, fun X hX => ?_⟩
    have k2 := kk.2 X hX
    obtain ⟨p, l, e, R, s, m, args, below, meth, c, Q, D, da, q0, n0, sl0⟩ := X
    intro Hr locs ls h1 h2 h3 h4 h5
    obtain ⟨o1, o2, o3, o4, o5, o6, o7, o8, o9, o10⟩ := hX
    rw [hK] at o10
    obtain ⟨r1, r2, r3, r4, r5, r6, r7⟩ := o10
    exact va_sld o1 (by rw [o2, hZ]) r3 r4 (by rw [r5]; exact Nat.not_le.mpr r4) h4 hin hd (k2 Hr locs ls h1 h2 h3 h4 h5)
  · cases h
theorem x_slen {b L : Nat} {xs : Nat → Int32} (hK : Z.2.2.2.2 = xKl b L xs) (hZ : Z.1 = (code', y, nL)) (hd : decode code' pc = .ok (.arraylength, 1)) (kk : xWq Z H (pc + 1) pl (.int (Int32.ofNat L) :: st)) : xWq Z H pc pl (va_rf (some b) :: st) := by
  refine ⟨kk.1, fun X hX => ?_⟩
  have k2 := kk.2 X hX
  obtain ⟨p, l, e, R, s, m, args, below, meth, c, Q, D, da, q0, n0, sl0⟩ := X
  intro Hr locs ls h1 h2 h3 h4 h5
  obtain ⟨o1, o2, o3, o4, o5, o6, o7, o8, o9, o10⟩ := hX
  rw [hK] at o10
  obtain ⟨r1, r2, r3, r4, r5, r6, r7⟩ := o10
  exact va_slen o1 (by rw [o2, hZ]) r3 r4 (by rw [r5]; exact Nat.not_le.mpr r4) h4 hd (k2 Hr locs ls h1 h2 h3 h4 h5)
theorem x_lawret {nm : String} {δ b L : Nat} {xs : Nat → Int32} (hZ : Z = xZl nm δ b L xs H) (hd : decode cL_law pc = .ok (.ireturn, 1)) : xWq Z H pc pl [.int 1] := by
  subst hZ
  refine ⟨⟨Nat.le_refl _, Nat.le_refl _⟩, fun X hX => ?_⟩
  obtain ⟨p, l, e, R, s, m, args, below, meth, c, Q, D, da, q0, n0, sl0⟩ := X
  intro Hr locs ls h1 h2 h3 h4 h5
  obtain ⟨o1, o2, o3, o4, o5, ⟨o6, o6'⟩, o7, o8, o9, o10⟩ := hX
  obtain ⟨rfl, rfl, r3, r4, rfl, r6, rfl⟩ := o10
  refine va_forget (fun q hq => h4.2.2 q hq) ?_
  refine W.widen (k := 600000) (n := 7302250) o8.1 o8.2 ?_
  exact lw_ret o1 o2 r6 o6 hd
end XLaw
theorem cs_L_13 : xCb RL 13 yX11_feed cX11_feed 6 (some .int) 5 ∧ Cond.instanceMethod yX11_feed ∈ xT ∧ Cond.selects yX11_feed.cls yX11_feed yX11_feed ∈ xT := ⟨⟨Or.inl (xT_tb 360 (by decide +kernel) (by decide +kernel)), (xT_tb 363 (by decide +kernel) (by decide +kernel)), (xT_tb 1 (by decide +kernel) (by decide +kernel)), by decide +kernel, by decide +kernel, by decide +kernel⟩, (xT_tb 361 (by decide +kernel) (by decide +kernel)), (xT_tb 362 (by decide +kernel) (by decide +kernel))⟩
theorem cs_L_17 : xCb RL 17 yX12_feed cX12_feed 6 (some .int) 5 ∧ Cond.instanceMethod yX12_feed ∈ xT ∧ Cond.selects yX12_feed.cls yX12_feed yX12_feed ∈ xT := ⟨⟨Or.inl (xT_tb 1216 (by decide +kernel) (by decide +kernel)), (xT_tb 1219 (by decide +kernel) (by decide +kernel)), (xT_tb 11 (by decide +kernel) (by decide +kernel)), by decide +kernel, by decide +kernel, by decide +kernel⟩, (xT_tb 1217 (by decide +kernel) (by decide +kernel)), (xT_tb 1218 (by decide +kernel) (by decide +kernel))⟩
theorem cs_L_18 : xCb RL 18 yX11_book cX11_book 3 (some .int) 1 ∧ Cond.instanceMethod yX11_book ∈ xT ∧ Cond.selects yX11_book.cls yX11_book yX11_book ∈ xT := ⟨⟨Or.inl (xT_tb 368 (by decide +kernel) (by decide +kernel)), (xT_tb 371 (by decide +kernel) (by decide +kernel)), (xT_tb 1 (by decide +kernel) (by decide +kernel)), by decide +kernel, by decide +kernel, by decide +kernel⟩, (xT_tb 369 (by decide +kernel) (by decide +kernel)), (xT_tb 370 (by decide +kernel) (by decide +kernel))⟩
theorem cs_L_22 : xCb RL 22 yX12_book cX12_book 3 (some .int) 1 ∧ Cond.instanceMethod yX12_book ∈ xT ∧ Cond.selects yX12_book.cls yX12_book yX12_book ∈ xT := ⟨⟨Or.inl (xT_tb 1224 (by decide +kernel) (by decide +kernel)), (xT_tb 1227 (by decide +kernel) (by decide +kernel)), (xT_tb 11 (by decide +kernel) (by decide +kernel)), by decide +kernel, by decide +kernel, by decide +kernel⟩, (xT_tb 1225 (by decide +kernel) (by decide +kernel)), (xT_tb 1226 (by decide +kernel) (by decide +kernel))⟩
theorem cs_L_23 : xCb RL 23 yX11_fault cX11_fault 1 (some .int) 0 ∧ Cond.instanceMethod yX11_fault ∈ xT ∧ Cond.selects yX11_fault.cls yX11_fault yX11_fault ∈ xT := ⟨⟨Or.inl (xT_tb 624 (by decide +kernel) (by decide +kernel)), (xT_tb 627 (by decide +kernel) (by decide +kernel)), (xT_tb 1 (by decide +kernel) (by decide +kernel)), by decide +kernel, by decide +kernel, by decide +kernel⟩, (xT_tb 625 (by decide +kernel) (by decide +kernel)), (xT_tb 626 (by decide +kernel) (by decide +kernel))⟩
theorem cs_L_27 : xCb RL 27 yX12_fault cX12_fault 1 (some .int) 0 ∧ Cond.instanceMethod yX12_fault ∈ xT ∧ Cond.selects yX12_fault.cls yX12_fault yX12_fault ∈ xT := ⟨⟨Or.inl (xT_tb 1333 (by decide +kernel) (by decide +kernel)), (xT_tb 1336 (by decide +kernel) (by decide +kernel)), (xT_tb 11 (by decide +kernel) (by decide +kernel)), by decide +kernel, by decide +kernel, by decide +kernel⟩, (xT_tb 1334 (by decide +kernel) (by decide +kernel)), (xT_tb 1335 (by decide +kernel) (by decide +kernel))⟩
theorem cs_L_28 : xCb RL 28 yX11_told cX11_told 3 (some .int) 1 ∧ Cond.instanceMethod yX11_told ∈ xT ∧ Cond.selects yX11_told.cls yX11_told yX11_told ∈ xT := ⟨⟨Or.inl (xT_tb 628 (by decide +kernel) (by decide +kernel)), (xT_tb 631 (by decide +kernel) (by decide +kernel)), (xT_tb 1 (by decide +kernel) (by decide +kernel)), by decide +kernel, by decide +kernel, by decide +kernel⟩, (xT_tb 629 (by decide +kernel) (by decide +kernel)), (xT_tb 630 (by decide +kernel) (by decide +kernel))⟩
theorem cs_L_31 : xCb RL 31 yX12_told cX12_told 2 (some .int) 1 ∧ Cond.instanceMethod yX12_told ∈ xT ∧ Cond.selects yX12_told.cls yX12_told yX12_told ∈ xT := ⟨⟨Or.inl (xT_tb 1337 (by decide +kernel) (by decide +kernel)), (xT_tb 1340 (by decide +kernel) (by decide +kernel)), (xT_tb 11 (by decide +kernel) (by decide +kernel)), by decide +kernel, by decide +kernel, by decide +kernel⟩, (xT_tb 1338 (by decide +kernel) (by decide +kernel)), (xT_tb 1339 (by decide +kernel) (by decide +kernel))⟩
theorem cs_L_32 : xCb RL 32 yX11_wager cX11_wager 4 (some .int) 2 ∧ Cond.instanceMethod yX11_wager ∈ xT ∧ Cond.selects yX11_wager.cls yX11_wager yX11_wager ∈ xT := ⟨⟨Or.inl (xT_tb 637 (by decide +kernel) (by decide +kernel)), (xT_tb 640 (by decide +kernel) (by decide +kernel)), (xT_tb 1 (by decide +kernel) (by decide +kernel)), by decide +kernel, by decide +kernel, by decide +kernel⟩, (xT_tb 638 (by decide +kernel) (by decide +kernel)), (xT_tb 639 (by decide +kernel) (by decide +kernel))⟩
theorem cs_L_36 : xCb RL 36 yX12_wager cX12_wager 3 (some .int) 2 ∧ Cond.instanceMethod yX12_wager ∈ xT ∧ Cond.selects yX12_wager.cls yX12_wager yX12_wager ∈ xT := ⟨⟨Or.inl (xT_tb 1440 (by decide +kernel) (by decide +kernel)), (xT_tb 1443 (by decide +kernel) (by decide +kernel)), (xT_tb 11 (by decide +kernel) (by decide +kernel)), by decide +kernel, by decide +kernel, by decide +kernel⟩, (xT_tb 1441 (by decide +kernel) (by decide +kernel)), (xT_tb 1442 (by decide +kernel) (by decide +kernel))⟩
theorem cs_L_37 : xCb RL 37 yX11_day cX11_day 3 (some .int) 1 ∧ Cond.instanceMethod yX11_day ∈ xT ∧ Cond.selects yX11_day.cls yX11_day yX11_day ∈ xT := ⟨⟨Or.inl (xT_tb 650 (by decide +kernel) (by decide +kernel)), (xT_tb 653 (by decide +kernel) (by decide +kernel)), (xT_tb 1 (by decide +kernel) (by decide +kernel)), by decide +kernel, by decide +kernel, by decide +kernel⟩, (xT_tb 651 (by decide +kernel) (by decide +kernel)), (xT_tb 652 (by decide +kernel) (by decide +kernel))⟩
theorem cs_L_40 : xCb RL 40 yX12_day cX12_day 4 (some .int) 1 ∧ Cond.instanceMethod yX12_day ∈ xT ∧ Cond.selects yX12_day.cls yX12_day yX12_day ∈ xT := ⟨⟨Or.inl (xT_tb 1341 (by decide +kernel) (by decide +kernel)), (xT_tb 1344 (by decide +kernel) (by decide +kernel)), (xT_tb 11 (by decide +kernel) (by decide +kernel)), by decide +kernel, by decide +kernel, by decide +kernel⟩, (xT_tb 1342 (by decide +kernel) (by decide +kernel)), (xT_tb 1343 (by decide +kernel) (by decide +kernel))⟩
theorem cs_L_41 : xCb RL 41 yX11_come cX11_come 2 (some .int) 1 ∧ Cond.instanceMethod yX11_come ∈ xT ∧ Cond.selects yX11_come.cls yX11_come yX11_come ∈ xT := ⟨⟨Or.inl (xT_tb 654 (by decide +kernel) (by decide +kernel)), (xT_tb 657 (by decide +kernel) (by decide +kernel)), (xT_tb 1 (by decide +kernel) (by decide +kernel)), by decide +kernel, by decide +kernel, by decide +kernel⟩, (xT_tb 655 (by decide +kernel) (by decide +kernel)), (xT_tb 656 (by decide +kernel) (by decide +kernel))⟩
theorem cs_L_44 : xCb RL 44 yX12_come cX12_come 3 (some .int) 1 ∧ Cond.instanceMethod yX12_come ∈ xT ∧ Cond.selects yX12_come.cls yX12_come yX12_come ∈ xT := ⟨⟨Or.inl (xT_tb 1360 (by decide +kernel) (by decide +kernel)), (xT_tb 1363 (by decide +kernel) (by decide +kernel)), (xT_tb 11 (by decide +kernel) (by decide +kernel)), by decide +kernel, by decide +kernel, by decide +kernel⟩, (xT_tb 1361 (by decide +kernel) (by decide +kernel)), (xT_tb 1362 (by decide +kernel) (by decide +kernel))⟩
theorem cs_L_45 : xCb RL 45 yX11_chance cX11_chance 5 (some .boolean) 3 ∧ Cond.instanceMethod yX11_chance ∈ xT ∧ Cond.selects yX11_chance.cls yX11_chance yX11_chance ∈ xT := ⟨⟨Or.inl (xT_tb 659 (by decide +kernel) (by decide +kernel)), (xT_tb 662 (by decide +kernel) (by decide +kernel)), (xT_tb 1 (by decide +kernel) (by decide +kernel)), by decide +kernel, by decide +kernel, by decide +kernel⟩, (xT_tb 660 (by decide +kernel) (by decide +kernel)), (xT_tb 661 (by decide +kernel) (by decide +kernel))⟩
theorem cs_L_49 : xCb RL 49 yX12_chance cX12_chance 4 (some .boolean) 3 ∧ Cond.instanceMethod yX12_chance ∈ xT ∧ Cond.selects yX12_chance.cls yX12_chance yX12_chance ∈ xT := ⟨⟨Or.inl (xT_tb 1508 (by decide +kernel) (by decide +kernel)), (xT_tb 1511 (by decide +kernel) (by decide +kernel)), (xT_tb 11 (by decide +kernel) (by decide +kernel)), by decide +kernel, by decide +kernel, by decide +kernel⟩, (xT_tb 1509 (by decide +kernel) (by decide +kernel)), (xT_tb 1510 (by decide +kernel) (by decide +kernel))⟩
theorem cs_L_50 : xCb RL 50 yX11_sell cX11_sell 6 (some .boolean) 4 ∧ Cond.instanceMethod yX11_sell ∈ xT ∧ Cond.selects yX11_sell.cls yX11_sell yX11_sell ∈ xT := ⟨⟨Or.inl (xT_tb 668 (by decide +kernel) (by decide +kernel)), (xT_tb 671 (by decide +kernel) (by decide +kernel)), (xT_tb 1 (by decide +kernel) (by decide +kernel)), by decide +kernel, by decide +kernel, by decide +kernel⟩, (xT_tb 669 (by decide +kernel) (by decide +kernel)), (xT_tb 670 (by decide +kernel) (by decide +kernel))⟩
theorem cs_L_54 : xCb RL 54 yX12_sell cX12_sell 5 (some .boolean) 4 ∧ Cond.instanceMethod yX12_sell ∈ xT ∧ Cond.selects yX12_sell.cls yX12_sell yX12_sell ∈ xT := ⟨⟨Or.inl (xT_tb 1444 (by decide +kernel) (by decide +kernel)), (xT_tb 1447 (by decide +kernel) (by decide +kernel)), (xT_tb 11 (by decide +kernel) (by decide +kernel)), by decide +kernel, by decide +kernel, by decide +kernel⟩, (xT_tb 1445 (by decide +kernel) (by decide +kernel)), (xT_tb 1446 (by decide +kernel) (by decide +kernel))⟩
theorem cs_L_55 : xCb RL 55 yX11_paid cX11_paid 4 (some .boolean) 3 ∧ Cond.instanceMethod yX11_paid ∈ xT ∧ Cond.selects yX11_paid.cls yX11_paid yX11_paid ∈ xT := ⟨⟨Or.inl (xT_tb 689 (by decide +kernel) (by decide +kernel)), (xT_tb 692 (by decide +kernel) (by decide +kernel)), (xT_tb 1 (by decide +kernel) (by decide +kernel)), by decide +kernel, by decide +kernel, by decide +kernel⟩, (xT_tb 690 (by decide +kernel) (by decide +kernel)), (xT_tb 691 (by decide +kernel) (by decide +kernel))⟩
theorem cs_L_58 : xCb RL 58 yX12_paid cX12_paid 4 (some .boolean) 3 ∧ Cond.instanceMethod yX12_paid ∈ xT ∧ Cond.selects yX12_paid.cls yX12_paid yX12_paid ∈ xT := ⟨⟨Or.inl (xT_tb 1452 (by decide +kernel) (by decide +kernel)), (xT_tb 1455 (by decide +kernel) (by decide +kernel)), (xT_tb 11 (by decide +kernel) (by decide +kernel)), by decide +kernel, by decide +kernel, by decide +kernel⟩, (xT_tb 1453 (by decide +kernel) (by decide +kernel)), (xT_tb 1454 (by decide +kernel) (by decide +kernel))⟩
theorem cs_L_59 : xCb RL 59 yX11_rows cX11_rows 2 (some .int) 1 ∧ Cond.instanceMethod yX11_rows ∈ xT ∧ Cond.selects yX11_rows.cls yX11_rows yX11_rows ∈ xT := ⟨⟨Or.inl (xT_tb 694 (by decide +kernel) (by decide +kernel)), (xT_tb 697 (by decide +kernel) (by decide +kernel)), (xT_tb 1 (by decide +kernel) (by decide +kernel)), by decide +kernel, by decide +kernel, by decide +kernel⟩, (xT_tb 695 (by decide +kernel) (by decide +kernel)), (xT_tb 696 (by decide +kernel) (by decide +kernel))⟩
theorem cs_L_62 : xCb RL 62 yX12_rows cX12_rows 4 (some .int) 1 ∧ Cond.instanceMethod yX12_rows ∈ xT ∧ Cond.selects yX12_rows.cls yX12_rows yX12_rows ∈ xT := ⟨⟨Or.inl (xT_tb 1368 (by decide +kernel) (by decide +kernel)), (xT_tb 1371 (by decide +kernel) (by decide +kernel)), (xT_tb 11 (by decide +kernel) (by decide +kernel)), by decide +kernel, by decide +kernel, by decide +kernel⟩, (xT_tb 1369 (by decide +kernel) (by decide +kernel)), (xT_tb 1370 (by decide +kernel) (by decide +kernel))⟩
theorem cs_L_63 : xCb RL 63 yX11_fits cX11_fits 4 (some .int) 1 ∧ Cond.instanceMethod yX11_fits ∈ xT ∧ Cond.selects yX11_fits.cls yX11_fits yX11_fits ∈ xT := ⟨⟨Or.inl (xT_tb 706 (by decide +kernel) (by decide +kernel)), (xT_tb 709 (by decide +kernel) (by decide +kernel)), (xT_tb 1 (by decide +kernel) (by decide +kernel)), by decide +kernel, by decide +kernel, by decide +kernel⟩, (xT_tb 707 (by decide +kernel) (by decide +kernel)), (xT_tb 708 (by decide +kernel) (by decide +kernel))⟩
theorem cs_L_66 : xCb RL 66 yX12_fits cX12_fits 2 (some .int) 1 ∧ Cond.instanceMethod yX12_fits ∈ xT ∧ Cond.selects yX12_fits.cls yX12_fits yX12_fits ∈ xT := ⟨⟨Or.inl (xT_tb 1372 (by decide +kernel) (by decide +kernel)), (xT_tb 1375 (by decide +kernel) (by decide +kernel)), (xT_tb 11 (by decide +kernel) (by decide +kernel)), by decide +kernel, by decide +kernel, by decide +kernel⟩, (xT_tb 1373 (by decide +kernel) (by decide +kernel)), (xT_tb 1374 (by decide +kernel) (by decide +kernel))⟩
theorem cs_L_67 : xCb RL 67 yX11_pays cX11_pays 6 (some .int) 2 ∧ Cond.instanceMethod yX11_pays ∈ xT ∧ Cond.selects yX11_pays.cls yX11_pays yX11_pays ∈ xT := ⟨⟨Or.inl (xT_tb 713 (by decide +kernel) (by decide +kernel)), (xT_tb 716 (by decide +kernel) (by decide +kernel)), (xT_tb 1 (by decide +kernel) (by decide +kernel)), by decide +kernel, by decide +kernel, by decide +kernel⟩, (xT_tb 714 (by decide +kernel) (by decide +kernel)), (xT_tb 715 (by decide +kernel) (by decide +kernel))⟩
theorem cs_L_70 : xCb RL 70 yX12_pays cX12_pays 3 (some .int) 2 ∧ Cond.instanceMethod yX12_pays ∈ xT ∧ Cond.selects yX12_pays.cls yX12_pays yX12_pays ∈ xT := ⟨⟨Or.inl (xT_tb 1380 (by decide +kernel) (by decide +kernel)), (xT_tb 1383 (by decide +kernel) (by decide +kernel)), (xT_tb 11 (by decide +kernel) (by decide +kernel)), by decide +kernel, by decide +kernel, by decide +kernel⟩, (xT_tb 1381 (by decide +kernel) (by decide +kernel)), (xT_tb 1382 (by decide +kernel) (by decide +kernel))⟩
theorem cs_L_71 : xCb RL 71 yX11_sure cX11_sure 4 (some .int) 2 ∧ Cond.instanceMethod yX11_sure ∈ xT ∧ Cond.selects yX11_sure.cls yX11_sure yX11_sure ∈ xT := ⟨⟨Or.inl (xT_tb 730 (by decide +kernel) (by decide +kernel)), (xT_tb 733 (by decide +kernel) (by decide +kernel)), (xT_tb 1 (by decide +kernel) (by decide +kernel)), by decide +kernel, by decide +kernel, by decide +kernel⟩, (xT_tb 731 (by decide +kernel) (by decide +kernel)), (xT_tb 732 (by decide +kernel) (by decide +kernel))⟩
theorem cs_L_74 : xCb RL 74 yX12_sure cX12_sure 4 (some .int) 2 ∧ Cond.instanceMethod yX12_sure ∈ xT ∧ Cond.selects yX12_sure.cls yX12_sure yX12_sure ∈ xT := ⟨⟨Or.inl (xT_tb 1393 (by decide +kernel) (by decide +kernel)), (xT_tb 1396 (by decide +kernel) (by decide +kernel)), (xT_tb 11 (by decide +kernel) (by decide +kernel)), by decide +kernel, by decide +kernel, by decide +kernel⟩, (xT_tb 1394 (by decide +kernel) (by decide +kernel)), (xT_tb 1395 (by decide +kernel) (by decide +kernel))⟩
theorem cs_L_75 : xCb RL 75 yX11_split cX11_split 3 (some .int) 2 ∧ Cond.instanceMethod yX11_split ∈ xT ∧ Cond.selects yX11_split.cls yX11_split yX11_split ∈ xT := ⟨⟨Or.inl (xT_tb 734 (by decide +kernel) (by decide +kernel)), (xT_tb 737 (by decide +kernel) (by decide +kernel)), (xT_tb 1 (by decide +kernel) (by decide +kernel)), by decide +kernel, by decide +kernel, by decide +kernel⟩, (xT_tb 735 (by decide +kernel) (by decide +kernel)), (xT_tb 736 (by decide +kernel) (by decide +kernel))⟩
theorem cs_L_78 : xCb RL 78 yX12_split cX12_split 6 (some .int) 2 ∧ Cond.instanceMethod yX12_split ∈ xT ∧ Cond.selects yX12_split.cls yX12_split yX12_split ∈ xT := ⟨⟨Or.inl (xT_tb 1401 (by decide +kernel) (by decide +kernel)), (xT_tb 1404 (by decide +kernel) (by decide +kernel)), (xT_tb 11 (by decide +kernel) (by decide +kernel)), by decide +kernel, by decide +kernel, by decide +kernel⟩, (xT_tb 1402 (by decide +kernel) (by decide +kernel)), (xT_tb 1403 (by decide +kernel) (by decide +kernel))⟩
theorem cs_L_79 : xCb RL 79 yX11_when cX11_when 4 (some .int) 2 ∧ Cond.instanceMethod yX11_when ∈ xT ∧ Cond.selects yX11_when.cls yX11_when yX11_when ∈ xT := ⟨⟨Or.inl (xT_tb 742 (by decide +kernel) (by decide +kernel)), (xT_tb 745 (by decide +kernel) (by decide +kernel)), (xT_tb 1 (by decide +kernel) (by decide +kernel)), by decide +kernel, by decide +kernel, by decide +kernel⟩, (xT_tb 743 (by decide +kernel) (by decide +kernel)), (xT_tb 744 (by decide +kernel) (by decide +kernel))⟩
theorem cs_L_82 : xCb RL 82 yX12_when cX12_when 4 (some .int) 2 ∧ Cond.instanceMethod yX12_when ∈ xT ∧ Cond.selects yX12_when.cls yX12_when yX12_when ∈ xT := ⟨⟨Or.inl (xT_tb 1405 (by decide +kernel) (by decide +kernel)), (xT_tb 1408 (by decide +kernel) (by decide +kernel)), (xT_tb 11 (by decide +kernel) (by decide +kernel)), by decide +kernel, by decide +kernel, by decide +kernel⟩, (xT_tb 1406 (by decide +kernel) (by decide +kernel)), (xT_tb 1407 (by decide +kernel) (by decide +kernel))⟩
theorem cs_L_83 : xCb RL 83 yX11_latest cX11_latest 2 (some .int) 1 ∧ Cond.instanceMethod yX11_latest ∈ xT ∧ Cond.selects yX11_latest.cls yX11_latest yX11_latest ∈ xT := ⟨⟨Or.inl (xT_tb 760 (by decide +kernel) (by decide +kernel)), (xT_tb 763 (by decide +kernel) (by decide +kernel)), (xT_tb 1 (by decide +kernel) (by decide +kernel)), by decide +kernel, by decide +kernel, by decide +kernel⟩, (xT_tb 761 (by decide +kernel) (by decide +kernel)), (xT_tb 762 (by decide +kernel) (by decide +kernel))⟩
theorem cs_L_86 : xCb RL 86 yX12_latest cX12_latest 4 (some .int) 1 ∧ Cond.instanceMethod yX12_latest ∈ xT ∧ Cond.selects yX12_latest.cls yX12_latest yX12_latest ∈ xT := ⟨⟨Or.inl (xT_tb 1417 (by decide +kernel) (by decide +kernel)), (xT_tb 1420 (by decide +kernel) (by decide +kernel)), (xT_tb 11 (by decide +kernel) (by decide +kernel)), by decide +kernel, by decide +kernel, by decide +kernel⟩, (xT_tb 1418 (by decide +kernel) (by decide +kernel)), (xT_tb 1419 (by decide +kernel) (by decide +kernel))⟩
theorem cs_L_87 : xCb RL 87 yX11_hang cX11_hang 2 (some .int) 1 ∧ Cond.instanceMethod yX11_hang ∈ xT ∧ Cond.selects yX11_hang.cls yX11_hang yX11_hang ∈ xT := ⟨⟨Or.inl (xT_tb 784 (by decide +kernel) (by decide +kernel)), (xT_tb 787 (by decide +kernel) (by decide +kernel)), (xT_tb 1 (by decide +kernel) (by decide +kernel)), by decide +kernel, by decide +kernel, by decide +kernel⟩, (xT_tb 785 (by decide +kernel) (by decide +kernel)), (xT_tb 786 (by decide +kernel) (by decide +kernel))⟩
theorem cs_L_90 : xCb RL 90 yX12_hang cX12_hang 4 (some .int) 1 ∧ Cond.instanceMethod yX12_hang ∈ xT ∧ Cond.selects yX12_hang.cls yX12_hang yX12_hang ∈ xT := ⟨⟨Or.inl (xT_tb 1421 (by decide +kernel) (by decide +kernel)), (xT_tb 1424 (by decide +kernel) (by decide +kernel)), (xT_tb 11 (by decide +kernel) (by decide +kernel)), by decide +kernel, by decide +kernel, by decide +kernel⟩, (xT_tb 1422 (by decide +kernel) (by decide +kernel)), (xT_tb 1423 (by decide +kernel) (by decide +kernel))⟩
theorem cs_L_91 : xCb RL 91 yX11_same cX11_same 8 (some .int) 2 ∧ Cond.instanceMethod yX11_same ∈ xT ∧ Cond.selects yX11_same.cls yX11_same yX11_same ∈ xT := ⟨⟨Or.inl (xT_tb 811 (by decide +kernel) (by decide +kernel)), (xT_tb 814 (by decide +kernel) (by decide +kernel)), (xT_tb 1 (by decide +kernel) (by decide +kernel)), by decide +kernel, by decide +kernel, by decide +kernel⟩, (xT_tb 812 (by decide +kernel) (by decide +kernel)), (xT_tb 813 (by decide +kernel) (by decide +kernel))⟩
theorem cs_L_94 : xCb RL 94 yX12_same cX12_same 4 (some .int) 2 ∧ Cond.instanceMethod yX12_same ∈ xT ∧ Cond.selects yX12_same.cls yX12_same yX12_same ∈ xT := ⟨⟨Or.inl (xT_tb 1436 (by decide +kernel) (by decide +kernel)), (xT_tb 1439 (by decide +kernel) (by decide +kernel)), (xT_tb 11 (by decide +kernel) (by decide +kernel)), by decide +kernel, by decide +kernel, by decide +kernel⟩, (xT_tb 1437 (by decide +kernel) (by decide +kernel)), (xT_tb 1438 (by decide +kernel) (by decide +kernel))⟩
theorem cs_L_95 : xCb RL 95 yX11_has cX11_has 2 (some .int) 1 ∧ Cond.instanceMethod yX11_has ∈ xT ∧ Cond.selects yX11_has.cls yX11_has yX11_has ∈ xT := ⟨⟨Or.inl (xT_tb 815 (by decide +kernel) (by decide +kernel)), (xT_tb 818 (by decide +kernel) (by decide +kernel)), (xT_tb 1 (by decide +kernel) (by decide +kernel)), by decide +kernel, by decide +kernel, by decide +kernel⟩, (xT_tb 816 (by decide +kernel) (by decide +kernel)), (xT_tb 817 (by decide +kernel) (by decide +kernel))⟩
theorem cs_L_98 : xCb RL 98 yX12_has cX12_has 2 (some .int) 1 ∧ Cond.instanceMethod yX12_has ∈ xT ∧ Cond.selects yX12_has.cls yX12_has yX12_has ∈ xT := ⟨⟨Or.inl (xT_tb 1456 (by decide +kernel) (by decide +kernel)), (xT_tb 1459 (by decide +kernel) (by decide +kernel)), (xT_tb 11 (by decide +kernel) (by decide +kernel)), by decide +kernel, by decide +kernel, by decide +kernel⟩, (xT_tb 1457 (by decide +kernel) (by decide +kernel)), (xT_tb 1458 (by decide +kernel) (by decide +kernel))⟩
theorem cs_L_99 : xCb RL 99 yX11_may cX11_may 10 (some .int) 2 ∧ Cond.instanceMethod yX11_may ∈ xT ∧ Cond.selects yX11_may.cls yX11_may yX11_may ∈ xT := ⟨⟨Or.inl (xT_tb 850 (by decide +kernel) (by decide +kernel)), (xT_tb 853 (by decide +kernel) (by decide +kernel)), (xT_tb 1 (by decide +kernel) (by decide +kernel)), by decide +kernel, by decide +kernel, by decide +kernel⟩, (xT_tb 851 (by decide +kernel) (by decide +kernel)), (xT_tb 852 (by decide +kernel) (by decide +kernel))⟩
theorem cs_L_102 : xCb RL 102 yX12_may cX12_may 7 (some .int) 2 ∧ Cond.instanceMethod yX12_may ∈ xT ∧ Cond.selects yX12_may.cls yX12_may yX12_may ∈ xT := ⟨⟨Or.inl (xT_tb 1464 (by decide +kernel) (by decide +kernel)), (xT_tb 1467 (by decide +kernel) (by decide +kernel)), (xT_tb 11 (by decide +kernel) (by decide +kernel)), by decide +kernel, by decide +kernel, by decide +kernel⟩, (xT_tb 1465 (by decide +kernel) (by decide +kernel)), (xT_tb 1466 (by decide +kernel) (by decide +kernel))⟩
theorem cs_L_103 : xCb RL 103 yX11_end cX11_end 5 (some .int) 2 ∧ Cond.instanceMethod yX11_end ∈ xT ∧ Cond.selects yX11_end.cls yX11_end yX11_end ∈ xT := ⟨⟨Or.inl (xT_tb 856 (by decide +kernel) (by decide +kernel)), (xT_tb 859 (by decide +kernel) (by decide +kernel)), (xT_tb 1 (by decide +kernel) (by decide +kernel)), by decide +kernel, by decide +kernel, by decide +kernel⟩, (xT_tb 857 (by decide +kernel) (by decide +kernel)), (xT_tb 858 (by decide +kernel) (by decide +kernel))⟩
theorem cs_L_106 : xCb RL 106 yX12_end cX12_end 3 (some .int) 2 ∧ Cond.instanceMethod yX12_end ∈ xT ∧ Cond.selects yX12_end.cls yX12_end yX12_end ∈ xT := ⟨⟨Or.inl (xT_tb 1476 (by decide +kernel) (by decide +kernel)), (xT_tb 1479 (by decide +kernel) (by decide +kernel)), (xT_tb 11 (by decide +kernel) (by decide +kernel)), by decide +kernel, by decide +kernel, by decide +kernel⟩, (xT_tb 1477 (by decide +kernel) (by decide +kernel)), (xT_tb 1478 (by decide +kernel) (by decide +kernel))⟩
theorem cs_L_107 : xCb RL 107 yX11_settle cX11_settle 7 (some .int) 0 ∧ Cond.instanceMethod yX11_settle ∈ xT ∧ Cond.selects yX11_settle.cls yX11_settle yX11_settle ∈ xT := ⟨⟨Or.inl (xT_tb 860 (by decide +kernel) (by decide +kernel)), (xT_tb 863 (by decide +kernel) (by decide +kernel)), (xT_tb 1 (by decide +kernel) (by decide +kernel)), by decide +kernel, by decide +kernel, by decide +kernel⟩, (xT_tb 861 (by decide +kernel) (by decide +kernel)), (xT_tb 862 (by decide +kernel) (by decide +kernel))⟩
theorem cs_L_110 : xCb RL 110 yX12_settle cX12_settle 5 (some .int) 0 ∧ Cond.instanceMethod yX12_settle ∈ xT ∧ Cond.selects yX12_settle.cls yX12_settle yX12_settle ∈ xT := ⟨⟨Or.inl (xT_tb 1480 (by decide +kernel) (by decide +kernel)), (xT_tb 1483 (by decide +kernel) (by decide +kernel)), (xT_tb 11 (by decide +kernel) (by decide +kernel)), by decide +kernel, by decide +kernel, by decide +kernel⟩, (xT_tb 1481 (by decide +kernel) (by decide +kernel)), (xT_tb 1482 (by decide +kernel) (by decide +kernel))⟩
theorem cs_L_111 : xCb RL 111 yX11_best cX11_best 6 (some .int) 1 ∧ Cond.instanceMethod yX11_best ∈ xT ∧ Cond.selects yX11_best.cls yX11_best yX11_best ∈ xT := ⟨⟨Or.inl (xT_tb 864 (by decide +kernel) (by decide +kernel)), (xT_tb 867 (by decide +kernel) (by decide +kernel)), (xT_tb 1 (by decide +kernel) (by decide +kernel)), by decide +kernel, by decide +kernel, by decide +kernel⟩, (xT_tb 865 (by decide +kernel) (by decide +kernel)), (xT_tb 866 (by decide +kernel) (by decide +kernel))⟩
theorem cs_L_114 : xCb RL 114 yX12_best cX12_best 4 (some .int) 1 ∧ Cond.instanceMethod yX12_best ∈ xT ∧ Cond.selects yX12_best.cls yX12_best yX12_best ∈ xT := ⟨⟨Or.inl (xT_tb 1485 (by decide +kernel) (by decide +kernel)), (xT_tb 1488 (by decide +kernel) (by decide +kernel)), (xT_tb 11 (by decide +kernel) (by decide +kernel)), by decide +kernel, by decide +kernel, by decide +kernel⟩, (xT_tb 1486 (by decide +kernel) (by decide +kernel)), (xT_tb 1487 (by decide +kernel) (by decide +kernel))⟩
theorem cs_L_115 : xCb RL 115 yX11_win cX11_win 3 (some .int) 2 ∧ Cond.instanceMethod yX11_win ∈ xT ∧ Cond.selects yX11_win.cls yX11_win yX11_win ∈ xT := ⟨⟨Or.inl (xT_tb 868 (by decide +kernel) (by decide +kernel)), (xT_tb 871 (by decide +kernel) (by decide +kernel)), (xT_tb 1 (by decide +kernel) (by decide +kernel)), by decide +kernel, by decide +kernel, by decide +kernel⟩, (xT_tb 869 (by decide +kernel) (by decide +kernel)), (xT_tb 870 (by decide +kernel) (by decide +kernel))⟩
theorem cs_L_118 : xCb RL 118 yX12_win cX12_win 6 (some .int) 2 ∧ Cond.instanceMethod yX12_win ∈ xT ∧ Cond.selects yX12_win.cls yX12_win yX12_win ∈ xT := ⟨⟨Or.inl (xT_tb 1489 (by decide +kernel) (by decide +kernel)), (xT_tb 1492 (by decide +kernel) (by decide +kernel)), (xT_tb 11 (by decide +kernel) (by decide +kernel)), by decide +kernel, by decide +kernel, by decide +kernel⟩, (xT_tb 1490 (by decide +kernel) (by decide +kernel)), (xT_tb 1491 (by decide +kernel) (by decide +kernel))⟩
theorem cs_L_119 : xCb RL 119 yX11_worth cX11_worth 3 (some .long) 2 ∧ Cond.instanceMethod yX11_worth ∈ xT ∧ Cond.selects yX11_worth.cls yX11_worth yX11_worth ∈ xT := ⟨⟨Or.inl (xT_tb 912 (by decide +kernel) (by decide +kernel)), (xT_tb 915 (by decide +kernel) (by decide +kernel)), (xT_tb 1 (by decide +kernel) (by decide +kernel)), by decide +kernel, by decide +kernel, by decide +kernel⟩, (xT_tb 913 (by decide +kernel) (by decide +kernel)), (xT_tb 914 (by decide +kernel) (by decide +kernel))⟩
theorem cs_L_123 : xCb RL 123 yX12_worth cX12_worth 10 (some .long) 2 ∧ Cond.instanceMethod yX12_worth ∈ xT ∧ Cond.selects yX12_worth.cls yX12_worth yX12_worth ∈ xT := ⟨⟨Or.inl (xT_tb 1512 (by decide +kernel) (by decide +kernel)), (xT_tb 1515 (by decide +kernel) (by decide +kernel)), (xT_tb 11 (by decide +kernel) (by decide +kernel)), by decide +kernel, by decide +kernel, by decide +kernel⟩, (xT_tb 1513 (by decide +kernel) (by decide +kernel)), (xT_tb 1514 (by decide +kernel) (by decide +kernel))⟩
theorem cs_L_124 : xCb RL 124 yX11_holds cX11_holds 3 (some .long) 2 ∧ Cond.instanceMethod yX11_holds ∈ xT ∧ Cond.selects yX11_holds.cls yX11_holds yX11_holds ∈ xT := ⟨⟨Or.inl (xT_tb 942 (by decide +kernel) (by decide +kernel)), (xT_tb 945 (by decide +kernel) (by decide +kernel)), (xT_tb 1 (by decide +kernel) (by decide +kernel)), by decide +kernel, by decide +kernel, by decide +kernel⟩, (xT_tb 943 (by decide +kernel) (by decide +kernel)), (xT_tb 944 (by decide +kernel) (by decide +kernel))⟩
theorem cs_L_127 : xCb RL 127 yX12_holds cX12_holds 10 (some .long) 2 ∧ Cond.instanceMethod yX12_holds ∈ xT ∧ Cond.selects yX12_holds.cls yX12_holds yX12_holds ∈ xT := ⟨⟨Or.inl (xT_tb 1532 (by decide +kernel) (by decide +kernel)), (xT_tb 1535 (by decide +kernel) (by decide +kernel)), (xT_tb 11 (by decide +kernel) (by decide +kernel)), by decide +kernel, by decide +kernel, by decide +kernel⟩, (xT_tb 1533 (by decide +kernel) (by decide +kernel)), (xT_tb 1534 (by decide +kernel) (by decide +kernel))⟩
theorem cs_L_128 : xCb RL 128 yX11_luck cX11_luck 8 (some .int) 2 ∧ Cond.instanceMethod yX11_luck ∈ xT ∧ Cond.selects yX11_luck.cls yX11_luck yX11_luck ∈ xT := ⟨⟨Or.inl (xT_tb 946 (by decide +kernel) (by decide +kernel)), (xT_tb 949 (by decide +kernel) (by decide +kernel)), (xT_tb 1 (by decide +kernel) (by decide +kernel)), by decide +kernel, by decide +kernel, by decide +kernel⟩, (xT_tb 947 (by decide +kernel) (by decide +kernel)), (xT_tb 948 (by decide +kernel) (by decide +kernel))⟩
theorem cs_L_131 : xCb RL 131 yX12_luck cX12_luck 6 (some .int) 2 ∧ Cond.instanceMethod yX12_luck ∈ xT ∧ Cond.selects yX12_luck.cls yX12_luck yX12_luck ∈ xT := ⟨⟨Or.inl (xT_tb 1536 (by decide +kernel) (by decide +kernel)), (xT_tb 1539 (by decide +kernel) (by decide +kernel)), (xT_tb 11 (by decide +kernel) (by decide +kernel)), by decide +kernel, by decide +kernel, by decide +kernel⟩, (xT_tb 1537 (by decide +kernel) (by decide +kernel)), (xT_tb 1538 (by decide +kernel) (by decide +kernel))⟩
theorem cs_L_132 : xCb RL 132 yX11_image cX11_image 2 (some .int) 0 ∧ Cond.instanceMethod yX11_image ∈ xT ∧ Cond.selects yX11_image.cls yX11_image yX11_image ∈ xT := ⟨⟨Or.inl (xT_tb 950 (by decide +kernel) (by decide +kernel)), (xT_tb 953 (by decide +kernel) (by decide +kernel)), (xT_tb 1 (by decide +kernel) (by decide +kernel)), by decide +kernel, by decide +kernel, by decide +kernel⟩, (xT_tb 951 (by decide +kernel) (by decide +kernel)), (xT_tb 952 (by decide +kernel) (by decide +kernel))⟩
theorem cs_L_135 : xCb RL 135 yX12_image cX12_image 3 (some .int) 0 ∧ Cond.instanceMethod yX12_image ∈ xT ∧ Cond.selects yX12_image.cls yX12_image yX12_image ∈ xT := ⟨⟨Or.inl (xT_tb 1545 (by decide +kernel) (by decide +kernel)), (xT_tb 1548 (by decide +kernel) (by decide +kernel)), (xT_tb 11 (by decide +kernel) (by decide +kernel)), by decide +kernel, by decide +kernel, by decide +kernel⟩, (xT_tb 1546 (by decide +kernel) (by decide +kernel)), (xT_tb 1547 (by decide +kernel) (by decide +kernel))⟩
theorem cs_L_136 : xCb RL 136 yX11_back cX11_back 2 (some .boolean) 1 ∧ Cond.instanceMethod yX11_back ∈ xT ∧ Cond.selects yX11_back.cls yX11_back yX11_back ∈ xT := ⟨⟨Or.inl (xT_tb 961 (by decide +kernel) (by decide +kernel)), (xT_tb 964 (by decide +kernel) (by decide +kernel)), (xT_tb 1 (by decide +kernel) (by decide +kernel)), by decide +kernel, by decide +kernel, by decide +kernel⟩, (xT_tb 962 (by decide +kernel) (by decide +kernel)), (xT_tb 963 (by decide +kernel) (by decide +kernel))⟩
theorem cs_L_140 : xCb RL 140 yX12_back cX12_back 4 (some .boolean) 1 ∧ Cond.instanceMethod yX12_back ∈ xT ∧ Cond.selects yX12_back.cls yX12_back yX12_back ∈ xT := ⟨⟨Or.inl (xT_tb 1549 (by decide +kernel) (by decide +kernel)), (xT_tb 1552 (by decide +kernel) (by decide +kernel)), (xT_tb 11 (by decide +kernel) (by decide +kernel)), by decide +kernel, by decide +kernel, by decide +kernel⟩, (xT_tb 1550 (by decide +kernel) (by decide +kernel)), (xT_tb 1551 (by decide +kernel) (by decide +kernel))⟩
theorem cs_L_141 : xCb RL 141 yX11_count cX11_count 2 (some .int) 1 ∧ Cond.instanceMethod yX11_count ∈ xT ∧ Cond.selects yX11_count.cls yX11_count yX11_count ∈ xT := ⟨⟨Or.inl (xT_tb 965 (by decide +kernel) (by decide +kernel)), (xT_tb 968 (by decide +kernel) (by decide +kernel)), (xT_tb 1 (by decide +kernel) (by decide +kernel)), by decide +kernel, by decide +kernel, by decide +kernel⟩, (xT_tb 966 (by decide +kernel) (by decide +kernel)), (xT_tb 967 (by decide +kernel) (by decide +kernel))⟩
theorem cs_L_144 : xCb RL 144 yX12_count cX12_count 4 (some .int) 1 ∧ Cond.instanceMethod yX12_count ∈ xT ∧ Cond.selects yX12_count.cls yX12_count yX12_count ∈ xT := ⟨⟨Or.inl (xT_tb 1553 (by decide +kernel) (by decide +kernel)), (xT_tb 1556 (by decide +kernel) (by decide +kernel)), (xT_tb 11 (by decide +kernel) (by decide +kernel)), by decide +kernel, by decide +kernel, by decide +kernel⟩, (xT_tb 1554 (by decide +kernel) (by decide +kernel)), (xT_tb 1555 (by decide +kernel) (by decide +kernel))⟩
def xdf_11 : List Value := [.null, .int 0, .int 0, .int 0, .null, .null, .null, .null, .null, .int 0, .null, .null, .null, .null, .null]
theorem ns_L_7 : xNs RL 7 10 15 xdf_11 := ⟨RX11, TX11, tyX11, xCl_11, (xT_tb 20 (by decide +kernel) (by decide +kernel)), (xT_tb 21 (by decide +kernel) (by decide +kernel)), (xT_tb 1 (by decide +kernel) (by decide +kernel)), by decide +kernel⟩
theorem cs_L_9 : xCb RL 9 yX11_init cX11_init 2 none 0 ∧ Cond.instanceMethod yX11_init ∈ xT := ⟨⟨Or.inl (xT_tb 22 (by decide +kernel) (by decide +kernel)), (xT_tb 24 (by decide +kernel) (by decide +kernel)), (xT_tb 1 (by decide +kernel) (by decide +kernel)), by decide +kernel, by decide +kernel, by decide +kernel⟩, (xT_tb 23 (by decide +kernel) (by decide +kernel))⟩
def xdf_12 : List Value := [.int 0, .int 0, .int 0, .int 0, .int 0, .int 0, .null, .null, .null, .null, .null, .null, .null, .null, .null, .null, .null, .null, .null, .null, .null, .null, .null, .int 0, .int 0, .int 0, .int 0, .int 0, .int 0, .null, .null, .int 0, .int 0, .int 0, .int 0, .int 0, .null, .null, .int 0, .int 0, .int 0, .int 0, .null, .null, .null, .null, .int 0, .int 0, .null, .int 0, .null, .int 0, .null, .null, .null, .null, .null, .null, .int 0, .int 0, .int 0, .null, .int 0, .null]
theorem ns_L_10 : xNs RL 10 11 64 xdf_12 := ⟨RX12, TX12, tyX12, xCl_12, (xT_tb 980 (by decide +kernel) (by decide +kernel)), (xT_tb 981 (by decide +kernel) (by decide +kernel)), (xT_tb 11 (by decide +kernel) (by decide +kernel)), by decide +kernel⟩
theorem cs_L_12 : xCb RL 12 yX12_init cX12_init 1 none 0 ∧ Cond.instanceMethod yX12_init ∈ xT := ⟨⟨Or.inl (xT_tb 982 (by decide +kernel) (by decide +kernel)), (xT_tb 984 (by decide +kernel) (by decide +kernel)), (xT_tb 11 (by decide +kernel) (by decide +kernel)), by decide +kernel, by decide +kernel, by decide +kernel⟩, (xT_tb 983 (by decide +kernel) (by decide +kernel))⟩
/-! BettingBookLaw.law([I)Z -/
noncomputable def F_L_law_J1087 (N : Nat) (L : Nat) (xs : Nat → Int32) (k18 : (Option Nat) → (Option Nat) → Int32 → xH → Option (Int32 × xH)) (x1 : (Option Nat)) (x2 : (Option Nat)) (x3 : Int32) (H : xH) : Option (Int32 × xH) :=
  k18 x1 x2 (x3 + 6) H
set_option maxRecDepth 20000 in
set_option maxHeartbeats 4000000 in
theorem P_L_law_J1087 {N : Nat} {Z : xZ} {b L : Nat} {xs : Nat → Int32} {nm : String} {Hf : xH} (hZ : Z = xZl nm 53 b L xs Hf) {k18 : (Option Nat) → (Option Nat) → Int32 → xH → Option (Int32 × xH)} (hk18 : ∀ (x1 : (Option Nat)) (x2 : (Option Nat)) (x3 : Int32) (H : xH), k18 x1 x2 x3 H = some (1, Hf) → xWq Z H 18 [xA (some b), xA x1, xA x2, xI x3] []) : ∀ (x1 : (Option Nat)) (x2 : (Option Nat)) (x3 : Int32) (H : xH), F_L_law_J1087 N L xs k18 x1 x2 x3 H = some (1, Hf) → xWq Z H 1087 [xA (some b), xA x1, xA x2, xI x3] [] := by
  have hz : Z.1 = (cL_law, (⟨RL, nm, "([I)Z"⟩ : MethodName), 4) := by rw [hZ]; rfl
  have hδ : Z.2.1 = 53 := by rw [hZ]; rfl
  have hK : Z.2.2.2.2 = xKl b L xs := by rw [hZ]; rfl
  intro x1 x2 x3 H h
  unfold F_L_law_J1087 at h
  refine x_iinc (w := (x3 + 6)) (pl' := [xA (some b), xA x1, xA x2, xI (x3 + 6)]) hz dL_law_1087 rfl rfl (by decide) rfl ?_
  refine x_goto (t := 18) hz dL_law_1090 (by decide) ?_
  exact x_wk (xwk_c (xwk_c (xwk_c (xwk_c xwk_0)))) (hk18 x1 x2 (x3 + 6) H h)
noncomputable def F_L_law_J172 (N : Nat) (L : Nat) (xs : Nat → Int32) (k18 : (Option Nat) → (Option Nat) → Int32 → xH → Option (Int32 × xH)) (x1 : (Option Nat)) (x2 : (Option Nat)) (x3 : Int32) (H : xH) : Option (Int32 × xH) :=
  (xlS L xs (x3 + (1 : Int32))).bind fun v1 =>
  (xlS L xs (x3 + (2 : Int32))).bind fun v2 =>
  (xlS L xs (x3 + (3 : Int32))).bind fun v3 =>
  (xlS L xs (x3 + (4 : Int32))).bind fun v4 =>
  (xlS L xs (x3 + (5 : Int32))).bind fun v5 =>
  (xob H x1 10).bind fun b7 =>
  x_bd2 (F_X11_feed N x1 v1 v2 v3 v4 v5 H) fun v8 H6 =>
  (xlS L xs (x3 + (1 : Int32))).bind fun v9 =>
  (xlS L xs (x3 + (2 : Int32))).bind fun v10 =>
  (xlS L xs (x3 + (3 : Int32))).bind fun v11 =>
  (xlS L xs (x3 + (4 : Int32))).bind fun v12 =>
  (xlS L xs (x3 + (5 : Int32))).bind fun v13 =>
  (xob H6 x2 11).bind fun b15 =>
  x_bd2 (F_X12_feed N x2 v9 v10 v11 v12 v13 H6) fun v16 H14 =>
  if v8 = v16 then ((F_L_law_J1087 N L xs k18) x1 x2 x3 H14) else (some ((0 : Int32), H14))
set_option maxRecDepth 20000 in
set_option maxHeartbeats 4000000 in
theorem P_L_law_J172 {N : Nat} {Z : xZ} {b L : Nat} {xs : Nat → Int32} {nm : String} {Hf : xH} (hZ : Z = xZl nm 53 b L xs Hf) {k18 : (Option Nat) → (Option Nat) → Int32 → xH → Option (Int32 × xH)} (hk18 : ∀ (x1 : (Option Nat)) (x2 : (Option Nat)) (x3 : Int32) (H : xH), k18 x1 x2 x3 H = some (1, Hf) → xWq Z H 18 [xA (some b), xA x1, xA x2, xI x3] []) : ∀ (x1 : (Option Nat)) (x2 : (Option Nat)) (x3 : Int32) (H : xH), F_L_law_J172 N L xs k18 x1 x2 x3 H = some (1, Hf) → xWq Z H 172 [xA (some b), xA x1, xA x2, xI x3] [] := by
  have hz : Z.1 = (cL_law, (⟨RL, nm, "([I)Z"⟩ : MethodName), 4) := by rw [hZ]; rfl
  have hδ : Z.2.1 = 53 := by rw [hZ]; rfl
  have hK : Z.2.2.2.2 = xKl b L xs := by rw [hZ]; rfl
  intro x1 x2 x3 H h
  unfold F_L_law_J172 at h
  refine x_aload_n hz dL_law_172 rfl ?_
  refine x_aload_n hz dL_law_173 rfl ?_
  refine x_iload_n hz dL_law_174 rfl ?_
  refine x_iconst (v := (1 : Int32)) hz dL_law_175 (by decide) ?_
  refine x_iadd hz dL_law_176 ?_
  obtain ⟨v1, e_v1, h⟩ := x_bnd h
  refine x_sald hK hz dL_law_177 e_v1 ?_
  refine x_aload_n hz dL_law_178 rfl ?_
  refine x_iload_n hz dL_law_179 rfl ?_
  refine x_iconst (v := (2 : Int32)) hz dL_law_180 (by decide) ?_
  refine x_iadd hz dL_law_181 ?_
  obtain ⟨v2, e_v2, h⟩ := x_bnd h
  refine x_sald hK hz dL_law_182 e_v2 ?_
  refine x_aload_n hz dL_law_183 rfl ?_
  refine x_iload_n hz dL_law_184 rfl ?_
  refine x_iconst (v := (3 : Int32)) hz dL_law_185 (by decide) ?_
  refine x_iadd hz dL_law_186 ?_
  obtain ⟨v3, e_v3, h⟩ := x_bnd h
  refine x_sald hK hz dL_law_187 e_v3 ?_
  refine x_aload_n hz dL_law_188 rfl ?_
  refine x_iload_n hz dL_law_189 rfl ?_
  refine x_iconst (v := (4 : Int32)) hz dL_law_190 (by decide) ?_
  refine x_iadd hz dL_law_191 ?_
  obtain ⟨v4, e_v4, h⟩ := x_bnd h
  refine x_sald hK hz dL_law_192 e_v4 ?_
  refine x_aload_n hz dL_law_193 rfl ?_
  refine x_iload_n hz dL_law_194 rfl ?_
  refine x_iconst (v := (5 : Int32)) hz dL_law_195 (by decide) ?_
  refine x_iadd hz dL_law_196 ?_
  obtain ⟨v5, e_v5, h⟩ := x_bnd h
  refine x_sald hK hz dL_law_197 e_v5 ?_
  obtain ⟨b7, e_b7, h⟩ := x_bnd h
  obtain ⟨v8, H6, e_H6, h⟩ := x_b2 h
  refine x_callVi (as := [.inl v1, .inl v2, .inl v3, .inl v4, .inl v5]) (st := []) cs_L_13 (ci := 10) ⟨rfl, rfl⟩ rfl rfl hz (by omega) (by decide) dL_law_198 e_b7 (M_X11_feed e_H6) ?_
  refine x_aload_n hz dL_law_201 rfl ?_
  refine x_aload_n hz dL_law_202 rfl ?_
  refine x_iload_n hz dL_law_203 rfl ?_
  refine x_iconst (v := (1 : Int32)) hz dL_law_204 (by decide) ?_
  refine x_iadd hz dL_law_205 ?_
  obtain ⟨v9, e_v9, h⟩ := x_bnd h
  refine x_sald hK hz dL_law_206 e_v9 ?_
  refine x_aload_n hz dL_law_207 rfl ?_
  refine x_iload_n hz dL_law_208 rfl ?_
  refine x_iconst (v := (2 : Int32)) hz dL_law_209 (by decide) ?_
  refine x_iadd hz dL_law_210 ?_
  obtain ⟨v10, e_v10, h⟩ := x_bnd h
  refine x_sald hK hz dL_law_211 e_v10 ?_
  refine x_aload_n hz dL_law_212 rfl ?_
  refine x_iload_n hz dL_law_213 rfl ?_
  refine x_iconst (v := (3 : Int32)) hz dL_law_214 (by decide) ?_
  refine x_iadd hz dL_law_215 ?_
  obtain ⟨v11, e_v11, h⟩ := x_bnd h
  refine x_sald hK hz dL_law_216 e_v11 ?_
  refine x_aload_n hz dL_law_217 rfl ?_
  refine x_iload_n hz dL_law_218 rfl ?_
  refine x_iconst (v := (4 : Int32)) hz dL_law_219 (by decide) ?_
  refine x_iadd hz dL_law_220 ?_
  obtain ⟨v12, e_v12, h⟩ := x_bnd h
  refine x_sald hK hz dL_law_221 e_v12 ?_
  refine x_aload_n hz dL_law_222 rfl ?_
  refine x_iload_n hz dL_law_223 rfl ?_
  refine x_iconst (v := (5 : Int32)) hz dL_law_224 (by decide) ?_
  refine x_iadd hz dL_law_225 ?_
  obtain ⟨v13, e_v13, h⟩ := x_bnd h
  refine x_sald hK hz dL_law_226 e_v13 ?_
  obtain ⟨b15, e_b15, h⟩ := x_bnd h
  obtain ⟨v16, H14, e_H14, h⟩ := x_b2 h
  refine x_callVi (as := [.inl v9, .inl v10, .inl v11, .inl v12, .inl v13]) (st := [.int v8]) cs_L_17 (ci := 11) ⟨rfl, rfl⟩ rfl rfl hz (by omega) (Nat.le_trans (x_sm1 rfl x_sm0) (by decide)) dL_law_227 e_b15 (M_X12_feed e_H14) ?_
  refine x_icmp_eq (t := 1087) hz dL_law_230 (by decide) (fun c17 => ?_) (fun c17 => ?_)
  · replace h := x_ip c17 h
    exact x_wk (xwk_c (xwk_c (xwk_c (xwk_c xwk_0)))) ((P_L_law_J1087 hZ hk18) x1 x2 x3 H14 h)
  · replace h := x_in c17 h
    refine x_iconst (v := (0 : Int32)) hz dL_law_233 (by decide) ?_
    exact (x_l01 h).elim
noncomputable def F_L_law_J235 (N : Nat) (L : Nat) (xs : Nat → Int32) (k18 : (Option Nat) → (Option Nat) → Int32 → xH → Option (Int32 × xH)) (x1 : (Option Nat)) (x2 : (Option Nat)) (x3 : Int32) (H : xH) : Option (Int32 × xH) :=
  (xlS L xs (x3 + (1 : Int32))).bind fun v1 =>
  (xob H x1 10).bind fun b3 =>
  x_bd2 (F_X11_book N x1 v1 H) fun v4 H2 =>
  (xlS L xs (x3 + (1 : Int32))).bind fun v5 =>
  (xob H2 x2 11).bind fun b7 =>
  x_bd2 (F_X12_book N x2 v5 H2) fun v8 H6 =>
  if v4 = v8 then ((F_L_law_J1087 N L xs k18) x1 x2 x3 H6) else (some ((0 : Int32), H6))
set_option maxRecDepth 20000 in
set_option maxHeartbeats 4000000 in
theorem P_L_law_J235 {N : Nat} {Z : xZ} {b L : Nat} {xs : Nat → Int32} {nm : String} {Hf : xH} (hZ : Z = xZl nm 53 b L xs Hf) {k18 : (Option Nat) → (Option Nat) → Int32 → xH → Option (Int32 × xH)} (hk18 : ∀ (x1 : (Option Nat)) (x2 : (Option Nat)) (x3 : Int32) (H : xH), k18 x1 x2 x3 H = some (1, Hf) → xWq Z H 18 [xA (some b), xA x1, xA x2, xI x3] []) : ∀ (x1 : (Option Nat)) (x2 : (Option Nat)) (x3 : Int32) (H : xH), F_L_law_J235 N L xs k18 x1 x2 x3 H = some (1, Hf) → xWq Z H 235 [xA (some b), xA x1, xA x2, xI x3] [] := by
  have hz : Z.1 = (cL_law, (⟨RL, nm, "([I)Z"⟩ : MethodName), 4) := by rw [hZ]; rfl
  have hδ : Z.2.1 = 53 := by rw [hZ]; rfl
  have hK : Z.2.2.2.2 = xKl b L xs := by rw [hZ]; rfl
  intro x1 x2 x3 H h
  unfold F_L_law_J235 at h
  refine x_aload_n hz dL_law_235 rfl ?_
  refine x_aload_n hz dL_law_236 rfl ?_
  refine x_iload_n hz dL_law_237 rfl ?_
  refine x_iconst (v := (1 : Int32)) hz dL_law_238 (by decide) ?_
  refine x_iadd hz dL_law_239 ?_
  obtain ⟨v1, e_v1, h⟩ := x_bnd h
  refine x_sald hK hz dL_law_240 e_v1 ?_
  obtain ⟨b3, e_b3, h⟩ := x_bnd h
  obtain ⟨v4, H2, e_H2, h⟩ := x_b2 h
  refine x_callVi (as := [.inl v1]) (st := []) cs_L_18 (ci := 10) ⟨rfl, rfl⟩ rfl rfl hz (by omega) (by decide) dL_law_241 e_b3 (M_X11_book e_H2) ?_
  refine x_aload_n hz dL_law_244 rfl ?_
  refine x_aload_n hz dL_law_245 rfl ?_
  refine x_iload_n hz dL_law_246 rfl ?_
  refine x_iconst (v := (1 : Int32)) hz dL_law_247 (by decide) ?_
  refine x_iadd hz dL_law_248 ?_
  obtain ⟨v5, e_v5, h⟩ := x_bnd h
  refine x_sald hK hz dL_law_249 e_v5 ?_
  obtain ⟨b7, e_b7, h⟩ := x_bnd h
  obtain ⟨v8, H6, e_H6, h⟩ := x_b2 h
  refine x_callVi (as := [.inl v5]) (st := [.int v4]) cs_L_22 (ci := 11) ⟨rfl, rfl⟩ rfl rfl hz (by omega) (Nat.le_trans (x_sm1 rfl x_sm0) (by decide)) dL_law_250 e_b7 (M_X12_book e_H6) ?_
  refine x_icmp_eq (t := 1087) hz dL_law_253 (by decide) (fun c9 => ?_) (fun c9 => ?_)
  · replace h := x_ip c9 h
    exact x_wk (xwk_c (xwk_c (xwk_c (xwk_c xwk_0)))) ((P_L_law_J1087 hZ hk18) x1 x2 x3 H6 h)
  · replace h := x_in c9 h
    refine x_iconst (v := (0 : Int32)) hz dL_law_256 (by decide) ?_
    exact (x_l01 h).elim
noncomputable def F_L_law_J258 (N : Nat) (L : Nat) (xs : Nat → Int32) (k18 : (Option Nat) → (Option Nat) → Int32 → xH → Option (Int32 × xH)) (x1 : (Option Nat)) (x2 : (Option Nat)) (x3 : Int32) (H : xH) : Option (Int32 × xH) :=
  (xob H x1 10).bind fun b2 =>
  x_bd2 (F_X11_fault N x1 H) fun v3 H1 =>
  (xob H1 x2 11).bind fun b5 =>
  x_bd2 (F_X12_fault N x2 H1) fun v6 H4 =>
  if v3 = v6 then ((F_L_law_J1087 N L xs k18) x1 x2 x3 H4) else (some ((0 : Int32), H4))
set_option maxRecDepth 20000 in
set_option maxHeartbeats 4000000 in
theorem P_L_law_J258 {N : Nat} {Z : xZ} {b L : Nat} {xs : Nat → Int32} {nm : String} {Hf : xH} (hZ : Z = xZl nm 53 b L xs Hf) {k18 : (Option Nat) → (Option Nat) → Int32 → xH → Option (Int32 × xH)} (hk18 : ∀ (x1 : (Option Nat)) (x2 : (Option Nat)) (x3 : Int32) (H : xH), k18 x1 x2 x3 H = some (1, Hf) → xWq Z H 18 [xA (some b), xA x1, xA x2, xI x3] []) : ∀ (x1 : (Option Nat)) (x2 : (Option Nat)) (x3 : Int32) (H : xH), F_L_law_J258 N L xs k18 x1 x2 x3 H = some (1, Hf) → xWq Z H 258 [xA (some b), xA x1, xA x2, xI x3] [] := by
  have hz : Z.1 = (cL_law, (⟨RL, nm, "([I)Z"⟩ : MethodName), 4) := by rw [hZ]; rfl
  have hδ : Z.2.1 = 53 := by rw [hZ]; rfl
  have hK : Z.2.2.2.2 = xKl b L xs := by rw [hZ]; rfl
  intro x1 x2 x3 H h
  unfold F_L_law_J258 at h
  refine x_aload_n hz dL_law_258 rfl ?_
  obtain ⟨b2, e_b2, h⟩ := x_bnd h
  obtain ⟨v3, H1, e_H1, h⟩ := x_b2 h
  refine x_callVi (as := []) (st := []) cs_L_23 (ci := 10) ⟨rfl, rfl⟩ rfl rfl hz (by omega) (by decide) dL_law_259 e_b2 (M_X11_fault e_H1) ?_
  refine x_aload_n hz dL_law_262 rfl ?_
  obtain ⟨b5, e_b5, h⟩ := x_bnd h
  obtain ⟨v6, H4, e_H4, h⟩ := x_b2 h
  refine x_callVi (as := []) (st := [.int v3]) cs_L_27 (ci := 11) ⟨rfl, rfl⟩ rfl rfl hz (by omega) (Nat.le_trans (x_sm1 rfl x_sm0) (by decide)) dL_law_263 e_b5 (M_X12_fault e_H4) ?_
  refine x_icmp_eq (t := 1087) hz dL_law_266 (by decide) (fun c7 => ?_) (fun c7 => ?_)
  · replace h := x_ip c7 h
    exact x_wk (xwk_c (xwk_c (xwk_c (xwk_c xwk_0)))) ((P_L_law_J1087 hZ hk18) x1 x2 x3 H4 h)
  · replace h := x_in c7 h
    refine x_iconst (v := (0 : Int32)) hz dL_law_269 (by decide) ?_
    exact (x_l01 h).elim
noncomputable def F_L_law_J271 (N : Nat) (L : Nat) (xs : Nat → Int32) (k18 : (Option Nat) → (Option Nat) → Int32 → xH → Option (Int32 × xH)) (x1 : (Option Nat)) (x2 : (Option Nat)) (x3 : Int32) (H : xH) : Option (Int32 × xH) :=
  (xlS L xs (x3 + (1 : Int32))).bind fun v1 =>
  (xob H x1 10).bind fun b3 =>
  x_bd2 (F_X11_told N x1 v1 H) fun v4 H2 =>
  (xlS L xs (x3 + (1 : Int32))).bind fun v5 =>
  (xob H2 x2 11).bind fun b7 =>
  x_bd2 (F_X12_told N x2 v5 H2) fun v8 H6 =>
  if v4 = v8 then ((F_L_law_J1087 N L xs k18) x1 x2 x3 H6) else (some ((0 : Int32), H6))
set_option maxRecDepth 20000 in
set_option maxHeartbeats 4000000 in
theorem P_L_law_J271 {N : Nat} {Z : xZ} {b L : Nat} {xs : Nat → Int32} {nm : String} {Hf : xH} (hZ : Z = xZl nm 53 b L xs Hf) {k18 : (Option Nat) → (Option Nat) → Int32 → xH → Option (Int32 × xH)} (hk18 : ∀ (x1 : (Option Nat)) (x2 : (Option Nat)) (x3 : Int32) (H : xH), k18 x1 x2 x3 H = some (1, Hf) → xWq Z H 18 [xA (some b), xA x1, xA x2, xI x3] []) : ∀ (x1 : (Option Nat)) (x2 : (Option Nat)) (x3 : Int32) (H : xH), F_L_law_J271 N L xs k18 x1 x2 x3 H = some (1, Hf) → xWq Z H 271 [xA (some b), xA x1, xA x2, xI x3] [] := by
  have hz : Z.1 = (cL_law, (⟨RL, nm, "([I)Z"⟩ : MethodName), 4) := by rw [hZ]; rfl
  have hδ : Z.2.1 = 53 := by rw [hZ]; rfl
  have hK : Z.2.2.2.2 = xKl b L xs := by rw [hZ]; rfl
  intro x1 x2 x3 H h
  unfold F_L_law_J271 at h
  refine x_aload_n hz dL_law_271 rfl ?_
  refine x_aload_n hz dL_law_272 rfl ?_
  refine x_iload_n hz dL_law_273 rfl ?_
  refine x_iconst (v := (1 : Int32)) hz dL_law_274 (by decide) ?_
  refine x_iadd hz dL_law_275 ?_
  obtain ⟨v1, e_v1, h⟩ := x_bnd h
  refine x_sald hK hz dL_law_276 e_v1 ?_
  obtain ⟨b3, e_b3, h⟩ := x_bnd h
  obtain ⟨v4, H2, e_H2, h⟩ := x_b2 h
  refine x_callVi (as := [.inl v1]) (st := []) cs_L_28 (ci := 10) ⟨rfl, rfl⟩ rfl rfl hz (by omega) (by decide) dL_law_277 e_b3 (M_X11_told e_H2) ?_
  refine x_aload_n hz dL_law_280 rfl ?_
  refine x_aload_n hz dL_law_281 rfl ?_
  refine x_iload_n hz dL_law_282 rfl ?_
  refine x_iconst (v := (1 : Int32)) hz dL_law_283 (by decide) ?_
  refine x_iadd hz dL_law_284 ?_
  obtain ⟨v5, e_v5, h⟩ := x_bnd h
  refine x_sald hK hz dL_law_285 e_v5 ?_
  obtain ⟨b7, e_b7, h⟩ := x_bnd h
  obtain ⟨v8, H6, e_H6, h⟩ := x_b2 h
  refine x_callVi (as := [.inl v5]) (st := [.int v4]) cs_L_31 (ci := 11) ⟨rfl, rfl⟩ rfl rfl hz (by omega) (Nat.le_trans (x_sm1 rfl x_sm0) (by decide)) dL_law_286 e_b7 (M_X12_told e_H6) ?_
  refine x_icmp_eq (t := 1087) hz dL_law_289 (by decide) (fun c9 => ?_) (fun c9 => ?_)
  · replace h := x_ip c9 h
    exact x_wk (xwk_c (xwk_c (xwk_c (xwk_c xwk_0)))) ((P_L_law_J1087 hZ hk18) x1 x2 x3 H6 h)
  · replace h := x_in c9 h
    refine x_iconst (v := (0 : Int32)) hz dL_law_292 (by decide) ?_
    exact (x_l01 h).elim
noncomputable def F_L_law_J294 (N : Nat) (L : Nat) (xs : Nat → Int32) (k18 : (Option Nat) → (Option Nat) → Int32 → xH → Option (Int32 × xH)) (x1 : (Option Nat)) (x2 : (Option Nat)) (x3 : Int32) (H : xH) : Option (Int32 × xH) :=
  (xlS L xs (x3 + (1 : Int32))).bind fun v1 =>
  (xlS L xs (x3 + (2 : Int32))).bind fun v2 =>
  (xob H x1 10).bind fun b4 =>
  x_bd2 (F_X11_wager N x1 v1 v2 H) fun v5 H3 =>
  (xlS L xs (x3 + (1 : Int32))).bind fun v6 =>
  (xlS L xs (x3 + (2 : Int32))).bind fun v7 =>
  (xob H3 x2 11).bind fun b9 =>
  x_bd2 (F_X12_wager N x2 v6 v7 H3) fun v10 H8 =>
  if v5 = v10 then ((F_L_law_J1087 N L xs k18) x1 x2 x3 H8) else (some ((0 : Int32), H8))
set_option maxRecDepth 20000 in
set_option maxHeartbeats 4000000 in
theorem P_L_law_J294 {N : Nat} {Z : xZ} {b L : Nat} {xs : Nat → Int32} {nm : String} {Hf : xH} (hZ : Z = xZl nm 53 b L xs Hf) {k18 : (Option Nat) → (Option Nat) → Int32 → xH → Option (Int32 × xH)} (hk18 : ∀ (x1 : (Option Nat)) (x2 : (Option Nat)) (x3 : Int32) (H : xH), k18 x1 x2 x3 H = some (1, Hf) → xWq Z H 18 [xA (some b), xA x1, xA x2, xI x3] []) : ∀ (x1 : (Option Nat)) (x2 : (Option Nat)) (x3 : Int32) (H : xH), F_L_law_J294 N L xs k18 x1 x2 x3 H = some (1, Hf) → xWq Z H 294 [xA (some b), xA x1, xA x2, xI x3] [] := by
  have hz : Z.1 = (cL_law, (⟨RL, nm, "([I)Z"⟩ : MethodName), 4) := by rw [hZ]; rfl
  have hδ : Z.2.1 = 53 := by rw [hZ]; rfl
  have hK : Z.2.2.2.2 = xKl b L xs := by rw [hZ]; rfl
  intro x1 x2 x3 H h
  unfold F_L_law_J294 at h
  refine x_aload_n hz dL_law_294 rfl ?_
  refine x_aload_n hz dL_law_295 rfl ?_
  refine x_iload_n hz dL_law_296 rfl ?_
  refine x_iconst (v := (1 : Int32)) hz dL_law_297 (by decide) ?_
  refine x_iadd hz dL_law_298 ?_
  obtain ⟨v1, e_v1, h⟩ := x_bnd h
  refine x_sald hK hz dL_law_299 e_v1 ?_
  refine x_aload_n hz dL_law_300 rfl ?_
  refine x_iload_n hz dL_law_301 rfl ?_
  refine x_iconst (v := (2 : Int32)) hz dL_law_302 (by decide) ?_
  refine x_iadd hz dL_law_303 ?_
  obtain ⟨v2, e_v2, h⟩ := x_bnd h
  refine x_sald hK hz dL_law_304 e_v2 ?_
  obtain ⟨b4, e_b4, h⟩ := x_bnd h
  obtain ⟨v5, H3, e_H3, h⟩ := x_b2 h
  refine x_callVi (as := [.inl v1, .inl v2]) (st := []) cs_L_32 (ci := 10) ⟨rfl, rfl⟩ rfl rfl hz (by omega) (by decide) dL_law_305 e_b4 (M_X11_wager e_H3) ?_
  refine x_aload_n hz dL_law_308 rfl ?_
  refine x_aload_n hz dL_law_309 rfl ?_
  refine x_iload_n hz dL_law_310 rfl ?_
  refine x_iconst (v := (1 : Int32)) hz dL_law_311 (by decide) ?_
  refine x_iadd hz dL_law_312 ?_
  obtain ⟨v6, e_v6, h⟩ := x_bnd h
  refine x_sald hK hz dL_law_313 e_v6 ?_
  refine x_aload_n hz dL_law_314 rfl ?_
  refine x_iload_n hz dL_law_315 rfl ?_
  refine x_iconst (v := (2 : Int32)) hz dL_law_316 (by decide) ?_
  refine x_iadd hz dL_law_317 ?_
  obtain ⟨v7, e_v7, h⟩ := x_bnd h
  refine x_sald hK hz dL_law_318 e_v7 ?_
  obtain ⟨b9, e_b9, h⟩ := x_bnd h
  obtain ⟨v10, H8, e_H8, h⟩ := x_b2 h
  refine x_callVi (as := [.inl v6, .inl v7]) (st := [.int v5]) cs_L_36 (ci := 11) ⟨rfl, rfl⟩ rfl rfl hz (by omega) (Nat.le_trans (x_sm1 rfl x_sm0) (by decide)) dL_law_319 e_b9 (M_X12_wager e_H8) ?_
  refine x_icmp_eq (t := 1087) hz dL_law_322 (by decide) (fun c11 => ?_) (fun c11 => ?_)
  · replace h := x_ip c11 h
    exact x_wk (xwk_c (xwk_c (xwk_c (xwk_c xwk_0)))) ((P_L_law_J1087 hZ hk18) x1 x2 x3 H8 h)
  · replace h := x_in c11 h
    refine x_iconst (v := (0 : Int32)) hz dL_law_325 (by decide) ?_
    exact (x_l01 h).elim
noncomputable def F_L_law_J327 (N : Nat) (L : Nat) (xs : Nat → Int32) (k18 : (Option Nat) → (Option Nat) → Int32 → xH → Option (Int32 × xH)) (x1 : (Option Nat)) (x2 : (Option Nat)) (x3 : Int32) (H : xH) : Option (Int32 × xH) :=
  (xlS L xs (x3 + (1 : Int32))).bind fun v1 =>
  (xob H x1 10).bind fun b3 =>
  x_bd2 (F_X11_day N x1 v1 H) fun v4 H2 =>
  (xlS L xs (x3 + (1 : Int32))).bind fun v5 =>
  (xob H2 x2 11).bind fun b7 =>
  x_bd2 (F_X12_day N x2 v5 H2) fun v8 H6 =>
  if v4 = v8 then ((F_L_law_J1087 N L xs k18) x1 x2 x3 H6) else (some ((0 : Int32), H6))
set_option maxRecDepth 20000 in
set_option maxHeartbeats 4000000 in
theorem P_L_law_J327 {N : Nat} {Z : xZ} {b L : Nat} {xs : Nat → Int32} {nm : String} {Hf : xH} (hZ : Z = xZl nm 53 b L xs Hf) {k18 : (Option Nat) → (Option Nat) → Int32 → xH → Option (Int32 × xH)} (hk18 : ∀ (x1 : (Option Nat)) (x2 : (Option Nat)) (x3 : Int32) (H : xH), k18 x1 x2 x3 H = some (1, Hf) → xWq Z H 18 [xA (some b), xA x1, xA x2, xI x3] []) : ∀ (x1 : (Option Nat)) (x2 : (Option Nat)) (x3 : Int32) (H : xH), F_L_law_J327 N L xs k18 x1 x2 x3 H = some (1, Hf) → xWq Z H 327 [xA (some b), xA x1, xA x2, xI x3] [] := by
  have hz : Z.1 = (cL_law, (⟨RL, nm, "([I)Z"⟩ : MethodName), 4) := by rw [hZ]; rfl
  have hδ : Z.2.1 = 53 := by rw [hZ]; rfl
  have hK : Z.2.2.2.2 = xKl b L xs := by rw [hZ]; rfl
  intro x1 x2 x3 H h
  unfold F_L_law_J327 at h
  refine x_aload_n hz dL_law_327 rfl ?_
  refine x_aload_n hz dL_law_328 rfl ?_
  refine x_iload_n hz dL_law_329 rfl ?_
  refine x_iconst (v := (1 : Int32)) hz dL_law_330 (by decide) ?_
  refine x_iadd hz dL_law_331 ?_
  obtain ⟨v1, e_v1, h⟩ := x_bnd h
  refine x_sald hK hz dL_law_332 e_v1 ?_
  obtain ⟨b3, e_b3, h⟩ := x_bnd h
  obtain ⟨v4, H2, e_H2, h⟩ := x_b2 h
  refine x_callVi (as := [.inl v1]) (st := []) cs_L_37 (ci := 10) ⟨rfl, rfl⟩ rfl rfl hz (by omega) (by decide) dL_law_333 e_b3 (M_X11_day e_H2) ?_
  refine x_aload_n hz dL_law_336 rfl ?_
  refine x_aload_n hz dL_law_337 rfl ?_
  refine x_iload_n hz dL_law_338 rfl ?_
  refine x_iconst (v := (1 : Int32)) hz dL_law_339 (by decide) ?_
  refine x_iadd hz dL_law_340 ?_
  obtain ⟨v5, e_v5, h⟩ := x_bnd h
  refine x_sald hK hz dL_law_341 e_v5 ?_
  obtain ⟨b7, e_b7, h⟩ := x_bnd h
  obtain ⟨v8, H6, e_H6, h⟩ := x_b2 h
  refine x_callVi (as := [.inl v5]) (st := [.int v4]) cs_L_40 (ci := 11) ⟨rfl, rfl⟩ rfl rfl hz (by omega) (Nat.le_trans (x_sm1 rfl x_sm0) (by decide)) dL_law_342 e_b7 (M_X12_day e_H6) ?_
  refine x_icmp_eq (t := 1087) hz dL_law_345 (by decide) (fun c9 => ?_) (fun c9 => ?_)
  · replace h := x_ip c9 h
    exact x_wk (xwk_c (xwk_c (xwk_c (xwk_c xwk_0)))) ((P_L_law_J1087 hZ hk18) x1 x2 x3 H6 h)
  · replace h := x_in c9 h
    refine x_iconst (v := (0 : Int32)) hz dL_law_348 (by decide) ?_
    exact (x_l01 h).elim
noncomputable def F_L_law_J350 (N : Nat) (L : Nat) (xs : Nat → Int32) (k18 : (Option Nat) → (Option Nat) → Int32 → xH → Option (Int32 × xH)) (x1 : (Option Nat)) (x2 : (Option Nat)) (x3 : Int32) (H : xH) : Option (Int32 × xH) :=
  (xlS L xs (x3 + (1 : Int32))).bind fun v1 =>
  (xob H x1 10).bind fun b3 =>
  x_bd2 (F_X11_come N x1 v1 H) fun v4 H2 =>
  (xlS L xs (x3 + (1 : Int32))).bind fun v5 =>
  (xob H2 x2 11).bind fun b7 =>
  x_bd2 (F_X12_come N x2 v5 H2) fun v8 H6 =>
  if v4 = v8 then ((F_L_law_J1087 N L xs k18) x1 x2 x3 H6) else (some ((0 : Int32), H6))
set_option maxRecDepth 20000 in
set_option maxHeartbeats 4000000 in
theorem P_L_law_J350 {N : Nat} {Z : xZ} {b L : Nat} {xs : Nat → Int32} {nm : String} {Hf : xH} (hZ : Z = xZl nm 53 b L xs Hf) {k18 : (Option Nat) → (Option Nat) → Int32 → xH → Option (Int32 × xH)} (hk18 : ∀ (x1 : (Option Nat)) (x2 : (Option Nat)) (x3 : Int32) (H : xH), k18 x1 x2 x3 H = some (1, Hf) → xWq Z H 18 [xA (some b), xA x1, xA x2, xI x3] []) : ∀ (x1 : (Option Nat)) (x2 : (Option Nat)) (x3 : Int32) (H : xH), F_L_law_J350 N L xs k18 x1 x2 x3 H = some (1, Hf) → xWq Z H 350 [xA (some b), xA x1, xA x2, xI x3] [] := by
  have hz : Z.1 = (cL_law, (⟨RL, nm, "([I)Z"⟩ : MethodName), 4) := by rw [hZ]; rfl
  have hδ : Z.2.1 = 53 := by rw [hZ]; rfl
  have hK : Z.2.2.2.2 = xKl b L xs := by rw [hZ]; rfl
  intro x1 x2 x3 H h
  unfold F_L_law_J350 at h
  refine x_aload_n hz dL_law_350 rfl ?_
  refine x_aload_n hz dL_law_351 rfl ?_
  refine x_iload_n hz dL_law_352 rfl ?_
  refine x_iconst (v := (1 : Int32)) hz dL_law_353 (by decide) ?_
  refine x_iadd hz dL_law_354 ?_
  obtain ⟨v1, e_v1, h⟩ := x_bnd h
  refine x_sald hK hz dL_law_355 e_v1 ?_
  obtain ⟨b3, e_b3, h⟩ := x_bnd h
  obtain ⟨v4, H2, e_H2, h⟩ := x_b2 h
  refine x_callVi (as := [.inl v1]) (st := []) cs_L_41 (ci := 10) ⟨rfl, rfl⟩ rfl rfl hz (by omega) (by decide) dL_law_356 e_b3 (M_X11_come e_H2) ?_
  refine x_aload_n hz dL_law_359 rfl ?_
  refine x_aload_n hz dL_law_360 rfl ?_
  refine x_iload_n hz dL_law_361 rfl ?_
  refine x_iconst (v := (1 : Int32)) hz dL_law_362 (by decide) ?_
  refine x_iadd hz dL_law_363 ?_
  obtain ⟨v5, e_v5, h⟩ := x_bnd h
  refine x_sald hK hz dL_law_364 e_v5 ?_
  obtain ⟨b7, e_b7, h⟩ := x_bnd h
  obtain ⟨v8, H6, e_H6, h⟩ := x_b2 h
  refine x_callVi (as := [.inl v5]) (st := [.int v4]) cs_L_44 (ci := 11) ⟨rfl, rfl⟩ rfl rfl hz (by omega) (Nat.le_trans (x_sm1 rfl x_sm0) (by decide)) dL_law_365 e_b7 (M_X12_come e_H6) ?_
  refine x_icmp_eq (t := 1087) hz dL_law_368 (by decide) (fun c9 => ?_) (fun c9 => ?_)
  · replace h := x_ip c9 h
    exact x_wk (xwk_c (xwk_c (xwk_c (xwk_c xwk_0)))) ((P_L_law_J1087 hZ hk18) x1 x2 x3 H6 h)
  · replace h := x_in c9 h
    refine x_iconst (v := (0 : Int32)) hz dL_law_371 (by decide) ?_
    exact (x_l01 h).elim
noncomputable def F_L_law_J373 (N : Nat) (L : Nat) (xs : Nat → Int32) (k18 : (Option Nat) → (Option Nat) → Int32 → xH → Option (Int32 × xH)) (x1 : (Option Nat)) (x2 : (Option Nat)) (x3 : Int32) (H : xH) : Option (Int32 × xH) :=
  (xlS L xs (x3 + (1 : Int32))).bind fun v1 =>
  (xlS L xs (x3 + (2 : Int32))).bind fun v2 =>
  (xlS L xs (x3 + (3 : Int32))).bind fun v3 =>
  (xob H x1 10).bind fun b5 =>
  x_bd2 (F_X11_chance N x1 v1 v2 v3 H) fun v6 H4 =>
  (xlS L xs (x3 + (1 : Int32))).bind fun v7 =>
  (xlS L xs (x3 + (2 : Int32))).bind fun v8 =>
  (xlS L xs (x3 + (3 : Int32))).bind fun v9 =>
  (xob H4 x2 11).bind fun b11 =>
  x_bd2 (F_X12_chance N x2 v7 v8 v9 H4) fun v12 H10 =>
  if v6 = v12 then ((F_L_law_J1087 N L xs k18) x1 x2 x3 H10) else (some ((0 : Int32), H10))
set_option maxRecDepth 20000 in
set_option maxHeartbeats 4000000 in
theorem P_L_law_J373 {N : Nat} {Z : xZ} {b L : Nat} {xs : Nat → Int32} {nm : String} {Hf : xH} (hZ : Z = xZl nm 53 b L xs Hf) {k18 : (Option Nat) → (Option Nat) → Int32 → xH → Option (Int32 × xH)} (hk18 : ∀ (x1 : (Option Nat)) (x2 : (Option Nat)) (x3 : Int32) (H : xH), k18 x1 x2 x3 H = some (1, Hf) → xWq Z H 18 [xA (some b), xA x1, xA x2, xI x3] []) : ∀ (x1 : (Option Nat)) (x2 : (Option Nat)) (x3 : Int32) (H : xH), F_L_law_J373 N L xs k18 x1 x2 x3 H = some (1, Hf) → xWq Z H 373 [xA (some b), xA x1, xA x2, xI x3] [] := by
  have hz : Z.1 = (cL_law, (⟨RL, nm, "([I)Z"⟩ : MethodName), 4) := by rw [hZ]; rfl
  have hδ : Z.2.1 = 53 := by rw [hZ]; rfl
  have hK : Z.2.2.2.2 = xKl b L xs := by rw [hZ]; rfl
  intro x1 x2 x3 H h
  unfold F_L_law_J373 at h
  refine x_aload_n hz dL_law_373 rfl ?_
  refine x_aload_n hz dL_law_374 rfl ?_
  refine x_iload_n hz dL_law_375 rfl ?_
  refine x_iconst (v := (1 : Int32)) hz dL_law_376 (by decide) ?_
  refine x_iadd hz dL_law_377 ?_
  obtain ⟨v1, e_v1, h⟩ := x_bnd h
  refine x_sald hK hz dL_law_378 e_v1 ?_
  refine x_aload_n hz dL_law_379 rfl ?_
  refine x_iload_n hz dL_law_380 rfl ?_
  refine x_iconst (v := (2 : Int32)) hz dL_law_381 (by decide) ?_
  refine x_iadd hz dL_law_382 ?_
  obtain ⟨v2, e_v2, h⟩ := x_bnd h
  refine x_sald hK hz dL_law_383 e_v2 ?_
  refine x_aload_n hz dL_law_384 rfl ?_
  refine x_iload_n hz dL_law_385 rfl ?_
  refine x_iconst (v := (3 : Int32)) hz dL_law_386 (by decide) ?_
  refine x_iadd hz dL_law_387 ?_
  obtain ⟨v3, e_v3, h⟩ := x_bnd h
  refine x_sald hK hz dL_law_388 e_v3 ?_
  obtain ⟨b5, e_b5, h⟩ := x_bnd h
  obtain ⟨v6, H4, e_H4, h⟩ := x_b2 h
  refine x_callVi (as := [.inl v1, .inl v2, .inl v3]) (st := []) cs_L_45 (ci := 10) ⟨rfl, rfl⟩ rfl rfl hz (by omega) (by decide) dL_law_389 e_b5 (M_X11_chance e_H4) ?_
  refine x_aload_n hz dL_law_392 rfl ?_
  refine x_aload_n hz dL_law_393 rfl ?_
  refine x_iload_n hz dL_law_394 rfl ?_
  refine x_iconst (v := (1 : Int32)) hz dL_law_395 (by decide) ?_
  refine x_iadd hz dL_law_396 ?_
  obtain ⟨v7, e_v7, h⟩ := x_bnd h
  refine x_sald hK hz dL_law_397 e_v7 ?_
  refine x_aload_n hz dL_law_398 rfl ?_
  refine x_iload_n hz dL_law_399 rfl ?_
  refine x_iconst (v := (2 : Int32)) hz dL_law_400 (by decide) ?_
  refine x_iadd hz dL_law_401 ?_
  obtain ⟨v8, e_v8, h⟩ := x_bnd h
  refine x_sald hK hz dL_law_402 e_v8 ?_
  refine x_aload_n hz dL_law_403 rfl ?_
  refine x_iload_n hz dL_law_404 rfl ?_
  refine x_iconst (v := (3 : Int32)) hz dL_law_405 (by decide) ?_
  refine x_iadd hz dL_law_406 ?_
  obtain ⟨v9, e_v9, h⟩ := x_bnd h
  refine x_sald hK hz dL_law_407 e_v9 ?_
  obtain ⟨b11, e_b11, h⟩ := x_bnd h
  obtain ⟨v12, H10, e_H10, h⟩ := x_b2 h
  refine x_callVi (as := [.inl v7, .inl v8, .inl v9]) (st := [.int v6]) cs_L_49 (ci := 11) ⟨rfl, rfl⟩ rfl rfl hz (by omega) (Nat.le_trans (x_sm1 rfl x_sm0) (by decide)) dL_law_408 e_b11 (M_X12_chance e_H10) ?_
  refine x_icmp_eq (t := 1087) hz dL_law_411 (by decide) (fun c13 => ?_) (fun c13 => ?_)
  · replace h := x_ip c13 h
    exact x_wk (xwk_c (xwk_c (xwk_c (xwk_c xwk_0)))) ((P_L_law_J1087 hZ hk18) x1 x2 x3 H10 h)
  · replace h := x_in c13 h
    refine x_iconst (v := (0 : Int32)) hz dL_law_414 (by decide) ?_
    exact (x_l01 h).elim
noncomputable def F_L_law_J416 (N : Nat) (L : Nat) (xs : Nat → Int32) (k18 : (Option Nat) → (Option Nat) → Int32 → xH → Option (Int32 × xH)) (x1 : (Option Nat)) (x2 : (Option Nat)) (x3 : Int32) (H : xH) : Option (Int32 × xH) :=
  (xlS L xs (x3 + (1 : Int32))).bind fun v1 =>
  (xlS L xs (x3 + (2 : Int32))).bind fun v2 =>
  (xlS L xs (x3 + (3 : Int32))).bind fun v3 =>
  (xlS L xs (x3 + (4 : Int32))).bind fun v4 =>
  (xob H x1 10).bind fun b6 =>
  x_bd2 (F_X11_sell N x1 v1 v2 v3 v4 H) fun v7 H5 =>
  (xlS L xs (x3 + (1 : Int32))).bind fun v8 =>
  (xlS L xs (x3 + (2 : Int32))).bind fun v9 =>
  (xlS L xs (x3 + (3 : Int32))).bind fun v10 =>
  (xlS L xs (x3 + (4 : Int32))).bind fun v11 =>
  (xob H5 x2 11).bind fun b13 =>
  x_bd2 (F_X12_sell N x2 v8 v9 v10 v11 H5) fun v14 H12 =>
  if v7 = v14 then ((F_L_law_J1087 N L xs k18) x1 x2 x3 H12) else (some ((0 : Int32), H12))
set_option maxRecDepth 20000 in
set_option maxHeartbeats 4000000 in
theorem P_L_law_J416 {N : Nat} {Z : xZ} {b L : Nat} {xs : Nat → Int32} {nm : String} {Hf : xH} (hZ : Z = xZl nm 53 b L xs Hf) {k18 : (Option Nat) → (Option Nat) → Int32 → xH → Option (Int32 × xH)} (hk18 : ∀ (x1 : (Option Nat)) (x2 : (Option Nat)) (x3 : Int32) (H : xH), k18 x1 x2 x3 H = some (1, Hf) → xWq Z H 18 [xA (some b), xA x1, xA x2, xI x3] []) : ∀ (x1 : (Option Nat)) (x2 : (Option Nat)) (x3 : Int32) (H : xH), F_L_law_J416 N L xs k18 x1 x2 x3 H = some (1, Hf) → xWq Z H 416 [xA (some b), xA x1, xA x2, xI x3] [] := by
  have hz : Z.1 = (cL_law, (⟨RL, nm, "([I)Z"⟩ : MethodName), 4) := by rw [hZ]; rfl
  have hδ : Z.2.1 = 53 := by rw [hZ]; rfl
  have hK : Z.2.2.2.2 = xKl b L xs := by rw [hZ]; rfl
  intro x1 x2 x3 H h
  unfold F_L_law_J416 at h
  refine x_aload_n hz dL_law_416 rfl ?_
  refine x_aload_n hz dL_law_417 rfl ?_
  refine x_iload_n hz dL_law_418 rfl ?_
  refine x_iconst (v := (1 : Int32)) hz dL_law_419 (by decide) ?_
  refine x_iadd hz dL_law_420 ?_
  obtain ⟨v1, e_v1, h⟩ := x_bnd h
  refine x_sald hK hz dL_law_421 e_v1 ?_
  refine x_aload_n hz dL_law_422 rfl ?_
  refine x_iload_n hz dL_law_423 rfl ?_
  refine x_iconst (v := (2 : Int32)) hz dL_law_424 (by decide) ?_
  refine x_iadd hz dL_law_425 ?_
  obtain ⟨v2, e_v2, h⟩ := x_bnd h
  refine x_sald hK hz dL_law_426 e_v2 ?_
  refine x_aload_n hz dL_law_427 rfl ?_
  refine x_iload_n hz dL_law_428 rfl ?_
  refine x_iconst (v := (3 : Int32)) hz dL_law_429 (by decide) ?_
  refine x_iadd hz dL_law_430 ?_
  obtain ⟨v3, e_v3, h⟩ := x_bnd h
  refine x_sald hK hz dL_law_431 e_v3 ?_
  refine x_aload_n hz dL_law_432 rfl ?_
  refine x_iload_n hz dL_law_433 rfl ?_
  refine x_iconst (v := (4 : Int32)) hz dL_law_434 (by decide) ?_
  refine x_iadd hz dL_law_435 ?_
  obtain ⟨v4, e_v4, h⟩ := x_bnd h
  refine x_sald hK hz dL_law_436 e_v4 ?_
  obtain ⟨b6, e_b6, h⟩ := x_bnd h
  obtain ⟨v7, H5, e_H5, h⟩ := x_b2 h
  refine x_callVi (as := [.inl v1, .inl v2, .inl v3, .inl v4]) (st := []) cs_L_50 (ci := 10) ⟨rfl, rfl⟩ rfl rfl hz (by omega) (by decide) dL_law_437 e_b6 (M_X11_sell e_H5) ?_
  refine x_aload_n hz dL_law_440 rfl ?_
  refine x_aload_n hz dL_law_441 rfl ?_
  refine x_iload_n hz dL_law_442 rfl ?_
  refine x_iconst (v := (1 : Int32)) hz dL_law_443 (by decide) ?_
  refine x_iadd hz dL_law_444 ?_
  obtain ⟨v8, e_v8, h⟩ := x_bnd h
  refine x_sald hK hz dL_law_445 e_v8 ?_
  refine x_aload_n hz dL_law_446 rfl ?_
  refine x_iload_n hz dL_law_447 rfl ?_
  refine x_iconst (v := (2 : Int32)) hz dL_law_448 (by decide) ?_
  refine x_iadd hz dL_law_449 ?_
  obtain ⟨v9, e_v9, h⟩ := x_bnd h
  refine x_sald hK hz dL_law_450 e_v9 ?_
  refine x_aload_n hz dL_law_451 rfl ?_
  refine x_iload_n hz dL_law_452 rfl ?_
  refine x_iconst (v := (3 : Int32)) hz dL_law_453 (by decide) ?_
  refine x_iadd hz dL_law_454 ?_
  obtain ⟨v10, e_v10, h⟩ := x_bnd h
  refine x_sald hK hz dL_law_455 e_v10 ?_
  refine x_aload_n hz dL_law_456 rfl ?_
  refine x_iload_n hz dL_law_457 rfl ?_
  refine x_iconst (v := (4 : Int32)) hz dL_law_458 (by decide) ?_
  refine x_iadd hz dL_law_459 ?_
  obtain ⟨v11, e_v11, h⟩ := x_bnd h
  refine x_sald hK hz dL_law_460 e_v11 ?_
  obtain ⟨b13, e_b13, h⟩ := x_bnd h
  obtain ⟨v14, H12, e_H12, h⟩ := x_b2 h
  refine x_callVi (as := [.inl v8, .inl v9, .inl v10, .inl v11]) (st := [.int v7]) cs_L_54 (ci := 11) ⟨rfl, rfl⟩ rfl rfl hz (by omega) (Nat.le_trans (x_sm1 rfl x_sm0) (by decide)) dL_law_461 e_b13 (M_X12_sell e_H12) ?_
  refine x_icmp_eq (t := 1087) hz dL_law_464 (by decide) (fun c15 => ?_) (fun c15 => ?_)
  · replace h := x_ip c15 h
    exact x_wk (xwk_c (xwk_c (xwk_c (xwk_c xwk_0)))) ((P_L_law_J1087 hZ hk18) x1 x2 x3 H12 h)
  · replace h := x_in c15 h
    refine x_iconst (v := (0 : Int32)) hz dL_law_467 (by decide) ?_
    exact (x_l01 h).elim
noncomputable def F_L_law_J469 (N : Nat) (L : Nat) (xs : Nat → Int32) (k18 : (Option Nat) → (Option Nat) → Int32 → xH → Option (Int32 × xH)) (x1 : (Option Nat)) (x2 : (Option Nat)) (x3 : Int32) (H : xH) : Option (Int32 × xH) :=
  (xlS L xs (x3 + (1 : Int32))).bind fun v1 =>
  (xlS L xs (x3 + (2 : Int32))).bind fun v2 =>
  (xlS L xs (x3 + (3 : Int32))).bind fun v3 =>
  (xob H x1 10).bind fun b5 =>
  x_bd2 (F_X11_paid N x1 v1 v2 v3 H) fun v6 H4 =>
  (xlS L xs (x3 + (1 : Int32))).bind fun v7 =>
  (xlS L xs (x3 + (2 : Int32))).bind fun v8 =>
  (xlS L xs (x3 + (3 : Int32))).bind fun v9 =>
  (xob H4 x2 11).bind fun b11 =>
  x_bd2 (F_X12_paid N x2 v7 v8 v9 H4) fun v12 H10 =>
  if v6 = v12 then ((F_L_law_J1087 N L xs k18) x1 x2 x3 H10) else (some ((0 : Int32), H10))
set_option maxRecDepth 20000 in
set_option maxHeartbeats 4000000 in
theorem P_L_law_J469 {N : Nat} {Z : xZ} {b L : Nat} {xs : Nat → Int32} {nm : String} {Hf : xH} (hZ : Z = xZl nm 53 b L xs Hf) {k18 : (Option Nat) → (Option Nat) → Int32 → xH → Option (Int32 × xH)} (hk18 : ∀ (x1 : (Option Nat)) (x2 : (Option Nat)) (x3 : Int32) (H : xH), k18 x1 x2 x3 H = some (1, Hf) → xWq Z H 18 [xA (some b), xA x1, xA x2, xI x3] []) : ∀ (x1 : (Option Nat)) (x2 : (Option Nat)) (x3 : Int32) (H : xH), F_L_law_J469 N L xs k18 x1 x2 x3 H = some (1, Hf) → xWq Z H 469 [xA (some b), xA x1, xA x2, xI x3] [] := by
  have hz : Z.1 = (cL_law, (⟨RL, nm, "([I)Z"⟩ : MethodName), 4) := by rw [hZ]; rfl
  have hδ : Z.2.1 = 53 := by rw [hZ]; rfl
  have hK : Z.2.2.2.2 = xKl b L xs := by rw [hZ]; rfl
  intro x1 x2 x3 H h
  unfold F_L_law_J469 at h
  refine x_aload_n hz dL_law_469 rfl ?_
  refine x_aload_n hz dL_law_470 rfl ?_
  refine x_iload_n hz dL_law_471 rfl ?_
  refine x_iconst (v := (1 : Int32)) hz dL_law_472 (by decide) ?_
  refine x_iadd hz dL_law_473 ?_
  obtain ⟨v1, e_v1, h⟩ := x_bnd h
  refine x_sald hK hz dL_law_474 e_v1 ?_
  refine x_aload_n hz dL_law_475 rfl ?_
  refine x_iload_n hz dL_law_476 rfl ?_
  refine x_iconst (v := (2 : Int32)) hz dL_law_477 (by decide) ?_
  refine x_iadd hz dL_law_478 ?_
  obtain ⟨v2, e_v2, h⟩ := x_bnd h
  refine x_sald hK hz dL_law_479 e_v2 ?_
  refine x_aload_n hz dL_law_480 rfl ?_
  refine x_iload_n hz dL_law_481 rfl ?_
  refine x_iconst (v := (3 : Int32)) hz dL_law_482 (by decide) ?_
  refine x_iadd hz dL_law_483 ?_
  obtain ⟨v3, e_v3, h⟩ := x_bnd h
  refine x_sald hK hz dL_law_484 e_v3 ?_
  obtain ⟨b5, e_b5, h⟩ := x_bnd h
  obtain ⟨v6, H4, e_H4, h⟩ := x_b2 h
  refine x_callVi (as := [.inl v1, .inl v2, .inl v3]) (st := []) cs_L_55 (ci := 10) ⟨rfl, rfl⟩ rfl rfl hz (by omega) (by decide) dL_law_485 e_b5 (M_X11_paid e_H4) ?_
  refine x_aload_n hz dL_law_488 rfl ?_
  refine x_aload_n hz dL_law_489 rfl ?_
  refine x_iload_n hz dL_law_490 rfl ?_
  refine x_iconst (v := (1 : Int32)) hz dL_law_491 (by decide) ?_
  refine x_iadd hz dL_law_492 ?_
  obtain ⟨v7, e_v7, h⟩ := x_bnd h
  refine x_sald hK hz dL_law_493 e_v7 ?_
  refine x_aload_n hz dL_law_494 rfl ?_
  refine x_iload_n hz dL_law_495 rfl ?_
  refine x_iconst (v := (2 : Int32)) hz dL_law_496 (by decide) ?_
  refine x_iadd hz dL_law_497 ?_
  obtain ⟨v8, e_v8, h⟩ := x_bnd h
  refine x_sald hK hz dL_law_498 e_v8 ?_
  refine x_aload_n hz dL_law_499 rfl ?_
  refine x_iload_n hz dL_law_500 rfl ?_
  refine x_iconst (v := (3 : Int32)) hz dL_law_501 (by decide) ?_
  refine x_iadd hz dL_law_502 ?_
  obtain ⟨v9, e_v9, h⟩ := x_bnd h
  refine x_sald hK hz dL_law_503 e_v9 ?_
  obtain ⟨b11, e_b11, h⟩ := x_bnd h
  obtain ⟨v12, H10, e_H10, h⟩ := x_b2 h
  refine x_callVi (as := [.inl v7, .inl v8, .inl v9]) (st := [.int v6]) cs_L_58 (ci := 11) ⟨rfl, rfl⟩ rfl rfl hz (by omega) (Nat.le_trans (x_sm1 rfl x_sm0) (by decide)) dL_law_504 e_b11 (M_X12_paid e_H10) ?_
  refine x_icmp_eq (t := 1087) hz dL_law_507 (by decide) (fun c13 => ?_) (fun c13 => ?_)
  · replace h := x_ip c13 h
    exact x_wk (xwk_c (xwk_c (xwk_c (xwk_c xwk_0)))) ((P_L_law_J1087 hZ hk18) x1 x2 x3 H10 h)
  · replace h := x_in c13 h
    refine x_iconst (v := (0 : Int32)) hz dL_law_510 (by decide) ?_
    exact (x_l01 h).elim
noncomputable def F_L_law_J512 (N : Nat) (L : Nat) (xs : Nat → Int32) (k18 : (Option Nat) → (Option Nat) → Int32 → xH → Option (Int32 × xH)) (x1 : (Option Nat)) (x2 : (Option Nat)) (x3 : Int32) (H : xH) : Option (Int32 × xH) :=
  (xlS L xs (x3 + (1 : Int32))).bind fun v1 =>
  (xob H x1 10).bind fun b3 =>
  x_bd2 (F_X11_rows N x1 v1 H) fun v4 H2 =>
  (xlS L xs (x3 + (1 : Int32))).bind fun v5 =>
  (xob H2 x2 11).bind fun b7 =>
  x_bd2 (F_X12_rows N x2 v5 H2) fun v8 H6 =>
  if v4 = v8 then ((F_L_law_J1087 N L xs k18) x1 x2 x3 H6) else (some ((0 : Int32), H6))
set_option maxRecDepth 20000 in
set_option maxHeartbeats 4000000 in
theorem P_L_law_J512 {N : Nat} {Z : xZ} {b L : Nat} {xs : Nat → Int32} {nm : String} {Hf : xH} (hZ : Z = xZl nm 53 b L xs Hf) {k18 : (Option Nat) → (Option Nat) → Int32 → xH → Option (Int32 × xH)} (hk18 : ∀ (x1 : (Option Nat)) (x2 : (Option Nat)) (x3 : Int32) (H : xH), k18 x1 x2 x3 H = some (1, Hf) → xWq Z H 18 [xA (some b), xA x1, xA x2, xI x3] []) : ∀ (x1 : (Option Nat)) (x2 : (Option Nat)) (x3 : Int32) (H : xH), F_L_law_J512 N L xs k18 x1 x2 x3 H = some (1, Hf) → xWq Z H 512 [xA (some b), xA x1, xA x2, xI x3] [] := by
  have hz : Z.1 = (cL_law, (⟨RL, nm, "([I)Z"⟩ : MethodName), 4) := by rw [hZ]; rfl
  have hδ : Z.2.1 = 53 := by rw [hZ]; rfl
  have hK : Z.2.2.2.2 = xKl b L xs := by rw [hZ]; rfl
  intro x1 x2 x3 H h
  unfold F_L_law_J512 at h
  refine x_aload_n hz dL_law_512 rfl ?_
  refine x_aload_n hz dL_law_513 rfl ?_
  refine x_iload_n hz dL_law_514 rfl ?_
  refine x_iconst (v := (1 : Int32)) hz dL_law_515 (by decide) ?_
  refine x_iadd hz dL_law_516 ?_
  obtain ⟨v1, e_v1, h⟩ := x_bnd h
  refine x_sald hK hz dL_law_517 e_v1 ?_
  obtain ⟨b3, e_b3, h⟩ := x_bnd h
  obtain ⟨v4, H2, e_H2, h⟩ := x_b2 h
  refine x_callVi (as := [.inl v1]) (st := []) cs_L_59 (ci := 10) ⟨rfl, rfl⟩ rfl rfl hz (by omega) (by decide) dL_law_518 e_b3 (M_X11_rows e_H2) ?_
  refine x_aload_n hz dL_law_521 rfl ?_
  refine x_aload_n hz dL_law_522 rfl ?_
  refine x_iload_n hz dL_law_523 rfl ?_
  refine x_iconst (v := (1 : Int32)) hz dL_law_524 (by decide) ?_
  refine x_iadd hz dL_law_525 ?_
  obtain ⟨v5, e_v5, h⟩ := x_bnd h
  refine x_sald hK hz dL_law_526 e_v5 ?_
  obtain ⟨b7, e_b7, h⟩ := x_bnd h
  obtain ⟨v8, H6, e_H6, h⟩ := x_b2 h
  refine x_callVi (as := [.inl v5]) (st := [.int v4]) cs_L_62 (ci := 11) ⟨rfl, rfl⟩ rfl rfl hz (by omega) (Nat.le_trans (x_sm1 rfl x_sm0) (by decide)) dL_law_527 e_b7 (M_X12_rows e_H6) ?_
  refine x_icmp_eq (t := 1087) hz dL_law_530 (by decide) (fun c9 => ?_) (fun c9 => ?_)
  · replace h := x_ip c9 h
    exact x_wk (xwk_c (xwk_c (xwk_c (xwk_c xwk_0)))) ((P_L_law_J1087 hZ hk18) x1 x2 x3 H6 h)
  · replace h := x_in c9 h
    refine x_iconst (v := (0 : Int32)) hz dL_law_533 (by decide) ?_
    exact (x_l01 h).elim
noncomputable def F_L_law_J535 (N : Nat) (L : Nat) (xs : Nat → Int32) (k18 : (Option Nat) → (Option Nat) → Int32 → xH → Option (Int32 × xH)) (x1 : (Option Nat)) (x2 : (Option Nat)) (x3 : Int32) (H : xH) : Option (Int32 × xH) :=
  (xlS L xs (x3 + (1 : Int32))).bind fun v1 =>
  (xob H x1 10).bind fun b3 =>
  x_bd2 (F_X11_fits N x1 v1 H) fun v4 H2 =>
  (xlS L xs (x3 + (1 : Int32))).bind fun v5 =>
  (xob H2 x2 11).bind fun b7 =>
  x_bd2 (F_X12_fits N x2 v5 H2) fun v8 H6 =>
  if v4 = v8 then ((F_L_law_J1087 N L xs k18) x1 x2 x3 H6) else (some ((0 : Int32), H6))
set_option maxRecDepth 20000 in
set_option maxHeartbeats 4000000 in
theorem P_L_law_J535 {N : Nat} {Z : xZ} {b L : Nat} {xs : Nat → Int32} {nm : String} {Hf : xH} (hZ : Z = xZl nm 53 b L xs Hf) {k18 : (Option Nat) → (Option Nat) → Int32 → xH → Option (Int32 × xH)} (hk18 : ∀ (x1 : (Option Nat)) (x2 : (Option Nat)) (x3 : Int32) (H : xH), k18 x1 x2 x3 H = some (1, Hf) → xWq Z H 18 [xA (some b), xA x1, xA x2, xI x3] []) : ∀ (x1 : (Option Nat)) (x2 : (Option Nat)) (x3 : Int32) (H : xH), F_L_law_J535 N L xs k18 x1 x2 x3 H = some (1, Hf) → xWq Z H 535 [xA (some b), xA x1, xA x2, xI x3] [] := by
  have hz : Z.1 = (cL_law, (⟨RL, nm, "([I)Z"⟩ : MethodName), 4) := by rw [hZ]; rfl
  have hδ : Z.2.1 = 53 := by rw [hZ]; rfl
  have hK : Z.2.2.2.2 = xKl b L xs := by rw [hZ]; rfl
  intro x1 x2 x3 H h
  unfold F_L_law_J535 at h
  refine x_aload_n hz dL_law_535 rfl ?_
  refine x_aload_n hz dL_law_536 rfl ?_
  refine x_iload_n hz dL_law_537 rfl ?_
  refine x_iconst (v := (1 : Int32)) hz dL_law_538 (by decide) ?_
  refine x_iadd hz dL_law_539 ?_
  obtain ⟨v1, e_v1, h⟩ := x_bnd h
  refine x_sald hK hz dL_law_540 e_v1 ?_
  obtain ⟨b3, e_b3, h⟩ := x_bnd h
  obtain ⟨v4, H2, e_H2, h⟩ := x_b2 h
  refine x_callVi (as := [.inl v1]) (st := []) cs_L_63 (ci := 10) ⟨rfl, rfl⟩ rfl rfl hz (by omega) (by decide) dL_law_541 e_b3 (M_X11_fits e_H2) ?_
  refine x_aload_n hz dL_law_544 rfl ?_
  refine x_aload_n hz dL_law_545 rfl ?_
  refine x_iload_n hz dL_law_546 rfl ?_
  refine x_iconst (v := (1 : Int32)) hz dL_law_547 (by decide) ?_
  refine x_iadd hz dL_law_548 ?_
  obtain ⟨v5, e_v5, h⟩ := x_bnd h
  refine x_sald hK hz dL_law_549 e_v5 ?_
  obtain ⟨b7, e_b7, h⟩ := x_bnd h
  obtain ⟨v8, H6, e_H6, h⟩ := x_b2 h
  refine x_callVi (as := [.inl v5]) (st := [.int v4]) cs_L_66 (ci := 11) ⟨rfl, rfl⟩ rfl rfl hz (by omega) (Nat.le_trans (x_sm1 rfl x_sm0) (by decide)) dL_law_550 e_b7 (M_X12_fits e_H6) ?_
  refine x_icmp_eq (t := 1087) hz dL_law_553 (by decide) (fun c9 => ?_) (fun c9 => ?_)
  · replace h := x_ip c9 h
    exact x_wk (xwk_c (xwk_c (xwk_c (xwk_c xwk_0)))) ((P_L_law_J1087 hZ hk18) x1 x2 x3 H6 h)
  · replace h := x_in c9 h
    refine x_iconst (v := (0 : Int32)) hz dL_law_556 (by decide) ?_
    exact (x_l01 h).elim
noncomputable def F_L_law_J558 (N : Nat) (L : Nat) (xs : Nat → Int32) (k18 : (Option Nat) → (Option Nat) → Int32 → xH → Option (Int32 × xH)) (x1 : (Option Nat)) (x2 : (Option Nat)) (x3 : Int32) (H : xH) : Option (Int32 × xH) :=
  (xlS L xs (x3 + (1 : Int32))).bind fun v1 =>
  (xlS L xs (x3 + (2 : Int32))).bind fun v2 =>
  (xob H x1 10).bind fun b4 =>
  x_bd2 (F_X11_pays N x1 v1 v2 H) fun v5 H3 =>
  (xlS L xs (x3 + (1 : Int32))).bind fun v6 =>
  (xlS L xs (x3 + (2 : Int32))).bind fun v7 =>
  (xob H3 x2 11).bind fun b9 =>
  x_bd2 (F_X12_pays N x2 v6 v7 H3) fun v10 H8 =>
  if v5 = v10 then ((F_L_law_J1087 N L xs k18) x1 x2 x3 H8) else (some ((0 : Int32), H8))
set_option maxRecDepth 20000 in
set_option maxHeartbeats 4000000 in
theorem P_L_law_J558 {N : Nat} {Z : xZ} {b L : Nat} {xs : Nat → Int32} {nm : String} {Hf : xH} (hZ : Z = xZl nm 53 b L xs Hf) {k18 : (Option Nat) → (Option Nat) → Int32 → xH → Option (Int32 × xH)} (hk18 : ∀ (x1 : (Option Nat)) (x2 : (Option Nat)) (x3 : Int32) (H : xH), k18 x1 x2 x3 H = some (1, Hf) → xWq Z H 18 [xA (some b), xA x1, xA x2, xI x3] []) : ∀ (x1 : (Option Nat)) (x2 : (Option Nat)) (x3 : Int32) (H : xH), F_L_law_J558 N L xs k18 x1 x2 x3 H = some (1, Hf) → xWq Z H 558 [xA (some b), xA x1, xA x2, xI x3] [] := by
  have hz : Z.1 = (cL_law, (⟨RL, nm, "([I)Z"⟩ : MethodName), 4) := by rw [hZ]; rfl
  have hδ : Z.2.1 = 53 := by rw [hZ]; rfl
  have hK : Z.2.2.2.2 = xKl b L xs := by rw [hZ]; rfl
  intro x1 x2 x3 H h
  unfold F_L_law_J558 at h
  refine x_aload_n hz dL_law_558 rfl ?_
  refine x_aload_n hz dL_law_559 rfl ?_
  refine x_iload_n hz dL_law_560 rfl ?_
  refine x_iconst (v := (1 : Int32)) hz dL_law_561 (by decide) ?_
  refine x_iadd hz dL_law_562 ?_
  obtain ⟨v1, e_v1, h⟩ := x_bnd h
  refine x_sald hK hz dL_law_563 e_v1 ?_
  refine x_aload_n hz dL_law_564 rfl ?_
  refine x_iload_n hz dL_law_565 rfl ?_
  refine x_iconst (v := (2 : Int32)) hz dL_law_566 (by decide) ?_
  refine x_iadd hz dL_law_567 ?_
  obtain ⟨v2, e_v2, h⟩ := x_bnd h
  refine x_sald hK hz dL_law_568 e_v2 ?_
  obtain ⟨b4, e_b4, h⟩ := x_bnd h
  obtain ⟨v5, H3, e_H3, h⟩ := x_b2 h
  refine x_callVi (as := [.inl v1, .inl v2]) (st := []) cs_L_67 (ci := 10) ⟨rfl, rfl⟩ rfl rfl hz (by omega) (by decide) dL_law_569 e_b4 (M_X11_pays e_H3) ?_
  refine x_aload_n hz dL_law_572 rfl ?_
  refine x_aload_n hz dL_law_573 rfl ?_
  refine x_iload_n hz dL_law_574 rfl ?_
  refine x_iconst (v := (1 : Int32)) hz dL_law_575 (by decide) ?_
  refine x_iadd hz dL_law_576 ?_
  obtain ⟨v6, e_v6, h⟩ := x_bnd h
  refine x_sald hK hz dL_law_577 e_v6 ?_
  refine x_aload_n hz dL_law_578 rfl ?_
  refine x_iload_n hz dL_law_579 rfl ?_
  refine x_iconst (v := (2 : Int32)) hz dL_law_580 (by decide) ?_
  refine x_iadd hz dL_law_581 ?_
  obtain ⟨v7, e_v7, h⟩ := x_bnd h
  refine x_sald hK hz dL_law_582 e_v7 ?_
  obtain ⟨b9, e_b9, h⟩ := x_bnd h
  obtain ⟨v10, H8, e_H8, h⟩ := x_b2 h
  refine x_callVi (as := [.inl v6, .inl v7]) (st := [.int v5]) cs_L_70 (ci := 11) ⟨rfl, rfl⟩ rfl rfl hz (by omega) (Nat.le_trans (x_sm1 rfl x_sm0) (by decide)) dL_law_583 e_b9 (M_X12_pays e_H8) ?_
  refine x_icmp_eq (t := 1087) hz dL_law_586 (by decide) (fun c11 => ?_) (fun c11 => ?_)
  · replace h := x_ip c11 h
    exact x_wk (xwk_c (xwk_c (xwk_c (xwk_c xwk_0)))) ((P_L_law_J1087 hZ hk18) x1 x2 x3 H8 h)
  · replace h := x_in c11 h
    refine x_iconst (v := (0 : Int32)) hz dL_law_589 (by decide) ?_
    exact (x_l01 h).elim
noncomputable def F_L_law_J591 (N : Nat) (L : Nat) (xs : Nat → Int32) (k18 : (Option Nat) → (Option Nat) → Int32 → xH → Option (Int32 × xH)) (x1 : (Option Nat)) (x2 : (Option Nat)) (x3 : Int32) (H : xH) : Option (Int32 × xH) :=
  (xlS L xs (x3 + (1 : Int32))).bind fun v1 =>
  (xlS L xs (x3 + (2 : Int32))).bind fun v2 =>
  (xob H x1 10).bind fun b4 =>
  x_bd2 (F_X11_sure N x1 v1 v2 H) fun v5 H3 =>
  (xlS L xs (x3 + (1 : Int32))).bind fun v6 =>
  (xlS L xs (x3 + (2 : Int32))).bind fun v7 =>
  (xob H3 x2 11).bind fun b9 =>
  x_bd2 (F_X12_sure N x2 v6 v7 H3) fun v10 H8 =>
  if v5 = v10 then ((F_L_law_J1087 N L xs k18) x1 x2 x3 H8) else (some ((0 : Int32), H8))
set_option maxRecDepth 20000 in
set_option maxHeartbeats 4000000 in
theorem P_L_law_J591 {N : Nat} {Z : xZ} {b L : Nat} {xs : Nat → Int32} {nm : String} {Hf : xH} (hZ : Z = xZl nm 53 b L xs Hf) {k18 : (Option Nat) → (Option Nat) → Int32 → xH → Option (Int32 × xH)} (hk18 : ∀ (x1 : (Option Nat)) (x2 : (Option Nat)) (x3 : Int32) (H : xH), k18 x1 x2 x3 H = some (1, Hf) → xWq Z H 18 [xA (some b), xA x1, xA x2, xI x3] []) : ∀ (x1 : (Option Nat)) (x2 : (Option Nat)) (x3 : Int32) (H : xH), F_L_law_J591 N L xs k18 x1 x2 x3 H = some (1, Hf) → xWq Z H 591 [xA (some b), xA x1, xA x2, xI x3] [] := by
  have hz : Z.1 = (cL_law, (⟨RL, nm, "([I)Z"⟩ : MethodName), 4) := by rw [hZ]; rfl
  have hδ : Z.2.1 = 53 := by rw [hZ]; rfl
  have hK : Z.2.2.2.2 = xKl b L xs := by rw [hZ]; rfl
  intro x1 x2 x3 H h
  unfold F_L_law_J591 at h
  refine x_aload_n hz dL_law_591 rfl ?_
  refine x_aload_n hz dL_law_592 rfl ?_
  refine x_iload_n hz dL_law_593 rfl ?_
  refine x_iconst (v := (1 : Int32)) hz dL_law_594 (by decide) ?_
  refine x_iadd hz dL_law_595 ?_
  obtain ⟨v1, e_v1, h⟩ := x_bnd h
  refine x_sald hK hz dL_law_596 e_v1 ?_
  refine x_aload_n hz dL_law_597 rfl ?_
  refine x_iload_n hz dL_law_598 rfl ?_
  refine x_iconst (v := (2 : Int32)) hz dL_law_599 (by decide) ?_
  refine x_iadd hz dL_law_600 ?_
  obtain ⟨v2, e_v2, h⟩ := x_bnd h
  refine x_sald hK hz dL_law_601 e_v2 ?_
  obtain ⟨b4, e_b4, h⟩ := x_bnd h
  obtain ⟨v5, H3, e_H3, h⟩ := x_b2 h
  refine x_callVi (as := [.inl v1, .inl v2]) (st := []) cs_L_71 (ci := 10) ⟨rfl, rfl⟩ rfl rfl hz (by omega) (by decide) dL_law_602 e_b4 (M_X11_sure e_H3) ?_
  refine x_aload_n hz dL_law_605 rfl ?_
  refine x_aload_n hz dL_law_606 rfl ?_
  refine x_iload_n hz dL_law_607 rfl ?_
  refine x_iconst (v := (1 : Int32)) hz dL_law_608 (by decide) ?_
  refine x_iadd hz dL_law_609 ?_
  obtain ⟨v6, e_v6, h⟩ := x_bnd h
  refine x_sald hK hz dL_law_610 e_v6 ?_
  refine x_aload_n hz dL_law_611 rfl ?_
  refine x_iload_n hz dL_law_612 rfl ?_
  refine x_iconst (v := (2 : Int32)) hz dL_law_613 (by decide) ?_
  refine x_iadd hz dL_law_614 ?_
  obtain ⟨v7, e_v7, h⟩ := x_bnd h
  refine x_sald hK hz dL_law_615 e_v7 ?_
  obtain ⟨b9, e_b9, h⟩ := x_bnd h
  obtain ⟨v10, H8, e_H8, h⟩ := x_b2 h
  refine x_callVi (as := [.inl v6, .inl v7]) (st := [.int v5]) cs_L_74 (ci := 11) ⟨rfl, rfl⟩ rfl rfl hz (by omega) (Nat.le_trans (x_sm1 rfl x_sm0) (by decide)) dL_law_616 e_b9 (M_X12_sure e_H8) ?_
  refine x_icmp_eq (t := 1087) hz dL_law_619 (by decide) (fun c11 => ?_) (fun c11 => ?_)
  · replace h := x_ip c11 h
    exact x_wk (xwk_c (xwk_c (xwk_c (xwk_c xwk_0)))) ((P_L_law_J1087 hZ hk18) x1 x2 x3 H8 h)
  · replace h := x_in c11 h
    refine x_iconst (v := (0 : Int32)) hz dL_law_622 (by decide) ?_
    exact (x_l01 h).elim
noncomputable def F_L_law_J624 (N : Nat) (L : Nat) (xs : Nat → Int32) (k18 : (Option Nat) → (Option Nat) → Int32 → xH → Option (Int32 × xH)) (x1 : (Option Nat)) (x2 : (Option Nat)) (x3 : Int32) (H : xH) : Option (Int32 × xH) :=
  (xlS L xs (x3 + (1 : Int32))).bind fun v1 =>
  (xlS L xs (x3 + (2 : Int32))).bind fun v2 =>
  (xob H x1 10).bind fun b4 =>
  x_bd2 (F_X11_split N x1 v1 v2 H) fun v5 H3 =>
  (xlS L xs (x3 + (1 : Int32))).bind fun v6 =>
  (xlS L xs (x3 + (2 : Int32))).bind fun v7 =>
  (xob H3 x2 11).bind fun b9 =>
  x_bd2 (F_X12_split N x2 v6 v7 H3) fun v10 H8 =>
  if v5 = v10 then ((F_L_law_J1087 N L xs k18) x1 x2 x3 H8) else (some ((0 : Int32), H8))
set_option maxRecDepth 20000 in
set_option maxHeartbeats 4000000 in
theorem P_L_law_J624 {N : Nat} {Z : xZ} {b L : Nat} {xs : Nat → Int32} {nm : String} {Hf : xH} (hZ : Z = xZl nm 53 b L xs Hf) {k18 : (Option Nat) → (Option Nat) → Int32 → xH → Option (Int32 × xH)} (hk18 : ∀ (x1 : (Option Nat)) (x2 : (Option Nat)) (x3 : Int32) (H : xH), k18 x1 x2 x3 H = some (1, Hf) → xWq Z H 18 [xA (some b), xA x1, xA x2, xI x3] []) : ∀ (x1 : (Option Nat)) (x2 : (Option Nat)) (x3 : Int32) (H : xH), F_L_law_J624 N L xs k18 x1 x2 x3 H = some (1, Hf) → xWq Z H 624 [xA (some b), xA x1, xA x2, xI x3] [] := by
  have hz : Z.1 = (cL_law, (⟨RL, nm, "([I)Z"⟩ : MethodName), 4) := by rw [hZ]; rfl
  have hδ : Z.2.1 = 53 := by rw [hZ]; rfl
  have hK : Z.2.2.2.2 = xKl b L xs := by rw [hZ]; rfl
  intro x1 x2 x3 H h
  unfold F_L_law_J624 at h
  refine x_aload_n hz dL_law_624 rfl ?_
  refine x_aload_n hz dL_law_625 rfl ?_
  refine x_iload_n hz dL_law_626 rfl ?_
  refine x_iconst (v := (1 : Int32)) hz dL_law_627 (by decide) ?_
  refine x_iadd hz dL_law_628 ?_
  obtain ⟨v1, e_v1, h⟩ := x_bnd h
  refine x_sald hK hz dL_law_629 e_v1 ?_
  refine x_aload_n hz dL_law_630 rfl ?_
  refine x_iload_n hz dL_law_631 rfl ?_
  refine x_iconst (v := (2 : Int32)) hz dL_law_632 (by decide) ?_
  refine x_iadd hz dL_law_633 ?_
  obtain ⟨v2, e_v2, h⟩ := x_bnd h
  refine x_sald hK hz dL_law_634 e_v2 ?_
  obtain ⟨b4, e_b4, h⟩ := x_bnd h
  obtain ⟨v5, H3, e_H3, h⟩ := x_b2 h
  refine x_callVi (as := [.inl v1, .inl v2]) (st := []) cs_L_75 (ci := 10) ⟨rfl, rfl⟩ rfl rfl hz (by omega) (by decide) dL_law_635 e_b4 (M_X11_split e_H3) ?_
  refine x_aload_n hz dL_law_638 rfl ?_
  refine x_aload_n hz dL_law_639 rfl ?_
  refine x_iload_n hz dL_law_640 rfl ?_
  refine x_iconst (v := (1 : Int32)) hz dL_law_641 (by decide) ?_
  refine x_iadd hz dL_law_642 ?_
  obtain ⟨v6, e_v6, h⟩ := x_bnd h
  refine x_sald hK hz dL_law_643 e_v6 ?_
  refine x_aload_n hz dL_law_644 rfl ?_
  refine x_iload_n hz dL_law_645 rfl ?_
  refine x_iconst (v := (2 : Int32)) hz dL_law_646 (by decide) ?_
  refine x_iadd hz dL_law_647 ?_
  obtain ⟨v7, e_v7, h⟩ := x_bnd h
  refine x_sald hK hz dL_law_648 e_v7 ?_
  obtain ⟨b9, e_b9, h⟩ := x_bnd h
  obtain ⟨v10, H8, e_H8, h⟩ := x_b2 h
  refine x_callVi (as := [.inl v6, .inl v7]) (st := [.int v5]) cs_L_78 (ci := 11) ⟨rfl, rfl⟩ rfl rfl hz (by omega) (Nat.le_trans (x_sm1 rfl x_sm0) (by decide)) dL_law_649 e_b9 (M_X12_split e_H8) ?_
  refine x_icmp_eq (t := 1087) hz dL_law_652 (by decide) (fun c11 => ?_) (fun c11 => ?_)
  · replace h := x_ip c11 h
    exact x_wk (xwk_c (xwk_c (xwk_c (xwk_c xwk_0)))) ((P_L_law_J1087 hZ hk18) x1 x2 x3 H8 h)
  · replace h := x_in c11 h
    refine x_iconst (v := (0 : Int32)) hz dL_law_655 (by decide) ?_
    exact (x_l01 h).elim
noncomputable def F_L_law_J657 (N : Nat) (L : Nat) (xs : Nat → Int32) (k18 : (Option Nat) → (Option Nat) → Int32 → xH → Option (Int32 × xH)) (x1 : (Option Nat)) (x2 : (Option Nat)) (x3 : Int32) (H : xH) : Option (Int32 × xH) :=
  (xlS L xs (x3 + (1 : Int32))).bind fun v1 =>
  (xlS L xs (x3 + (2 : Int32))).bind fun v2 =>
  (xob H x1 10).bind fun b4 =>
  x_bd2 (F_X11_when N x1 v1 v2 H) fun v5 H3 =>
  (xlS L xs (x3 + (1 : Int32))).bind fun v6 =>
  (xlS L xs (x3 + (2 : Int32))).bind fun v7 =>
  (xob H3 x2 11).bind fun b9 =>
  x_bd2 (F_X12_when N x2 v6 v7 H3) fun v10 H8 =>
  if v5 = v10 then ((F_L_law_J1087 N L xs k18) x1 x2 x3 H8) else (some ((0 : Int32), H8))
set_option maxRecDepth 20000 in
set_option maxHeartbeats 4000000 in
theorem P_L_law_J657 {N : Nat} {Z : xZ} {b L : Nat} {xs : Nat → Int32} {nm : String} {Hf : xH} (hZ : Z = xZl nm 53 b L xs Hf) {k18 : (Option Nat) → (Option Nat) → Int32 → xH → Option (Int32 × xH)} (hk18 : ∀ (x1 : (Option Nat)) (x2 : (Option Nat)) (x3 : Int32) (H : xH), k18 x1 x2 x3 H = some (1, Hf) → xWq Z H 18 [xA (some b), xA x1, xA x2, xI x3] []) : ∀ (x1 : (Option Nat)) (x2 : (Option Nat)) (x3 : Int32) (H : xH), F_L_law_J657 N L xs k18 x1 x2 x3 H = some (1, Hf) → xWq Z H 657 [xA (some b), xA x1, xA x2, xI x3] [] := by
  have hz : Z.1 = (cL_law, (⟨RL, nm, "([I)Z"⟩ : MethodName), 4) := by rw [hZ]; rfl
  have hδ : Z.2.1 = 53 := by rw [hZ]; rfl
  have hK : Z.2.2.2.2 = xKl b L xs := by rw [hZ]; rfl
  intro x1 x2 x3 H h
  unfold F_L_law_J657 at h
  refine x_aload_n hz dL_law_657 rfl ?_
  refine x_aload_n hz dL_law_658 rfl ?_
  refine x_iload_n hz dL_law_659 rfl ?_
  refine x_iconst (v := (1 : Int32)) hz dL_law_660 (by decide) ?_
  refine x_iadd hz dL_law_661 ?_
  obtain ⟨v1, e_v1, h⟩ := x_bnd h
  refine x_sald hK hz dL_law_662 e_v1 ?_
  refine x_aload_n hz dL_law_663 rfl ?_
  refine x_iload_n hz dL_law_664 rfl ?_
  refine x_iconst (v := (2 : Int32)) hz dL_law_665 (by decide) ?_
  refine x_iadd hz dL_law_666 ?_
  obtain ⟨v2, e_v2, h⟩ := x_bnd h
  refine x_sald hK hz dL_law_667 e_v2 ?_
  obtain ⟨b4, e_b4, h⟩ := x_bnd h
  obtain ⟨v5, H3, e_H3, h⟩ := x_b2 h
  refine x_callVi (as := [.inl v1, .inl v2]) (st := []) cs_L_79 (ci := 10) ⟨rfl, rfl⟩ rfl rfl hz (by omega) (by decide) dL_law_668 e_b4 (M_X11_when e_H3) ?_
  refine x_aload_n hz dL_law_671 rfl ?_
  refine x_aload_n hz dL_law_672 rfl ?_
  refine x_iload_n hz dL_law_673 rfl ?_
  refine x_iconst (v := (1 : Int32)) hz dL_law_674 (by decide) ?_
  refine x_iadd hz dL_law_675 ?_
  obtain ⟨v6, e_v6, h⟩ := x_bnd h
  refine x_sald hK hz dL_law_676 e_v6 ?_
  refine x_aload_n hz dL_law_677 rfl ?_
  refine x_iload_n hz dL_law_678 rfl ?_
  refine x_iconst (v := (2 : Int32)) hz dL_law_679 (by decide) ?_
  refine x_iadd hz dL_law_680 ?_
  obtain ⟨v7, e_v7, h⟩ := x_bnd h
  refine x_sald hK hz dL_law_681 e_v7 ?_
  obtain ⟨b9, e_b9, h⟩ := x_bnd h
  obtain ⟨v10, H8, e_H8, h⟩ := x_b2 h
  refine x_callVi (as := [.inl v6, .inl v7]) (st := [.int v5]) cs_L_82 (ci := 11) ⟨rfl, rfl⟩ rfl rfl hz (by omega) (Nat.le_trans (x_sm1 rfl x_sm0) (by decide)) dL_law_682 e_b9 (M_X12_when e_H8) ?_
  refine x_icmp_eq (t := 1087) hz dL_law_685 (by decide) (fun c11 => ?_) (fun c11 => ?_)
  · replace h := x_ip c11 h
    exact x_wk (xwk_c (xwk_c (xwk_c (xwk_c xwk_0)))) ((P_L_law_J1087 hZ hk18) x1 x2 x3 H8 h)
  · replace h := x_in c11 h
    refine x_iconst (v := (0 : Int32)) hz dL_law_688 (by decide) ?_
    exact (x_l01 h).elim
noncomputable def F_L_law_J690 (N : Nat) (L : Nat) (xs : Nat → Int32) (k18 : (Option Nat) → (Option Nat) → Int32 → xH → Option (Int32 × xH)) (x1 : (Option Nat)) (x2 : (Option Nat)) (x3 : Int32) (H : xH) : Option (Int32 × xH) :=
  (xlS L xs (x3 + (1 : Int32))).bind fun v1 =>
  (xob H x1 10).bind fun b3 =>
  x_bd2 (F_X11_latest N x1 v1 H) fun v4 H2 =>
  (xlS L xs (x3 + (1 : Int32))).bind fun v5 =>
  (xob H2 x2 11).bind fun b7 =>
  x_bd2 (F_X12_latest N x2 v5 H2) fun v8 H6 =>
  if v4 = v8 then ((F_L_law_J1087 N L xs k18) x1 x2 x3 H6) else (some ((0 : Int32), H6))
set_option maxRecDepth 20000 in
set_option maxHeartbeats 4000000 in
theorem P_L_law_J690 {N : Nat} {Z : xZ} {b L : Nat} {xs : Nat → Int32} {nm : String} {Hf : xH} (hZ : Z = xZl nm 53 b L xs Hf) {k18 : (Option Nat) → (Option Nat) → Int32 → xH → Option (Int32 × xH)} (hk18 : ∀ (x1 : (Option Nat)) (x2 : (Option Nat)) (x3 : Int32) (H : xH), k18 x1 x2 x3 H = some (1, Hf) → xWq Z H 18 [xA (some b), xA x1, xA x2, xI x3] []) : ∀ (x1 : (Option Nat)) (x2 : (Option Nat)) (x3 : Int32) (H : xH), F_L_law_J690 N L xs k18 x1 x2 x3 H = some (1, Hf) → xWq Z H 690 [xA (some b), xA x1, xA x2, xI x3] [] := by
  have hz : Z.1 = (cL_law, (⟨RL, nm, "([I)Z"⟩ : MethodName), 4) := by rw [hZ]; rfl
  have hδ : Z.2.1 = 53 := by rw [hZ]; rfl
  have hK : Z.2.2.2.2 = xKl b L xs := by rw [hZ]; rfl
  intro x1 x2 x3 H h
  unfold F_L_law_J690 at h
  refine x_aload_n hz dL_law_690 rfl ?_
  refine x_aload_n hz dL_law_691 rfl ?_
  refine x_iload_n hz dL_law_692 rfl ?_
  refine x_iconst (v := (1 : Int32)) hz dL_law_693 (by decide) ?_
  refine x_iadd hz dL_law_694 ?_
  obtain ⟨v1, e_v1, h⟩ := x_bnd h
  refine x_sald hK hz dL_law_695 e_v1 ?_
  obtain ⟨b3, e_b3, h⟩ := x_bnd h
  obtain ⟨v4, H2, e_H2, h⟩ := x_b2 h
  refine x_callVi (as := [.inl v1]) (st := []) cs_L_83 (ci := 10) ⟨rfl, rfl⟩ rfl rfl hz (by omega) (by decide) dL_law_696 e_b3 (M_X11_latest e_H2) ?_
  refine x_aload_n hz dL_law_699 rfl ?_
  refine x_aload_n hz dL_law_700 rfl ?_
  refine x_iload_n hz dL_law_701 rfl ?_
  refine x_iconst (v := (1 : Int32)) hz dL_law_702 (by decide) ?_
  refine x_iadd hz dL_law_703 ?_
  obtain ⟨v5, e_v5, h⟩ := x_bnd h
  refine x_sald hK hz dL_law_704 e_v5 ?_
  obtain ⟨b7, e_b7, h⟩ := x_bnd h
  obtain ⟨v8, H6, e_H6, h⟩ := x_b2 h
  refine x_callVi (as := [.inl v5]) (st := [.int v4]) cs_L_86 (ci := 11) ⟨rfl, rfl⟩ rfl rfl hz (by omega) (Nat.le_trans (x_sm1 rfl x_sm0) (by decide)) dL_law_705 e_b7 (M_X12_latest e_H6) ?_
  refine x_icmp_eq (t := 1087) hz dL_law_708 (by decide) (fun c9 => ?_) (fun c9 => ?_)
  · replace h := x_ip c9 h
    exact x_wk (xwk_c (xwk_c (xwk_c (xwk_c xwk_0)))) ((P_L_law_J1087 hZ hk18) x1 x2 x3 H6 h)
  · replace h := x_in c9 h
    refine x_iconst (v := (0 : Int32)) hz dL_law_711 (by decide) ?_
    exact (x_l01 h).elim
noncomputable def F_L_law_J713 (N : Nat) (L : Nat) (xs : Nat → Int32) (k18 : (Option Nat) → (Option Nat) → Int32 → xH → Option (Int32 × xH)) (x1 : (Option Nat)) (x2 : (Option Nat)) (x3 : Int32) (H : xH) : Option (Int32 × xH) :=
  (xlS L xs (x3 + (1 : Int32))).bind fun v1 =>
  (xob H x1 10).bind fun b3 =>
  x_bd2 (F_X11_hang N x1 v1 H) fun v4 H2 =>
  (xlS L xs (x3 + (1 : Int32))).bind fun v5 =>
  (xob H2 x2 11).bind fun b7 =>
  x_bd2 (F_X12_hang N x2 v5 H2) fun v8 H6 =>
  if v4 = v8 then ((F_L_law_J1087 N L xs k18) x1 x2 x3 H6) else (some ((0 : Int32), H6))
set_option maxRecDepth 20000 in
set_option maxHeartbeats 4000000 in
theorem P_L_law_J713 {N : Nat} {Z : xZ} {b L : Nat} {xs : Nat → Int32} {nm : String} {Hf : xH} (hZ : Z = xZl nm 53 b L xs Hf) {k18 : (Option Nat) → (Option Nat) → Int32 → xH → Option (Int32 × xH)} (hk18 : ∀ (x1 : (Option Nat)) (x2 : (Option Nat)) (x3 : Int32) (H : xH), k18 x1 x2 x3 H = some (1, Hf) → xWq Z H 18 [xA (some b), xA x1, xA x2, xI x3] []) : ∀ (x1 : (Option Nat)) (x2 : (Option Nat)) (x3 : Int32) (H : xH), F_L_law_J713 N L xs k18 x1 x2 x3 H = some (1, Hf) → xWq Z H 713 [xA (some b), xA x1, xA x2, xI x3] [] := by
  have hz : Z.1 = (cL_law, (⟨RL, nm, "([I)Z"⟩ : MethodName), 4) := by rw [hZ]; rfl
  have hδ : Z.2.1 = 53 := by rw [hZ]; rfl
  have hK : Z.2.2.2.2 = xKl b L xs := by rw [hZ]; rfl
  intro x1 x2 x3 H h
  unfold F_L_law_J713 at h
  refine x_aload_n hz dL_law_713 rfl ?_
  refine x_aload_n hz dL_law_714 rfl ?_
  refine x_iload_n hz dL_law_715 rfl ?_
  refine x_iconst (v := (1 : Int32)) hz dL_law_716 (by decide) ?_
  refine x_iadd hz dL_law_717 ?_
  obtain ⟨v1, e_v1, h⟩ := x_bnd h
  refine x_sald hK hz dL_law_718 e_v1 ?_
  obtain ⟨b3, e_b3, h⟩ := x_bnd h
  obtain ⟨v4, H2, e_H2, h⟩ := x_b2 h
  refine x_callVi (as := [.inl v1]) (st := []) cs_L_87 (ci := 10) ⟨rfl, rfl⟩ rfl rfl hz (by omega) (by decide) dL_law_719 e_b3 (M_X11_hang e_H2) ?_
  refine x_aload_n hz dL_law_722 rfl ?_
  refine x_aload_n hz dL_law_723 rfl ?_
  refine x_iload_n hz dL_law_724 rfl ?_
  refine x_iconst (v := (1 : Int32)) hz dL_law_725 (by decide) ?_
  refine x_iadd hz dL_law_726 ?_
  obtain ⟨v5, e_v5, h⟩ := x_bnd h
  refine x_sald hK hz dL_law_727 e_v5 ?_
  obtain ⟨b7, e_b7, h⟩ := x_bnd h
  obtain ⟨v8, H6, e_H6, h⟩ := x_b2 h
  refine x_callVi (as := [.inl v5]) (st := [.int v4]) cs_L_90 (ci := 11) ⟨rfl, rfl⟩ rfl rfl hz (by omega) (Nat.le_trans (x_sm1 rfl x_sm0) (by decide)) dL_law_728 e_b7 (M_X12_hang e_H6) ?_
  refine x_icmp_eq (t := 1087) hz dL_law_731 (by decide) (fun c9 => ?_) (fun c9 => ?_)
  · replace h := x_ip c9 h
    exact x_wk (xwk_c (xwk_c (xwk_c (xwk_c xwk_0)))) ((P_L_law_J1087 hZ hk18) x1 x2 x3 H6 h)
  · replace h := x_in c9 h
    refine x_iconst (v := (0 : Int32)) hz dL_law_734 (by decide) ?_
    exact (x_l01 h).elim
noncomputable def F_L_law_J736 (N : Nat) (L : Nat) (xs : Nat → Int32) (k18 : (Option Nat) → (Option Nat) → Int32 → xH → Option (Int32 × xH)) (x1 : (Option Nat)) (x2 : (Option Nat)) (x3 : Int32) (H : xH) : Option (Int32 × xH) :=
  (xlS L xs (x3 + (1 : Int32))).bind fun v1 =>
  (xlS L xs (x3 + (2 : Int32))).bind fun v2 =>
  (xob H x1 10).bind fun b4 =>
  x_bd2 (F_X11_same N x1 v1 v2 H) fun v5 H3 =>
  (xlS L xs (x3 + (1 : Int32))).bind fun v6 =>
  (xlS L xs (x3 + (2 : Int32))).bind fun v7 =>
  (xob H3 x2 11).bind fun b9 =>
  x_bd2 (F_X12_same N x2 v6 v7 H3) fun v10 H8 =>
  if v5 = v10 then ((F_L_law_J1087 N L xs k18) x1 x2 x3 H8) else (some ((0 : Int32), H8))
set_option maxRecDepth 20000 in
set_option maxHeartbeats 4000000 in
theorem P_L_law_J736 {N : Nat} {Z : xZ} {b L : Nat} {xs : Nat → Int32} {nm : String} {Hf : xH} (hZ : Z = xZl nm 53 b L xs Hf) {k18 : (Option Nat) → (Option Nat) → Int32 → xH → Option (Int32 × xH)} (hk18 : ∀ (x1 : (Option Nat)) (x2 : (Option Nat)) (x3 : Int32) (H : xH), k18 x1 x2 x3 H = some (1, Hf) → xWq Z H 18 [xA (some b), xA x1, xA x2, xI x3] []) : ∀ (x1 : (Option Nat)) (x2 : (Option Nat)) (x3 : Int32) (H : xH), F_L_law_J736 N L xs k18 x1 x2 x3 H = some (1, Hf) → xWq Z H 736 [xA (some b), xA x1, xA x2, xI x3] [] := by
  have hz : Z.1 = (cL_law, (⟨RL, nm, "([I)Z"⟩ : MethodName), 4) := by rw [hZ]; rfl
  have hδ : Z.2.1 = 53 := by rw [hZ]; rfl
  have hK : Z.2.2.2.2 = xKl b L xs := by rw [hZ]; rfl
  intro x1 x2 x3 H h
  unfold F_L_law_J736 at h
  refine x_aload_n hz dL_law_736 rfl ?_
  refine x_aload_n hz dL_law_737 rfl ?_
  refine x_iload_n hz dL_law_738 rfl ?_
  refine x_iconst (v := (1 : Int32)) hz dL_law_739 (by decide) ?_
  refine x_iadd hz dL_law_740 ?_
  obtain ⟨v1, e_v1, h⟩ := x_bnd h
  refine x_sald hK hz dL_law_741 e_v1 ?_
  refine x_aload_n hz dL_law_742 rfl ?_
  refine x_iload_n hz dL_law_743 rfl ?_
  refine x_iconst (v := (2 : Int32)) hz dL_law_744 (by decide) ?_
  refine x_iadd hz dL_law_745 ?_
  obtain ⟨v2, e_v2, h⟩ := x_bnd h
  refine x_sald hK hz dL_law_746 e_v2 ?_
  obtain ⟨b4, e_b4, h⟩ := x_bnd h
  obtain ⟨v5, H3, e_H3, h⟩ := x_b2 h
  refine x_callVi (as := [.inl v1, .inl v2]) (st := []) cs_L_91 (ci := 10) ⟨rfl, rfl⟩ rfl rfl hz (by omega) (by decide) dL_law_747 e_b4 (M_X11_same e_H3) ?_
  refine x_aload_n hz dL_law_750 rfl ?_
  refine x_aload_n hz dL_law_751 rfl ?_
  refine x_iload_n hz dL_law_752 rfl ?_
  refine x_iconst (v := (1 : Int32)) hz dL_law_753 (by decide) ?_
  refine x_iadd hz dL_law_754 ?_
  obtain ⟨v6, e_v6, h⟩ := x_bnd h
  refine x_sald hK hz dL_law_755 e_v6 ?_
  refine x_aload_n hz dL_law_756 rfl ?_
  refine x_iload_n hz dL_law_757 rfl ?_
  refine x_iconst (v := (2 : Int32)) hz dL_law_758 (by decide) ?_
  refine x_iadd hz dL_law_759 ?_
  obtain ⟨v7, e_v7, h⟩ := x_bnd h
  refine x_sald hK hz dL_law_760 e_v7 ?_
  obtain ⟨b9, e_b9, h⟩ := x_bnd h
  obtain ⟨v10, H8, e_H8, h⟩ := x_b2 h
  refine x_callVi (as := [.inl v6, .inl v7]) (st := [.int v5]) cs_L_94 (ci := 11) ⟨rfl, rfl⟩ rfl rfl hz (by omega) (Nat.le_trans (x_sm1 rfl x_sm0) (by decide)) dL_law_761 e_b9 (M_X12_same e_H8) ?_
  refine x_icmp_eq (t := 1087) hz dL_law_764 (by decide) (fun c11 => ?_) (fun c11 => ?_)
  · replace h := x_ip c11 h
    exact x_wk (xwk_c (xwk_c (xwk_c (xwk_c xwk_0)))) ((P_L_law_J1087 hZ hk18) x1 x2 x3 H8 h)
  · replace h := x_in c11 h
    refine x_iconst (v := (0 : Int32)) hz dL_law_767 (by decide) ?_
    exact (x_l01 h).elim
noncomputable def F_L_law_J769 (N : Nat) (L : Nat) (xs : Nat → Int32) (k18 : (Option Nat) → (Option Nat) → Int32 → xH → Option (Int32 × xH)) (x1 : (Option Nat)) (x2 : (Option Nat)) (x3 : Int32) (H : xH) : Option (Int32 × xH) :=
  (xlS L xs (x3 + (1 : Int32))).bind fun v1 =>
  (xob H x1 10).bind fun b3 =>
  x_bd2 (F_X11_has N x1 v1 H) fun v4 H2 =>
  (xlS L xs (x3 + (1 : Int32))).bind fun v5 =>
  (xob H2 x2 11).bind fun b7 =>
  x_bd2 (F_X12_has N x2 v5 H2) fun v8 H6 =>
  if v4 = v8 then ((F_L_law_J1087 N L xs k18) x1 x2 x3 H6) else (some ((0 : Int32), H6))
set_option maxRecDepth 20000 in
set_option maxHeartbeats 4000000 in
theorem P_L_law_J769 {N : Nat} {Z : xZ} {b L : Nat} {xs : Nat → Int32} {nm : String} {Hf : xH} (hZ : Z = xZl nm 53 b L xs Hf) {k18 : (Option Nat) → (Option Nat) → Int32 → xH → Option (Int32 × xH)} (hk18 : ∀ (x1 : (Option Nat)) (x2 : (Option Nat)) (x3 : Int32) (H : xH), k18 x1 x2 x3 H = some (1, Hf) → xWq Z H 18 [xA (some b), xA x1, xA x2, xI x3] []) : ∀ (x1 : (Option Nat)) (x2 : (Option Nat)) (x3 : Int32) (H : xH), F_L_law_J769 N L xs k18 x1 x2 x3 H = some (1, Hf) → xWq Z H 769 [xA (some b), xA x1, xA x2, xI x3] [] := by
  have hz : Z.1 = (cL_law, (⟨RL, nm, "([I)Z"⟩ : MethodName), 4) := by rw [hZ]; rfl
  have hδ : Z.2.1 = 53 := by rw [hZ]; rfl
  have hK : Z.2.2.2.2 = xKl b L xs := by rw [hZ]; rfl
  intro x1 x2 x3 H h
  unfold F_L_law_J769 at h
  refine x_aload_n hz dL_law_769 rfl ?_
  refine x_aload_n hz dL_law_770 rfl ?_
  refine x_iload_n hz dL_law_771 rfl ?_
  refine x_iconst (v := (1 : Int32)) hz dL_law_772 (by decide) ?_
  refine x_iadd hz dL_law_773 ?_
  obtain ⟨v1, e_v1, h⟩ := x_bnd h
  refine x_sald hK hz dL_law_774 e_v1 ?_
  obtain ⟨b3, e_b3, h⟩ := x_bnd h
  obtain ⟨v4, H2, e_H2, h⟩ := x_b2 h
  refine x_callVi (as := [.inl v1]) (st := []) cs_L_95 (ci := 10) ⟨rfl, rfl⟩ rfl rfl hz (by omega) (by decide) dL_law_775 e_b3 (M_X11_has e_H2) ?_
  refine x_aload_n hz dL_law_778 rfl ?_
  refine x_aload_n hz dL_law_779 rfl ?_
  refine x_iload_n hz dL_law_780 rfl ?_
  refine x_iconst (v := (1 : Int32)) hz dL_law_781 (by decide) ?_
  refine x_iadd hz dL_law_782 ?_
  obtain ⟨v5, e_v5, h⟩ := x_bnd h
  refine x_sald hK hz dL_law_783 e_v5 ?_
  obtain ⟨b7, e_b7, h⟩ := x_bnd h
  obtain ⟨v8, H6, e_H6, h⟩ := x_b2 h
  refine x_callVi (as := [.inl v5]) (st := [.int v4]) cs_L_98 (ci := 11) ⟨rfl, rfl⟩ rfl rfl hz (by omega) (Nat.le_trans (x_sm1 rfl x_sm0) (by decide)) dL_law_784 e_b7 (M_X12_has e_H6) ?_
  refine x_icmp_eq (t := 1087) hz dL_law_787 (by decide) (fun c9 => ?_) (fun c9 => ?_)
  · replace h := x_ip c9 h
    exact x_wk (xwk_c (xwk_c (xwk_c (xwk_c xwk_0)))) ((P_L_law_J1087 hZ hk18) x1 x2 x3 H6 h)
  · replace h := x_in c9 h
    refine x_iconst (v := (0 : Int32)) hz dL_law_790 (by decide) ?_
    exact (x_l01 h).elim
noncomputable def F_L_law_J792 (N : Nat) (L : Nat) (xs : Nat → Int32) (k18 : (Option Nat) → (Option Nat) → Int32 → xH → Option (Int32 × xH)) (x1 : (Option Nat)) (x2 : (Option Nat)) (x3 : Int32) (H : xH) : Option (Int32 × xH) :=
  (xlS L xs (x3 + (1 : Int32))).bind fun v1 =>
  (xlS L xs (x3 + (2 : Int32))).bind fun v2 =>
  (xob H x1 10).bind fun b4 =>
  x_bd2 (F_X11_may N x1 v1 v2 H) fun v5 H3 =>
  (xlS L xs (x3 + (1 : Int32))).bind fun v6 =>
  (xlS L xs (x3 + (2 : Int32))).bind fun v7 =>
  (xob H3 x2 11).bind fun b9 =>
  x_bd2 (F_X12_may N x2 v6 v7 H3) fun v10 H8 =>
  if v5 = v10 then ((F_L_law_J1087 N L xs k18) x1 x2 x3 H8) else (some ((0 : Int32), H8))
set_option maxRecDepth 20000 in
set_option maxHeartbeats 4000000 in
theorem P_L_law_J792 {N : Nat} {Z : xZ} {b L : Nat} {xs : Nat → Int32} {nm : String} {Hf : xH} (hZ : Z = xZl nm 53 b L xs Hf) {k18 : (Option Nat) → (Option Nat) → Int32 → xH → Option (Int32 × xH)} (hk18 : ∀ (x1 : (Option Nat)) (x2 : (Option Nat)) (x3 : Int32) (H : xH), k18 x1 x2 x3 H = some (1, Hf) → xWq Z H 18 [xA (some b), xA x1, xA x2, xI x3] []) : ∀ (x1 : (Option Nat)) (x2 : (Option Nat)) (x3 : Int32) (H : xH), F_L_law_J792 N L xs k18 x1 x2 x3 H = some (1, Hf) → xWq Z H 792 [xA (some b), xA x1, xA x2, xI x3] [] := by
  have hz : Z.1 = (cL_law, (⟨RL, nm, "([I)Z"⟩ : MethodName), 4) := by rw [hZ]; rfl
  have hδ : Z.2.1 = 53 := by rw [hZ]; rfl
  have hK : Z.2.2.2.2 = xKl b L xs := by rw [hZ]; rfl
  intro x1 x2 x3 H h
  unfold F_L_law_J792 at h
  refine x_aload_n hz dL_law_792 rfl ?_
  refine x_aload_n hz dL_law_793 rfl ?_
  refine x_iload_n hz dL_law_794 rfl ?_
  refine x_iconst (v := (1 : Int32)) hz dL_law_795 (by decide) ?_
  refine x_iadd hz dL_law_796 ?_
  obtain ⟨v1, e_v1, h⟩ := x_bnd h
  refine x_sald hK hz dL_law_797 e_v1 ?_
  refine x_aload_n hz dL_law_798 rfl ?_
  refine x_iload_n hz dL_law_799 rfl ?_
  refine x_iconst (v := (2 : Int32)) hz dL_law_800 (by decide) ?_
  refine x_iadd hz dL_law_801 ?_
  obtain ⟨v2, e_v2, h⟩ := x_bnd h
  refine x_sald hK hz dL_law_802 e_v2 ?_
  obtain ⟨b4, e_b4, h⟩ := x_bnd h
  obtain ⟨v5, H3, e_H3, h⟩ := x_b2 h
  refine x_callVi (as := [.inl v1, .inl v2]) (st := []) cs_L_99 (ci := 10) ⟨rfl, rfl⟩ rfl rfl hz (by omega) (by decide) dL_law_803 e_b4 (M_X11_may e_H3) ?_
  refine x_aload_n hz dL_law_806 rfl ?_
  refine x_aload_n hz dL_law_807 rfl ?_
  refine x_iload_n hz dL_law_808 rfl ?_
  refine x_iconst (v := (1 : Int32)) hz dL_law_809 (by decide) ?_
  refine x_iadd hz dL_law_810 ?_
  obtain ⟨v6, e_v6, h⟩ := x_bnd h
  refine x_sald hK hz dL_law_811 e_v6 ?_
  refine x_aload_n hz dL_law_812 rfl ?_
  refine x_iload_n hz dL_law_813 rfl ?_
  refine x_iconst (v := (2 : Int32)) hz dL_law_814 (by decide) ?_
  refine x_iadd hz dL_law_815 ?_
  obtain ⟨v7, e_v7, h⟩ := x_bnd h
  refine x_sald hK hz dL_law_816 e_v7 ?_
  obtain ⟨b9, e_b9, h⟩ := x_bnd h
  obtain ⟨v10, H8, e_H8, h⟩ := x_b2 h
  refine x_callVi (as := [.inl v6, .inl v7]) (st := [.int v5]) cs_L_102 (ci := 11) ⟨rfl, rfl⟩ rfl rfl hz (by omega) (Nat.le_trans (x_sm1 rfl x_sm0) (by decide)) dL_law_817 e_b9 (M_X12_may e_H8) ?_
  refine x_icmp_eq (t := 1087) hz dL_law_820 (by decide) (fun c11 => ?_) (fun c11 => ?_)
  · replace h := x_ip c11 h
    exact x_wk (xwk_c (xwk_c (xwk_c (xwk_c xwk_0)))) ((P_L_law_J1087 hZ hk18) x1 x2 x3 H8 h)
  · replace h := x_in c11 h
    refine x_iconst (v := (0 : Int32)) hz dL_law_823 (by decide) ?_
    exact (x_l01 h).elim
noncomputable def F_L_law_J825 (N : Nat) (L : Nat) (xs : Nat → Int32) (k18 : (Option Nat) → (Option Nat) → Int32 → xH → Option (Int32 × xH)) (x1 : (Option Nat)) (x2 : (Option Nat)) (x3 : Int32) (H : xH) : Option (Int32 × xH) :=
  (xlS L xs (x3 + (1 : Int32))).bind fun v1 =>
  (xlS L xs (x3 + (2 : Int32))).bind fun v2 =>
  (xob H x1 10).bind fun b4 =>
  x_bd2 (F_X11_end N x1 v1 v2 H) fun v5 H3 =>
  (xlS L xs (x3 + (1 : Int32))).bind fun v6 =>
  (xlS L xs (x3 + (2 : Int32))).bind fun v7 =>
  (xob H3 x2 11).bind fun b9 =>
  x_bd2 (F_X12_end N x2 v6 v7 H3) fun v10 H8 =>
  if v5 = v10 then ((F_L_law_J1087 N L xs k18) x1 x2 x3 H8) else (some ((0 : Int32), H8))
set_option maxRecDepth 20000 in
set_option maxHeartbeats 4000000 in
theorem P_L_law_J825 {N : Nat} {Z : xZ} {b L : Nat} {xs : Nat → Int32} {nm : String} {Hf : xH} (hZ : Z = xZl nm 53 b L xs Hf) {k18 : (Option Nat) → (Option Nat) → Int32 → xH → Option (Int32 × xH)} (hk18 : ∀ (x1 : (Option Nat)) (x2 : (Option Nat)) (x3 : Int32) (H : xH), k18 x1 x2 x3 H = some (1, Hf) → xWq Z H 18 [xA (some b), xA x1, xA x2, xI x3] []) : ∀ (x1 : (Option Nat)) (x2 : (Option Nat)) (x3 : Int32) (H : xH), F_L_law_J825 N L xs k18 x1 x2 x3 H = some (1, Hf) → xWq Z H 825 [xA (some b), xA x1, xA x2, xI x3] [] := by
  have hz : Z.1 = (cL_law, (⟨RL, nm, "([I)Z"⟩ : MethodName), 4) := by rw [hZ]; rfl
  have hδ : Z.2.1 = 53 := by rw [hZ]; rfl
  have hK : Z.2.2.2.2 = xKl b L xs := by rw [hZ]; rfl
  intro x1 x2 x3 H h
  unfold F_L_law_J825 at h
  refine x_aload_n hz dL_law_825 rfl ?_
  refine x_aload_n hz dL_law_826 rfl ?_
  refine x_iload_n hz dL_law_827 rfl ?_
  refine x_iconst (v := (1 : Int32)) hz dL_law_828 (by decide) ?_
  refine x_iadd hz dL_law_829 ?_
  obtain ⟨v1, e_v1, h⟩ := x_bnd h
  refine x_sald hK hz dL_law_830 e_v1 ?_
  refine x_aload_n hz dL_law_831 rfl ?_
  refine x_iload_n hz dL_law_832 rfl ?_
  refine x_iconst (v := (2 : Int32)) hz dL_law_833 (by decide) ?_
  refine x_iadd hz dL_law_834 ?_
  obtain ⟨v2, e_v2, h⟩ := x_bnd h
  refine x_sald hK hz dL_law_835 e_v2 ?_
  obtain ⟨b4, e_b4, h⟩ := x_bnd h
  obtain ⟨v5, H3, e_H3, h⟩ := x_b2 h
  refine x_callVi (as := [.inl v1, .inl v2]) (st := []) cs_L_103 (ci := 10) ⟨rfl, rfl⟩ rfl rfl hz (by omega) (by decide) dL_law_836 e_b4 (M_X11_end e_H3) ?_
  refine x_aload_n hz dL_law_839 rfl ?_
  refine x_aload_n hz dL_law_840 rfl ?_
  refine x_iload_n hz dL_law_841 rfl ?_
  refine x_iconst (v := (1 : Int32)) hz dL_law_842 (by decide) ?_
  refine x_iadd hz dL_law_843 ?_
  obtain ⟨v6, e_v6, h⟩ := x_bnd h
  refine x_sald hK hz dL_law_844 e_v6 ?_
  refine x_aload_n hz dL_law_845 rfl ?_
  refine x_iload_n hz dL_law_846 rfl ?_
  refine x_iconst (v := (2 : Int32)) hz dL_law_847 (by decide) ?_
  refine x_iadd hz dL_law_848 ?_
  obtain ⟨v7, e_v7, h⟩ := x_bnd h
  refine x_sald hK hz dL_law_849 e_v7 ?_
  obtain ⟨b9, e_b9, h⟩ := x_bnd h
  obtain ⟨v10, H8, e_H8, h⟩ := x_b2 h
  refine x_callVi (as := [.inl v6, .inl v7]) (st := [.int v5]) cs_L_106 (ci := 11) ⟨rfl, rfl⟩ rfl rfl hz (by omega) (Nat.le_trans (x_sm1 rfl x_sm0) (by decide)) dL_law_850 e_b9 (M_X12_end e_H8) ?_
  refine x_icmp_eq (t := 1087) hz dL_law_853 (by decide) (fun c11 => ?_) (fun c11 => ?_)
  · replace h := x_ip c11 h
    exact x_wk (xwk_c (xwk_c (xwk_c (xwk_c xwk_0)))) ((P_L_law_J1087 hZ hk18) x1 x2 x3 H8 h)
  · replace h := x_in c11 h
    refine x_iconst (v := (0 : Int32)) hz dL_law_856 (by decide) ?_
    exact (x_l01 h).elim
noncomputable def F_L_law_J858 (N : Nat) (L : Nat) (xs : Nat → Int32) (k18 : (Option Nat) → (Option Nat) → Int32 → xH → Option (Int32 × xH)) (x1 : (Option Nat)) (x2 : (Option Nat)) (x3 : Int32) (H : xH) : Option (Int32 × xH) :=
  (xob H x1 10).bind fun b2 =>
  x_bd2 (F_X11_settle N x1 H) fun v3 H1 =>
  (xob H1 x2 11).bind fun b5 =>
  x_bd2 (F_X12_settle N x2 H1) fun v6 H4 =>
  if v3 = v6 then ((F_L_law_J1087 N L xs k18) x1 x2 x3 H4) else (some ((0 : Int32), H4))
set_option maxRecDepth 20000 in
set_option maxHeartbeats 4000000 in
theorem P_L_law_J858 {N : Nat} {Z : xZ} {b L : Nat} {xs : Nat → Int32} {nm : String} {Hf : xH} (hZ : Z = xZl nm 53 b L xs Hf) {k18 : (Option Nat) → (Option Nat) → Int32 → xH → Option (Int32 × xH)} (hk18 : ∀ (x1 : (Option Nat)) (x2 : (Option Nat)) (x3 : Int32) (H : xH), k18 x1 x2 x3 H = some (1, Hf) → xWq Z H 18 [xA (some b), xA x1, xA x2, xI x3] []) : ∀ (x1 : (Option Nat)) (x2 : (Option Nat)) (x3 : Int32) (H : xH), F_L_law_J858 N L xs k18 x1 x2 x3 H = some (1, Hf) → xWq Z H 858 [xA (some b), xA x1, xA x2, xI x3] [] := by
  have hz : Z.1 = (cL_law, (⟨RL, nm, "([I)Z"⟩ : MethodName), 4) := by rw [hZ]; rfl
  have hδ : Z.2.1 = 53 := by rw [hZ]; rfl
  have hK : Z.2.2.2.2 = xKl b L xs := by rw [hZ]; rfl
  intro x1 x2 x3 H h
  unfold F_L_law_J858 at h
  refine x_aload_n hz dL_law_858 rfl ?_
  obtain ⟨b2, e_b2, h⟩ := x_bnd h
  obtain ⟨v3, H1, e_H1, h⟩ := x_b2 h
  refine x_callVi (as := []) (st := []) cs_L_107 (ci := 10) ⟨rfl, rfl⟩ rfl rfl hz (by omega) (by decide) dL_law_859 e_b2 (M_X11_settle e_H1) ?_
  refine x_aload_n hz dL_law_862 rfl ?_
  obtain ⟨b5, e_b5, h⟩ := x_bnd h
  obtain ⟨v6, H4, e_H4, h⟩ := x_b2 h
  refine x_callVi (as := []) (st := [.int v3]) cs_L_110 (ci := 11) ⟨rfl, rfl⟩ rfl rfl hz (by omega) (Nat.le_trans (x_sm1 rfl x_sm0) (by decide)) dL_law_863 e_b5 (M_X12_settle e_H4) ?_
  refine x_icmp_eq (t := 1087) hz dL_law_866 (by decide) (fun c7 => ?_) (fun c7 => ?_)
  · replace h := x_ip c7 h
    exact x_wk (xwk_c (xwk_c (xwk_c (xwk_c xwk_0)))) ((P_L_law_J1087 hZ hk18) x1 x2 x3 H4 h)
  · replace h := x_in c7 h
    refine x_iconst (v := (0 : Int32)) hz dL_law_869 (by decide) ?_
    exact (x_l01 h).elim
noncomputable def F_L_law_J871 (N : Nat) (L : Nat) (xs : Nat → Int32) (k18 : (Option Nat) → (Option Nat) → Int32 → xH → Option (Int32 × xH)) (x1 : (Option Nat)) (x2 : (Option Nat)) (x3 : Int32) (H : xH) : Option (Int32 × xH) :=
  (xlS L xs (x3 + (1 : Int32))).bind fun v1 =>
  (xob H x1 10).bind fun b3 =>
  x_bd2 (F_X11_best N x1 v1 H) fun v4 H2 =>
  (xlS L xs (x3 + (1 : Int32))).bind fun v5 =>
  (xob H2 x2 11).bind fun b7 =>
  x_bd2 (F_X12_best N x2 v5 H2) fun v8 H6 =>
  if v4 = v8 then ((F_L_law_J1087 N L xs k18) x1 x2 x3 H6) else (some ((0 : Int32), H6))
set_option maxRecDepth 20000 in
set_option maxHeartbeats 4000000 in
theorem P_L_law_J871 {N : Nat} {Z : xZ} {b L : Nat} {xs : Nat → Int32} {nm : String} {Hf : xH} (hZ : Z = xZl nm 53 b L xs Hf) {k18 : (Option Nat) → (Option Nat) → Int32 → xH → Option (Int32 × xH)} (hk18 : ∀ (x1 : (Option Nat)) (x2 : (Option Nat)) (x3 : Int32) (H : xH), k18 x1 x2 x3 H = some (1, Hf) → xWq Z H 18 [xA (some b), xA x1, xA x2, xI x3] []) : ∀ (x1 : (Option Nat)) (x2 : (Option Nat)) (x3 : Int32) (H : xH), F_L_law_J871 N L xs k18 x1 x2 x3 H = some (1, Hf) → xWq Z H 871 [xA (some b), xA x1, xA x2, xI x3] [] := by
  have hz : Z.1 = (cL_law, (⟨RL, nm, "([I)Z"⟩ : MethodName), 4) := by rw [hZ]; rfl
  have hδ : Z.2.1 = 53 := by rw [hZ]; rfl
  have hK : Z.2.2.2.2 = xKl b L xs := by rw [hZ]; rfl
  intro x1 x2 x3 H h
  unfold F_L_law_J871 at h
  refine x_aload_n hz dL_law_871 rfl ?_
  refine x_aload_n hz dL_law_872 rfl ?_
  refine x_iload_n hz dL_law_873 rfl ?_
  refine x_iconst (v := (1 : Int32)) hz dL_law_874 (by decide) ?_
  refine x_iadd hz dL_law_875 ?_
  obtain ⟨v1, e_v1, h⟩ := x_bnd h
  refine x_sald hK hz dL_law_876 e_v1 ?_
  obtain ⟨b3, e_b3, h⟩ := x_bnd h
  obtain ⟨v4, H2, e_H2, h⟩ := x_b2 h
  refine x_callVi (as := [.inl v1]) (st := []) cs_L_111 (ci := 10) ⟨rfl, rfl⟩ rfl rfl hz (by omega) (by decide) dL_law_877 e_b3 (M_X11_best e_H2) ?_
  refine x_aload_n hz dL_law_880 rfl ?_
  refine x_aload_n hz dL_law_881 rfl ?_
  refine x_iload_n hz dL_law_882 rfl ?_
  refine x_iconst (v := (1 : Int32)) hz dL_law_883 (by decide) ?_
  refine x_iadd hz dL_law_884 ?_
  obtain ⟨v5, e_v5, h⟩ := x_bnd h
  refine x_sald hK hz dL_law_885 e_v5 ?_
  obtain ⟨b7, e_b7, h⟩ := x_bnd h
  obtain ⟨v8, H6, e_H6, h⟩ := x_b2 h
  refine x_callVi (as := [.inl v5]) (st := [.int v4]) cs_L_114 (ci := 11) ⟨rfl, rfl⟩ rfl rfl hz (by omega) (Nat.le_trans (x_sm1 rfl x_sm0) (by decide)) dL_law_886 e_b7 (M_X12_best e_H6) ?_
  refine x_icmp_eq (t := 1087) hz dL_law_889 (by decide) (fun c9 => ?_) (fun c9 => ?_)
  · replace h := x_ip c9 h
    exact x_wk (xwk_c (xwk_c (xwk_c (xwk_c xwk_0)))) ((P_L_law_J1087 hZ hk18) x1 x2 x3 H6 h)
  · replace h := x_in c9 h
    refine x_iconst (v := (0 : Int32)) hz dL_law_892 (by decide) ?_
    exact (x_l01 h).elim
noncomputable def F_L_law_J894 (N : Nat) (L : Nat) (xs : Nat → Int32) (k18 : (Option Nat) → (Option Nat) → Int32 → xH → Option (Int32 × xH)) (x1 : (Option Nat)) (x2 : (Option Nat)) (x3 : Int32) (H : xH) : Option (Int32 × xH) :=
  (xlS L xs (x3 + (1 : Int32))).bind fun v1 =>
  (xlS L xs (x3 + (2 : Int32))).bind fun v2 =>
  (xob H x1 10).bind fun b4 =>
  x_bd2 (F_X11_win N x1 v1 v2 H) fun v5 H3 =>
  (xlS L xs (x3 + (1 : Int32))).bind fun v6 =>
  (xlS L xs (x3 + (2 : Int32))).bind fun v7 =>
  (xob H3 x2 11).bind fun b9 =>
  x_bd2 (F_X12_win N x2 v6 v7 H3) fun v10 H8 =>
  if v5 = v10 then ((F_L_law_J1087 N L xs k18) x1 x2 x3 H8) else (some ((0 : Int32), H8))
set_option maxRecDepth 20000 in
set_option maxHeartbeats 4000000 in
theorem P_L_law_J894 {N : Nat} {Z : xZ} {b L : Nat} {xs : Nat → Int32} {nm : String} {Hf : xH} (hZ : Z = xZl nm 53 b L xs Hf) {k18 : (Option Nat) → (Option Nat) → Int32 → xH → Option (Int32 × xH)} (hk18 : ∀ (x1 : (Option Nat)) (x2 : (Option Nat)) (x3 : Int32) (H : xH), k18 x1 x2 x3 H = some (1, Hf) → xWq Z H 18 [xA (some b), xA x1, xA x2, xI x3] []) : ∀ (x1 : (Option Nat)) (x2 : (Option Nat)) (x3 : Int32) (H : xH), F_L_law_J894 N L xs k18 x1 x2 x3 H = some (1, Hf) → xWq Z H 894 [xA (some b), xA x1, xA x2, xI x3] [] := by
  have hz : Z.1 = (cL_law, (⟨RL, nm, "([I)Z"⟩ : MethodName), 4) := by rw [hZ]; rfl
  have hδ : Z.2.1 = 53 := by rw [hZ]; rfl
  have hK : Z.2.2.2.2 = xKl b L xs := by rw [hZ]; rfl
  intro x1 x2 x3 H h
  unfold F_L_law_J894 at h
  refine x_aload_n hz dL_law_894 rfl ?_
  refine x_aload_n hz dL_law_895 rfl ?_
  refine x_iload_n hz dL_law_896 rfl ?_
  refine x_iconst (v := (1 : Int32)) hz dL_law_897 (by decide) ?_
  refine x_iadd hz dL_law_898 ?_
  obtain ⟨v1, e_v1, h⟩ := x_bnd h
  refine x_sald hK hz dL_law_899 e_v1 ?_
  refine x_aload_n hz dL_law_900 rfl ?_
  refine x_iload_n hz dL_law_901 rfl ?_
  refine x_iconst (v := (2 : Int32)) hz dL_law_902 (by decide) ?_
  refine x_iadd hz dL_law_903 ?_
  obtain ⟨v2, e_v2, h⟩ := x_bnd h
  refine x_sald hK hz dL_law_904 e_v2 ?_
  obtain ⟨b4, e_b4, h⟩ := x_bnd h
  obtain ⟨v5, H3, e_H3, h⟩ := x_b2 h
  refine x_callVi (as := [.inl v1, .inl v2]) (st := []) cs_L_115 (ci := 10) ⟨rfl, rfl⟩ rfl rfl hz (by omega) (by decide) dL_law_905 e_b4 (M_X11_win e_H3) ?_
  refine x_aload_n hz dL_law_908 rfl ?_
  refine x_aload_n hz dL_law_909 rfl ?_
  refine x_iload_n hz dL_law_910 rfl ?_
  refine x_iconst (v := (1 : Int32)) hz dL_law_911 (by decide) ?_
  refine x_iadd hz dL_law_912 ?_
  obtain ⟨v6, e_v6, h⟩ := x_bnd h
  refine x_sald hK hz dL_law_913 e_v6 ?_
  refine x_aload_n hz dL_law_914 rfl ?_
  refine x_iload_n hz dL_law_915 rfl ?_
  refine x_iconst (v := (2 : Int32)) hz dL_law_916 (by decide) ?_
  refine x_iadd hz dL_law_917 ?_
  obtain ⟨v7, e_v7, h⟩ := x_bnd h
  refine x_sald hK hz dL_law_918 e_v7 ?_
  obtain ⟨b9, e_b9, h⟩ := x_bnd h
  obtain ⟨v10, H8, e_H8, h⟩ := x_b2 h
  refine x_callVi (as := [.inl v6, .inl v7]) (st := [.int v5]) cs_L_118 (ci := 11) ⟨rfl, rfl⟩ rfl rfl hz (by omega) (Nat.le_trans (x_sm1 rfl x_sm0) (by decide)) dL_law_919 e_b9 (M_X12_win e_H8) ?_
  refine x_icmp_eq (t := 1087) hz dL_law_922 (by decide) (fun c11 => ?_) (fun c11 => ?_)
  · replace h := x_ip c11 h
    exact x_wk (xwk_c (xwk_c (xwk_c (xwk_c xwk_0)))) ((P_L_law_J1087 hZ hk18) x1 x2 x3 H8 h)
  · replace h := x_in c11 h
    refine x_iconst (v := (0 : Int32)) hz dL_law_925 (by decide) ?_
    exact (x_l01 h).elim
noncomputable def F_L_law_J927 (N : Nat) (L : Nat) (xs : Nat → Int32) (k18 : (Option Nat) → (Option Nat) → Int32 → xH → Option (Int32 × xH)) (x1 : (Option Nat)) (x2 : (Option Nat)) (x3 : Int32) (H : xH) : Option (Int32 × xH) :=
  (xlS L xs (x3 + (1 : Int32))).bind fun v1 =>
  (xlS L xs (x3 + (2 : Int32))).bind fun v2 =>
  (xob H x1 10).bind fun b4 =>
  x_bd2 (F_X11_worth N x1 v1 v2 H) fun v5 H3 =>
  (xlS L xs (x3 + (1 : Int32))).bind fun v6 =>
  (xlS L xs (x3 + (2 : Int32))).bind fun v7 =>
  (xob H3 x2 11).bind fun b9 =>
  x_bd2 (F_X12_worth N x2 v6 v7 H3) fun v10 H8 =>
  if (lg_cmp v5 v10) = 0 then ((F_L_law_J1087 N L xs k18) x1 x2 x3 H8) else (some ((0 : Int32), H8))
set_option maxRecDepth 20000 in
set_option maxHeartbeats 4000000 in
theorem P_L_law_J927 {N : Nat} {Z : xZ} {b L : Nat} {xs : Nat → Int32} {nm : String} {Hf : xH} (hZ : Z = xZl nm 53 b L xs Hf) {k18 : (Option Nat) → (Option Nat) → Int32 → xH → Option (Int32 × xH)} (hk18 : ∀ (x1 : (Option Nat)) (x2 : (Option Nat)) (x3 : Int32) (H : xH), k18 x1 x2 x3 H = some (1, Hf) → xWq Z H 18 [xA (some b), xA x1, xA x2, xI x3] []) : ∀ (x1 : (Option Nat)) (x2 : (Option Nat)) (x3 : Int32) (H : xH), F_L_law_J927 N L xs k18 x1 x2 x3 H = some (1, Hf) → xWq Z H 927 [xA (some b), xA x1, xA x2, xI x3] [] := by
  have hz : Z.1 = (cL_law, (⟨RL, nm, "([I)Z"⟩ : MethodName), 4) := by rw [hZ]; rfl
  have hδ : Z.2.1 = 53 := by rw [hZ]; rfl
  have hK : Z.2.2.2.2 = xKl b L xs := by rw [hZ]; rfl
  intro x1 x2 x3 H h
  unfold F_L_law_J927 at h
  refine x_aload_n hz dL_law_927 rfl ?_
  refine x_aload_n hz dL_law_928 rfl ?_
  refine x_iload_n hz dL_law_929 rfl ?_
  refine x_iconst (v := (1 : Int32)) hz dL_law_930 (by decide) ?_
  refine x_iadd hz dL_law_931 ?_
  obtain ⟨v1, e_v1, h⟩ := x_bnd h
  refine x_sald hK hz dL_law_932 e_v1 ?_
  refine x_aload_n hz dL_law_933 rfl ?_
  refine x_iload_n hz dL_law_934 rfl ?_
  refine x_iconst (v := (2 : Int32)) hz dL_law_935 (by decide) ?_
  refine x_iadd hz dL_law_936 ?_
  obtain ⟨v2, e_v2, h⟩ := x_bnd h
  refine x_sald hK hz dL_law_937 e_v2 ?_
  obtain ⟨b4, e_b4, h⟩ := x_bnd h
  obtain ⟨v5, H3, e_H3, h⟩ := x_b2 h
  refine x_callVl (as := [.inl v1, .inl v2]) (st := []) cs_L_119 (ci := 10) ⟨rfl, rfl⟩ rfl rfl hz (by omega) (by decide) dL_law_938 e_b4 (M_X11_worth e_H3) ?_
  refine x_aload_n hz dL_law_941 rfl ?_
  refine x_aload_n hz dL_law_942 rfl ?_
  refine x_iload_n hz dL_law_943 rfl ?_
  refine x_iconst (v := (1 : Int32)) hz dL_law_944 (by decide) ?_
  refine x_iadd hz dL_law_945 ?_
  obtain ⟨v6, e_v6, h⟩ := x_bnd h
  refine x_sald hK hz dL_law_946 e_v6 ?_
  refine x_aload_n hz dL_law_947 rfl ?_
  refine x_iload_n hz dL_law_948 rfl ?_
  refine x_iconst (v := (2 : Int32)) hz dL_law_949 (by decide) ?_
  refine x_iadd hz dL_law_950 ?_
  obtain ⟨v7, e_v7, h⟩ := x_bnd h
  refine x_sald hK hz dL_law_951 e_v7 ?_
  obtain ⟨b9, e_b9, h⟩ := x_bnd h
  obtain ⟨v10, H8, e_H8, h⟩ := x_b2 h
  refine x_callVl (as := [.inl v6, .inl v7]) (st := [.long v5]) cs_L_123 (ci := 11) ⟨rfl, rfl⟩ rfl rfl hz (by omega) (Nat.le_trans (x_sm2 rfl x_sm0) (by decide)) dL_law_952 e_b9 (M_X12_worth e_H8) ?_
  refine x_lcmp hz dL_law_955 ?_
  refine x_if_eq (t := 1087) hz dL_law_956 (by decide) (fun c11 => ?_) (fun c11 => ?_)
  · replace h := x_ip c11 h
    exact x_wk (xwk_c (xwk_c (xwk_c (xwk_c xwk_0)))) ((P_L_law_J1087 hZ hk18) x1 x2 x3 H8 h)
  · replace h := x_in c11 h
    refine x_iconst (v := (0 : Int32)) hz dL_law_959 (by decide) ?_
    exact (x_l01 h).elim
noncomputable def F_L_law_J961 (N : Nat) (L : Nat) (xs : Nat → Int32) (k18 : (Option Nat) → (Option Nat) → Int32 → xH → Option (Int32 × xH)) (x1 : (Option Nat)) (x2 : (Option Nat)) (x3 : Int32) (H : xH) : Option (Int32 × xH) :=
  (xlS L xs (x3 + (1 : Int32))).bind fun v1 =>
  (xlS L xs (x3 + (2 : Int32))).bind fun v2 =>
  (xob H x1 10).bind fun b4 =>
  x_bd2 (F_X11_holds N x1 v1 v2 H) fun v5 H3 =>
  (xlS L xs (x3 + (1 : Int32))).bind fun v6 =>
  (xlS L xs (x3 + (2 : Int32))).bind fun v7 =>
  (xob H3 x2 11).bind fun b9 =>
  x_bd2 (F_X12_holds N x2 v6 v7 H3) fun v10 H8 =>
  if (lg_cmp v5 v10) = 0 then ((F_L_law_J1087 N L xs k18) x1 x2 x3 H8) else (some ((0 : Int32), H8))
set_option maxRecDepth 20000 in
set_option maxHeartbeats 4000000 in
theorem P_L_law_J961 {N : Nat} {Z : xZ} {b L : Nat} {xs : Nat → Int32} {nm : String} {Hf : xH} (hZ : Z = xZl nm 53 b L xs Hf) {k18 : (Option Nat) → (Option Nat) → Int32 → xH → Option (Int32 × xH)} (hk18 : ∀ (x1 : (Option Nat)) (x2 : (Option Nat)) (x3 : Int32) (H : xH), k18 x1 x2 x3 H = some (1, Hf) → xWq Z H 18 [xA (some b), xA x1, xA x2, xI x3] []) : ∀ (x1 : (Option Nat)) (x2 : (Option Nat)) (x3 : Int32) (H : xH), F_L_law_J961 N L xs k18 x1 x2 x3 H = some (1, Hf) → xWq Z H 961 [xA (some b), xA x1, xA x2, xI x3] [] := by
  have hz : Z.1 = (cL_law, (⟨RL, nm, "([I)Z"⟩ : MethodName), 4) := by rw [hZ]; rfl
  have hδ : Z.2.1 = 53 := by rw [hZ]; rfl
  have hK : Z.2.2.2.2 = xKl b L xs := by rw [hZ]; rfl
  intro x1 x2 x3 H h
  unfold F_L_law_J961 at h
  refine x_aload_n hz dL_law_961 rfl ?_
  refine x_aload_n hz dL_law_962 rfl ?_
  refine x_iload_n hz dL_law_963 rfl ?_
  refine x_iconst (v := (1 : Int32)) hz dL_law_964 (by decide) ?_
  refine x_iadd hz dL_law_965 ?_
  obtain ⟨v1, e_v1, h⟩ := x_bnd h
  refine x_sald hK hz dL_law_966 e_v1 ?_
  refine x_aload_n hz dL_law_967 rfl ?_
  refine x_iload_n hz dL_law_968 rfl ?_
  refine x_iconst (v := (2 : Int32)) hz dL_law_969 (by decide) ?_
  refine x_iadd hz dL_law_970 ?_
  obtain ⟨v2, e_v2, h⟩ := x_bnd h
  refine x_sald hK hz dL_law_971 e_v2 ?_
  obtain ⟨b4, e_b4, h⟩ := x_bnd h
  obtain ⟨v5, H3, e_H3, h⟩ := x_b2 h
  refine x_callVl (as := [.inl v1, .inl v2]) (st := []) cs_L_124 (ci := 10) ⟨rfl, rfl⟩ rfl rfl hz (by omega) (by decide) dL_law_972 e_b4 (M_X11_holds e_H3) ?_
  refine x_aload_n hz dL_law_975 rfl ?_
  refine x_aload_n hz dL_law_976 rfl ?_
  refine x_iload_n hz dL_law_977 rfl ?_
  refine x_iconst (v := (1 : Int32)) hz dL_law_978 (by decide) ?_
  refine x_iadd hz dL_law_979 ?_
  obtain ⟨v6, e_v6, h⟩ := x_bnd h
  refine x_sald hK hz dL_law_980 e_v6 ?_
  refine x_aload_n hz dL_law_981 rfl ?_
  refine x_iload_n hz dL_law_982 rfl ?_
  refine x_iconst (v := (2 : Int32)) hz dL_law_983 (by decide) ?_
  refine x_iadd hz dL_law_984 ?_
  obtain ⟨v7, e_v7, h⟩ := x_bnd h
  refine x_sald hK hz dL_law_985 e_v7 ?_
  obtain ⟨b9, e_b9, h⟩ := x_bnd h
  obtain ⟨v10, H8, e_H8, h⟩ := x_b2 h
  refine x_callVl (as := [.inl v6, .inl v7]) (st := [.long v5]) cs_L_127 (ci := 11) ⟨rfl, rfl⟩ rfl rfl hz (by omega) (Nat.le_trans (x_sm2 rfl x_sm0) (by decide)) dL_law_986 e_b9 (M_X12_holds e_H8) ?_
  refine x_lcmp hz dL_law_989 ?_
  refine x_if_eq (t := 1087) hz dL_law_990 (by decide) (fun c11 => ?_) (fun c11 => ?_)
  · replace h := x_ip c11 h
    exact x_wk (xwk_c (xwk_c (xwk_c (xwk_c xwk_0)))) ((P_L_law_J1087 hZ hk18) x1 x2 x3 H8 h)
  · replace h := x_in c11 h
    refine x_iconst (v := (0 : Int32)) hz dL_law_993 (by decide) ?_
    exact (x_l01 h).elim
noncomputable def F_L_law_J995 (N : Nat) (L : Nat) (xs : Nat → Int32) (k18 : (Option Nat) → (Option Nat) → Int32 → xH → Option (Int32 × xH)) (x1 : (Option Nat)) (x2 : (Option Nat)) (x3 : Int32) (H : xH) : Option (Int32 × xH) :=
  (xlS L xs (x3 + (1 : Int32))).bind fun v1 =>
  (xlS L xs (x3 + (2 : Int32))).bind fun v2 =>
  (xob H x1 10).bind fun b4 =>
  x_bd2 (F_X11_luck N x1 v1 v2 H) fun v5 H3 =>
  (xlS L xs (x3 + (1 : Int32))).bind fun v6 =>
  (xlS L xs (x3 + (2 : Int32))).bind fun v7 =>
  (xob H3 x2 11).bind fun b9 =>
  x_bd2 (F_X12_luck N x2 v6 v7 H3) fun v10 H8 =>
  if v5 = v10 then ((F_L_law_J1087 N L xs k18) x1 x2 x3 H8) else (some ((0 : Int32), H8))
set_option maxRecDepth 20000 in
set_option maxHeartbeats 4000000 in
theorem P_L_law_J995 {N : Nat} {Z : xZ} {b L : Nat} {xs : Nat → Int32} {nm : String} {Hf : xH} (hZ : Z = xZl nm 53 b L xs Hf) {k18 : (Option Nat) → (Option Nat) → Int32 → xH → Option (Int32 × xH)} (hk18 : ∀ (x1 : (Option Nat)) (x2 : (Option Nat)) (x3 : Int32) (H : xH), k18 x1 x2 x3 H = some (1, Hf) → xWq Z H 18 [xA (some b), xA x1, xA x2, xI x3] []) : ∀ (x1 : (Option Nat)) (x2 : (Option Nat)) (x3 : Int32) (H : xH), F_L_law_J995 N L xs k18 x1 x2 x3 H = some (1, Hf) → xWq Z H 995 [xA (some b), xA x1, xA x2, xI x3] [] := by
  have hz : Z.1 = (cL_law, (⟨RL, nm, "([I)Z"⟩ : MethodName), 4) := by rw [hZ]; rfl
  have hδ : Z.2.1 = 53 := by rw [hZ]; rfl
  have hK : Z.2.2.2.2 = xKl b L xs := by rw [hZ]; rfl
  intro x1 x2 x3 H h
  unfold F_L_law_J995 at h
  refine x_aload_n hz dL_law_995 rfl ?_
  refine x_aload_n hz dL_law_996 rfl ?_
  refine x_iload_n hz dL_law_997 rfl ?_
  refine x_iconst (v := (1 : Int32)) hz dL_law_998 (by decide) ?_
  refine x_iadd hz dL_law_999 ?_
  obtain ⟨v1, e_v1, h⟩ := x_bnd h
  refine x_sald hK hz dL_law_1000 e_v1 ?_
  refine x_aload_n hz dL_law_1001 rfl ?_
  refine x_iload_n hz dL_law_1002 rfl ?_
  refine x_iconst (v := (2 : Int32)) hz dL_law_1003 (by decide) ?_
  refine x_iadd hz dL_law_1004 ?_
  obtain ⟨v2, e_v2, h⟩ := x_bnd h
  refine x_sald hK hz dL_law_1005 e_v2 ?_
  obtain ⟨b4, e_b4, h⟩ := x_bnd h
  obtain ⟨v5, H3, e_H3, h⟩ := x_b2 h
  refine x_callVi (as := [.inl v1, .inl v2]) (st := []) cs_L_128 (ci := 10) ⟨rfl, rfl⟩ rfl rfl hz (by omega) (by decide) dL_law_1006 e_b4 (M_X11_luck e_H3) ?_
  refine x_aload_n hz dL_law_1009 rfl ?_
  refine x_aload_n hz dL_law_1010 rfl ?_
  refine x_iload_n hz dL_law_1011 rfl ?_
  refine x_iconst (v := (1 : Int32)) hz dL_law_1012 (by decide) ?_
  refine x_iadd hz dL_law_1013 ?_
  obtain ⟨v6, e_v6, h⟩ := x_bnd h
  refine x_sald hK hz dL_law_1014 e_v6 ?_
  refine x_aload_n hz dL_law_1015 rfl ?_
  refine x_iload_n hz dL_law_1016 rfl ?_
  refine x_iconst (v := (2 : Int32)) hz dL_law_1017 (by decide) ?_
  refine x_iadd hz dL_law_1018 ?_
  obtain ⟨v7, e_v7, h⟩ := x_bnd h
  refine x_sald hK hz dL_law_1019 e_v7 ?_
  obtain ⟨b9, e_b9, h⟩ := x_bnd h
  obtain ⟨v10, H8, e_H8, h⟩ := x_b2 h
  refine x_callVi (as := [.inl v6, .inl v7]) (st := [.int v5]) cs_L_131 (ci := 11) ⟨rfl, rfl⟩ rfl rfl hz (by omega) (Nat.le_trans (x_sm1 rfl x_sm0) (by decide)) dL_law_1020 e_b9 (M_X12_luck e_H8) ?_
  refine x_icmp_eq (t := 1087) hz dL_law_1023 (by decide) (fun c11 => ?_) (fun c11 => ?_)
  · replace h := x_ip c11 h
    exact x_wk (xwk_c (xwk_c (xwk_c (xwk_c xwk_0)))) ((P_L_law_J1087 hZ hk18) x1 x2 x3 H8 h)
  · replace h := x_in c11 h
    refine x_iconst (v := (0 : Int32)) hz dL_law_1026 (by decide) ?_
    exact (x_l01 h).elim
noncomputable def F_L_law_J1028 (N : Nat) (L : Nat) (xs : Nat → Int32) (k18 : (Option Nat) → (Option Nat) → Int32 → xH → Option (Int32 × xH)) (x1 : (Option Nat)) (x2 : (Option Nat)) (x3 : Int32) (H : xH) : Option (Int32 × xH) :=
  (xob H x1 10).bind fun b2 =>
  x_bd2 (F_X11_image N x1 H) fun v3 H1 =>
  (xob H1 x2 11).bind fun b5 =>
  x_bd2 (F_X12_image N x2 H1) fun v6 H4 =>
  if v3 = v6 then ((F_L_law_J1087 N L xs k18) x1 x2 x3 H4) else (some ((0 : Int32), H4))
set_option maxRecDepth 20000 in
set_option maxHeartbeats 4000000 in
theorem P_L_law_J1028 {N : Nat} {Z : xZ} {b L : Nat} {xs : Nat → Int32} {nm : String} {Hf : xH} (hZ : Z = xZl nm 53 b L xs Hf) {k18 : (Option Nat) → (Option Nat) → Int32 → xH → Option (Int32 × xH)} (hk18 : ∀ (x1 : (Option Nat)) (x2 : (Option Nat)) (x3 : Int32) (H : xH), k18 x1 x2 x3 H = some (1, Hf) → xWq Z H 18 [xA (some b), xA x1, xA x2, xI x3] []) : ∀ (x1 : (Option Nat)) (x2 : (Option Nat)) (x3 : Int32) (H : xH), F_L_law_J1028 N L xs k18 x1 x2 x3 H = some (1, Hf) → xWq Z H 1028 [xA (some b), xA x1, xA x2, xI x3] [] := by
  have hz : Z.1 = (cL_law, (⟨RL, nm, "([I)Z"⟩ : MethodName), 4) := by rw [hZ]; rfl
  have hδ : Z.2.1 = 53 := by rw [hZ]; rfl
  have hK : Z.2.2.2.2 = xKl b L xs := by rw [hZ]; rfl
  intro x1 x2 x3 H h
  unfold F_L_law_J1028 at h
  refine x_aload_n hz dL_law_1028 rfl ?_
  obtain ⟨b2, e_b2, h⟩ := x_bnd h
  obtain ⟨v3, H1, e_H1, h⟩ := x_b2 h
  refine x_callVi (as := []) (st := []) cs_L_132 (ci := 10) ⟨rfl, rfl⟩ rfl rfl hz (by omega) (by decide) dL_law_1029 e_b2 (M_X11_image e_H1) ?_
  refine x_aload_n hz dL_law_1032 rfl ?_
  obtain ⟨b5, e_b5, h⟩ := x_bnd h
  obtain ⟨v6, H4, e_H4, h⟩ := x_b2 h
  refine x_callVi (as := []) (st := [.int v3]) cs_L_135 (ci := 11) ⟨rfl, rfl⟩ rfl rfl hz (by omega) (Nat.le_trans (x_sm1 rfl x_sm0) (by decide)) dL_law_1033 e_b5 (M_X12_image e_H4) ?_
  refine x_icmp_eq (t := 1087) hz dL_law_1036 (by decide) (fun c7 => ?_) (fun c7 => ?_)
  · replace h := x_ip c7 h
    exact x_wk (xwk_c (xwk_c (xwk_c (xwk_c xwk_0)))) ((P_L_law_J1087 hZ hk18) x1 x2 x3 H4 h)
  · replace h := x_in c7 h
    refine x_iconst (v := (0 : Int32)) hz dL_law_1039 (by decide) ?_
    exact (x_l01 h).elim
noncomputable def F_L_law_J1041 (N : Nat) (L : Nat) (xs : Nat → Int32) (k18 : (Option Nat) → (Option Nat) → Int32 → xH → Option (Int32 × xH)) (x1 : (Option Nat)) (x2 : (Option Nat)) (x3 : Int32) (H : xH) : Option (Int32 × xH) :=
  (xlS L xs (x3 + (1 : Int32))).bind fun v1 =>
  (xob H x1 10).bind fun b3 =>
  x_bd2 (F_X11_back N x1 v1 H) fun v4 H2 =>
  (xlS L xs (x3 + (1 : Int32))).bind fun v5 =>
  (xob H2 x2 11).bind fun b7 =>
  x_bd2 (F_X12_back N x2 v5 H2) fun v8 H6 =>
  if v4 = v8 then ((F_L_law_J1087 N L xs k18) x1 x2 x3 H6) else (some ((0 : Int32), H6))
set_option maxRecDepth 20000 in
set_option maxHeartbeats 4000000 in
theorem P_L_law_J1041 {N : Nat} {Z : xZ} {b L : Nat} {xs : Nat → Int32} {nm : String} {Hf : xH} (hZ : Z = xZl nm 53 b L xs Hf) {k18 : (Option Nat) → (Option Nat) → Int32 → xH → Option (Int32 × xH)} (hk18 : ∀ (x1 : (Option Nat)) (x2 : (Option Nat)) (x3 : Int32) (H : xH), k18 x1 x2 x3 H = some (1, Hf) → xWq Z H 18 [xA (some b), xA x1, xA x2, xI x3] []) : ∀ (x1 : (Option Nat)) (x2 : (Option Nat)) (x3 : Int32) (H : xH), F_L_law_J1041 N L xs k18 x1 x2 x3 H = some (1, Hf) → xWq Z H 1041 [xA (some b), xA x1, xA x2, xI x3] [] := by
  have hz : Z.1 = (cL_law, (⟨RL, nm, "([I)Z"⟩ : MethodName), 4) := by rw [hZ]; rfl
  have hδ : Z.2.1 = 53 := by rw [hZ]; rfl
  have hK : Z.2.2.2.2 = xKl b L xs := by rw [hZ]; rfl
  intro x1 x2 x3 H h
  unfold F_L_law_J1041 at h
  refine x_aload_n hz dL_law_1041 rfl ?_
  refine x_aload_n hz dL_law_1042 rfl ?_
  refine x_iload_n hz dL_law_1043 rfl ?_
  refine x_iconst (v := (1 : Int32)) hz dL_law_1044 (by decide) ?_
  refine x_iadd hz dL_law_1045 ?_
  obtain ⟨v1, e_v1, h⟩ := x_bnd h
  refine x_sald hK hz dL_law_1046 e_v1 ?_
  obtain ⟨b3, e_b3, h⟩ := x_bnd h
  obtain ⟨v4, H2, e_H2, h⟩ := x_b2 h
  refine x_callVi (as := [.inl v1]) (st := []) cs_L_136 (ci := 10) ⟨rfl, rfl⟩ rfl rfl hz (by omega) (by decide) dL_law_1047 e_b3 (M_X11_back e_H2) ?_
  refine x_aload_n hz dL_law_1050 rfl ?_
  refine x_aload_n hz dL_law_1051 rfl ?_
  refine x_iload_n hz dL_law_1052 rfl ?_
  refine x_iconst (v := (1 : Int32)) hz dL_law_1053 (by decide) ?_
  refine x_iadd hz dL_law_1054 ?_
  obtain ⟨v5, e_v5, h⟩ := x_bnd h
  refine x_sald hK hz dL_law_1055 e_v5 ?_
  obtain ⟨b7, e_b7, h⟩ := x_bnd h
  obtain ⟨v8, H6, e_H6, h⟩ := x_b2 h
  refine x_callVi (as := [.inl v5]) (st := [.int v4]) cs_L_140 (ci := 11) ⟨rfl, rfl⟩ rfl rfl hz (by omega) (Nat.le_trans (x_sm1 rfl x_sm0) (by decide)) dL_law_1056 e_b7 (M_X12_back e_H6) ?_
  refine x_icmp_eq (t := 1087) hz dL_law_1059 (by decide) (fun c9 => ?_) (fun c9 => ?_)
  · replace h := x_ip c9 h
    exact x_wk (xwk_c (xwk_c (xwk_c (xwk_c xwk_0)))) ((P_L_law_J1087 hZ hk18) x1 x2 x3 H6 h)
  · replace h := x_in c9 h
    refine x_iconst (v := (0 : Int32)) hz dL_law_1062 (by decide) ?_
    exact (x_l01 h).elim
noncomputable def F_L_law_J1064 (N : Nat) (L : Nat) (xs : Nat → Int32) (k18 : (Option Nat) → (Option Nat) → Int32 → xH → Option (Int32 × xH)) (x1 : (Option Nat)) (x2 : (Option Nat)) (x3 : Int32) (H : xH) : Option (Int32 × xH) :=
  (xlS L xs (x3 + (1 : Int32))).bind fun v1 =>
  (xob H x1 10).bind fun b3 =>
  x_bd2 (F_X11_count N x1 v1 H) fun v4 H2 =>
  (xlS L xs (x3 + (1 : Int32))).bind fun v5 =>
  (xob H2 x2 11).bind fun b7 =>
  x_bd2 (F_X12_count N x2 v5 H2) fun v8 H6 =>
  if v4 = v8 then ((F_L_law_J1087 N L xs k18) x1 x2 x3 H6) else (some ((0 : Int32), H6))
set_option maxRecDepth 20000 in
set_option maxHeartbeats 4000000 in
theorem P_L_law_J1064 {N : Nat} {Z : xZ} {b L : Nat} {xs : Nat → Int32} {nm : String} {Hf : xH} (hZ : Z = xZl nm 53 b L xs Hf) {k18 : (Option Nat) → (Option Nat) → Int32 → xH → Option (Int32 × xH)} (hk18 : ∀ (x1 : (Option Nat)) (x2 : (Option Nat)) (x3 : Int32) (H : xH), k18 x1 x2 x3 H = some (1, Hf) → xWq Z H 18 [xA (some b), xA x1, xA x2, xI x3] []) : ∀ (x1 : (Option Nat)) (x2 : (Option Nat)) (x3 : Int32) (H : xH), F_L_law_J1064 N L xs k18 x1 x2 x3 H = some (1, Hf) → xWq Z H 1064 [xA (some b), xA x1, xA x2, xI x3] [] := by
  have hz : Z.1 = (cL_law, (⟨RL, nm, "([I)Z"⟩ : MethodName), 4) := by rw [hZ]; rfl
  have hδ : Z.2.1 = 53 := by rw [hZ]; rfl
  have hK : Z.2.2.2.2 = xKl b L xs := by rw [hZ]; rfl
  intro x1 x2 x3 H h
  unfold F_L_law_J1064 at h
  refine x_aload_n hz dL_law_1064 rfl ?_
  refine x_aload_n hz dL_law_1065 rfl ?_
  refine x_iload_n hz dL_law_1066 rfl ?_
  refine x_iconst (v := (1 : Int32)) hz dL_law_1067 (by decide) ?_
  refine x_iadd hz dL_law_1068 ?_
  obtain ⟨v1, e_v1, h⟩ := x_bnd h
  refine x_sald hK hz dL_law_1069 e_v1 ?_
  obtain ⟨b3, e_b3, h⟩ := x_bnd h
  obtain ⟨v4, H2, e_H2, h⟩ := x_b2 h
  refine x_callVi (as := [.inl v1]) (st := []) cs_L_141 (ci := 10) ⟨rfl, rfl⟩ rfl rfl hz (by omega) (by decide) dL_law_1070 e_b3 (M_X11_count e_H2) ?_
  refine x_aload_n hz dL_law_1073 rfl ?_
  refine x_aload_n hz dL_law_1074 rfl ?_
  refine x_iload_n hz dL_law_1075 rfl ?_
  refine x_iconst (v := (1 : Int32)) hz dL_law_1076 (by decide) ?_
  refine x_iadd hz dL_law_1077 ?_
  obtain ⟨v5, e_v5, h⟩ := x_bnd h
  refine x_sald hK hz dL_law_1078 e_v5 ?_
  obtain ⟨b7, e_b7, h⟩ := x_bnd h
  obtain ⟨v8, H6, e_H6, h⟩ := x_b2 h
  refine x_callVi (as := [.inl v5]) (st := [.int v4]) cs_L_144 (ci := 11) ⟨rfl, rfl⟩ rfl rfl hz (by omega) (Nat.le_trans (x_sm1 rfl x_sm0) (by decide)) dL_law_1079 e_b7 (M_X12_count e_H6) ?_
  refine x_icmp_eq (t := 1087) hz dL_law_1082 (by decide) (fun c9 => ?_) (fun c9 => ?_)
  · replace h := x_ip c9 h
    exact x_wk (xwk_c (xwk_c (xwk_c (xwk_c xwk_0)))) ((P_L_law_J1087 hZ hk18) x1 x2 x3 H6 h)
  · replace h := x_in c9 h
    refine x_iconst (v := (0 : Int32)) hz dL_law_1085 (by decide) ?_
    exact (x_l01 h).elim
noncomputable def F_L_law_J18 (N : Nat) (L : Nat) (xs : Nat → Int32) (k18 : (Option Nat) → (Option Nat) → Int32 → xH → Option (Int32 × xH)) (x1 : (Option Nat)) (x2 : (Option Nat)) (x3 : Int32) (H : xH) : Option (Int32 × xH) :=
  if ((Int32.ofNat L) - (6 : Int32)) < x3 then (some ((1 : Int32), H)) else ((xlS L xs x3).bind fun v3 =>
  if (v3 &&& (31 : Int32)) = 0 then ((F_L_law_J172 N L xs k18) x1 x2 x3 H) else (if (v3 &&& (31 : Int32)) = 1 then ((F_L_law_J235 N L xs k18) x1 x2 x3 H) else (if (v3 &&& (31 : Int32)) = 2 then ((F_L_law_J258 N L xs k18) x1 x2 x3 H) else (if (v3 &&& (31 : Int32)) = 3 then ((F_L_law_J271 N L xs k18) x1 x2 x3 H) else (if (v3 &&& (31 : Int32)) = 4 then ((F_L_law_J294 N L xs k18) x1 x2 x3 H) else (if (v3 &&& (31 : Int32)) = 5 then ((F_L_law_J327 N L xs k18) x1 x2 x3 H) else (if (v3 &&& (31 : Int32)) = 6 then ((F_L_law_J350 N L xs k18) x1 x2 x3 H) else (if (v3 &&& (31 : Int32)) = 7 then ((F_L_law_J373 N L xs k18) x1 x2 x3 H) else (if (v3 &&& (31 : Int32)) = 8 then ((F_L_law_J416 N L xs k18) x1 x2 x3 H) else (if (v3 &&& (31 : Int32)) = 9 then ((F_L_law_J469 N L xs k18) x1 x2 x3 H) else (if (v3 &&& (31 : Int32)) = 10 then ((F_L_law_J512 N L xs k18) x1 x2 x3 H) else (if (v3 &&& (31 : Int32)) = 11 then ((F_L_law_J535 N L xs k18) x1 x2 x3 H) else (if (v3 &&& (31 : Int32)) = 12 then ((F_L_law_J558 N L xs k18) x1 x2 x3 H) else (if (v3 &&& (31 : Int32)) = 13 then ((F_L_law_J591 N L xs k18) x1 x2 x3 H) else (if (v3 &&& (31 : Int32)) = 14 then ((F_L_law_J624 N L xs k18) x1 x2 x3 H) else (if (v3 &&& (31 : Int32)) = 15 then ((F_L_law_J657 N L xs k18) x1 x2 x3 H) else (if (v3 &&& (31 : Int32)) = 16 then ((F_L_law_J690 N L xs k18) x1 x2 x3 H) else (if (v3 &&& (31 : Int32)) = 17 then ((F_L_law_J713 N L xs k18) x1 x2 x3 H) else (if (v3 &&& (31 : Int32)) = 18 then ((F_L_law_J736 N L xs k18) x1 x2 x3 H) else (if (v3 &&& (31 : Int32)) = 19 then ((F_L_law_J769 N L xs k18) x1 x2 x3 H) else (if (v3 &&& (31 : Int32)) = 20 then ((F_L_law_J792 N L xs k18) x1 x2 x3 H) else (if (v3 &&& (31 : Int32)) = 21 then ((F_L_law_J825 N L xs k18) x1 x2 x3 H) else (if (v3 &&& (31 : Int32)) = 22 then ((F_L_law_J858 N L xs k18) x1 x2 x3 H) else (if (v3 &&& (31 : Int32)) = 23 then ((F_L_law_J871 N L xs k18) x1 x2 x3 H) else (if (v3 &&& (31 : Int32)) = 24 then ((F_L_law_J894 N L xs k18) x1 x2 x3 H) else (if (v3 &&& (31 : Int32)) = 25 then ((F_L_law_J927 N L xs k18) x1 x2 x3 H) else (if (v3 &&& (31 : Int32)) = 26 then ((F_L_law_J961 N L xs k18) x1 x2 x3 H) else (if (v3 &&& (31 : Int32)) = 27 then ((F_L_law_J995 N L xs k18) x1 x2 x3 H) else (if (v3 &&& (31 : Int32)) = 28 then ((F_L_law_J1028 N L xs k18) x1 x2 x3 H) else (if (v3 &&& (31 : Int32)) = 29 then ((F_L_law_J1041 N L xs k18) x1 x2 x3 H) else (if (v3 &&& (31 : Int32)) = 30 then ((F_L_law_J1064 N L xs k18) x1 x2 x3 H) else ((F_L_law_J1087 N L xs k18) x1 x2 x3 H))))))))))))))))))))))))))))))))
set_option maxRecDepth 20000 in
set_option maxHeartbeats 4000000 in
theorem P_L_law_J18 {N : Nat} {Z : xZ} {b L : Nat} {xs : Nat → Int32} {nm : String} {Hf : xH} (hZ : Z = xZl nm 53 b L xs Hf) {k18 : (Option Nat) → (Option Nat) → Int32 → xH → Option (Int32 × xH)} (hk18 : ∀ (x1 : (Option Nat)) (x2 : (Option Nat)) (x3 : Int32) (H : xH), k18 x1 x2 x3 H = some (1, Hf) → xWq Z H 18 [xA (some b), xA x1, xA x2, xI x3] []) : ∀ (x1 : (Option Nat)) (x2 : (Option Nat)) (x3 : Int32) (H : xH), F_L_law_J18 N L xs k18 x1 x2 x3 H = some (1, Hf) → xWq Z H 18 [xA (some b), xA x1, xA x2, xI x3] [] := by
  have hz : Z.1 = (cL_law, (⟨RL, nm, "([I)Z"⟩ : MethodName), 4) := by rw [hZ]; rfl
  have hδ : Z.2.1 = 53 := by rw [hZ]; rfl
  have hK : Z.2.2.2.2 = xKl b L xs := by rw [hZ]; rfl
  intro x1 x2 x3 H h
  unfold F_L_law_J18 at h
  refine x_iload_n hz dL_law_18 rfl ?_
  refine x_aload_n hz dL_law_19 rfl ?_
  refine x_slen hK hz dL_law_20 ?_
  refine x_bipush (v := (6 : Int32)) hz dL_law_21 (by decide) ?_
  refine x_isub hz dL_law_23 ?_
  refine x_icmp_gt (t := 1093) hz dL_law_24 (by decide) (fun c2 => ?_) (fun c2 => ?_)
  · replace h := x_ip c2 h
    refine x_iconst (v := (1 : Int32)) hz dL_law_1093 (by decide) ?_
    cases h
    exact x_lawret hZ dL_law_1094
  · replace h := x_in c2 h
    refine x_aload_n hz dL_law_27 rfl ?_
    refine x_iload_n hz dL_law_28 rfl ?_
    obtain ⟨v3, e_v3, h⟩ := x_bnd h
    refine x_sald hK hz dL_law_29 e_v3 ?_
    refine x_bipush (v := (31 : Int32)) hz dL_law_30 (by decide) ?_
    refine x_iand hz dL_law_32 ?_
    by_cases c4 : (v3 &&& (31 : Int32)) = 0
    · replace h := x_ip c4 h
      refine x_tsIn (t := 172) (off := 139) hz dL_law_33 (by rw [c4]; decide) (by rw [c4]; decide) (by rw [c4]; decide) (by decide) ?_
      exact x_wk (xwk_c (xwk_c (xwk_c (xwk_c xwk_0)))) ((P_L_law_J172 hZ hk18) x1 x2 x3 H h)
    replace h := x_in c4 h
    by_cases c5 : (v3 &&& (31 : Int32)) = 1
    · replace h := x_ip c5 h
      refine x_tsIn (t := 235) (off := 202) hz dL_law_33 (by rw [c5]; decide) (by rw [c5]; decide) (by rw [c5]; decide) (by decide) ?_
      exact x_wk (xwk_c (xwk_c (xwk_c (xwk_c xwk_0)))) ((P_L_law_J235 hZ hk18) x1 x2 x3 H h)
    replace h := x_in c5 h
    by_cases c6 : (v3 &&& (31 : Int32)) = 2
    · replace h := x_ip c6 h
      refine x_tsIn (t := 258) (off := 225) hz dL_law_33 (by rw [c6]; decide) (by rw [c6]; decide) (by rw [c6]; decide) (by decide) ?_
      exact x_wk (xwk_c (xwk_c (xwk_c (xwk_c xwk_0)))) ((P_L_law_J258 hZ hk18) x1 x2 x3 H h)
    replace h := x_in c6 h
    by_cases c7 : (v3 &&& (31 : Int32)) = 3
    · replace h := x_ip c7 h
      refine x_tsIn (t := 271) (off := 238) hz dL_law_33 (by rw [c7]; decide) (by rw [c7]; decide) (by rw [c7]; decide) (by decide) ?_
      exact x_wk (xwk_c (xwk_c (xwk_c (xwk_c xwk_0)))) ((P_L_law_J271 hZ hk18) x1 x2 x3 H h)
    replace h := x_in c7 h
    by_cases c8 : (v3 &&& (31 : Int32)) = 4
    · replace h := x_ip c8 h
      refine x_tsIn (t := 294) (off := 261) hz dL_law_33 (by rw [c8]; decide) (by rw [c8]; decide) (by rw [c8]; decide) (by decide) ?_
      exact x_wk (xwk_c (xwk_c (xwk_c (xwk_c xwk_0)))) ((P_L_law_J294 hZ hk18) x1 x2 x3 H h)
    replace h := x_in c8 h
    by_cases c9 : (v3 &&& (31 : Int32)) = 5
    · replace h := x_ip c9 h
      refine x_tsIn (t := 327) (off := 294) hz dL_law_33 (by rw [c9]; decide) (by rw [c9]; decide) (by rw [c9]; decide) (by decide) ?_
      exact x_wk (xwk_c (xwk_c (xwk_c (xwk_c xwk_0)))) ((P_L_law_J327 hZ hk18) x1 x2 x3 H h)
    replace h := x_in c9 h
    by_cases c10 : (v3 &&& (31 : Int32)) = 6
    · replace h := x_ip c10 h
      refine x_tsIn (t := 350) (off := 317) hz dL_law_33 (by rw [c10]; decide) (by rw [c10]; decide) (by rw [c10]; decide) (by decide) ?_
      exact x_wk (xwk_c (xwk_c (xwk_c (xwk_c xwk_0)))) ((P_L_law_J350 hZ hk18) x1 x2 x3 H h)
    replace h := x_in c10 h
    by_cases c11 : (v3 &&& (31 : Int32)) = 7
    · replace h := x_ip c11 h
      refine x_tsIn (t := 373) (off := 340) hz dL_law_33 (by rw [c11]; decide) (by rw [c11]; decide) (by rw [c11]; decide) (by decide) ?_
      exact x_wk (xwk_c (xwk_c (xwk_c (xwk_c xwk_0)))) ((P_L_law_J373 hZ hk18) x1 x2 x3 H h)
    replace h := x_in c11 h
    by_cases c12 : (v3 &&& (31 : Int32)) = 8
    · replace h := x_ip c12 h
      refine x_tsIn (t := 416) (off := 383) hz dL_law_33 (by rw [c12]; decide) (by rw [c12]; decide) (by rw [c12]; decide) (by decide) ?_
      exact x_wk (xwk_c (xwk_c (xwk_c (xwk_c xwk_0)))) ((P_L_law_J416 hZ hk18) x1 x2 x3 H h)
    replace h := x_in c12 h
    by_cases c13 : (v3 &&& (31 : Int32)) = 9
    · replace h := x_ip c13 h
      refine x_tsIn (t := 469) (off := 436) hz dL_law_33 (by rw [c13]; decide) (by rw [c13]; decide) (by rw [c13]; decide) (by decide) ?_
      exact x_wk (xwk_c (xwk_c (xwk_c (xwk_c xwk_0)))) ((P_L_law_J469 hZ hk18) x1 x2 x3 H h)
    replace h := x_in c13 h
    by_cases c14 : (v3 &&& (31 : Int32)) = 10
    · replace h := x_ip c14 h
      refine x_tsIn (t := 512) (off := 479) hz dL_law_33 (by rw [c14]; decide) (by rw [c14]; decide) (by rw [c14]; decide) (by decide) ?_
      exact x_wk (xwk_c (xwk_c (xwk_c (xwk_c xwk_0)))) ((P_L_law_J512 hZ hk18) x1 x2 x3 H h)
    replace h := x_in c14 h
    by_cases c15 : (v3 &&& (31 : Int32)) = 11
    · replace h := x_ip c15 h
      refine x_tsIn (t := 535) (off := 502) hz dL_law_33 (by rw [c15]; decide) (by rw [c15]; decide) (by rw [c15]; decide) (by decide) ?_
      exact x_wk (xwk_c (xwk_c (xwk_c (xwk_c xwk_0)))) ((P_L_law_J535 hZ hk18) x1 x2 x3 H h)
    replace h := x_in c15 h
    by_cases c16 : (v3 &&& (31 : Int32)) = 12
    · replace h := x_ip c16 h
      refine x_tsIn (t := 558) (off := 525) hz dL_law_33 (by rw [c16]; decide) (by rw [c16]; decide) (by rw [c16]; decide) (by decide) ?_
      exact x_wk (xwk_c (xwk_c (xwk_c (xwk_c xwk_0)))) ((P_L_law_J558 hZ hk18) x1 x2 x3 H h)
    replace h := x_in c16 h
    by_cases c17 : (v3 &&& (31 : Int32)) = 13
    · replace h := x_ip c17 h
      refine x_tsIn (t := 591) (off := 558) hz dL_law_33 (by rw [c17]; decide) (by rw [c17]; decide) (by rw [c17]; decide) (by decide) ?_
      exact x_wk (xwk_c (xwk_c (xwk_c (xwk_c xwk_0)))) ((P_L_law_J591 hZ hk18) x1 x2 x3 H h)
    replace h := x_in c17 h
    by_cases c18 : (v3 &&& (31 : Int32)) = 14
    · replace h := x_ip c18 h
      refine x_tsIn (t := 624) (off := 591) hz dL_law_33 (by rw [c18]; decide) (by rw [c18]; decide) (by rw [c18]; decide) (by decide) ?_
      exact x_wk (xwk_c (xwk_c (xwk_c (xwk_c xwk_0)))) ((P_L_law_J624 hZ hk18) x1 x2 x3 H h)
    replace h := x_in c18 h
    by_cases c19 : (v3 &&& (31 : Int32)) = 15
    · replace h := x_ip c19 h
      refine x_tsIn (t := 657) (off := 624) hz dL_law_33 (by rw [c19]; decide) (by rw [c19]; decide) (by rw [c19]; decide) (by decide) ?_
      exact x_wk (xwk_c (xwk_c (xwk_c (xwk_c xwk_0)))) ((P_L_law_J657 hZ hk18) x1 x2 x3 H h)
    replace h := x_in c19 h
    by_cases c20 : (v3 &&& (31 : Int32)) = 16
    · replace h := x_ip c20 h
      refine x_tsIn (t := 690) (off := 657) hz dL_law_33 (by rw [c20]; decide) (by rw [c20]; decide) (by rw [c20]; decide) (by decide) ?_
      exact x_wk (xwk_c (xwk_c (xwk_c (xwk_c xwk_0)))) ((P_L_law_J690 hZ hk18) x1 x2 x3 H h)
    replace h := x_in c20 h
    by_cases c21 : (v3 &&& (31 : Int32)) = 17
    · replace h := x_ip c21 h
      refine x_tsIn (t := 713) (off := 680) hz dL_law_33 (by rw [c21]; decide) (by rw [c21]; decide) (by rw [c21]; decide) (by decide) ?_
      exact x_wk (xwk_c (xwk_c (xwk_c (xwk_c xwk_0)))) ((P_L_law_J713 hZ hk18) x1 x2 x3 H h)
    replace h := x_in c21 h
    by_cases c22 : (v3 &&& (31 : Int32)) = 18
    · replace h := x_ip c22 h
      refine x_tsIn (t := 736) (off := 703) hz dL_law_33 (by rw [c22]; decide) (by rw [c22]; decide) (by rw [c22]; decide) (by decide) ?_
      exact x_wk (xwk_c (xwk_c (xwk_c (xwk_c xwk_0)))) ((P_L_law_J736 hZ hk18) x1 x2 x3 H h)
    replace h := x_in c22 h
    by_cases c23 : (v3 &&& (31 : Int32)) = 19
    · replace h := x_ip c23 h
      refine x_tsIn (t := 769) (off := 736) hz dL_law_33 (by rw [c23]; decide) (by rw [c23]; decide) (by rw [c23]; decide) (by decide) ?_
      exact x_wk (xwk_c (xwk_c (xwk_c (xwk_c xwk_0)))) ((P_L_law_J769 hZ hk18) x1 x2 x3 H h)
    replace h := x_in c23 h
    by_cases c24 : (v3 &&& (31 : Int32)) = 20
    · replace h := x_ip c24 h
      refine x_tsIn (t := 792) (off := 759) hz dL_law_33 (by rw [c24]; decide) (by rw [c24]; decide) (by rw [c24]; decide) (by decide) ?_
      exact x_wk (xwk_c (xwk_c (xwk_c (xwk_c xwk_0)))) ((P_L_law_J792 hZ hk18) x1 x2 x3 H h)
    replace h := x_in c24 h
    by_cases c25 : (v3 &&& (31 : Int32)) = 21
    · replace h := x_ip c25 h
      refine x_tsIn (t := 825) (off := 792) hz dL_law_33 (by rw [c25]; decide) (by rw [c25]; decide) (by rw [c25]; decide) (by decide) ?_
      exact x_wk (xwk_c (xwk_c (xwk_c (xwk_c xwk_0)))) ((P_L_law_J825 hZ hk18) x1 x2 x3 H h)
    replace h := x_in c25 h
    by_cases c26 : (v3 &&& (31 : Int32)) = 22
    · replace h := x_ip c26 h
      refine x_tsIn (t := 858) (off := 825) hz dL_law_33 (by rw [c26]; decide) (by rw [c26]; decide) (by rw [c26]; decide) (by decide) ?_
      exact x_wk (xwk_c (xwk_c (xwk_c (xwk_c xwk_0)))) ((P_L_law_J858 hZ hk18) x1 x2 x3 H h)
    replace h := x_in c26 h
    by_cases c27 : (v3 &&& (31 : Int32)) = 23
    · replace h := x_ip c27 h
      refine x_tsIn (t := 871) (off := 838) hz dL_law_33 (by rw [c27]; decide) (by rw [c27]; decide) (by rw [c27]; decide) (by decide) ?_
      exact x_wk (xwk_c (xwk_c (xwk_c (xwk_c xwk_0)))) ((P_L_law_J871 hZ hk18) x1 x2 x3 H h)
    replace h := x_in c27 h
    by_cases c28 : (v3 &&& (31 : Int32)) = 24
    · replace h := x_ip c28 h
      refine x_tsIn (t := 894) (off := 861) hz dL_law_33 (by rw [c28]; decide) (by rw [c28]; decide) (by rw [c28]; decide) (by decide) ?_
      exact x_wk (xwk_c (xwk_c (xwk_c (xwk_c xwk_0)))) ((P_L_law_J894 hZ hk18) x1 x2 x3 H h)
    replace h := x_in c28 h
    by_cases c29 : (v3 &&& (31 : Int32)) = 25
    · replace h := x_ip c29 h
      refine x_tsIn (t := 927) (off := 894) hz dL_law_33 (by rw [c29]; decide) (by rw [c29]; decide) (by rw [c29]; decide) (by decide) ?_
      exact x_wk (xwk_c (xwk_c (xwk_c (xwk_c xwk_0)))) ((P_L_law_J927 hZ hk18) x1 x2 x3 H h)
    replace h := x_in c29 h
    by_cases c30 : (v3 &&& (31 : Int32)) = 26
    · replace h := x_ip c30 h
      refine x_tsIn (t := 961) (off := 928) hz dL_law_33 (by rw [c30]; decide) (by rw [c30]; decide) (by rw [c30]; decide) (by decide) ?_
      exact x_wk (xwk_c (xwk_c (xwk_c (xwk_c xwk_0)))) ((P_L_law_J961 hZ hk18) x1 x2 x3 H h)
    replace h := x_in c30 h
    by_cases c31 : (v3 &&& (31 : Int32)) = 27
    · replace h := x_ip c31 h
      refine x_tsIn (t := 995) (off := 962) hz dL_law_33 (by rw [c31]; decide) (by rw [c31]; decide) (by rw [c31]; decide) (by decide) ?_
      exact x_wk (xwk_c (xwk_c (xwk_c (xwk_c xwk_0)))) ((P_L_law_J995 hZ hk18) x1 x2 x3 H h)
    replace h := x_in c31 h
    by_cases c32 : (v3 &&& (31 : Int32)) = 28
    · replace h := x_ip c32 h
      refine x_tsIn (t := 1028) (off := 995) hz dL_law_33 (by rw [c32]; decide) (by rw [c32]; decide) (by rw [c32]; decide) (by decide) ?_
      exact x_wk (xwk_c (xwk_c (xwk_c (xwk_c xwk_0)))) ((P_L_law_J1028 hZ hk18) x1 x2 x3 H h)
    replace h := x_in c32 h
    by_cases c33 : (v3 &&& (31 : Int32)) = 29
    · replace h := x_ip c33 h
      refine x_tsIn (t := 1041) (off := 1008) hz dL_law_33 (by rw [c33]; decide) (by rw [c33]; decide) (by rw [c33]; decide) (by decide) ?_
      exact x_wk (xwk_c (xwk_c (xwk_c (xwk_c xwk_0)))) ((P_L_law_J1041 hZ hk18) x1 x2 x3 H h)
    replace h := x_in c33 h
    by_cases c34 : (v3 &&& (31 : Int32)) = 30
    · replace h := x_ip c34 h
      refine x_tsIn (t := 1064) (off := 1031) hz dL_law_33 (by rw [c34]; decide) (by rw [c34]; decide) (by rw [c34]; decide) (by decide) ?_
      exact x_wk (xwk_c (xwk_c (xwk_c (xwk_c xwk_0)))) ((P_L_law_J1064 hZ hk18) x1 x2 x3 H h)
    replace h := x_in c34 h
    refine x_tsOut (t := 1087) hz dL_law_33 (x_tsN (v3 &&& (31 : Int32)) (0) (30) (by decide) (by decide) (fun i h1 h2 => ?_)) (by decide) ?_
    · (have h3 : i = 0 ∨ i = 1 ∨ i = 2 ∨ i = 3 ∨ i = 4 ∨ i = 5 ∨ i = 6 ∨ i = 7 ∨ i = 8 ∨ i = 9 ∨ i = 10 ∨ i = 11 ∨ i = 12 ∨ i = 13 ∨ i = 14 ∨ i = 15 ∨ i = 16 ∨ i = 17 ∨ i = 18 ∨ i = 19 ∨ i = 20 ∨ i = 21 ∨ i = 22 ∨ i = 23 ∨ i = 24 ∨ i = 25 ∨ i = 26 ∨ i = 27 ∨ i = 28 ∨ i = 29 ∨ i = 30 := by omega); rcases h3 with rfl | rfl | rfl | rfl | rfl | rfl | rfl | rfl | rfl | rfl | rfl | rfl | rfl | rfl | rfl | rfl | rfl | rfl | rfl | rfl | rfl | rfl | rfl | rfl | rfl | rfl | rfl | rfl | rfl | rfl | rfl <;> intro e <;> first | exact c4 (Int32.toInt_inj.mp (e.trans rfl)) | exact c5 (Int32.toInt_inj.mp (e.trans rfl)) | exact c6 (Int32.toInt_inj.mp (e.trans rfl)) | exact c7 (Int32.toInt_inj.mp (e.trans rfl)) | exact c8 (Int32.toInt_inj.mp (e.trans rfl)) | exact c9 (Int32.toInt_inj.mp (e.trans rfl)) | exact c10 (Int32.toInt_inj.mp (e.trans rfl)) | exact c11 (Int32.toInt_inj.mp (e.trans rfl)) | exact c12 (Int32.toInt_inj.mp (e.trans rfl)) | exact c13 (Int32.toInt_inj.mp (e.trans rfl)) | exact c14 (Int32.toInt_inj.mp (e.trans rfl)) | exact c15 (Int32.toInt_inj.mp (e.trans rfl)) | exact c16 (Int32.toInt_inj.mp (e.trans rfl)) | exact c17 (Int32.toInt_inj.mp (e.trans rfl)) | exact c18 (Int32.toInt_inj.mp (e.trans rfl)) | exact c19 (Int32.toInt_inj.mp (e.trans rfl)) | exact c20 (Int32.toInt_inj.mp (e.trans rfl)) | exact c21 (Int32.toInt_inj.mp (e.trans rfl)) | exact c22 (Int32.toInt_inj.mp (e.trans rfl)) | exact c23 (Int32.toInt_inj.mp (e.trans rfl)) | exact c24 (Int32.toInt_inj.mp (e.trans rfl)) | exact c25 (Int32.toInt_inj.mp (e.trans rfl)) | exact c26 (Int32.toInt_inj.mp (e.trans rfl)) | exact c27 (Int32.toInt_inj.mp (e.trans rfl)) | exact c28 (Int32.toInt_inj.mp (e.trans rfl)) | exact c29 (Int32.toInt_inj.mp (e.trans rfl)) | exact c30 (Int32.toInt_inj.mp (e.trans rfl)) | exact c31 (Int32.toInt_inj.mp (e.trans rfl)) | exact c32 (Int32.toInt_inj.mp (e.trans rfl)) | exact c33 (Int32.toInt_inj.mp (e.trans rfl)) | exact c34 (Int32.toInt_inj.mp (e.trans rfl))
    exact x_wk (xwk_c (xwk_c (xwk_c (xwk_c xwk_0)))) ((P_L_law_J1087 hZ hk18) x1 x2 x3 H h)
noncomputable def F_L_law_L18 (N : Nat) (L : Nat) (xs : Nat → Int32) : Nat → (Option Nat) → (Option Nat) → Int32 → xH → Option (Int32 × xH)
  | 0 => fun _ _ _ _ => none
  | n + 1 => F_L_law_J18 N L xs (F_L_law_L18 N L xs n)
theorem P_L_law_L18 {N : Nat} {Z : xZ} {b L : Nat} {xs : Nat → Int32} {nm : String} {Hf : xH} (hZ : Z = xZl nm 53 b L xs Hf) : ∀ (n : Nat) (x1 : (Option Nat)) (x2 : (Option Nat)) (x3 : Int32) (H : xH), F_L_law_L18 N L xs n x1 x2 x3 H = some (1, Hf) → xWq Z H 18 [xA (some b), xA x1, xA x2, xI x3] [] := by
  intro n
  induction n with
  | zero => intro _ _ _ _ h; cases h
  | succ n ih => exact P_L_law_J18 hZ ih
noncomputable def F_L_law (N : Nat) (L : Nat) (xs : Nat → Int32) (H : xH) : Option (Int32 × xH) :=
  x_lt (xno 10 15 xdf_11 H) fun H1 =>
  (F_X11_init N (some H.2.1) H1).bind fun H2 =>
  x_lt (xno 11 64 xdf_12 H2) fun H3 =>
  (F_X12_init N (some H2.2.1) H3).bind fun H4 =>
  (F_L_law_L18 N L xs N) (some H.2.1) (some H2.2.1) (0 : Int32) H4
set_option maxRecDepth 20000 in
set_option maxHeartbeats 4000000 in
theorem P_L_law {N : Nat} {Z : xZ} {b L : Nat} {xs : Nat → Int32} {nm : String} {Hf : xH} (hZ : Z = xZl nm 53 b L xs Hf) : ∀  (H : xH), F_L_law N L xs  H = some (1, Hf) → xWq Z H 0 [xA (some b), xN, xN, xN] [] := by
  have hz : Z.1 = (cL_law, (⟨RL, nm, "([I)Z"⟩ : MethodName), 4) := by rw [hZ]; rfl
  have hδ : Z.2.1 = 53 := by rw [hZ]; rfl
  have hK : Z.2.2.2.2 = xKl b L xs := by rw [hZ]; rfl
  intro  H h
  unfold F_L_law at h
  obtain ⟨H1, e_H1, h⟩ := x_ltE h
  refine x_new hz dL_law_0 ns_L_7 ?_
  rw [e_H1]
  refine x_dup hz dL_law_3 (x_rfc _) ?_
  obtain ⟨H2, e_H2, h⟩ := x_bnd h
  refine x_callIv (as := []) (st := [va_rf (some H.2.1)]) cs_L_9 rfl rfl rfl rfl hz (by omega) (Nat.le_trans (x_sm1 (x_rfc _) x_sm0) (by decide)) dL_law_4 (M_X11_init e_H2) ?_
  refine x_astore_n (pl' := [xA (some b), xA (some H.2.1), xN, xN]) hz dL_law_7 (by decide) rfl ?_
  obtain ⟨H3, e_H3, h⟩ := x_ltE h
  refine x_new hz dL_law_8 ns_L_10 ?_
  rw [e_H3]
  refine x_dup hz dL_law_11 (x_rfc _) ?_
  obtain ⟨H4, e_H4, h⟩ := x_bnd h
  refine x_callIv (as := []) (st := [va_rf (some H2.2.1)]) cs_L_12 rfl rfl rfl rfl hz (by omega) (Nat.le_trans (x_sm1 (x_rfc _) x_sm0) (by decide)) dL_law_12 (M_X12_init e_H4) ?_
  refine x_astore_n (pl' := [xA (some b), xA (some H.2.1), xA (some H2.2.1), xN]) hz dL_law_15 (by decide) rfl ?_
  refine x_iconst (v := (0 : Int32)) hz dL_law_16 (by decide) ?_
  refine x_istore_n (pl' := [xA (some b), xA (some H.2.1), xA (some H2.2.1), xI (0 : Int32)]) hz dL_law_17 (by decide) rfl ?_
  exact x_wk (xwk_c (xwk_c (xwk_c (xwk_c xwk_0)))) ((P_L_law_L18 hZ N) (some H.2.1) (some H2.2.1) (0 : Int32) H4 h)
