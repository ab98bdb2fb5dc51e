/-! LIGHT ROWS: returns, calls, and the contract xM of a method. -/
def xob (H : xH) (r : Option Nat) (ci : Nat) : Option Nat := match r with
  | none => none
  | some b => match H.1 b with
    | some (true, .inr (c, _)) => if c = ci then some b else none
    | _ => none
def xQ (D : va_G) (da : FieldType → ClassId) (q0 : Nat) (rv : Option Value) (H' : xH) : Array Value → State → Outcome → State → Prop := fun _ st oc t => oc = .returned rv ∧ xR D da q0 H' t t.heap ∧ va_F (fun q => q0 ≤ q) st t
def xKm (ret : Option FieldType) (rv : Option Value) (Hf : xH) : xX → Prop := fun X => match X with
  | (p, l, e, R, s, m, args, below, meth, c, Q, D, da, q0, n0, sl0) => meth.sig.returnType = ret ∧ Q = MQ below (xQ D da q0 rv Hf) args s (Hf.2.1 - n0) (Hf.2.2.1 - sl0) (fun q => q0 ≤ q)
def xZm (code : ByteArray) (y : MethodName) (nL : Nat) (δ : Nat) (ret : Option FieldType) (rv : Option Value) (Hf : xH) : xZ := ((code, y, nL), δ, Hf.2.1, Hf.2.2.1, xKm ret rv Hf)
def xargs : List xV → xPL
  | [] => []
  | o :: t => if x2 o = true then some o :: none :: xargs t else some o :: xargs t
theorem xargs_in : ∀ (as : List xV) (n i : Nat) (o : xV), (xargs as)[i]? = some (some o) → (n + i, xv o) ∈ lv_args n (as.map xv) := by
  intro as
  induction as with
  | nil => intro n i o h; simp [xargs] at h
  | cons a t ih =>
    intro n i o h
    by_cases ha : x2 a = true
    · have hc : (xv a).category = 2 := by
        rcases a with x | x | r
        · cases ha
        · rfl
        · cases ha
      rw [xargs, if_pos ha] at h
      rw [List.map_cons, lv_args, if_pos hc]
      match i with
      | 0 => have : a = o := by simpa using h
             subst this; exact List.mem_cons_self
      | 1 => simp at h
      | i + 2 =>
        have := ih (n + 2) i o (by simpa using h)
        rw [show n + (i + 2) = n + 2 + i by omega]
        exact List.mem_cons_of_mem _ this
    · have hc : ¬ (xv a).category = 2 := fun h9 => ha (x2_cat2 a h9)
      rw [xargs, if_neg ha] at h
      rw [List.map_cons, lv_args, if_neg hc]
      match i with
      | 0 => have : a = o := by simpa using h
             subst this; exact List.mem_cons_self
      | i + 1 =>
        have := ih (n + 1) i o (by simpa using h)
        rw [show n + (i + 1) = n + 1 + i by omega]
        exact List.mem_cons_of_mem _ this
theorem xargs_len : ∀ as : List xV, (lg_sl (as.map xv)).length = (xargs as).length := by
  intro as
  induction as with
  | nil => rfl
  | cons a t ih =>
    have e : lg_sl ((a :: t).map xv) = (if (xv a).category = 2 then [Slot.val (xv a), .second] else [.val (xv a)]) ++ lg_sl (t.map xv) := by simp [lg_sl]
    rw [e, List.length_append, ih]
    by_cases ha : x2 a = true
    · have hc : (xv a).category = 2 := by
        rcases a with x | x | r
        · cases ha
        · rfl
        · cases ha
      simp [xargs, ha, hc]; omega
    · have hc : ¬ (xv a).category = 2 := fun h9 => ha (x2_cat2 a h9)
      simp [xargs, ha, hc]; omega
/-- a method's contract: from the heap H, with these arguments, it answers rv and leaves the heap H' -/
def xM (y : MethodName) (code : ByteArray) (maxL : Nat) (ret : Option FieldType) (δ : Nat) (as : List xV) (H : xH) (rv : Option Value) (H' : xH) : Prop :=
  (H.2.1 ≤ H'.2.1 ∧ H.2.2.1 ≤ H'.2.2.1) ∧ ∀ (l : Launch) (D : va_G) (da : FieldType → ClassId) (q0 : Nat), Met l y (Cond.code y code maxL ret :: xT) ({ frames := δ, cells := H'.2.1 - H.2.1, slots := H'.2.2.1 - H.2.2.1, locals := 40 * δ } : Room) (va_Pc (as.map xv) (fun U => xR D da q0 H U U.heap ∧ xK D da U)) (xQ D da q0 rv H') (H'.2.1 - H.2.1) (H'.2.2.1 - H.2.2.1) (fun q => q0 ≤ q)
theorem xM_of {y : MethodName} {code : ByteArray} {maxL δ : Nat} {ret : Option FieldType} {as : List xV} {H H' : xH} {rv : Option Value} {pl : xPL} (hy : plainName y.cls = true) (hw : Cond.code y code maxL ret ∈ xT) (hlen : (xargs as).length ≤ maxL) (hpl : xargs as ++ List.replicate (maxL - (xargs as).length) none = pl) (b0 : xWq (xZm code y maxL δ ret rv H') H 0 pl []) : xM y code maxL ret δ as H rv H' := by
  subst hpl
  refine ⟨b0.1, fun l D da q0 => ?_⟩
  refine Met.ofW (cc := code) (maxL := maxL) (ret := ret) hy rfl ?_
  intro p e s m args below meth c s₁ B hml hv
  obtain ⟨rfl, hR, hK⟩ := hv
  have hts := atoms_spec (ws := Cond.code y code maxL ret :: xT) B.pre
  have hown : s.vm.findClass y.cls = some m.cls := findClass_of_methodNamed B.named
  have hlocks := B.notSynchronized
  rw [lg_entry_eq]
  have hl := lv_entry (as.map xv) (n := maxL) (by rw [xargs_len]; exact hlen)
  have w := b0.2 (p, l, e, (headSpec (Cond.code y code maxL ret :: xT) ({ frames := δ, cells := H'.2.1 - H.2.1, slots := H'.2.2.1 - H.2.2.1, locals := 40 * δ } : Room)).room, s, m, (as.map xv).toArray, below, meth, c, MQ below (xQ D da q0 rv H') (as.map xv).toArray s (H'.2.1 - H.2.1) (H'.2.2.1 - H.2.2.1) (fun q => q0 ≤ q), D, da, q0, H.2.1, H.2.2.1)
    ⟨B.exec, B.bytes, hml, hown, fun w hw => hts w (List.mem_cons_of_mem _ hw), ⟨hlocks, (name_of_methodNamed B.named B.method).1⟩, hK, ⟨Nat.le_refl _, Nat.le_refl _⟩, ⟨Nat.le_refl _, Nat.le_refl _⟩, B.returns, rfl⟩
    s.heap [] _ hR (Nat.le_refl _) (Nat.le_refl _) va_S.rf ⟨_, hl, fun i o h => ?_⟩
  · rw [Nat.sub_self, Nat.sub_self] at w
    exact w
  · by_cases hi : i < (xargs as).length
    · rw [List.getElem?_append_left hi] at h
      have := xargs_in as 0 i o h
      rwa [Nat.zero_add] at this
    · rw [List.getElem?_append_right (by omega)] at h
      have := List.mem_of_getElem? h
      simp at this
section XR
variable {Z : xZ} {code : ByteArray} {y : MethodName} {nL δ : Nat} {H H1 : xH} {pc : Nat} {pl : xPL} {st : List Value}
theorem x_zret {v : Int32} {ty : FieldType} (hZ : Z = xZm code y nL δ (some ty) (some (.int v)) H) (hn : narrow ty (.int v) = .int v) (hd : decode code pc = .ok (.ireturn, 1)) : xWq Z H pc pl [.int v] := by
  subst hZ
  refine ⟨⟨Nat.le_refl _, Nat.le_refl _⟩, fun X hX => ?_⟩
  obtain ⟨p, l, e, R, s, m, args, below, meth, c, Q, D, da, q0, n0, sl0⟩ := X
  intro Hr locs ls h1 h2 h3 h4 h5
  obtain ⟨o1, o2, o3, o4, o5, ⟨o6, o6'⟩, o7, o8, o9, o10, rfl⟩ := hX
  exact W.zret o1 o2 o10 hn (fun t ht hW => ⟨rfl, by rw [ht]; exact h1.moved hW.alike, h4.F ht⟩) h4.2.2 hd o6
theorem x_iret {v : Int32} (hZ : Z = xZm code y nL δ (some .int) (some (.int v)) H) (hd : decode code pc = .ok (.ireturn, 1)) : xWq Z H pc pl [.int v] := x_zret hZ rfl hd
theorem x_zret01 {v : Int32} (hZ : Z = xZm code y nL δ (some .boolean) (some (.int v)) H) (hv : v = 0 ∨ v = 1) (hd : decode code pc = .ok (.ireturn, 1)) : xWq Z H pc pl [.int v] := x_zret hZ (by rcases hv with rfl | rfl <;> rfl) hd
theorem x_lret {v : Int64} (hZ : Z = xZm code y nL δ (some .long) (some (.long v)) H) (hd : decode code pc = .ok (.lreturn, 1)) : xWq Z H pc pl [.long v] := by
  subst hZ
  refine ⟨⟨Nat.le_refl _, Nat.le_refl _⟩, fun X hX => ?_⟩
  obtain ⟨p, l, e, R, s, m, args, below, meth, c, Q, D, da, q0, n0, sl0⟩ := X
  intro Hr locs ls h1 h2 h3 h4 h5
  obtain ⟨o1, o2, o3, o4, o5, ⟨o6, o6'⟩, o7, o8, o9, o10, rfl⟩ := hX
  exact W.lret o1 o2 o10 (fun t ht hW => ⟨rfl, by rw [ht]; exact h1.moved hW.alike, h4.F ht⟩) h4.2.2 hd o6
theorem x_vret (hZ : Z = xZm code y nL δ none none H) (hd : decode code pc = .ok (.return_, 1)) : xWq Z H pc pl [] := by
  subst hZ
  refine ⟨⟨Nat.le_refl _, Nat.le_refl _⟩, fun X hX => ?_⟩
  obtain ⟨p, l, e, R, s, m, args, below, meth, c, Q, D, da, q0, n0, sl0⟩ := X
  intro Hr locs ls h1 h2 h3 h4 h5
  obtain ⟨o1, o2, o3, o4, o5, ⟨o6, o6'⟩, o7, o8, o9, o10, rfl⟩ := hX
  exact W.vret o1 o2 o10 (fun t ht hW => ⟨rfl, by rw [ht]; exact h1.moved hW.alike, h4.F ht⟩) h4.2.2 hd o6
theorem x_aret {r : Option Nat} {C : String} (hZ : Z = xZm code y nL δ (some (.object C)) (some (va_rf r)) H) (hd : decode code pc = .ok (.areturn, 1)) : xWq Z H pc pl [va_rf r] := by
  subst hZ
  refine ⟨⟨Nat.le_refl _, Nat.le_refl _⟩, fun X hX => ?_⟩
  obtain ⟨p, l, e, R, s, m, args, below, meth, c, Q, D, da, q0, n0, sl0⟩ := X
  intro Hr locs ls h1 h2 h3 h4 h5
  obtain ⟨o1, o2, o3, o4, o5, ⟨o6, o6'⟩, o7, o8, o9, o10, rfl⟩ := hX
  exact W.aret o1 o2 o10 (Or.inl ⟨C, rfl⟩) (va_rf_or r) (fun t ht hW => ⟨rfl, by rw [ht]; exact h1.moved hW.alike, h4.F ht⟩) h4.2.2 hd o6
theorem x_objInit {idx : Nat} {r : Option Nat} {a : Nat} (hr : r = some a) (hZ : Z.1 = (code, y, nL)) (hδ : 1 ≤ Z.2.1) (hs : (st.map fun v => v.category).sum ≤ 8) (hl : Cond.methodLink y.cls idx Lib.objectInit ∈ xT) (hi : Cond.instanceMethod Lib.objectInit ∈ xT) (hc : Cond.code Lib.objectInit ⟨#[0xb1]⟩ 1 none ∈ xT) (hd : decode code pc = .ok (.invokespecial idx, 3)) (kk : xWq Z H (pc + 3) pl st) : xWq Z H pc pl (va_rf r :: st) := by
  subst hr
  refine ⟨kk.1, fun X hX => ?_⟩
  have k2 := kk.2 X hX
  obtain ⟨p, l, e, R, s, m, args, below, meth, c, Q, D, da, q0, n0, sl0⟩ := X
  intro Hr locs ls h1 h2 h3 h4 h5
  have w := k2 Hr locs ls h1 h2 h3 h4 h5
  obtain ⟨o1, o2, o3, o4, o5, o6, o7, o8, o9, o10⟩ := hX
  obtain ⟨lv, g1, -⟩ := h5
  refine W.objInit o1 (by rw [o2, hZ]) (by rw [show y.cls = Z.1.2.1.cls by rw [hZ]]; exact o4) (o5 _ hl) (o5 _ hi) (o5 _ hc) rfl (g1.1.trans o3.symm) rfl hd (by omega) ?_ w
  have h0 : (F0 m pc ls (va_rf (some a) :: st)).monitorRoom = 0 := rfl
  omega
/-- a place in the code that calls -/
def xCb (own : String) (idx : Nat) (y' : MethodName) (code' : ByteArray) (maxL' : Nat) (ret' : Option FieldType) (n : Nat) : Prop := (Cond.methodLink own idx y' ∈ xT ∨ ∃ host, Cond.methodLinkNest own idx y' host ∈ xNW) ∧ Cond.code y' code' maxL' ret' ∈ xT ∧ Cond.initialized y'.cls ∈ xT ∧ (y'.cls ≠ "java/lang/invoke/MethodHandle" ∧ y'.cls ≠ "java/lang/invoke/VarHandle") ∧ (parseMethodDescriptor y'.desc).map (fun d => d.parameters.length) = some n ∧ maxL' ≤ 21
theorem x_run {p : Program} {l : Launch} {e : Env} {R : Room} {s : State} {m : MethodId} {args : Array Value} {below : List Frame} {meth : Method} {c : Code} {Hr : Heap} {locs : List Loc} {cells slots mc ms : Nat} {Q : State → Prop} {ls : Array Slot} {D : va_G} {da : FieldType → ClassId} {q0 : Nat} {rv : Option Value} {rest st0 : List Value} {a : Array Value}
    (hr : va_Run p l e R s m args below meth c Hr locs cells slots mc ms (F0 m pc ls st0) rest (xQ D da q0 rv H1 a) (fun q => q0 ≤ q)) (hS : va_S (fun q => q0 ≤ q) s.heap Hr locs)
    (kk : ∀ (Hr1 : Heap) (locs1 : List Loc), xR D da q0 H1 s Hr1 → va_S (fun q => q0 ≤ q) s.heap Hr1 locs1 → W p l e R s m args below meth c Hr1 locs1 (cells + mc) (slots + ms) Q (F0 m (pc + 3) ls (rv.toList ++ rest))) : W p l e R s m args below meth c Hr locs cells slots Q (F0 m pc ls st0) := by
  intro T hT X
  obtain ⟨v, st₀, t, T', L, h0, X', hL, e1, e2, ⟨hv, hR1, hz, hk⟩, st⟩ := hr T hT X
  cases hv
  rw [h0] at hz hk
  have hal : t.vm.Alike s.vm := by rw [← e2]; exact X'.warmed.alike.symm
  have hR2 : xR D da q0 H1 s T'.heap := by rw [e1]; exact hR1.moved hal
  obtain ⟨t2, a1, b1⟩ := kk T'.heap (locs ++ L) hR2
    ⟨Nat.le_trans hS.1 (by rw [e1]; exact hz), fun q h1 h2 => by rw [e1, hk q (Nat.lt_of_lt_of_le h1 hS.1) h2]; exact hS.2.1 q h1 h2, fun q hq => by
      rcases List.mem_append.mp hq with h | h
      · exact hS.2.2 q h
      · exact hL q h⟩ T' rfl X'
  exact ⟨t2, st t2 a1, b1⟩
theorem xPre {p : Program} {H : xH} {D : va_G} {da : FieldType → ClassId} {q0 : Nat} {s : State} {Hr : Heap} {as : List xV} (hR : xR D da q0 H s Hr) (hK : xK D da s) : PreS s Hr (va_Pc (as.map xv) (fun U => xR D da q0 H U U.heap ∧ xK D da U)) (as.map xv) :=
  ⟨fun a U g mk ⟨h1, h2, h3⟩ => ⟨h1, h2.moved (u := U) (U := U.calling g mk a) (Vm.Alike.refl U.vm), h3.same (u := U) (U := U.calling g mk a) rfl⟩, fun U hU hW => ⟨rfl, by rw [hU]; exact hR.moved hW.alike, hK.warm hW⟩⟩

theorem x_callV0 {idx ci n δ' : Nat} {y' : MethodName} {code' : ByteArray} {maxL' : Nat} {ret' : Option FieldType} {r : Option Nat} {b : Nat} {as : List xV} {rv : Option Value} {cr : vw_C} {stk : List Value} (hC : xCb y.cls idx y' code' maxL' ret' n ∧ Cond.instanceMethod y' ∈ xT ∧ Cond.selects y'.cls y' y' ∈ xT) (hci : vwCl[ci]? = some cr ∧ cr.1 = y'.cls) (hn : as.length = n) (hstk : stk = (as.map xv).reverse ++ va_rf r :: st) (hZ : Z.1 = (code, y, nL)) (hδ : δ' + 1 ≤ Z.2.1) (hs : (st.map fun v => v.category).sum ≤ 8) (hd : decode code pc = .ok (.invokevirtual idx, 3)) (hob : xob H r ci = some b) (hM : xM y' code' maxL' ret' δ' (.inr (.inr r) :: as) H rv H1) (kk : xWq Z H1 (pc + 3) pl (rv.toList ++ st)) : xWq Z H pc pl stk := by
  subst hstk
  unfold xob at hob
  split at hob
  · cases hob
  rename_i b0
  split at hob
  · rename_i c9 fs hb
    split at hob
    · rename_i hcc
      subst hcc
      cases hob
      obtain ⟨⟨hlk, hcw, hini, hy, hpc, hm⟩, hi, hse⟩ := hC
      refine ⟨⟨Nat.le_trans hM.1.1 kk.1.1, Nat.le_trans hM.1.2 kk.1.2⟩, fun X hX => ?_⟩
      have k2 := kk.2 X hX
      have hk1 := kk.1
      obtain ⟨p, l, e, R, s, m, args, below, meth, c, Q, D, da, q0, n0, sl0⟩ := X
      intro Hr locs ls h1 h2 h3 h4 h5
      obtain ⟨o1, o2, o3, o4, o5, o6, o7, o8, o9, o10⟩ := hX
      rw [hZ] at o2 o3 o4
      obtain ⟨lv, g1, -⟩ := id h5
      have hpre := xPre (p := p) (as := .inr (.inr (some b)) :: as) h1 o7
      have hrecv : ∃ cellB : Cell, Hr[b]? = some cellB ∧ cellB.vm.isStatics = false ∧ s.vm.findClass y'.cls = some cellB.cls := by
        have := va_recv (ws := [(b, .inr (c9, fs))]) (q0 := 0) o7.1 (va_P1 (h1.2.1 b _ hb).2) hci.1 rfl
        rw [hci.2] at this
        exact this
      have hroom : δ' + 1 ≤ R.frames ∧ 8 + (maxL' + 11) + 40 * δ' ≤ R.locals := by omega
      have hcell : H.2.1 - n0 + (H1.2.1 - H.2.1) ≤ R.cells ∧ H.2.2.1 - sl0 + (H1.2.2.1 - H.2.2.1) ≤ R.slots := by
        have := hM.1
        omega
      have hnn : (as.map xv).length = n := by rw [List.length_map]; exact hn
      have ec : H.2.1 - n0 + (H1.2.1 - H.2.1) = H1.2.1 - n0 := by have := hM.1; omega
      have es : H.2.2.1 - sl0 + (H1.2.2.1 - H.2.2.1) = H1.2.2.1 - sl0 := by have := hM.1; omega
      have fin : ∀ (Hr1 : Heap) (locs1 : List Loc), xR D da q0 H1 s Hr1 → va_S (fun q => q0 ≤ q) s.heap Hr1 locs1 → W p l e R s m args below meth c Hr1 locs1 (H.2.1 - n0 + (H1.2.1 - H.2.1)) (H.2.2.1 - sl0 + (H1.2.2.1 - H.2.2.1)) Q (F0 m (pc + 3) ls (rv.toList ++ st)) := fun Hr1 locs1 r1 r2 => by
        rw [ec, es]
        exact k2 Hr1 locs1 ls r1 (Nat.le_trans h2 hM.1.1) (Nat.le_trans h3 hM.1.2) r2 h5
      rcases hlk with hlk | ⟨host, hlk⟩
      · exact x_run (va_runV (As := as.map xv) (rest := st) (C := y'.cls) ⟨o1, o2, o3, o4, o5⟩ (hM.2 l D da q0) ⟨callB_of n o5 (xT_goodc hcw) rfl rfl rfl (o5 _ hini) (o5 _ hlk) ⟨hy.1, hy.2, hpc⟩ hroom, o5 _ hi, o5 _ hse⟩ ⟨hpre.1, hrecv, hpre.2⟩ rfl hnn (g1.1.trans (by rw [hZ])) rfl (lv_room hs) hd hcell) h4 fin
      · exact x_run (va_runVN (As := as.map xv) (rest := st) (C := y'.cls) ⟨o1, o2, o3, o4, o5⟩ (hM.2 l D da q0) ⟨va_cnB n o5 (xT_goodc hcw) rfl rfl rfl (o7.2.2.2 _ hlk) (o5 _ hini) ⟨hy.1, hy.2, hpc⟩ hroom, o5 _ hi, o5 _ hse⟩ ⟨hpre.1, hrecv, hpre.2⟩ rfl hnn (g1.1.trans (by rw [hZ])) rfl (lv_room hs) hd hcell) h4 fin
    · cases hob
  · cases hob
theorem x_callS0 {idx n δ' : Nat} {y' : MethodName} {code' : ByteArray} {maxL' : Nat} {ret' : Option FieldType} {as : List xV} {rv : Option Value} {stk : List Value} (hC : xCb y.cls idx y' code' maxL' ret' n ∧ Cond.static y' ∈ xT) (hn : as.length = n) (hstk : stk = (as.map xv).reverse ++ st) (hZ : Z.1 = (code, y, nL)) (hδ : δ' + 1 ≤ Z.2.1) (hs : (st.map fun v => v.category).sum ≤ 8) (hd : decode code pc = .ok (.invokestatic idx, 3)) (hM : xM y' code' maxL' ret' δ' as H rv H1) (kk : xWq Z H1 (pc + 3) pl (rv.toList ++ st)) : xWq Z H pc pl stk := by
  subst hstk
  obtain ⟨⟨hlk, hcw, hini, hy, hpc, hm⟩, hi⟩ := hC
  refine ⟨⟨Nat.le_trans hM.1.1 kk.1.1, Nat.le_trans hM.1.2 kk.1.2⟩, fun X hX => ?_⟩
  have k2 := kk.2 X hX
  have hk1 := kk.1
  obtain ⟨p, l, e, R, s, m, args, below, meth, c, Q, D, da, q0, n0, sl0⟩ := X
  intro Hr locs ls h1 h2 h3 h4 h5
  obtain ⟨o1, o2, o3, o4, o5, o6, o7, o8, o9, o10⟩ := hX
  rw [hZ] at o2 o3 o4
  obtain ⟨lv, g1, -⟩ := id h5
  have hpre := xPre (p := p) (as := as) h1 o7
  have hroom : δ' + 1 ≤ R.frames ∧ 8 + (maxL' + 11) + 40 * δ' ≤ R.locals := by omega
  have hcell : H.2.1 - n0 + (H1.2.1 - H.2.1) ≤ R.cells ∧ H.2.2.1 - sl0 + (H1.2.2.1 - H.2.2.1) ≤ R.slots := by
    have := hM.1
    omega
  have hnn : (as.map xv).length = n := by rw [List.length_map]; exact hn
  have ec : H.2.1 - n0 + (H1.2.1 - H.2.1) = H1.2.1 - n0 := by have := hM.1; omega
  have es : H.2.2.1 - sl0 + (H1.2.2.1 - H.2.2.1) = H1.2.2.1 - sl0 := by have := hM.1; omega
  have fin : ∀ (Hr1 : Heap) (locs1 : List Loc), xR D da q0 H1 s Hr1 → va_S (fun q => q0 ≤ q) s.heap Hr1 locs1 → W p l e R s m args below meth c Hr1 locs1 (H.2.1 - n0 + (H1.2.1 - H.2.1)) (H.2.2.1 - sl0 + (H1.2.2.1 - H.2.2.1)) Q (F0 m (pc + 3) ls (rv.toList ++ st)) := fun Hr1 locs1 r1 r2 => by
    rw [ec, es]
    exact k2 Hr1 locs1 ls r1 (Nat.le_trans h2 hM.1.1) (Nat.le_trans h3 hM.1.2) r2 h5
  rcases hlk with hlk | ⟨host, hlk⟩
  · exact x_run (va_runS (As := as.map xv) (rest := st) ⟨o1, o2, o3, o4, o5⟩ (hM.2 l D da q0) ⟨callB_of n o5 (xT_goodc hcw) rfl rfl rfl (o5 _ hini) (o5 _ hlk) ⟨hy.1, hy.2, hpc⟩ hroom, o5 _ hi⟩ hpre rfl hnn (g1.1.trans (by rw [hZ])) rfl (lv_room hs) hd hcell) h4 fin
  · exact x_run (va_runSN (As := as.map xv) (rest := st) ⟨o1, o2, o3, o4, o5⟩ (hM.2 l D da q0) ⟨va_cnB n o5 (xT_goodc hcw) rfl rfl rfl (o7.2.2.2 _ hlk) (o5 _ hini) ⟨hy.1, hy.2, hpc⟩ hroom, o5 _ hi, trivial⟩ hpre rfl hnn (g1.1.trans (by rw [hZ])) rfl (lv_room hs) hd hcell) h4 fin
theorem x_callI0 {idx n δ' : Nat} {y' : MethodName} {code' : ByteArray} {maxL' : Nat} {r : Option Nat} {b : Nat} {as : List xV} {rv : Option Value} {stk : List Value} (hC : xCb y.cls idx y' code' maxL' none n ∧ Cond.instanceMethod y' ∈ xT) (hin : y'.name = "<init>") (hn : as.length = n) (hr : r = some b) (hstk : stk = (as.map xv).reverse ++ va_rf r :: st) (hZ : Z.1 = (code, y, nL)) (hδ : δ' + 1 ≤ Z.2.1) (hs : (st.map fun v => v.category).sum ≤ 8) (hd : decode code pc = .ok (.invokespecial idx, 3)) (hM : xM y' code' maxL' none δ' (.inr (.inr r) :: as) H rv H1) (kk : xWq Z H1 (pc + 3) pl (rv.toList ++ st)) : xWq Z H pc pl stk := by
  subst hstk
  subst hr
  obtain ⟨⟨hlk, hcw, hini, hy, hpc, hm⟩, hi⟩ := hC
  refine ⟨⟨Nat.le_trans hM.1.1 kk.1.1, Nat.le_trans hM.1.2 kk.1.2⟩, fun X hX => ?_⟩
  have k2 := kk.2 X hX
  have hk1 := kk.1
  obtain ⟨p, l, e, R, s, m, args, below, meth, c, Q, D, da, q0, n0, sl0⟩ := X
  intro Hr locs ls h1 h2 h3 h4 h5
  obtain ⟨o1, o2, o3, o4, o5, o6, o7, o8, o9, o10⟩ := hX
  rw [hZ] at o2 o3 o4
  obtain ⟨lv, g1, -⟩ := id h5
  have hpre := xPre (p := p) (as := .inr (.inr (some b)) :: as) h1 o7
  have hroom : δ' + 1 ≤ R.frames ∧ 8 + (maxL' + 11) + 40 * δ' ≤ R.locals := by omega
  have hcell : H.2.1 - n0 + (H1.2.1 - H.2.1) ≤ R.cells ∧ H.2.2.1 - sl0 + (H1.2.2.1 - H.2.2.1) ≤ R.slots := by
    have := hM.1
    omega
  have hnn : (as.map xv).length = n := by rw [List.length_map]; exact hn
  have ec : H.2.1 - n0 + (H1.2.1 - H.2.1) = H1.2.1 - n0 := by have := hM.1; omega
  have es : H.2.2.1 - sl0 + (H1.2.2.1 - H.2.2.1) = H1.2.2.1 - sl0 := by have := hM.1; omega
  have fin : ∀ (Hr1 : Heap) (locs1 : List Loc), xR D da q0 H1 s Hr1 → va_S (fun q => q0 ≤ q) s.heap Hr1 locs1 → W p l e R s m args below meth c Hr1 locs1 (H.2.1 - n0 + (H1.2.1 - H.2.1)) (H.2.2.1 - sl0 + (H1.2.2.1 - H.2.2.1)) Q (F0 m (pc + 3) ls (rv.toList ++ st)) := fun Hr1 locs1 r1 r2 => by
    rw [ec, es]
    exact k2 Hr1 locs1 ls r1 (Nat.le_trans h2 hM.1.1) (Nat.le_trans h3 hM.1.2) r2 h5
  rcases hlk with hlk | ⟨host, hlk⟩
  · exact x_run (va_runI (As := as.map xv) (rest := st) ⟨o1, o2, o3, o4, o5⟩ (hM.2 l D da q0) ⟨callB_of n o5 (xT_goodc hcw) rfl rfl rfl (o5 _ hini) (o5 _ hlk) ⟨hy.1, hy.2, hpc⟩ hroom, hin, o5 _ hi⟩ hpre rfl hnn (g1.1.trans (by rw [hZ])) rfl (lv_room hs) hd hcell) h4 fin
  · exact x_run (va_runIN (As := as.map xv) (rest := st) ⟨o1, o2, o3, o4, o5⟩ (hM.2 l D da q0) ⟨va_cnB n o5 (xT_goodc hcw) rfl rfl rfl (o7.2.2.2 _ hlk) (o5 _ hini) ⟨hy.1, hy.2, hpc⟩ hroom, hin, o5 _ hi⟩ hpre rfl hnn (g1.1.trans (by rw [hZ])) rfl (lv_room hs) hd hcell) h4 fin

theorem x_dup2L {v : Value} (hZ : Z.1 = (code, y, nL)) (hd : decode code pc = .ok (.dup2, 1)) (hc : v.category = 2) (k : xWq Z H (pc + 1) pl (v :: v :: st)) : xWq Z H pc pl (v :: st) := x_lift hZ k (fun hx hb _ _ _ _ _ _ w => lv_dup2_2 hx hb hd hc w)
theorem x_nro (C : String) (r : Option Nat) : narrow (.object C) (va_rf r) = va_rf r := by cases r <;> rfl
theorem x_nra (t : FieldType) (r : Option Nat) : narrow (.array t) (va_rf r) = va_rf r := by cases r <;> rfl
theorem x_fto (C : String) (r : Option Nat) : fits (.object C) (va_rf r) = true := by cases r <;> rfl
theorem x_fta (t : FieldType) (r : Option Nat) : fits (.array t) (va_rf r) = true := by cases r <;> rfl
theorem x_callVi {idx ci n δ' : Nat} {y' : MethodName} {code' : ByteArray} {maxL' : Nat} {ret' : Option FieldType} {r : Option Nat} {b : Nat} {as : List xV} {v : Int32} {cr : vw_C} {stk : List Value} (hC : xCb y.cls idx y' code' maxL' ret' n ∧ Cond.instanceMethod y' ∈ xT ∧ Cond.selects y'.cls y' y' ∈ xT) (hci : vwCl[ci]? = some cr ∧ cr.1 = y'.cls) (hn : as.length = n) (hstk : stk = (as.map xv).reverse ++ va_rf r :: st) (hZ : Z.1 = (code, y, nL)) (hδ : δ' + 1 ≤ Z.2.1) (hs : (st.map fun v => v.category).sum ≤ 8) (hd : decode code pc = .ok (.invokevirtual idx, 3)) (hob : xob H r ci = some b) (hM : xM y' code' maxL' ret' δ' (.inr (.inr r) :: as) H (some (.int v)) H1) (kk : xWq Z H1 (pc + 3) pl (.int v :: st)) : xWq Z H pc pl stk := x_callV0 hC hci hn hstk hZ hδ hs hd hob hM kk
theorem x_callVl {idx ci n δ' : Nat} {y' : MethodName} {code' : ByteArray} {maxL' : Nat} {ret' : Option FieldType} {r : Option Nat} {b : Nat} {as : List xV} {v : Int64} {cr : vw_C} {stk : List Value} (hC : xCb y.cls idx y' code' maxL' ret' n ∧ Cond.instanceMethod y' ∈ xT ∧ Cond.selects y'.cls y' y' ∈ xT) (hci : vwCl[ci]? = some cr ∧ cr.1 = y'.cls) (hn : as.length = n) (hstk : stk = (as.map xv).reverse ++ va_rf r :: st) (hZ : Z.1 = (code, y, nL)) (hδ : δ' + 1 ≤ Z.2.1) (hs : (st.map fun v => v.category).sum ≤ 8) (hd : decode code pc = .ok (.invokevirtual idx, 3)) (hob : xob H r ci = some b) (hM : xM y' code' maxL' ret' δ' (.inr (.inr r) :: as) H (some (.long v)) H1) (kk : xWq Z H1 (pc + 3) pl (.long v :: st)) : xWq Z H pc pl stk := x_callV0 hC hci hn hstk hZ hδ hs hd hob hM kk
theorem x_callVa {idx ci n δ' : Nat} {y' : MethodName} {code' : ByteArray} {maxL' : Nat} {ret' : Option FieldType} {r : Option Nat} {b : Nat} {as : List xV} {v : Option Nat} {cr : vw_C} {stk : List Value} (hC : xCb y.cls idx y' code' maxL' ret' n ∧ Cond.instanceMethod y' ∈ xT ∧ Cond.selects y'.cls y' y' ∈ xT) (hci : vwCl[ci]? = some cr ∧ cr.1 = y'.cls) (hn : as.length = n) (hstk : stk = (as.map xv).reverse ++ va_rf r :: st) (hZ : Z.1 = (code, y, nL)) (hδ : δ' + 1 ≤ Z.2.1) (hs : (st.map fun v => v.category).sum ≤ 8) (hd : decode code pc = .ok (.invokevirtual idx, 3)) (hob : xob H r ci = some b) (hM : xM y' code' maxL' ret' δ' (.inr (.inr r) :: as) H (some (va_rf v)) H1) (kk : xWq Z H1 (pc + 3) pl (va_rf v :: st)) : xWq Z H pc pl stk := x_callV0 hC hci hn hstk hZ hδ hs hd hob hM kk
theorem x_callVv {idx ci n δ' : Nat} {y' : MethodName} {code' : ByteArray} {maxL' : Nat} {ret' : Option FieldType} {r : Option Nat} {b : Nat} {as : List xV} {cr : vw_C} {stk : List Value} (hC : xCb y.cls idx y' code' maxL' ret' n ∧ Cond.instanceMethod y' ∈ xT ∧ Cond.selects y'.cls y' y' ∈ xT) (hci : vwCl[ci]? = some cr ∧ cr.1 = y'.cls) (hn : as.length = n) (hstk : stk = (as.map xv).reverse ++ va_rf r :: st) (hZ : Z.1 = (code, y, nL)) (hδ : δ' + 1 ≤ Z.2.1) (hs : (st.map fun v => v.category).sum ≤ 8) (hd : decode code pc = .ok (.invokevirtual idx, 3)) (hob : xob H r ci = some b) (hM : xM y' code' maxL' ret' δ' (.inr (.inr r) :: as) H none H1) (kk : xWq Z H1 (pc + 3) pl st) : xWq Z H pc pl stk := x_callV0 hC hci hn hstk hZ hδ hs hd hob hM kk
theorem x_callSi {idx n δ' : Nat} {y' : MethodName} {code' : ByteArray} {maxL' : Nat} {ret' : Option FieldType} {as : List xV} {v : Int32} {stk : List Value} (hC : xCb y.cls idx y' code' maxL' ret' n ∧ Cond.static y' ∈ xT) (hn : as.length = n) (hstk : stk = (as.map xv).reverse ++ st) (hZ : Z.1 = (code, y, nL)) (hδ : δ' + 1 ≤ Z.2.1) (hs : (st.map fun v => v.category).sum ≤ 8) (hd : decode code pc = .ok (.invokestatic idx, 3)) (hM : xM y' code' maxL' ret' δ' as H (some (.int v)) H1) (kk : xWq Z H1 (pc + 3) pl (.int v :: st)) : xWq Z H pc pl stk := x_callS0 hC hn hstk hZ hδ hs hd hM kk
theorem x_callSl {idx n δ' : Nat} {y' : MethodName} {code' : ByteArray} {maxL' : Nat} {ret' : Option FieldType} {as : List xV} {v : Int64} {stk : List Value} (hC : xCb y.cls idx y' code' maxL' ret' n ∧ Cond.static y' ∈ xT) (hn : as.length = n) (hstk : stk = (as.map xv).reverse ++ st) (hZ : Z.1 = (code, y, nL)) (hδ : δ' + 1 ≤ Z.2.1) (hs : (st.map fun v => v.category).sum ≤ 8) (hd : decode code pc = .ok (.invokestatic idx, 3)) (hM : xM y' code' maxL' ret' δ' as H (some (.long v)) H1) (kk : xWq Z H1 (pc + 3) pl (.long v :: st)) : xWq Z H pc pl stk := x_callS0 hC hn hstk hZ hδ hs hd hM kk
theorem x_callSa {idx n δ' : Nat} {y' : MethodName} {code' : ByteArray} {maxL' : Nat} {ret' : Option FieldType} {as : List xV} {v : Option Nat} {stk : List Value} (hC : xCb y.cls idx y' code' maxL' ret' n ∧ Cond.static y' ∈ xT) (hn : as.length = n) (hstk : stk = (as.map xv).reverse ++ st) (hZ : Z.1 = (code, y, nL)) (hδ : δ' + 1 ≤ Z.2.1) (hs : (st.map fun v => v.category).sum ≤ 8) (hd : decode code pc = .ok (.invokestatic idx, 3)) (hM : xM y' code' maxL' ret' δ' as H (some (va_rf v)) H1) (kk : xWq Z H1 (pc + 3) pl (va_rf v :: st)) : xWq Z H pc pl stk := x_callS0 hC hn hstk hZ hδ hs hd hM kk
theorem x_callSv {idx n δ' : Nat} {y' : MethodName} {code' : ByteArray} {maxL' : Nat} {ret' : Option FieldType} {as : List xV} {stk : List Value} (hC : xCb y.cls idx y' code' maxL' ret' n ∧ Cond.static y' ∈ xT) (hn : as.length = n) (hstk : stk = (as.map xv).reverse ++ st) (hZ : Z.1 = (code, y, nL)) (hδ : δ' + 1 ≤ Z.2.1) (hs : (st.map fun v => v.category).sum ≤ 8) (hd : decode code pc = .ok (.invokestatic idx, 3)) (hM : xM y' code' maxL' ret' δ' as H none H1) (kk : xWq Z H1 (pc + 3) pl st) : xWq Z H pc pl stk := x_callS0 hC hn hstk hZ hδ hs hd hM kk
theorem x_callIv {idx n δ' : Nat} {y' : MethodName} {code' : ByteArray} {maxL' : Nat} {r : Option Nat} {b : Nat} {as : List xV} {stk : List Value} (hC : xCb y.cls idx y' code' maxL' none n ∧ Cond.instanceMethod y' ∈ xT) (hin : y'.name = "<init>") (hn : as.length = n) (hr : r = some b) (hstk : stk = (as.map xv).reverse ++ va_rf r :: st) (hZ : Z.1 = (code, y, nL)) (hδ : δ' + 1 ≤ Z.2.1) (hs : (st.map fun v => v.category).sum ≤ 8) (hd : decode code pc = .ok (.invokespecial idx, 3)) (hM : xM y' code' maxL' none δ' (.inr (.inr r) :: as) H none H1) (kk : xWq Z H1 (pc + 3) pl st) : xWq Z H pc pl stk := x_callI0 hC hin hn hr hstk hZ hδ hs hd hM kk

end XR
/-! the words of the printed functions -/
theorem x_bnd {α β : Type} {o : Option α} {f : α → Option β} {r : β} (h : o.bind f = some r) : ∃ v, o = some v ∧ f v = some r := by
  cases o with
  | none => cases h
  | some v => exact ⟨v, rfl, h⟩
def x_bd2 {α β γ : Type} (o : Option (α × β)) (f : α → β → Option γ) : Option γ := match o with
  | none => none
  | some (a, b) => f a b
theorem x_b2 {α β γ : Type} {o : Option (α × β)} {f : α → β → Option γ} {r : γ} (h : x_bd2 o f = some r) : ∃ a b, o = some (a, b) ∧ f a b = some r := by
  rcases o with _ | ⟨a, b⟩
  · cases h
  · exact ⟨a, b, rfl, h⟩
def x_lt {α γ : Type} (v : α) (f : α → Option γ) : Option γ := f v
theorem x_ltE {α γ : Type} {v : α} {f : α → Option γ} {r : γ} (h : x_lt v f = some r) : ∃ w, v = w ∧ f w = some r := ⟨v, rfl, h⟩
theorem x_ip {α : Type} {c : Prop} {inst : Decidable c} {A B r : α} (hc : c) (h : (@ite _ c inst A B) = r) : A = r := by rw [if_pos hc] at h; exact h
theorem x_in {α : Type} {c : Prop} {inst : Decidable c} {A B r : α} (hc : ¬ c) (h : (@ite _ c inst A B) = r) : B = r := by rw [if_neg hc] at h; exact h
theorem x_sm0 : (([] : List Value).map fun v => v.category).sum ≤ 0 := Nat.le_refl 0
theorem x_sm1 {v : Value} {st : List Value} {k : Nat} (h : v.category = 1) (hs : (st.map fun v => v.category).sum ≤ k) : ((v :: st).map fun v => v.category).sum ≤ k + 1 := by
  rw [List.map_cons, List.sum_cons, h]; omega
theorem x_sm2 {v : Value} {st : List Value} {k : Nat} (h : v.category = 2) (hs : (st.map fun v => v.category).sum ≤ k) : ((v :: st).map fun v => v.category).sum ≤ k + 2 := by
  rw [List.map_cons, List.sum_cons, h]; omega
theorem x_tsN (x : Int32) (lo hi : Int) (h1 : lo ≤ hi) (h2 : -2147483648 ≤ lo) (h : ∀ i : Int, lo ≤ i → i ≤ hi → ¬ x.toInt = i) : x.toInt < lo ∨ hi < x.toInt := by
  rcases Int.lt_or_le x.toInt lo with q | q
  · exact Or.inl q
  · rcases Int.lt_or_le hi x.toInt with q2 | q2
    · exact Or.inr q2
    · exact absurd rfl (h _ q q2)
theorem x_inv {α : Type} {c : Prop} {inst : Decidable c} {A r : α} (h : (@ite _ c inst (some A) none) = some r) : c ∧ A = r := by
  by_cases hc : c
  · rw [if_pos hc] at h; cases h; exact ⟨hc, rfl⟩
  · rw [if_neg hc] at h; cases h
theorem x_inv0 {α : Type} {c : Prop} {inst : Decidable c} {A : Option α} {r : α} (h : (@ite _ c inst none A) = some r) : ¬ c ∧ A = some r := by
  by_cases hc : c
  · rw [if_pos hc] at h; cases h
  · rw [if_neg hc] at h; exact ⟨hc, h⟩
theorem xM_mono {y : MethodName} {code : ByteArray} {maxL δ : Nat} {ret : Option FieldType} {as : List xV} {H H' : xH} {rv rv' : Option Value} (e : rv = rv') (h : xM y code maxL ret δ as H rv H') : xM y code maxL ret δ as H rv' H' := e ▸ h
