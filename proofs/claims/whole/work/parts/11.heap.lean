/-! LIGHT ROWS over the heap: fields, arrays, new objects and arrays, statics; returns and calls. -/
def xgf (H : xH) (r : Option Nat) (ci k : Nat) : Option Value := match r with
  | none => none
  | some a => match H.1 a with
    | some (true, .inr (c, fs)) => if c = ci then fs[k]? else none
    | _ => none
def xgI (H : xH) (r : Option Nat) (ci k : Nat) : Option Int32 := match xgf H r ci k with
  | some (.int x) => some x
  | _ => none
def xgJ (H : xH) (r : Option Nat) (ci k : Nat) : Option Int64 := match xgf H r ci k with
  | some (.long x) => some x
  | _ => none
def xgA (H : xH) (r : Option Nat) (ci k : Nat) : Option (Option Nat) := match xgf H r ci k with
  | some .null => some none
  | some (.ref b) => some (some b)
  | _ => none
/-- the letters of a Word -/
def xgW (H : xH) (r : Option Nat) : Option Int64 := match r with
  | none => none
  | some a => match H.1 a with
    | some (false, .inr (_, [.long x])) => some x
    | _ => none
def xpV (H : xH) (r : Option Nat) (ci k : Nat) (v : Value) : Option xH := match r with
  | none => none
  | some a => match H.1 a with
    | some (true, .inr (c, fs)) => if c = ci ∧ k < fs.length then some (xup H a (true, .inr (c, fs.set k v))) else none
    | _ => none
def xpI (H : xH) (r : Option Nat) (ci k : Nat) (v : Int32) : Option xH := xpV H r ci k (.int v)
def xpJ (H : xH) (r : Option Nat) (ci k : Nat) (v : Int64) : Option xH := xpV H r ci k (.long v)
def xpA (H : xH) (r : Option Nat) (ci k : Nat) (v : Option Nat) : Option xH := xpV H r ci k (va_rf v)
def xar (H : xH) (r : Option Nat) : Option (Bool × FieldType × vp_A) := match r with
  | none => none
  | some a => match H.1 a with
    | some (w, .inl (ty, x)) => some (w, ty, x)
    | _ => none
def xlI (ty : FieldType) (H : xH) (r : Option Nat) (i : Int32) : Option Int32 := match xar H r with
  | some (true, t, n, .inl g) => if t = ty ∧ ¬ (i < 0 ∨ n ≤ i.toNatClampNeg) then some (g i.toNatClampNeg) else none
  | _ => none
def xlJ (H : xH) (r : Option Nat) (i : Int32) : Option Int64 := match xar H r with
  | some (true, t, n, .inr (.inl g)) => if t = .long ∧ ¬ (i < 0 ∨ n ≤ i.toNatClampNeg) then some (g i.toNatClampNeg) else none
  | _ => none
def xlA (ty : FieldType) (H : xH) (r : Option Nat) (i : Int32) : Option (Option Nat) := match xar H r with
  | some (true, t, n, .inr (.inr (.inr (.inr g)))) => if t = ty ∧ ¬ (i < 0 ∨ n ≤ i.toNatClampNeg) then some (g i.toNatClampNeg) else none
  | _ => none
/-- an element of the static array of Words -/
def xlW (H : xH) (r : Option Nat) (i : Int32) : Option (Option Nat) := match xar H r with
  | some (false, _, n, .inr (.inr (.inr (.inr g)))) => if ¬ (i < 0 ∨ n ≤ i.toNatClampNeg) then some (g i.toNatClampNeg) else none
  | _ => none
def xal (ty : FieldType) (H : xH) (r : Option Nat) : Option Int32 := match xar H r with
  | some (true, t, n, _) => if t = ty then some (Int32.ofNat n) else none
  | _ => none
def xalW (H : xH) (r : Option Nat) : Option Int32 := match xar H r with
  | some (false, _, n, _) => some (Int32.ofNat n)
  | _ => none
def xsI (ty : FieldType) (H : xH) (r : Option Nat) (i x : Int32) : Option xH := match r with
  | none => none
  | some a => match H.1 a with
    | some (true, .inl (t, n, .inl g)) => if t = ty ∧ ¬ (i < 0 ∨ n ≤ i.toNatClampNeg) then some (xup H a (true, .inl (t, n, .inl (upd g i.toNatClampNeg (vp_nar ty x))))) else none
    | _ => none
def xsJ (H : xH) (r : Option Nat) (i : Int32) (x : Int64) : Option xH := match r with
  | none => none
  | some a => match H.1 a with
    | some (true, .inl (t, n, .inr (.inl g))) => if t = .long ∧ ¬ (i < 0 ∨ n ≤ i.toNatClampNeg) then some (xup H a (true, .inl (t, n, .inr (.inl (vp_updL g i.toNatClampNeg x))))) else none
    | _ => none
/-- a reference into an array: null, or an object of the class of that number -/
def xsA (ty : FieldType) (ci : Nat) (H : xH) (r : Option Nat) (i : Int32) (v : Option Nat) : Option xH := match r with
  | none => none
  | some a => match H.1 a with
    | some (true, .inl (t, n, .inr (.inr (.inr (.inr g))))) => if t = ty ∧ ¬ (i < 0 ∨ n ≤ i.toNatClampNeg) then (match v with
        | none => some (xup H a (true, .inl (t, n, .inr (.inr (.inr (.inr (va_up g i.toNatClampNeg none)))))))
        | some b => match H.1 b with
          | some (true, .inr (c, _)) => if c = ci then some (xup H a (true, .inl (t, n, .inr (.inr (.inr (.inr (va_up g i.toNatClampNeg (some b)))))))) else none
          | _ => none) else none
    | _ => none
def xnw (H : xH) (e : xE) (n : Nat) : xH := ((fun q => if q = H.2.1 then some e else H.1 q), H.2.1 + 1, H.2.2.1 + n, H.2.2.2)
/-- a new object: its heap (its place is H.2.1) -/
def xno (ci N : Nat) (fs : List Value) (H : xH) : xH := xnw H (true, .inr (ci, fs)) N
def xnI (ty : FieldType) (H : xH) (n : Int32) : Option xH := if ¬ n < 0 ∧ n.toNatClampNeg ≤ 1000000 then some (xnw H (true, .inl (ty, n.toNatClampNeg, .inl (fun _ => 0))) n.toNatClampNeg) else none
def xnJ (H : xH) (n : Int32) : Option xH := if ¬ n < 0 ∧ n.toNatClampNeg ≤ 1000000 then some (xnw H (true, .inl (.long, n.toNatClampNeg, .inr (.inl (fun _ => 0)))) n.toNatClampNeg) else none
def xnA (ty : FieldType) (H : xH) (n : Int32) : Option xH := if ¬ n < 0 ∧ n.toNatClampNeg ≤ 1000000 then some (xnw H (true, .inl (ty, n.toNatClampNeg, .inr (.inr (.inr (.inr (fun _ => none)))))) n.toNatClampNeg) else none
/-- a class of the worlds -/
def xCl (ci : Nat) (C : String) (T : u_T) (N : Nat) (ty0 : Nat → FieldType) : Prop := vwCl[ci]? = some (C, T, N) ∧ (∀ w ∈ u_ws C T N, w ∈ xT) ∧ (∀ j, j < N → parseFieldDescriptor (T j).2.2.1 = some (ty0 j)) ∧ ∀ a, a < N → ∀ b, b < N → a ≠ b → (T a).2.1 ≠ (T b).2.1
/-- a place in the code that names a field: of class ci, the k-th; its type; final -/
def xFl (own : String) (idx ci k : Nat) (ty : FieldType) (fin : Bool) : Prop := ∃ (C : String) (T : u_T) (N : Nat) (ty0 : Nat → FieldType), xCl ci C T N ty0 ∧ k < N ∧ ty0 k = ty ∧ (T k).2.2.2 = fin ∧ (T k).1 = C ∧ (Cond.fieldLink own idx (T k).1 (T k).2.1 (T k).2.2.1 ∈ xT ∨ ∃ host, Cond.fieldLinkNest own idx (T k).1 (T k).2.1 (T k).2.2.1 host ∈ xNW)
theorem va_P1 {D : va_G} {q : Nat × va_E} {Hr : Heap} (h : va_at D vwCl q Hr) : va_P D vwCl [q] Hr := fun k x hx => by
  cases k with
  | zero => cases hx; exact h
  | succ k => simp at hx
theorem xlink {D : va_G} {da : FieldType → ClassId} {own : String} {idx : Nat} {ref n d : String} {s : State} {args : Array Value} (hts : ∀ w ∈ xT, w.before args s = true) (hK : xK D da s) (h : Cond.fieldLink own idx ref n d ∈ xT ∨ ∃ host, Cond.fieldLinkNest own idx ref n d host ∈ xNW) : (Cond.fieldLink own idx ref n d).before args s = true ∨ ∃ host, (Cond.fieldLinkNest own idx ref n d host).before args s = true := by
  rcases h with h | ⟨host, h⟩
  · exact Or.inl (hts _ h)
  · exact Or.inr ⟨host, va_Nw.use rfl (hK.2.2.2 _ h)⟩
section XH
variable {Z : xZ} {code : ByteArray} {y : MethodName} {nL : Nat} {H H' : xH} {pc : Nat} {pl pl' : xPL} {st st' : List Value}
theorem xgf_some {r : Option Nat} {ci k : Nat} {v : Value} (h : xgf H r ci k = some v) : ∃ a fs, r = some a ∧ H.1 a = some (true, .inr (ci, fs)) ∧ fs[k]? = some v := by
  unfold xgf at h
  split at h
  · cases h
  · rename_i a
    split at h
    · rename_i c fs he
      split at h
      · rename_i hc
        subst hc
        exact ⟨a, fs, rfl, he, h⟩
      · cases h
    · cases h
theorem x_getV {idx ci k : Nat} {r : Option Nat} {v : Value} {ty : FieldType} {fin : Bool} (hZ : Z.1 = (code, y, nL)) (hd : decode code pc = .ok (.getfield idx, 3)) (hF : xFl y.cls idx ci k ty fin) (hg : xgf H r ci k = some v) (kk : xWq Z H (pc + 3) pl (v :: st)) : xWq Z H pc pl (va_rf r :: st) := by
  obtain ⟨a, fs, rfl, he, hv⟩ := xgf_some hg
  obtain ⟨C, T, N, ty0, ⟨hc, hin, hty, hnm⟩, hk, hty0, hfin, hC, hl⟩ := hF
  refine x_lift hZ kk (fun hx hb ho ht hK hR hS _ w => ?_)
  have hat := hR.2.1 a _ he
  rcases xlink ht hK hl with h | ⟨host, h⟩
  · exact va_get (D := _) (cl := vwCl) (ws := [(a, .inr (ci, fs))]) hx hb ht hin ho hK.1 (va_P1 hat.2) 0 rfl hc k hk h (fun _ h9 => h9) hv hd w
  · exact va_getN (D := _) (cl := vwCl) (ws := [(a, .inr (ci, fs))]) hx hb ht hin ho hK.1 (va_P1 hat.2) 0 rfl hc k hk h (fun _ h9 => h9) hv hd w
theorem x_getI {idx ci k : Nat} {r : Option Nat} {v : Int32} {ty : FieldType} {fin : Bool} (hZ : Z.1 = (code, y, nL)) (hd : decode code pc = .ok (.getfield idx, 3)) (hF : xFl y.cls idx ci k ty fin) (hg : xgI H r ci k = some v) (kk : xWq Z H (pc + 3) pl (.int v :: st)) : xWq Z H pc pl (va_rf r :: st) := by
  refine x_getV hZ hd hF (v := .int v) ?_ kk
  unfold xgI at hg
  split at hg
  · rename_i h; cases hg; exact h
  · cases hg
theorem x_getJ {idx ci k : Nat} {r : Option Nat} {v : Int64} {ty : FieldType} {fin : Bool} (hZ : Z.1 = (code, y, nL)) (hd : decode code pc = .ok (.getfield idx, 3)) (hF : xFl y.cls idx ci k ty fin) (hg : xgJ H r ci k = some v) (kk : xWq Z H (pc + 3) pl (.long v :: st)) : xWq Z H pc pl (va_rf r :: st) := by
  refine x_getV hZ hd hF (v := .long v) ?_ kk
  unfold xgJ at hg
  split at hg
  · rename_i h; cases hg; exact h
  · cases hg
theorem x_getA {idx ci k : Nat} {r v : Option Nat} {ty : FieldType} {fin : Bool} (hZ : Z.1 = (code, y, nL)) (hd : decode code pc = .ok (.getfield idx, 3)) (hF : xFl y.cls idx ci k ty fin) (hg : xgA H r ci k = some v) (kk : xWq Z H (pc + 3) pl (va_rf v :: st)) : xWq Z H pc pl (va_rf r :: st) := by
  refine x_getV hZ hd hF (v := va_rf v) ?_ kk
  unfold xgA at hg
  split at hg
  · rename_i h; cases hg; exact h
  · rename_i b h; cases hg; exact h
  · cases hg
theorem x_getW {idx : Nat} {r : Option Nat} {v : Int64} (hZ : Z.1 = (code, y, nL)) (hd : decode code pc = .ok (.getfield idx, 3)) (hl : Cond.fieldLink y.cls idx "BettingBook$Word" "letters" "J" ∈ xT ∨ ∃ host, Cond.fieldLinkNest y.cls idx "BettingBook$Word" "letters" "J" host ∈ xNW) (hg : xgW H r = some v) (kk : xWq Z H (pc + 3) pl (.long v :: st)) : xWq Z H pc pl (va_rf r :: st) := by
  unfold xgW at hg
  split at hg
  · cases hg
  · rename_i a
    split at hg
    · rename_i c x he
      cases hg
      refine x_lift hZ kk (fun hx hb ho ht hK hR hS _ w => ?_)
      obtain ⟨v', hv', hO⟩ := hR.2.1 a _ he
      cases hv'
      obtain ⟨cf, k, i, f, cell, g1, g2, g3, g4, g5, g6⟩ := hO
      rcases xlink ht hK hl with h | ⟨host, h⟩
      · exact W.getf hx hb ho h g1 g2 g3 g4 g5 rfl rfl hd w
      · exact va_Wgetf hx hb ho h g1 g2 g3 g4 g5 rfl rfl hd w
    · cases hg
theorem x_gets {idx i : Nat} (hZ : Z.1 = (code, y, nL)) (hd : decode code pc = .ok (.getstatic idx, 3)) (hi : i < 20) (hl : Cond.fieldLink y.cls idx "BettingBook$Word" (xsn i).1 (xsn i).2 ∈ xT ∨ ∃ host, Cond.fieldLinkNest y.cls idx "BettingBook$Word" (xsn i).1 (xsn i).2 host ∈ xNW) (kk : xWq Z H (pc + 3) pl (va_rf (some (H.2.2.2 i)) :: st)) : xWq Z H pc pl st := by
  obtain ⟨⟨z1, z2, z3⟩, Z2⟩ := Z
  cases hZ
  refine ⟨kk.1, fun X hX => ?_⟩
  have kk2 := kk.2 X hX
  obtain ⟨p, l, e, R, s, m, args, below, meth, c, Q, D, da, q0, n0, sl0⟩ := X
  intro Hr locs ls h1 h2 h3 h4 h5
  obtain ⟨o1, o2, o3, o4, o5, o6, o7, o8⟩ := hX
  obtain ⟨cf, kf, fi, f, a, cell, g1, g2, g3, g4, g5, g6, g7, g8⟩ := h1.2.2 i hi
  have w := kk2 Hr locs ls h1 h2 h3 h4 h5
  rcases xlink o5 o7 hl with h | ⟨host, h⟩
  · exact W.gets o1 o2 o4 h g1 g2 g3 g4 g5 (fun e => by rw [e] at g6; cases g6) g7 rfl hd w
  · exact va_WgetsN o1 o2 o4 h g1 g2 g3 g4 g5 (fun e => by rw [e] at g6; cases g6) g7 rfl hd w
/-- a row that writes one cell -/
theorem x_liftP {pc' a : Nat} {e' : xE} (hZ : Z.1 = (code, y, nL)) (k : xWq Z (xup H a e') pc' pl st')
    (h : ∀ {p : Program} {l : Launch} {e : Env} {R : Room} {s : State} {m : MethodId} {args : Array Value} {below : List Frame} {meth : Method} {c : Code} {Hr : Heap} {locs : List Loc} {cells slots : Nat} {Q : State → Prop} {ls : Array Slot} {D : va_G} {da : FieldType → ClassId} {q0 : Nat} (X0 : xX), xOk Z X0 → X0 = (p, l, e, R, s, m, args, below, meth, c, Q, D, da, q0, X0.2.2.2.2.2.2.2.2.2.2.2.2.2.2.1, X0.2.2.2.2.2.2.2.2.2.2.2.2.2.2.2) → p.tables.exec = Jvm.exec → c.code = code → s.vm.findClass y.cls = some m.cls → (∀ w ∈ xT, w.before args s = true) → xK D da s → xR D da q0 H s Hr →
      (∀ (H1 : Heap) (j : Nat), q0 ≤ a → xC D da q0 s a e' H1 → H1.size = Hr.size → (∀ q, q ≠ a → H1[q]? = Hr[q]?) → W p l e R s m args below meth c H1 (locs ++ [⟨a, j⟩]) cells slots Q (F0 m pc' ls st')) → W p l e R s m args below meth c Hr locs cells slots Q (F0 m pc ls st)) : xWq Z H pc pl st := by
  refine ⟨k.1, fun X hX => ?_⟩
  have kk := k.2 X hX
  obtain ⟨p, l, e, R, s, m, args, below, meth, c, Q, D, da, q0, n0, sl0⟩ := X
  intro Hr locs ls h1 h2 h3 h4 h5
  have hX' := hX
  obtain ⟨o1, o2, o3, o4, o5, o6, o7, o8⟩ := hX
  refine h _ hX' rfl o1 (by rw [o2, hZ]) (by rw [show y.cls = Z.1.2.1.cls by rw [hZ]]; exact o4) o5 o7 h1 (fun H1 j hq hc z o => ?_)
  exact kk H1 (locs ++ [⟨a, j⟩]) ls (h1.put hq z o hc) h2 h3 (h4.put z o hq) h5
theorem x_putV {idx ci k : Nat} {r : Option Nat} {v : Value} {ty : FieldType} (hZ : Z.1 = (code, y, nL)) (hd : decode code pc = .ok (.putfield idx, 3)) (hF : xFl y.cls idx ci k ty false) (hn : narrow ty v = v) (hfit : fits ty v = true) (hp : xpV H r ci k v = some H') (kk : xWq Z H' (pc + 3) pl st) : xWq Z H pc pl (v :: va_rf r :: st) := by
  unfold xpV at hp
  split at hp
  · cases hp
  rename_i a
  split at hp
  · rename_i c0 fs he
    split at hp
    · rename_i hcl
      obtain ⟨rfl, hlen⟩ := hcl
      cases hp
      obtain ⟨C, T, N, ty0, ⟨hc, hin, hty, hnm⟩, hk, hty0, hfin, hC, hl⟩ := hF
      refine x_liftP hZ kk (fun X0 hX0 eX hx hb hown hts hK hR w => ?_)
      have hat := hR.2.1 a _ he
      have hap := va_apart (own := y.cls) hts hin ty0 hty hnm hK.1 hc
      obtain ⟨rr, h1, cell, q1, q2, q3, q4⟩ := hat.2
      have hr : rr = (C, T, N) := Option.some.inj (h1.symm.trans hc)
      subst hr
      obtain ⟨hS, hfc, kC, hkC, hkind⟩ := hK.1.1 _ _ hc
      obtain ⟨cf, kf, fi, f, hi, hsl⟩ := hS k hk
      have hlay := hts _ (hin _ (u_in_lay hk))
      unfold u_lay at hlay
      rw [if_neg (by rw [hfin]; decide)] at hlay
      have hst := (u_facts hfc hkC (u_lays hts hin hk) hi).1
      have h6 := u_store hfc hkC hkind hlay hi (hty k hk) (by rw [hty0]; exact hn) (by rw [hty0]; exact hfit)
      have fin : ∀ H1 : Heap, H1[a]? = some (cell.setSlot f.slot v) → va_at _ vwCl (a, .inr (c0, fs.set k v)) H1 := fun H1 e1 => by
        rw [hsl] at e1
        exact ⟨_, hc, t_OB.to (V := updV (vp_V fs) k v) ⟨_, e1, q2, q3, t_set q4 hap hk v⟩ (fun j _ => vp_updV_set hlen v j)⟩
      rcases xlink hts hK hl with h | ⟨host, h⟩
      · exact W.putK hx hb (f := f) ⟨hown, h, ⟨_, _, _, hi⟩, hst⟩ (by rw [q2]; exact h6) q1 q3 (by rw [hsl]; exact k2_hasslot (q4 k hk)) rfl rfl hd fun H1 e1 e2 e3 => w H1 _ hat.1 ⟨hat.1, fin H1 e1⟩ e2 e3
      · exact va_WputK hx hb (f := f) hown h hi hst (by rw [q2]; exact h6) q1 q3 (by rw [hsl]; exact k2_hasslot (q4 k hk)) rfl rfl hd fun H1 e1 e2 e3 => w H1 _ hat.1 ⟨hat.1, fin H1 e1⟩ e2 e3
    · cases hp
  · cases hp

/-- the same of a final field, in the constructor -/
theorem x_putF {idx ci k : Nat} {r : Option Nat} {v : Value} {ty : FieldType} (hZ : Z.1 = (code, y, nL)) (hin2 : y.name = "<init>") (hd : decode code pc = .ok (.putfield idx, 3)) (hF : ∃ (C : String) (T : u_T) (N : Nat) (ty0 : Nat → FieldType), xCl ci C T N ty0 ∧ k < N ∧ ty0 k = ty ∧ (T k).2.2.2 = true ∧ (T k).1 = y.cls ∧ Cond.fieldLink y.cls idx (T k).1 (T k).2.1 (T k).2.2.1 ∈ xT) (hn : narrow ty v = v) (hfit : fits ty v = true) (hp : xpV H r ci k v = some H') (kk : xWq Z H' (pc + 3) pl st) : xWq Z H pc pl (v :: va_rf r :: st) := by
  unfold xpV at hp
  split at hp
  · cases hp
  rename_i a
  split at hp
  · rename_i c0 fs he
    split at hp
    · rename_i hcl
      obtain ⟨rfl, hlen⟩ := hcl
      cases hp
      obtain ⟨C, T, N, ty0, ⟨hc, hin, hty, hnm⟩, hk, hty0, hfin, hC, hl⟩ := hF
      refine x_liftP hZ kk (@fun p l e R s m args below meth c Hr locs cells slots Q ls D da q0 X0 hX0 eX hx hb hown hts hK hR w => ?_)
      have hname := hX0
      rw [eX] at hname
      obtain ⟨-, -, -, -, -, ⟨-, hname⟩, -⟩ := hname
      rw [hZ] at hname
      have hat := hR.2.1 a _ he
      have hap := va_apart (own := y.cls) hts hin ty0 hty hnm hK.1 hc
      obtain ⟨rr, h1, cell, q1, q2, q3, q4⟩ := hat.2
      have hr : rr = (C, T, N) := Option.some.inj (h1.symm.trans hc)
      subst hr
      obtain ⟨hS, hfc, kC, hkC, hkind⟩ := hK.1.1 _ _ hc
      obtain ⟨cf, kf, fi, f, hi, hsl⟩ := hS k hk
      have hlay := hts _ (hin _ (u_in_lay hk))
      unfold u_lay at hlay
      rw [if_pos hfin] at hlay
      have hst := (u_facts hfc hkC (u_lays hts hin hk) hi).1
      have hcf : m.cls = cf := by
        obtain ⟨_, _, c', _, _, _, -, -, hf', -, -, -, hown2, -⟩ := Cond.laysFinal_spec hlay
        have e1 : c' = cf := by have := hi.symm.trans hf'; simp at this; exact this.1.symm
        rw [hC] at hown2
        rw [← e1]; exact Option.some.inj (hown.symm.trans hown2)
      have h6 := u_fits hfc hkC hkind (Or.inr hlay) hi (hty k hk) (by rw [hty0]; exact hn) (by rw [hty0]; exact hfit)
      have fin : ∀ H1 : Heap, H1[a]? = some (cell.setSlot f.slot v) → va_at _ vwCl (a, .inr (c0, fs.set k v)) H1 := fun H1 e1 => by
        rw [hsl] at e1
        exact ⟨_, hc, t_OB.to (V := updV (vp_V fs) k v) ⟨_, e1, q2, q3, t_set q4 hap hk v⟩ (fun j _ => vp_updV_set hlen v j)⟩
      exact W.putFinK hx hb hown (hts _ hl) hi hst hcf (by rw [hname]; exact hin2) (by rw [q2]; exact h6) q1 q3 (by rw [hsl]; exact k2_hasslot (q4 k hk)) rfl rfl hd fun H1 e1 e2 e3 => w H1 _ hat.1 ⟨hat.1, fin H1 e1⟩ e2 e3
    · cases hp
  · cases hp
theorem xar_some {r : Option Nat} {w : Bool} {ty : FieldType} {x : vp_A} (h : xar H r = some (w, ty, x)) : ∃ a, r = some a ∧ H.1 a = some (w, .inl (ty, x)) := by
  unfold xar at h
  split at h
  · cases h
  · rename_i a
    split at h
    · rename_i he; cases h; exact ⟨a, rfl, he⟩
    · cases h
theorem xlI_some {ty : FieldType} {r : Option Nat} {i v : Int32} (h : xlI ty H r i = some v) : ∃ a n g, r = some a ∧ H.1 a = some (true, .inl (ty, n, .inl g)) ∧ vp_in i n ∧ v = g i.toNatClampNeg := by
  unfold xlI at h
  split at h
  · rename_i t n g he
    split at h
    · rename_i hc
      obtain ⟨rfl, hc⟩ := hc
      obtain ⟨a, rfl, ha⟩ := xar_some he
      cases h
      exact ⟨a, n, g, rfl, ha, hc, rfl⟩
    · cases h
  · cases h

theorem x_iald {i v : Int32} {r : Option Nat} (hZ : Z.1 = (code, y, nL)) (hd : decode code pc = .ok (.iaload, 1)) (h : xlI .int H r i = some v) (kk : xWq Z H (pc + 1) pl (.int v :: st)) : xWq Z H pc pl (.int i :: va_rf r :: st) := by
  obtain ⟨a, n, g, rfl, ha, hin, rfl⟩ := xlI_some h
  exact x_lift hZ kk (fun hx hb ho ht hK hR hS _ w => va_iald (ws := [(a, .inl (_, n, .inl g))]) hx hb hK.1 (va_P1 (hR.2.1 a _ ha).2) 0 0 rfl rfl hin hd w)
theorem x_bald {i v : Int32} {r : Option Nat} (hZ : Z.1 = (code, y, nL)) (hd : decode code pc = .ok (.baload, 1)) (h : xlI .byte H r i = some v) (kk : xWq Z H (pc + 1) pl (.int v :: st)) : xWq Z H pc pl (.int i :: va_rf r :: st) := by
  obtain ⟨a, n, g, rfl, ha, hin, rfl⟩ := xlI_some h
  exact x_lift hZ kk (fun hx hb ho ht hK hR hS _ w => va_bald (ws := [(a, .inl (_, n, .inl g))]) hx hb hK.1 (va_P1 (hR.2.1 a _ ha).2) 0 2 rfl rfl hin hd w)
theorem x_zald {i v : Int32} {r : Option Nat} (hZ : Z.1 = (code, y, nL)) (hd : decode code pc = .ok (.baload, 1)) (h : xlI .boolean H r i = some v) (kk : xWq Z H (pc + 1) pl (.int v :: st)) : xWq Z H pc pl (.int i :: va_rf r :: st) := by
  obtain ⟨a, n, g, rfl, ha, hin, rfl⟩ := xlI_some h
  exact x_lift hZ kk (fun hx hb ho ht hK hR hS _ w => va_zald (ws := [(a, .inl (_, n, .inl g))]) hx hb hK.1 (va_P1 (hR.2.1 a _ ha).2) 0 3 rfl rfl hin hd w)
theorem x_lald {i : Int32} {v : Int64} {r : Option Nat} (hZ : Z.1 = (code, y, nL)) (hd : decode code pc = .ok (.laload, 1)) (h : xlJ H r i = some v) (kk : xWq Z H (pc + 1) pl (.long v :: st)) : xWq Z H pc pl (.int i :: va_rf r :: st) := by
  unfold xlJ at h
  split at h
  · rename_i t n g he
    split at h
    · rename_i hc
      obtain ⟨rfl, hin⟩ := hc
      obtain ⟨a, rfl, ha⟩ := xar_some he
      cases h
      exact x_lift hZ kk (fun hx hb ho ht hK hR hS _ w => va_lald (ws := [(a, .inl (_, n, .inr (.inl g)))]) hx hb hK.1 (va_P1 (hR.2.1 a _ ha).2) 0 1 rfl rfl hin hd w)
    · cases h
  · cases h
/-- the types of arrays of references -/
def xTq (C : String) (t0 : Nat) : Prop := ∀ da : FieldType → ClassId, (xtys da)[t0]? = some (da (.object C), .object C)
theorem xTq_Bet : xTq "BettingBook$Bet" 4 := fun _ => rfl
theorem xTq_Ledger : xTq "BettingBook$Ledger" 5 := fun _ => rfl
theorem x_aald {C : String} {t0 : Nat} {i : Int32} {r v : Option Nat} (hT : xTq C t0) (hZ : Z.1 = (code, y, nL)) (hd : decode code pc = .ok (.aaload, 1)) (h : xlA (.object C) H r i = some v) (kk : xWq Z H (pc + 1) pl (va_rf v :: st)) : xWq Z H pc pl (.int i :: va_rf r :: st) := by
  unfold xlA at h
  split at h
  · rename_i t n g he
    split at h
    · rename_i hc
      obtain ⟨rfl, hin⟩ := hc
      obtain ⟨a, rfl, ha⟩ := xar_some he
      cases h
      exact x_lift hZ kk (fun hx hb ho ht hK hR hS _ w => va_aldq (ws := [(a, .inl (_, n, .inr (.inr (.inr (.inr g)))))]) hx hb hK.1 (va_P1 (hR.2.1 a _ ha).2) 0 t0 rfl (hT _) hin hd w)
    · cases h
  · cases h
theorem x_aaldW {i : Int32} {r v : Option Nat} (hZ : Z.1 = (code, y, nL)) (hd : decode code pc = .ok (.aaload, 1)) (h : xlW H r i = some v) (kk : xWq Z H (pc + 1) pl (va_rf v :: st)) : xWq Z H pc pl (.int i :: va_rf r :: st) := by
  unfold xlW at h
  split at h
  · rename_i t n g he
    split at h
    · rename_i hin
      obtain ⟨a, rfl, ha⟩ := xar_some he
      cases h
      refine x_lift hZ kk (fun hx hb ho ht hK hR hS _ w => ?_)
      obtain ⟨rfl, f, hf, cell, h1, h2, h3, h4, h5, h6, h7⟩ := hR.2.1 a _ ha
      cases hf
      have hlt : i.toNatClampNeg < n := Nat.not_le.mp fun q => hin (Or.inr q)
      exact W.aald (v := va_rf (g i.toNatClampNeg)) (ty := .object "BettingBook$Word") hx hb h1 h2 rfl h3 (fun q => by
        rcases q with q | q
        · exact hin (Or.inl q)
        · have h4' : n ≤ cell.slots.size := h4
          omega) (by rw [h6 _ hlt]) rfl rfl hd w
    · cases h
  · cases h
theorem x_alen {ty : FieldType} {t0 : Nat} {v : Int32} {r : Option Nat} (hT : ∀ da : FieldType → ClassId, (xtys da)[t0]? = some (da ty, ty)) (hZ : Z.1 = (code, y, nL)) (hd : decode code pc = .ok (.arraylength, 1)) (h : xal ty H r = some v) (kk : xWq Z H (pc + 1) pl (.int v :: st)) : xWq Z H pc pl (va_rf r :: st) := by
  unfold xal at h
  split at h
  · rename_i t n x he
    split at h
    · rename_i ht
      subst ht
      obtain ⟨a, rfl, ha⟩ := xar_some he
      cases h
      exact x_lift hZ kk (fun hx hb ho ht hK hR hS _ w => va_alen (ws := [(a, .inl (_, n, x))]) hx hb hK.1 (va_P1 (hR.2.1 a _ ha).2) 0 t0 rfl (hT _) rfl hd w)
    · cases h
  · cases h
theorem x_alenW {v : Int32} {r : Option Nat} (hZ : Z.1 = (code, y, nL)) (hd : decode code pc = .ok (.arraylength, 1)) (h : xalW H r = some v) (kk : xWq Z H (pc + 1) pl (.int v :: st)) : xWq Z H pc pl (va_rf r :: st) := by
  unfold xalW at h
  split at h
  · rename_i t n x he
    obtain ⟨a, rfl, ha⟩ := xar_some he
    cases h
    refine x_lift hZ kk (fun hx hb ho ht hK hR hS _ w => ?_)
    obtain ⟨rfl, f, hf, cell, h1, h2, h3, h4, h5, h6, h7⟩ := hR.2.1 a _ ha
    exact W.alen (n := Int32.ofNat n) hx hb h1 h2 h5 rfl rfl hd w
  · cases h

theorem x_iast {i v : Int32} {r : Option Nat} (hZ : Z.1 = (code, y, nL)) (hd : decode code pc = .ok (.iastore, 1)) (h : xsI .int H r i v = some H') (kk : xWq Z H' (pc + 1) pl st) : xWq Z H pc pl (.int v :: .int i :: va_rf r :: st) := by
  unfold xsI at h
  split at h
  · cases h
  rename_i a
  split at h
  · rename_i t n g ha
    split at h
    · rename_i hc
      obtain ⟨rfl, hin⟩ := hc
      cases h
      refine x_liftP hZ kk (fun X0 hX0 eX hx hb ho ht hK hR w => ?_)
      have hat := hR.2.1 a _ ha
      refine W.iast hx hb hat.2 ((hK.1.2 0 _ rfl).1 n (fun j => .int (g j))) (fun q => by cases q) (by show ¬ (i < 0 ∨ (arrV _ _ _).slots.size ≤ _); rw [arrV_size]; exact hin) rfl rfl hd fun H1 e z oq => w H1 _ hat.1 ⟨hat.1, ?_⟩ z oq
      show H1[a]? = some (vp_cell _ _)
      rw [e]
      rw [vp_cell_i, vp_cell_i, arrV_store]
      congr 2
      funext q
      by_cases hq : q = i.toNatClampNeg
      · subst hq
        simp [updV, upd, vp_nar]
        try rfl
      · simp [updV, upd, hq]
    · cases h
  · cases h
theorem x_bast {i v : Int32} {r : Option Nat} (hZ : Z.1 = (code, y, nL)) (hd : decode code pc = .ok (.bastore, 1)) (h : xsI .byte H r i v = some H') (kk : xWq Z H' (pc + 1) pl st) : xWq Z H pc pl (.int v :: .int i :: va_rf r :: st) := by
  unfold xsI at h
  split at h
  · cases h
  rename_i a
  split at h
  · rename_i t n g ha
    split at h
    · rename_i hc
      obtain ⟨rfl, hin⟩ := hc
      cases h
      refine x_liftP hZ kk (fun X0 hX0 eX hx hb ho ht hK hR w => ?_)
      have hat := hR.2.1 a _ ha
      refine W.bast hx hb hat.2 ((hK.1.2 2 _ rfl).1 n (fun j => .int (g j))) (fun q => by cases q) (by show ¬ (i < 0 ∨ (arrV _ _ _).slots.size ≤ _); rw [arrV_size]; exact hin) rfl rfl hd fun H1 e z oq => w H1 _ hat.1 ⟨hat.1, ?_⟩ z oq
      show H1[a]? = some (vp_cell _ _)
      rw [e]
      rw [vp_cell_i, vp_cell_i, arrV_store]
      congr 2
      funext q
      by_cases hq : q = i.toNatClampNeg
      · subst hq
        simp [updV, upd, vp_nar]
        try rfl
      · simp [updV, upd, hq]
    · cases h
  · cases h
theorem x_zast {i v : Int32} {r : Option Nat} (hZ : Z.1 = (code, y, nL)) (hd : decode code pc = .ok (.bastore, 1)) (h : xsI .boolean H r i v = some H') (kk : xWq Z H' (pc + 1) pl st) : xWq Z H pc pl (.int v :: .int i :: va_rf r :: st) := by
  unfold xsI at h
  split at h
  · cases h
  rename_i a
  split at h
  · rename_i t n g ha
    split at h
    · rename_i hc
      obtain ⟨rfl, hin⟩ := hc
      cases h
      refine x_liftP hZ kk (fun X0 hX0 eX hx hb ho ht hK hR w => ?_)
      have hat := hR.2.1 a _ ha
      refine W.zast hx hb hat.2 ((hK.1.2 3 _ rfl).1 n (fun j => .int (g j))) (fun q => by cases q) (by show ¬ (i < 0 ∨ (arrV _ _ _).slots.size ≤ _); rw [arrV_size]; exact hin) rfl rfl hd fun H1 e z oq => w H1 _ hat.1 ⟨hat.1, ?_⟩ z oq
      show H1[a]? = some (vp_cell _ _)
      rw [e]
      rw [vp_cell_i, vp_cell_i, arrV_store]
      congr 2
      funext q
      by_cases hq : q = i.toNatClampNeg
      · subst hq
        simp [updV, upd, vp_nar]
        try rfl
      · simp [updV, upd, hq]
    · cases h
  · cases h
theorem x_last {i : Int32} {v : Int64} {r : Option Nat} (hZ : Z.1 = (code, y, nL)) (hd : decode code pc = .ok (.lastore, 1)) (h : xsJ H r i v = some H') (kk : xWq Z H' (pc + 1) pl st) : xWq Z H pc pl (.long v :: .int i :: va_rf r :: st) := by
  unfold xsJ at h
  split at h
  · cases h
  rename_i a
  split at h
  · rename_i t n g ha
    split at h
    · rename_i hc
      obtain ⟨rfl, hin⟩ := hc
      cases h
      refine x_liftP hZ kk (fun X0 hX0 eX hx hb ho ht hK hR w => ?_)
      have hat := hR.2.1 a _ ha
      refine W.last hx hb hat.2 ((hK.1.2 1 _ rfl).1 n (fun j => .long (g j))) (fun q => by cases q) (by show ¬ (i < 0 ∨ (arrV _ _ _).slots.size ≤ _); rw [arrV_size]; exact hin) rfl rfl hd fun H1 e z oq => w H1 _ hat.1 ⟨hat.1, ?_⟩ z oq
      show H1[a]? = some (vp_cell _ _)
      rw [e]
      rw [vp_cell_l, vp_cell_l, arrV_store]
      congr 2
      funext q
      by_cases hq : q = i.toNatClampNeg
      · subst hq
        simp [updV, vp_updL]
      · simp [updV, vp_updL, hq]
    · cases h
  · cases h
theorem x_aast {C : String} {t0 ci : Nat} {cr : vw_C} {i : Int32} {r v : Option Nat} (hT : xTq C t0) (hci : vwCl[ci]? = some cr) (hcn : cr.1 = C) (hZ : Z.1 = (code, y, nL)) (hd : decode code pc = .ok (.aastore, 1)) (h : xsA (.object C) ci H r i v = some H') (kk : xWq Z H' (pc + 1) pl st) : xWq Z H pc pl (va_rf v :: .int i :: va_rf r :: st) := by
  unfold xsA at h
  split at h
  · cases h
  rename_i a
  split at h
  · rename_i t n g ha
    split at h
    · rename_i hc
      obtain ⟨rfl, hin⟩ := hc
      split at h
      · cases h
        refine x_liftP hZ kk (fun X0 hX0 eX hx hb ho ht hK hR w => ?_)
        have hat := hR.2.1 a _ ha
        refine va_WaastN (C := C) hx hb hat.2 ((hK.1.2 t0 _ (hT _)).1 n (fun j => va_rf (g j))) (fun q => by cases q) (by show ¬ (i < 0 ∨ (arrV _ _ _).slots.size ≤ _); rw [arrV_size]; exact hin) rfl rfl hd fun H1 e z oq => w H1 _ hat.1 ⟨hat.1, ?_⟩ z oq
        show H1[a]? = some (vp_cell _ _)
        rw [e]
        rw [vp_cell_q, vp_cell_q, arrV_store]
        congr 2
        funext q
        by_cases hq : q = i.toNatClampNeg
        · subst hq
          simp [updV, va_up, va_rf]
        · simp [updV, va_up, hq]
      · rename_i b
        split at h
        · rename_i c fs hb9
          split at h
          · rename_i hcc
            subst hcc
            cases h
            refine x_liftP hZ kk (fun X0 hX0 eX hx hb ho ht hK hR w => ?_)
            have hat := hR.2.1 a _ ha
            have hlt : i.toNatClampNeg < n := Nat.not_le.mp fun q => hin (Or.inr q)
            have h0 : ¬ i < 0 := fun q => hin (Or.inl q)
            obtain ⟨r', hr', cellV, g1, g2, g3, -⟩ := (hR.2.1 b _ hb9).2
            have hcls := (hK.1.1 _ _ hci).2
            rw [hcn] at hcls
            obtain ⟨kA, comp, k1, k2, k3, -⟩ := (hK.1.2 t0 _ (hT _)).2
            have hcomp : comp = _ := Option.some.inj (k3.symm.trans hcls.1)
            subst hcomp
            obtain ⟨kC, hkC, -⟩ := hcls.2
            refine W.aast hx hb hat.2 (fun q h => by cases h) (fun h => by cases h) k1 k2 rfl hkC ⟨h0, by show _ < (arrV _ _ _).slots.size; rw [arrV_size]; exact hlt⟩ g1 (fun q h => by rw [g3] at h; cases h) (by rw [g2]; exact hkC) (by rw [g2]; exact va_assign hcls) rfl rfl hd fun H1 e z oq => w H1 _ hat.1 ⟨hat.1, ?_⟩ z oq
            show H1[a]? = some (vp_cell _ _)
            rw [e]
            rw [vp_cell_q, vp_cell_q, arrV_store]
            congr 2
            funext q
            by_cases hq : q = i.toNatClampNeg
            · subst hq
              simp [updV, va_up, va_rf]
            · simp [updV, va_up, hq]
          · cases h
        · cases h
    · cases h
  · cases h
/-- a row that makes a cell -/
theorem x_liftN {pc' n : Nat} {e' : xE} (hZ : Z.1 = (code, y, nL)) (k : xWq Z (xnw H e' n) pc' pl st')
    (h : ∀ {p : Program} {l : Launch} {e : Env} {R : Room} {s : State} {m : MethodId} {args : Array Value} {below : List Frame} {meth : Method} {c : Code} {Hr : Heap} {locs : List Loc} {cells slots : Nat} {Q : State → Prop} {ls : Array Slot} {D : va_G} {da : FieldType → ClassId} {q0 : Nat}, p.tables.exec = Jvm.exec → c.code = code → s.vm.findClass y.cls = some m.cls → (∀ w ∈ xT, w.before args s = true) → xK D da s → Hr.size = H.2.1 → q0 ≤ H.2.1 → cells + 1 ≤ R.cells → slots + n ≤ R.slots →
      (∀ H1 : Heap, xC D da q0 s H.2.1 e' H1 → H1.size = Hr.size + 1 → (∀ q, q < Hr.size → H1[q]? = Hr[q]?) → W p l e R s m args below meth c H1 locs (cells + 1) (slots + n) Q (F0 m pc' ls st')) → W p l e R s m args below meth c Hr locs cells slots Q (F0 m pc ls st)) : xWq Z H pc pl st := by
  have hk1 : H.2.1 + 1 ≤ Z.2.2.1 ∧ H.2.2.1 + n ≤ Z.2.2.2.1 := k.1
  refine ⟨⟨by omega, by omega⟩, fun X hX => ?_⟩
  have kk := k.2 X hX
  obtain ⟨p, l, e, R, s, m, args, below, meth, c, Q, D, da, q0, n0, sl0⟩ := X
  intro Hr locs ls h1 h2 h3 h4 h5
  obtain ⟨o1, o2, o3, o4, o5, o6, o7, o8, o9⟩ := hX
  refine h o1 (by rw [o2, hZ]) (by rw [show y.cls = Z.1.2.1.cls by rw [hZ]]; exact o4) o5 o7 h1.1.1 h1.1.2 (by omega) (by omega) (fun H1 hc z o => ?_)
  have w := kk H1 locs ls (h1.new z o hc) (Nat.le_succ_of_le h2) (Nat.le_trans h3 (Nat.le_add_right _ _)) ⟨Nat.le_trans h4.1 (by omega), fun x g1 g2 => (o x (Nat.lt_of_lt_of_le g1 h4.1)).trans (h4.2.1 x g1 g2), h4.2.2⟩ h5
  have e1 : (xnw H e' n).2.1 - n0 = H.2.1 - n0 + 1 := by show H.2.1 + 1 - n0 = _; omega
  have e2 : (xnw H e' n).2.2.1 - sl0 = H.2.2.1 - sl0 + n := by show H.2.2.1 + n - sl0 = _; omega
  rw [e1, e2] at w
  exact w
/-- a place in the code that makes an object -/
def xNs (own : String) (idx ci N : Nat) (fs : List Value) : Prop := ∃ (C : String) (T : u_T) (ty0 : Nat → FieldType), xCl ci C T N ty0 ∧ Cond.classLink own idx C ∈ xT ∧ Cond.instantiable C N ∈ xT ∧ Cond.initialized C ∈ xT ∧ ∀ j, j < N → defaultValue (ty0 j) = vp_V fs j
theorem x_new {idx ci N : Nat} {fs : List Value} (hZ : Z.1 = (code, y, nL)) (hd : decode code pc = .ok (.new idx, 3)) (hN : xNs y.cls idx ci N fs) (kk : xWq Z (xno ci N fs H) (pc + 3) pl (va_rf (some H.2.1) :: st)) : xWq Z H pc pl st := by
  obtain ⟨C, T, ty0, ⟨hc, hin, hty, hnm⟩, hl, hi, hini, hfs⟩ := hN
  refine x_liftN hZ kk (fun hx hb ho ht hK hz hq hce hsl w => ?_)
  have hKn := hK.1.1 ci _ hc
  exact W.newcK hx hb ho (ht _ hl) (ht _ hi) (ht _ hini) rfl hd hce hsl hKn.2.1 hz fun H1 kC hkC e1 z1 o1 => w H1 ⟨hq, _, hc, (u_born ty0 ht hin hKn hkC e1 hty).to hfs⟩ (by rw [z1, hz]) (fun q h => o1 q (by rw [← hz]; exact h))
theorem x_newarr {atype : ArrayType} {ty : FieldType} {t0 : Nat} {n : Int32} {a0 : vp_A} (hat : newarray.typeOf atype = ty) (hT : ∀ da : FieldType → ClassId, (xtys da)[t0]? = some (da ty, ty)) (hw : Cond.arrayClass ty ∈ xT) (hra : ∀ (U : State) (cA : ClassId), va_RA U cA ty → U.vm.findClass ("[" ++ ty.toString) = some cA) (ha : ∀ cA : ClassId, vp_cell cA a0 = arrV cA n.toNatClampNeg (fun _ => defaultValue ty)) (hcb : componentBytes ty ≤ 8) (hZ : Z.1 = (code, y, nL)) (hd : decode code pc = .ok (.newarray atype, 2)) (hn : ¬ n < 0 ∧ n.toNatClampNeg ≤ 1000000) (kk : xWq Z (xnw H (true, .inl (ty, a0)) n.toNatClampNeg) (pc + 2) pl (va_rf (some H.2.1) :: st)) : xWq Z H pc pl (.int n :: st) := by
  subst hat
  refine x_liftN hZ kk (fun hx hb ho ht hK hz hq hce hsl w => ?_)
  refine va_newaK hx hb (ht _ hw) rfl hd rfl hn.1 rfl ?_ hce hsl hz fun H1 cA e1 z1 o1 hAr hNm => ?_
  · exact Nat.le_trans (Nat.mul_le_mul hn.2 hcb) (by decide)
  · refine w H1 ⟨hq, ?_⟩ (by rw [z1, hz]) (fun q h => o1 q (by rw [← hz]; exact h))
    have hcA := hra _ _ (hK.1.2 t0 _ (hT _)).2
    have e2 : cA = _ := Option.some.inj (hNm.symm.trans hcA)
    subst e2
    show H1[_]? = some (vp_cell _ _)
    rw [ha]
    exact e1
theorem x_newI {n : Int32} (hw : Cond.arrayClass .int ∈ xT) (hZ : Z.1 = (code, y, nL)) (hd : decode code pc = .ok (.newarray .int, 2)) (h : xnI .int H n = some H') (kk : xWq Z H' (pc + 2) pl (va_rf (some H.2.1) :: st)) : xWq Z H pc pl (.int n :: st) := by
  unfold xnI at h
  split at h
  · rename_i hn
    cases h
    exact x_newarr (atype := .int) (ty := .int) (t0 := 0) rfl (fun _ => rfl) hw (fun _ _ h => h) (fun _ => rfl) (by decide) hZ hd hn kk
  · cases h
theorem x_newB {n : Int32} (hw : Cond.arrayClass .byte ∈ xT) (hZ : Z.1 = (code, y, nL)) (hd : decode code pc = .ok (.newarray .byte, 2)) (h : xnI .byte H n = some H') (kk : xWq Z H' (pc + 2) pl (va_rf (some H.2.1) :: st)) : xWq Z H pc pl (.int n :: st) := by
  unfold xnI at h
  split at h
  · rename_i hn
    cases h
    exact x_newarr (atype := .byte) (ty := .byte) (t0 := 2) rfl (fun _ => rfl) hw (fun _ _ h => h) (fun _ => rfl) (by decide) hZ hd hn kk
  · cases h
theorem x_newZ {n : Int32} (hw : Cond.arrayClass .boolean ∈ xT) (hZ : Z.1 = (code, y, nL)) (hd : decode code pc = .ok (.newarray .boolean, 2)) (h : xnI .boolean H n = some H') (kk : xWq Z H' (pc + 2) pl (va_rf (some H.2.1) :: st)) : xWq Z H pc pl (.int n :: st) := by
  unfold xnI at h
  split at h
  · rename_i hn
    cases h
    exact x_newarr (atype := .boolean) (ty := .boolean) (t0 := 3) rfl (fun _ => rfl) hw (fun _ _ h => h) (fun _ => rfl) (by decide) hZ hd hn kk
  · cases h
theorem x_newJ {n : Int32} (hw : Cond.arrayClass .long ∈ xT) (hZ : Z.1 = (code, y, nL)) (hd : decode code pc = .ok (.newarray .long, 2)) (h : xnJ H n = some H') (kk : xWq Z H' (pc + 2) pl (va_rf (some H.2.1) :: st)) : xWq Z H pc pl (.int n :: st) := by
  unfold xnJ at h
  split at h
  · rename_i hn
    cases h
    exact x_newarr (atype := .long) (ty := .long) (t0 := 1) rfl (fun _ => rfl) hw (fun _ _ h => h) (fun _ => rfl) (by decide) hZ hd hn kk
  · cases h
theorem x_newA {C : String} {t0 idx : Nat} {n : Int32} (hT : xTq C t0) (hov : ∀ (D : va_G) (da : FieldType → ClassId) (U : State), xK D da U → va_AO C U) (hw : Cond.classLink y.cls idx C ∈ xT) (hZ : Z.1 = (code, y, nL)) (hd : decode code pc = .ok (.anewarray idx, 3)) (h : xnA (.object C) H n = some H') (kk : xWq Z H' (pc + 3) pl (va_rf (some H.2.1) :: st)) : xWq Z H pc pl (.int n :: st) := by
  unfold xnA at h
  split at h
  · rename_i hn
    cases h
    refine x_liftN hZ kk (fun hx hb ho ht hK hz hq hce hsl w => ?_)
    refine W.anew hx hb ho (ht _ hw) (va_AO.use (hov _ _ _ hK)) rfl hd rfl hn.1 (Nat.le_trans (Nat.mul_le_mul_right 4 hn.2) (by decide)) hce hsl fun cA kA comp f1 f2 f3 f4 => ?_
    rename_i Hr _ _ _ _ _ _ _ _
    generalize hH1 : Array.push _ ({ cls := cA, slots := Array.replicate n.toNatClampNeg .null, vm := .none } : Cell) = H1
    rw [hz]
    refine w H1 ⟨hq, ?_⟩ (by rw [← hH1, Array.size_push]) (fun q hq => by rw [← hH1, Array.getElem?_push, if_neg (Nat.ne_of_lt hq)])
    obtain ⟨kA', comp', k1, k2, k3, k4⟩ := (hK.1.2 t0 _ (hT _)).2
    have e2 : cA = _ := Option.some.inj (f1.symm.trans k4)
    subst e2
    show H1[H.2.1]? = some (vp_cell _ _)
    rw [← hz, ← hH1, Array.getElem?_push_size, vp_cell_q, ← arrV_new]
    rfl
  · cases h

end XH
