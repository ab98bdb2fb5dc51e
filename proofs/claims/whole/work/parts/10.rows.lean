/-! LIGHT ROWS: pure heaps (xH), a predicate xWq of a frame over a pure heap, and a row for each instruction, out of the kit's W rows. -/
abbrev xE : Type := Bool × ((FieldType × vp_A) ⊕ (Nat × List Value))
abbrev xH : Type := (Nat → Option xE) × Nat × Nat × (Nat → Nat)
abbrev xV : Type := Int32 ⊕ (Int64 ⊕ Option Nat)
abbrev xPL : Type := List (Option xV)
abbrev xN : Option xV := none
abbrev xI (x : Int32) : Option xV := some (.inl x)
abbrev xJ (x : Int64) : Option xV := some (.inr (.inl x))
abbrev xA (r : Option Nat) : Option xV := some (.inr (.inr r))
def xv : xV → Value
  | .inl x => .int x
  | .inr (.inl x) => .long x
  | .inr (.inr r) => va_rf r
def x2 : xV → Bool
  | .inr (.inl _) => true
  | _ => false
theorem x2_cat (o : xV) (h : x2 o = false) : (xv o).category = 1 := by
  rcases o with x | x | r
  · rfl
  · cases h
  · cases r <;> rfl
theorem x2_cat2 (o : xV) : (xv o).category = 2 → x2 o = true := by
  rcases o with x | x | r
  · intro h; cases h
  · intro _; rfl
  · intro h; cases r <;> cases h
/-- the tables' words that may be handed on -/
def xT : List Cond := lw_tbl.filter goodWord
theorem xT_in {w : Cond} (h : w ∈ lw_tbl) (hg : goodWord w = true) : w ∈ xT := List.mem_filter.mpr ⟨h, hg⟩
theorem xT_tb (i : Nat) {w : Cond} (h : tables_1[i]? = some w) (hg : goodWord w = true) : w ∈ xT := xT_in (List.mem_append_right _ (List.mem_of_getElem? h)) hg
theorem xT_pv (i : Nat) {w : Cond} (h : (k2_sels lw_privs)[i]? = some w) (hg : goodWord w = true) : w ∈ xT := xT_in (List.mem_append_left _ (List.mem_of_getElem? h)) hg
theorem xT_good : GoodIn xT xT := fun w h => ⟨h, good_of_word (List.mem_filter.mp h).2⟩
theorem xT_goodc {w : Cond} (h : w ∈ xT) : GoodIn xT (w :: xT) := fun v hv => by
  rcases List.mem_cons.mp hv with rfl | h2
  · exact xT_good _ h
  · exact xT_good _ h2
theorem xT_ws {ws : List Cond} (h : ∀ w ∈ ws, w ∈ lw_tbl) (hg : ws.all goodWord = true) : ∀ w ∈ ws, w ∈ xT := fun w hw => xT_in (h w hw) (List.all_eq_true.mp hg w hw)
/-- the statics of Word -/
def xsn : Nat → String × String := fun k => match k with
  | 0 => ("THING", "LBettingBook$Word;")
  | 1 => ("FROM", "LBettingBook$Word;")
  | 2 => ("UNTIL", "LBettingBook$Word;")
  | 3 => ("MEMBER", "LBettingBook$Word;")
  | 4 => ("BARS", "LBettingBook$Word;")
  | 5 => ("BRINGS", "LBettingBook$Word;")
  | 6 => ("IN", "LBettingBook$Word;")
  | 7 => ("BET", "LBettingBook$Word;")
  | 8 => ("TO", "LBettingBook$Word;")
  | 9 => ("THAT", "LBettingBook$Word;")
  | 10 => ("OFF", "LBettingBook$Word;")
  | 11 => ("DOUBLE", "LBettingBook$Word;")
  | 12 => ("OR", "LBettingBook$Word;")
  | 13 => ("AND", "LBettingBook$Word;")
  | 14 => ("NOT", "LBettingBook$Word;")
  | 15 => ("COMES", "LBettingBook$Word;")
  | 16 => ("BY", "LBettingBook$Word;")
  | 17 => ("BEFORE", "LBettingBook$Word;")
  | 18 => ("LEAST", "LBettingBook$Word;")
  | _ => ("ALL", "[LBettingBook$Word;")
def xC (D : va_G) (da : FieldType → ClassId) (q0 : Nat) (U : State) (a : Nat) (e : xE) (Hr : Heap) : Prop :=
  match e with
  | (true, .inl (ty, x)) => q0 ≤ a ∧ va_at D vwCl (a, .inl (da ty, x)) Hr
  | (true, .inr o) => q0 ≤ a ∧ va_at D vwCl (a, .inr o) Hr
  | (false, .inl (ty, x)) => ty = .object "BettingBook$Word" ∧ ∃ f : Nat → Option Nat, x.2 = .inr (.inr (.inr (.inr f))) ∧ va_T ty a x.1 (fun j => va_rf (f j)) (fun q => q0 ≤ q) U Hr
  | (false, .inr o) => ∃ v : Int64, o.2 = [.long v] ∧ va_OF "BettingBook$Word" "letters" "J" (.long v) a (fun q => q0 ≤ q) U Hr
def xR (D : va_G) (da : FieldType → ClassId) (q0 : Nat) (H : xH) (U : State) (Hr : Heap) : Prop :=
  (Hr.size = H.2.1 ∧ q0 ≤ H.2.1) ∧ (∀ a e, H.1 a = some e → xC D da q0 U a e Hr) ∧ ∀ i, i < 20 → va_Z "BettingBook$Word" (xsn i).1 (xsn i).2 (.ref (H.2.2.2 i)) (fun q => q0 ≤ q) U Hr
def xup (H : xH) (a : Nat) (e : xE) : xH := (fun q => if q = a then some e else H.1 q, H.2)
theorem xC.kept {D : va_G} {da : FieldType → ClassId} {q0 : Nat} {U : State} {a : Nat} {e : xE} {Hr H1 : Heap} (h : xC D da q0 U a e Hr) (hq : H1[a]? = Hr[a]?) (ho : ∀ q, q < Hr.size → ¬ q0 ≤ q → H1[q]? = Hr[q]?) : xC D da q0 U a e H1 := by
  obtain ⟨w, x | o⟩ := e <;> cases w
  · obtain ⟨h1, f, h2, h3⟩ := h
    exact ⟨h1, f, h2, h3.kept ho⟩
  · exact ⟨h.1, h.2.kept hq⟩
  · obtain ⟨v, h1, h2⟩ := h
    exact ⟨v, h1, h2.kept ho⟩
  · exact ⟨h.1, h.2.kept hq⟩
theorem xC.moved {D : va_G} {da : FieldType → ClassId} {q0 : Nat} {u U : State} {a : Nat} {e : xE} {Hr : Heap} (hvm : u.vm.Alike U.vm) (h : xC D da q0 u a e Hr) : xC D da q0 U a e Hr := by
  obtain ⟨w, x | o⟩ := e <;> cases w
  · obtain ⟨h1, f, h2, h3⟩ := h
    exact ⟨h1, f, h2, va_T.moved hvm h3⟩
  · exact h
  · obtain ⟨v, h1, h2⟩ := h
    exact ⟨v, h1, va_OF.moved hvm h2⟩
  · exact h
theorem xR.moved {D : va_G} {da : FieldType → ClassId} {q0 : Nat} {u U : State} {H : xH} {Hr : Heap} (hvm : u.vm.Alike U.vm) (h : xR D da q0 H u Hr) : xR D da q0 H U Hr :=
  ⟨h.1, fun a e he => (h.2.1 a e he).moved hvm, fun i hi => va_Z.moved hvm (h.2.2 i hi)⟩
theorem xR.put {D : va_G} {da : FieldType → ClassId} {q0 : Nat} {U : State} {H : xH} {Hr H1 : Heap} {a : Nat} {e : xE} (h : xR D da q0 H U Hr) (hq : q0 ≤ a) (z : H1.size = Hr.size) (o : ∀ q, q ≠ a → H1[q]? = Hr[q]?) (hc : xC D da q0 U a e H1) : xR D da q0 (xup H a e) U H1 := by
  have ho : ∀ q, q < Hr.size → ¬ q0 ≤ q → H1[q]? = Hr[q]? := fun q _ h2 => o q (fun e => h2 (by rw [e]; exact hq))
  refine ⟨⟨z.trans h.1.1, h.1.2⟩, fun b f hf => ?_, fun i hi => (h.2.2 i hi).kept ho⟩
  by_cases hb : b = a
  · subst hb
    have : some e = some f := by simpa [xup] using hf
    cases this
    exact hc
  · have hf' : H.1 b = some f := by simpa [xup, hb] using hf
    exact (h.2.1 b f hf').kept (o b hb) ho
theorem xR.new {D : va_G} {da : FieldType → ClassId} {q0 : Nat} {U : State} {H : xH} {Hr H1 : Heap} {sl : Nat} {e : xE} (h : xR D da q0 H U Hr) (z : H1.size = Hr.size + 1) (o : ∀ q, q < Hr.size → H1[q]? = Hr[q]?) (hc : xC D da q0 U H.2.1 e H1) : xR D da q0 ((fun q => if q = H.2.1 then some e else H.1 q), H.2.1 + 1, sl, H.2.2.2) U H1 := by
  have ho : ∀ q, q < Hr.size → ¬ q0 ≤ q → H1[q]? = Hr[q]? := fun q h1 _ => o q h1
  refine ⟨⟨by rw [z, h.1.1], Nat.le_succ_of_le h.1.2⟩, fun b f hf => ?_, fun i hi => (h.2.2 i hi).kept ho⟩
  by_cases hb : b = H.2.1
  · subst hb
    have : some e = some f := by simpa using hf
    cases this
    exact hc
  · have hf' : H.1 b = some f := by simpa [hb] using hf
    have hc2 := h.2.1 b f hf'
    have hlt : b < Hr.size := by
      obtain ⟨w, x | o'⟩ := f <;> cases w
      · obtain ⟨_, _, _, cell, hcell, _⟩ := hc2
        exact (Array.getElem?_eq_some_iff.mp hcell).1
      · exact hc2.2.lt
      · obtain ⟨_, _, _, _, _, _, cell, _, _, hcell, _⟩ := hc2
        exact (Array.getElem?_eq_some_iff.mp hcell).1
      · exact hc2.2.lt
    exact hc2.kept (o b hlt) ho
def xtys (da : FieldType → ClassId) : List (ClassId × FieldType) := [(da .int, .int), (da .long, .long), (da .byte, .byte), (da .boolean, .boolean), (da (.object "BettingBook$Bet"), .object "BettingBook$Bet"), (da (.object "BettingBook$Ledger"), .object "BettingBook$Ledger")]
/-- links to private members of nest mates: they are not handed on as words, but as facts -/
def xisN : Cond → Bool
  | .fieldLinkNest _ _ _ _ _ _ => true
  | .methodLinkNest _ _ _ _ => true
  | _ => false
def xNW : List Cond := tables_1.filter xisN
theorem xNW_tb (i : Nat) {w : Cond} (h : tables_1[i]? = some w) (hg : xisN w = true) : w ∈ xNW := List.mem_filter.mpr ⟨List.mem_of_getElem? h, hg⟩
def xNk (U : State) : Prop := ∀ w ∈ xNW, va_Nw w U
theorem xNk.same {u U : State} (e : u.vm = U.vm) (h : xNk u) : xNk U := fun w hw => by
  have hi := (List.mem_filter.mp hw).2
  have hn := h w hw
  revert hn hi
  cases w <;> intro hi hn <;> first | exact va_Nw.same rfl e hn | cases hi
theorem xNk.warm {s U : State} (hW : s.WarmedH U.vm) (h : xNk s) : xNk U := fun w hw => by
  have hi := (List.mem_filter.mp hw).2
  have hn := h w hw
  revert hn hi
  cases w <;> intro hi hn <;> first | exact va_Nw.warmF hW hn | exact va_Nw.warmM hW hn | cases hi
def xK (D : va_G) (da : FieldType → ClassId) (U : State) : Prop := va_K D vwCl (xtys da) U ∧ va_AO "BettingBook$Bet" U ∧ va_AO "BettingBook$Ledger" U ∧ xNk U
theorem xK.same {D : va_G} {da : FieldType → ClassId} {u U : State} (e : u.vm = U.vm) (h : xK D da u) : xK D da U := by
  have hvm : u.vm.Alike U.vm := by rw [e]; exact Vm.Alike.refl U.vm
  exact ⟨va_K.moved hvm h.1, va_AO.moved hvm h.2.1, va_AO.moved hvm h.2.2.1, h.2.2.2.same e⟩
theorem xK.warm {D : va_G} {da : FieldType → ClassId} {s U : State} (hW : s.WarmedH U.vm) (h : xK D da s) : xK D da U := ⟨va_K.moved hW.alike h.1, va_AO.moved hW.alike h.2.1, va_AO.moved hW.alike h.2.2.1, h.2.2.2.warm hW⟩
/-- locals -/
def xL (pl : xPL) (ls : Array Slot) (nL : Nat) : Prop := ∃ lv, lv_has ls nL lv ∧ ∀ i o, pl[i]? = some (some o) → (i, xv o) ∈ lv
theorem xL.at {pl : xPL} {ls : Array Slot} {nL i : Nat} {o : xV} (h : xL pl ls nL) (hi : pl[i]? = some (some o)) : ls[i]? = some (.val (xv o)) := by
  obtain ⟨lv, h1, h2⟩ := h
  exact h1.2.2 _ (h2 i o hi)
def xst1 : xPL → Nat → xV → xPL
  | [], _, _ => []
  | _ :: t, 0, v => some v :: t
  | h :: t, 1, v => (match h with | none => none | some w => if x2 w = true then none else some w) :: xst1 t 0 v
  | h :: t, n + 2, v => h :: xst1 t (n + 1) v
theorem xst1_spec : ∀ (pl : xPL) (i : Nat) (v : xV) (j : Nat) (w : xV), (xst1 pl i v)[j]? = some (some w) → (j = i ∧ w = v) ∨ (j ≠ i ∧ pl[j]? = some (some w) ∧ ¬ (j + 1 = i ∧ x2 w = true)) := by
  intro pl
  induction pl with
  | nil => intro i v j w h; simp [xst1] at h
  | cons a t ih =>
    intro i v j w h
    match i with
    | 0 =>
      cases j with
      | zero => left; simp [xst1] at h; exact ⟨rfl, h.symm⟩
      | succ j => right; refine ⟨by omega, by simpa [xst1] using h, by omega⟩
    | 1 =>
      cases j with
      | zero =>
        right
        cases a with
        | none => simp [xst1] at h
        | some b =>
          by_cases hb : x2 b = true
          · simp [xst1, hb] at h
          · simp [xst1, hb] at h
            subst h
            exact ⟨by omega, by simp, fun q => hb q.2⟩
      | succ j =>
        have h' : (xst1 t 0 v)[j]? = some (some w) := by simpa [xst1] using h
        rcases ih 0 v j w h' with ⟨h1, h2⟩ | ⟨h1, h2, h3⟩
        · left; exact ⟨by omega, h2⟩
        · right; exact ⟨by omega, by simpa using h2, by omega⟩
    | n + 2 =>
      cases j with
      | zero => right; refine ⟨by omega, by simpa [xst1] using h, by omega⟩
      | succ j =>
        have h' : (xst1 t (n + 1) v)[j]? = some (some w) := by simpa [xst1] using h
        rcases ih (n + 1) v j w h' with ⟨h1, h2⟩ | ⟨h1, h2, h3⟩
        · left; exact ⟨by omega, h2⟩
        · right; exact ⟨by omega, by simpa using h2, fun q => h3 ⟨by omega, q.2⟩⟩
theorem xL.st1 {pl pl' : xPL} {ls' : Array Slot} {nL i : Nat} {v : xV} {lv : List (Nat × Value)} (h' : lv_has ls' nL ((i, xv v) :: lv.filter (fun q => !(q.1 == i) && !(q.1 + 1 == i && q.2.category == 2)))) (h2 : ∀ i o, pl[i]? = some (some o) → (i, xv o) ∈ lv) (hp : xst1 pl i v = pl') : xL pl' ls' nL := by
  refine ⟨_, h', fun j w hw => ?_⟩
  rw [← hp] at hw
  rcases xst1_spec pl i v j w hw with ⟨rfl, rfl⟩ | ⟨h3, h4, h5⟩
  · exact List.mem_cons_self
  · refine List.mem_cons_of_mem _ (List.mem_filter.mpr ⟨h2 j w h4, ?_⟩)
    simp only [Bool.and_eq_true, Bool.not_eq_true', beq_eq_false_iff_ne, Bool.and_eq_false_iff]
    refine ⟨h3, ?_⟩
    by_cases h6 : j + 1 = i
    · right
      intro h7
      exact h5 ⟨h6, x2_cat2 w h7⟩
    · left; exact h6
def xst2 : xPL → Nat → xV → xPL
  | [], _, _ => []
  | _ :: t, 0, v => some v :: (match t with | [] => [] | _ :: t' => none :: t')
  | h :: t, 1, v => (match h with | none => none | some w => if x2 w = true then none else some w) :: xst2 t 0 v
  | h :: t, n + 2, v => h :: xst2 t (n + 1) v
theorem xst2_spec : ∀ (pl : xPL) (i : Nat) (v : xV) (j : Nat) (w : xV), (xst2 pl i v)[j]? = some (some w) → (j = i ∧ w = v) ∨ (j ≠ i ∧ j ≠ i + 1 ∧ pl[j]? = some (some w) ∧ ¬ (j + 1 = i ∧ x2 w = true)) := by
  intro pl
  induction pl with
  | nil => intro i v j w h; simp [xst2] at h
  | cons a t ih =>
    intro i v j w h
    match i with
    | 0 =>
      cases j with
      | zero => left; simp [xst2] at h; exact ⟨rfl, h.symm⟩
      | succ j =>
        right
        cases t with
        | nil => simp [xst2] at h
        | cons b t' =>
          cases j with
          | zero => simp [xst2] at h
          | succ j => exact ⟨by omega, by omega, by simpa [xst2] using h, by omega⟩
    | 1 =>
      cases j with
      | zero =>
        right
        cases a with
        | none => simp [xst2] at h
        | some b =>
          by_cases hb : x2 b = true
          · simp [xst2, hb] at h
          · simp [xst2, hb] at h
            subst h
            exact ⟨by omega, by omega, by simp, fun q => hb q.2⟩
      | succ j =>
        have h' : (xst2 t 0 v)[j]? = some (some w) := by simpa [xst2] using h
        rcases ih 0 v j w h' with ⟨h1, h2⟩ | ⟨h1, h1', h2, h3⟩
        · left; exact ⟨by omega, h2⟩
        · right; exact ⟨by omega, by omega, by simpa using h2, by omega⟩
    | n + 2 =>
      cases j with
      | zero => right; refine ⟨by omega, by omega, by simpa [xst2] using h, by omega⟩
      | succ j =>
        have h' : (xst2 t (n + 1) v)[j]? = some (some w) := by simpa [xst2] using h
        rcases ih (n + 1) v j w h' with ⟨h1, h2⟩ | ⟨h1, h1', h2, h3⟩
        · left; exact ⟨by omega, h2⟩
        · right; exact ⟨by omega, by omega, by simpa using h2, fun q => h3 ⟨by omega, q.2⟩⟩
theorem xL.st2 {pl pl' : xPL} {ls' : Array Slot} {nL i : Nat} {v : xV} {lv : List (Nat × Value)} (h' : lv_has ls' nL ((i, xv v) :: lv.filter (fun q => !(q.1 == i) && (!(q.1 == i + 1) && !(q.1 + 1 == i && q.2.category == 2))))) (h2 : ∀ i o, pl[i]? = some (some o) → (i, xv o) ∈ lv) (hp : xst2 pl i v = pl') : xL pl' ls' nL := by
  refine ⟨_, h', fun j w hw => ?_⟩
  rw [← hp] at hw
  rcases xst2_spec pl i v j w hw with ⟨rfl, rfl⟩ | ⟨h3, h3', h4, h5⟩
  · exact List.mem_cons_self
  · refine List.mem_cons_of_mem _ (List.mem_filter.mpr ⟨h2 j w h4, ?_⟩)
    simp only [Bool.and_eq_true, Bool.not_eq_true', beq_eq_false_iff_ne, Bool.and_eq_false_iff]
    refine ⟨h3, h3', ?_⟩
    by_cases h6 : j + 1 = i
    · right
      intro h7
      exact h5 ⟨h6, x2_cat2 w h7⟩
    · left; exact h6
/-- the frame over a pure heap -/
abbrev xX : Type := Program × Launch × Env × Room × State × MethodId × Array Value × List Frame × Method × Code × (State → Prop) × va_G × (FieldType → ClassId) × Nat × Nat × Nat
abbrev xZ : Type := (ByteArray × MethodName × Nat) × Nat × Nat × Nat × (xX → Prop)
def xOk (Z : xZ) (X : xX) : Prop := match X with
  | (p, l, e, R, s, m, args, below, meth, c, Q, D, da, q0, n0, sl0) =>
    p.tables.exec = Jvm.exec ∧ c.code = Z.1.1 ∧ c.maxLocals = Z.1.2.2 ∧ s.vm.findClass Z.1.2.1.cls = some m.cls ∧ (∀ w ∈ xT, w.before args s = true) ∧ (meth.locks = false ∧ meth.name = Z.1.2.1.name) ∧ xK D da s ∧ (Z.2.2.1 - n0 ≤ R.cells ∧ Z.2.2.2.1 - sl0 ≤ R.slots) ∧ (Z.2.1 ≤ R.frames ∧ 40 * Z.2.1 ≤ R.locals) ∧ Z.2.2.2.2 X
def xWq (Z : xZ) (H : xH) (pc : Nat) (pl : xPL) (st : List Value) : Prop :=
  (H.2.1 ≤ Z.2.2.1 ∧ H.2.2.1 ≤ Z.2.2.2.1) ∧ ∀ X : xX, xOk Z X → match X with
  | (p, l, e, R, s, m, args, below, meth, c, Q, D, da, q0, n0, sl0) =>
    ∀ (Hr : Heap) (locs : List Loc) (ls : Array Slot), xR D da q0 H s Hr → n0 ≤ H.2.1 → sl0 ≤ H.2.2.1 → va_S (fun q => q0 ≤ q) s.heap Hr locs → xL pl ls Z.1.2.2 → W p l e R s m args below meth c Hr locs (H.2.1 - n0) (H.2.2.1 - sl0) Q (F0 m pc ls st)
section XW
variable {Z : xZ} {code : ByteArray} {y : MethodName} {nL : Nat} {H H' : xH} {pc : Nat} {pl pl' : xPL} {st st' : List Value}
/-- a row that leaves heap and locals -/
theorem x_lift {pc' : Nat} (hZ : Z.1 = (code, y, nL)) (k : xWq Z H pc' pl st')
    (h : ∀ {p : Program} {l : Launch} {e : Env} {R : Room} {s : State} {m : MethodId} {args : Array Value} {below : List Frame} {meth : Method} {c : Code} {Hr : Heap} {locs : List Loc} {cells slots : Nat} {Q : State → Prop} {ls : Array Slot} {D : va_G} {da : FieldType → ClassId} {q0 : Nat}, p.tables.exec = Jvm.exec → c.code = code → s.vm.findClass y.cls = some m.cls → (∀ w ∈ xT, w.before args s = true) → xK D da s → xR D da q0 H s Hr → va_S (fun q => q0 ≤ q) s.heap Hr locs → xL pl ls nL → W p l e R s m args below meth c Hr locs cells slots Q (F0 m pc' ls st') → W p l e R s m args below meth c Hr locs cells slots Q (F0 m pc ls st)) : xWq Z H pc pl st := by
  obtain ⟨⟨z1, z2, z3⟩, Z2⟩ := Z
  cases hZ
  refine ⟨k.1, fun X hX => ?_⟩
  have kk := k.2 X hX
  obtain ⟨p, l, e, R, s, m, args, below, meth, c, Q, D, da, q0, n0, sl0⟩ := X
  intro Hr locs ls h1 h2 h3 h4 h5
  obtain ⟨o1, o2, o3, o4, o5, o6, o7, o8⟩ := hX
  exact h o1 o2 o4 o5 o7 h1 h4 h5 (kk Hr locs ls h1 h2 h3 h4 h5)
theorem x_br {P : Prop} {pt pf : Nat} (hZ : Z.1 = (code, y, nL)) (kt : P → xWq Z H pt pl st') (kf : ¬ P → xWq Z H pf pl st')
    (h : ∀ {p : Program} {l : Launch} {e : Env} {R : Room} {s : State} {m : MethodId} {args : Array Value} {below : List Frame} {meth : Method} {c : Code} {Hr : Heap} {locs : List Loc} {cells slots : Nat} {Q : State → Prop} {ls : Array Slot}, p.tables.exec = Jvm.exec → c.code = code → (P → W p l e R s m args below meth c Hr locs cells slots Q (F0 m pt ls st')) → (¬ P → W p l e R s m args below meth c Hr locs cells slots Q (F0 m pf ls st')) → W p l e R s m args below meth c Hr locs cells slots Q (F0 m pc ls st)) : xWq Z H pc pl st := by
  obtain ⟨⟨z1, z2, z3⟩, Z2⟩ := Z
  cases hZ
  refine ⟨(Classical.em P).elim (fun hp => (kt hp).1) (fun hp => (kf hp).1), fun X hX => ?_⟩
  have kt' := fun hp => (kt hp).2 X hX
  have kf' := fun hp => (kf hp).2 X hX
  obtain ⟨p, l, e, R, s, m, args, below, meth, c, Q, D, da, q0, n0, sl0⟩ := X
  intro Hr locs ls h1 h2 h3 h4 h5
  obtain ⟨o1, o2, -⟩ := hX
  exact h o1 o2 (fun hp => kt' hp Hr locs ls h1 h2 h3 h4 h5) (fun hp => kf' hp Hr locs ls h1 h2 h3 h4 h5)
/-- a row that changes the locals -/
theorem x_liftL {pc' : Nat} (hZ : Z.1 = (code, y, nL)) (k : xWq Z H pc' pl' st')
    (h : ∀ {p : Program} {l : Launch} {e : Env} {R : Room} {s : State} {m : MethodId} {args : Array Value} {below : List Frame} {meth : Method} {c : Code} {Hr : Heap} {locs : List Loc} {cells slots : Nat} {Q : State → Prop} {ls : Array Slot}, p.tables.exec = Jvm.exec → c.code = code → xL pl ls nL → (∀ ls', xL pl' ls' nL → W p l e R s m args below meth c Hr locs cells slots Q (F0 m pc' ls' st')) → W p l e R s m args below meth c Hr locs cells slots Q (F0 m pc ls st)) : xWq Z H pc pl st := by
  obtain ⟨⟨z1, z2, z3⟩, Z2⟩ := Z
  cases hZ
  refine ⟨k.1, fun X hX => ?_⟩
  have kk := k.2 X hX
  obtain ⟨p, l, e, R, s, m, args, below, meth, c, Q, D, da, q0, n0, sl0⟩ := X
  intro Hr locs ls h1 h2 h3 h4 h5
  obtain ⟨o1, o2, -⟩ := hX
  exact h o1 o2 h5 (fun ls' h6 => kk Hr locs ls' h1 h2 h3 h4 h6)

theorem x_iadd {a b : Int32} (hZ : Z.1 = (code, y, nL)) (hd : decode code pc = .ok (.iadd, 1)) (k : xWq Z H (pc + 1) pl (.int (a + b) :: st)) : xWq Z H pc pl (.int b :: .int a :: st) := x_lift hZ k (fun hx hb _ _ _ _ _ _ w => lv_iadd hx hb hd w)
theorem x_isub {a b : Int32} (hZ : Z.1 = (code, y, nL)) (hd : decode code pc = .ok (.isub, 1)) (k : xWq Z H (pc + 1) pl (.int (a - b) :: st)) : xWq Z H pc pl (.int b :: .int a :: st) := x_lift hZ k (fun hx hb _ _ _ _ _ _ w => lv_isub hx hb hd w)
theorem x_imul {a b : Int32} (hZ : Z.1 = (code, y, nL)) (hd : decode code pc = .ok (.imul, 1)) (k : xWq Z H (pc + 1) pl (.int (a * b) :: st)) : xWq Z H pc pl (.int b :: .int a :: st) := x_lift hZ k (fun hx hb _ _ _ _ _ _ w => lv_imul hx hb hd w)
theorem x_iand {a b : Int32} (hZ : Z.1 = (code, y, nL)) (hd : decode code pc = .ok (.iand, 1)) (k : xWq Z H (pc + 1) pl (.int (a &&& b) :: st)) : xWq Z H pc pl (.int b :: .int a :: st) := x_lift hZ k (fun hx hb _ _ _ _ _ _ w => lv_iand hx hb hd w)
theorem x_ior {a b : Int32} (hZ : Z.1 = (code, y, nL)) (hd : decode code pc = .ok (.ior, 1)) (k : xWq Z H (pc + 1) pl (.int (a ||| b) :: st)) : xWq Z H pc pl (.int b :: .int a :: st) := x_lift hZ k (fun hx hb _ _ _ _ _ _ w => lv_ior hx hb hd w)
theorem x_ixor {a b : Int32} (hZ : Z.1 = (code, y, nL)) (hd : decode code pc = .ok (.ixor, 1)) (k : xWq Z H (pc + 1) pl (.int (a ^^^ b) :: st)) : xWq Z H pc pl (.int b :: .int a :: st) := x_lift hZ k (fun hx hb _ _ _ _ _ _ w => lv_ixor hx hb hd w)
theorem x_ishl {a b : Int32} (hZ : Z.1 = (code, y, nL)) (hd : decode code pc = .ok (.ishl, 1)) (k : xWq Z H (pc + 1) pl (.int (a <<< (b &&& 31)) :: st)) : xWq Z H pc pl (.int b :: .int a :: st) := x_lift hZ k (fun hx hb _ _ _ _ _ _ w => lv_ishl hx hb hd w)
theorem x_ishr {a b : Int32} (hZ : Z.1 = (code, y, nL)) (hd : decode code pc = .ok (.ishr, 1)) (k : xWq Z H (pc + 1) pl (.int (a >>> (b &&& 31)) :: st)) : xWq Z H pc pl (.int b :: .int a :: st) := x_lift hZ k (fun hx hb _ _ _ _ _ _ w => lv_ishr hx hb hd w)
theorem x_ladd {a b : Int64} (hZ : Z.1 = (code, y, nL)) (hd : decode code pc = .ok (.ladd, 1)) (k : xWq Z H (pc + 1) pl (.long (a + b) :: st)) : xWq Z H pc pl (.long b :: .long a :: st) := x_lift hZ k (fun hx hb _ _ _ _ _ _ w => lv_ladd hx hb hd w)
theorem x_lsub {a b : Int64} (hZ : Z.1 = (code, y, nL)) (hd : decode code pc = .ok (.lsub, 1)) (k : xWq Z H (pc + 1) pl (.long (a - b) :: st)) : xWq Z H pc pl (.long b :: .long a :: st) := x_lift hZ k (fun hx hb _ _ _ _ _ _ w => lv_lsub hx hb hd w)
theorem x_lmul {a b : Int64} (hZ : Z.1 = (code, y, nL)) (hd : decode code pc = .ok (.lmul, 1)) (k : xWq Z H (pc + 1) pl (.long (a * b) :: st)) : xWq Z H pc pl (.long b :: .long a :: st) := x_lift hZ k (fun hx hb _ _ _ _ _ _ w => lv_lmul hx hb hd w)
theorem x_land {a b : Int64} (hZ : Z.1 = (code, y, nL)) (hd : decode code pc = .ok (.land, 1)) (k : xWq Z H (pc + 1) pl (.long (a &&& b) :: st)) : xWq Z H pc pl (.long b :: .long a :: st) := x_lift hZ k (fun hx hb _ _ _ _ _ _ w => lv_land hx hb hd w)
theorem x_lor {a b : Int64} (hZ : Z.1 = (code, y, nL)) (hd : decode code pc = .ok (.lor, 1)) (k : xWq Z H (pc + 1) pl (.long (a ||| b) :: st)) : xWq Z H pc pl (.long b :: .long a :: st) := x_lift hZ k (fun hx hb _ _ _ _ _ _ w => lv_lor hx hb hd w)
theorem x_idiv {a b : Int32} (hZ : Z.1 = (code, y, nL)) (hd : decode code pc = .ok (.idiv, 1)) (hne : ¬ b = 0) (k : xWq Z H (pc + 1) pl (.int (a / b) :: st)) : xWq Z H pc pl (.int b :: .int a :: st) := x_lift hZ k (fun hx hb _ _ _ _ _ _ w => lv_idiv hx hb hd hne w)
theorem x_irem {a b : Int32} (hZ : Z.1 = (code, y, nL)) (hd : decode code pc = .ok (.irem, 1)) (hne : ¬ b = 0) (k : xWq Z H (pc + 1) pl (.int (a - a / b * b) :: st)) : xWq Z H pc pl (.int b :: .int a :: st) := x_lift hZ k (fun hx hb _ _ _ _ _ _ w => lv_irem hx hb hd hne w)
theorem x_ldiv {a b : Int64} (hZ : Z.1 = (code, y, nL)) (hd : decode code pc = .ok (.ldiv, 1)) (hne : ¬ b = 0) (k : xWq Z H (pc + 1) pl (.long (a / b) :: st)) : xWq Z H pc pl (.long b :: .long a :: st) := x_lift hZ k (fun hx hb _ _ _ _ _ _ w => lv_ldiv hx hb hd hne w)
theorem x_lrem {a b : Int64} (hZ : Z.1 = (code, y, nL)) (hd : decode code pc = .ok (.lrem, 1)) (hne : ¬ b = 0) (k : xWq Z H (pc + 1) pl (.long (a - a / b * b) :: st)) : xWq Z H pc pl (.long b :: .long a :: st) := x_lift hZ k (fun hx hb _ _ _ _ _ _ w => lv_lrem hx hb hd hne w)
theorem x_ineg {a : Int32} (hZ : Z.1 = (code, y, nL)) (hd : decode code pc = .ok (.ineg, 1)) (k : xWq Z H (pc + 1) pl (.int (-a) :: st)) : xWq Z H pc pl (.int a :: st) := x_lift hZ k (fun hx hb _ _ _ _ _ _ w => lv_ineg hx hb hd w)
theorem x_lneg {a : Int64} (hZ : Z.1 = (code, y, nL)) (hd : decode code pc = .ok (.lneg, 1)) (k : xWq Z H (pc + 1) pl (.long (-a) :: st)) : xWq Z H pc pl (.long a :: st) := x_lift hZ k (fun hx hb _ _ _ _ _ _ w => lv_lneg hx hb hd w)
theorem x_i2l {a : Int32} (hZ : Z.1 = (code, y, nL)) (hd : decode code pc = .ok (.i2l, 1)) (k : xWq Z H (pc + 1) pl (.long (a.toInt64) :: st)) : xWq Z H pc pl (.int a :: st) := x_lift hZ k (fun hx hb _ _ _ _ _ _ w => lv_i2l hx hb hd rfl w)
theorem x_l2i {a : Int64} (hZ : Z.1 = (code, y, nL)) (hd : decode code pc = .ok (.l2i, 1)) (k : xWq Z H (pc + 1) pl (.int (a.toInt32) :: st)) : xWq Z H pc pl (.long a :: st) := x_lift hZ k (fun hx hb _ _ _ _ _ _ w => lv_l2i hx hb hd rfl w)
theorem x_i2b {a : Int32} (hZ : Z.1 = (code, y, nL)) (hd : decode code pc = .ok (.i2b, 1)) (k : xWq Z H (pc + 1) pl (.int (a.toInt8.toInt32) :: st)) : xWq Z H pc pl (.int a :: st) := x_lift hZ k (fun hx hb _ _ _ _ _ _ w => lv_i2b hx hb hd rfl w)
theorem x_iushr {a : Int32} {b : Int32} (hZ : Z.1 = (code, y, nL)) (hd : decode code pc = .ok (.iushr, 1)) (k : xWq Z H (pc + 1) pl (.int ((a.toUInt32 >>> (b.toUInt32 &&& Int32.toUInt32 31)).toInt32) :: st)) : xWq Z H pc pl (.int b :: .int a :: st) := x_lift hZ k (fun hx hb _ _ _ _ _ _ w => lv_iushr hx hb hd rfl w)
theorem x_lushr {a : Int64} {b : Int32} (hZ : Z.1 = (code, y, nL)) (hd : decode code pc = .ok (.lushr, 1)) (k : xWq Z H (pc + 1) pl (.long ((a.toUInt64 >>> (b.toInt64.toUInt64 &&& Int64.toUInt64 63)).toInt64) :: st)) : xWq Z H pc pl (.int b :: .long a :: st) := x_lift hZ k (fun hx hb _ _ _ _ _ _ w => lv_lushr hx hb hd rfl w)
theorem x_lshl {a : Int64} {b : Int32} (hZ : Z.1 = (code, y, nL)) (hd : decode code pc = .ok (.lshl, 1)) (k : xWq Z H (pc + 1) pl (.long (a <<< (b.toInt64 &&& 63)) :: st)) : xWq Z H pc pl (.int b :: .long a :: st) := x_lift hZ k (fun hx hb _ _ _ _ _ _ w => lv_lshl hx hb hd rfl w)
theorem x_lshr {a : Int64} {b : Int32} (hZ : Z.1 = (code, y, nL)) (hd : decode code pc = .ok (.lshr, 1)) (k : xWq Z H (pc + 1) pl (.long (a >>> (b.toInt64 &&& 63)) :: st)) : xWq Z H pc pl (.int b :: .long a :: st) := x_lift hZ k (fun hx hb _ _ _ _ _ _ w => lv_lshr hx hb hd rfl w)
theorem x_lcmp {a b : Int64} (hZ : Z.1 = (code, y, nL)) (hd : decode code pc = .ok (.lcmp, 1)) (k : xWq Z H (pc + 1) pl (.int (lg_cmp a b) :: st)) : xWq Z H pc pl (.long b :: .long a :: st) := x_lift hZ k (fun hx hb _ _ _ _ _ _ w => W.lcmp hx hb hd w)
theorem x_iconst {n : Int} {v : Int32} (hZ : Z.1 = (code, y, nL)) (hd : decode code pc = .ok (.iconst n, 1)) (hv : Int32.ofInt n = v) (k : xWq Z H (pc + 1) pl (.int v :: st)) : xWq Z H pc pl st := x_lift hZ k (fun hx hb _ _ _ _ _ _ w => lv_iconst hx hb hd hv w)
theorem x_bipush {n : Int} {v : Int32} (hZ : Z.1 = (code, y, nL)) (hd : decode code pc = .ok (.bipush n, 2)) (hv : (Int8.ofInt n).toInt32 = v) (k : xWq Z H (pc + 2) pl (.int v :: st)) : xWq Z H pc pl st := x_lift hZ k (fun hx hb _ _ _ _ _ _ w => lv_bipush hx hb hd hv w)
theorem x_sipush {n : Int} {v : Int32} (hZ : Z.1 = (code, y, nL)) (hd : decode code pc = .ok (.sipush n, 3)) (hv : (Int16.ofInt n).toInt32 = v) (k : xWq Z H (pc + 3) pl (.int v :: st)) : xWq Z H pc pl st := x_lift hZ k (fun hx hb _ _ _ _ _ _ w => lv_sipush hx hb hd hv w)
theorem x_lconst {n : Fin 2} {v : Int64} (hZ : Z.1 = (code, y, nL)) (hd : decode code pc = .ok (.lconst n, 1)) (hv : Int64.ofNat (n : Nat) = v) (k : xWq Z H (pc + 1) pl (.long v :: st)) : xWq Z H pc pl st := x_lift hZ k (fun hx hb _ _ _ _ _ _ w => lv_lconst hx hb hd hv w)
theorem x_ldc {idx : Nat} {v : Int32} (hZ : Z.1 = (code, y, nL)) (hd : decode code pc = .ok (.ldc idx, 2)) (hw : Cond.constant y.cls idx v ∈ xT) (k : xWq Z H (pc + 2) pl (.int v :: st)) : xWq Z H pc pl st := x_lift hZ k (fun hx hb ho ht _ _ _ _ w => lv_ldc hx hb ho (ht _ hw) hd w)
theorem x_ldcw {idx : Nat} {v : Int32} (hZ : Z.1 = (code, y, nL)) (hd : decode code pc = .ok (.ldc_w idx, 3)) (hw : Cond.constant y.cls idx v ∈ xT) (k : xWq Z H (pc + 3) pl (.int v :: st)) : xWq Z H pc pl st := x_lift hZ k (fun hx hb ho ht _ _ _ _ w => lv_ldcw hx hb ho (ht _ hw) hd w)
theorem x_ldc2 {idx : Nat} {v : Int64} (hZ : Z.1 = (code, y, nL)) (hd : decode code pc = .ok (.ldc2_w idx, 3)) (hw : Cond.constantLong y.cls idx v ∈ xT) (k : xWq Z H (pc + 3) pl (.long v :: st)) : xWq Z H pc pl st := x_lift hZ k (fun hx hb ho ht _ _ _ _ w => lv_ldc2 hx hb ho (ht _ hw) hd w)
theorem x_null (hZ : Z.1 = (code, y, nL)) (hd : decode code pc = .ok (.aconst_null, 1)) (k : xWq Z H (pc + 1) pl (va_rf none :: st)) : xWq Z H pc pl st := x_lift hZ k (fun hx hb _ _ _ _ _ _ w => lv_null hx hb hd w)
theorem x_iload {i : Nat} {v : Int32} (hZ : Z.1 = (code, y, nL)) (hd : decode code pc = .ok (.iload i, 2)) (hl : pl[i]? = some (some (.inl v))) (k : xWq Z H (pc + 2) pl (.int v :: st)) : xWq Z H pc pl st := x_lift hZ k (fun hx hb _ _ _ _ _ h5 w => lv_iload hx hb hd (h5.at hl) w)
theorem x_iload_n {i : Fin 4} {v : Int32} (hZ : Z.1 = (code, y, nL)) (hd : decode code pc = .ok (.iload_n i, 1)) (hl : pl[(i : Nat)]? = some (some (.inl v))) (k : xWq Z H (pc + 1) pl (.int v :: st)) : xWq Z H pc pl st := x_lift hZ k (fun hx hb _ _ _ _ _ h5 w => lv_iload_n hx hb hd rfl (h5.at hl) w)
theorem x_lload {i : Nat} {v : Int64} (hZ : Z.1 = (code, y, nL)) (hd : decode code pc = .ok (.lload i, 2)) (hl : pl[i]? = some (some (.inr (.inl v)))) (k : xWq Z H (pc + 2) pl (.long v :: st)) : xWq Z H pc pl st := x_lift hZ k (fun hx hb _ _ _ _ _ h5 w => lv_lload hx hb hd (h5.at hl) w)
theorem x_lload_n {i : Fin 4} {v : Int64} (hZ : Z.1 = (code, y, nL)) (hd : decode code pc = .ok (.lload_n i, 1)) (hl : pl[(i : Nat)]? = some (some (.inr (.inl v)))) (k : xWq Z H (pc + 1) pl (.long v :: st)) : xWq Z H pc pl st := x_lift hZ k (fun hx hb _ _ _ _ _ h5 w => lv_lload_n hx hb hd rfl (h5.at hl) w)
theorem x_aload {i : Nat} {r : Option Nat} (hZ : Z.1 = (code, y, nL)) (hd : decode code pc = .ok (.aload i, 2)) (hl : pl[i]? = some (some (.inr (.inr r)))) (k : xWq Z H (pc + 2) pl (va_rf r :: st)) : xWq Z H pc pl st := by
  cases r with
  | none => exact x_lift hZ k (fun hx hb _ _ _ _ _ h5 w => lv_aloadN hx hb hd (h5.at hl) w)
  | some a => exact x_lift hZ k (fun hx hb _ _ _ _ _ h5 w => lv_aload hx hb hd (h5.at hl) w)
theorem x_aload_n {i : Fin 4} {r : Option Nat} (hZ : Z.1 = (code, y, nL)) (hd : decode code pc = .ok (.aload_n i, 1)) (hl : pl[(i : Nat)]? = some (some (.inr (.inr r)))) (k : xWq Z H (pc + 1) pl (va_rf r :: st)) : xWq Z H pc pl st := by
  cases r with
  | none => exact x_lift hZ k (fun hx hb _ _ _ _ _ h5 w => lv_aload_nN hx hb hd rfl (h5.at hl) w)
  | some a => exact x_lift hZ k (fun hx hb _ _ _ _ _ h5 w => lv_aload_n hx hb hd rfl (h5.at hl) w)
theorem x_istore {i : Nat} {v : Int32} (hZ : Z.1 = (code, y, nL)) (hd : decode code pc = .ok (.istore i, 2)) (hi : i < nL) (hp : xst1 pl i (.inl v) = pl') (k : xWq Z H (pc + 2) pl' st) : xWq Z H pc pl (.int v :: st) :=
  x_liftL hZ k (fun hx hb hl kk => by obtain ⟨lv, h1, h2⟩ := hl; exact lv_istore hx hb hd h1 hi rfl (fun ls' h' => kk ls' (xL.st1 (v := .inl v) h' h2 hp)))
theorem x_istore_n {i : Fin 4} {v : Int32} (hZ : Z.1 = (code, y, nL)) (hd : decode code pc = .ok (.istore_n i, 1)) (hi : (i : Nat) < nL) (hp : xst1 pl (i : Nat) (.inl v) = pl') (k : xWq Z H (pc + 1) pl' st) : xWq Z H pc pl (.int v :: st) :=
  x_liftL hZ k (fun hx hb hl kk => by obtain ⟨lv, h1, h2⟩ := hl; exact lv_istore_n hx hb hd rfl h1 hi rfl (fun ls' h' => kk ls' (xL.st1 (v := .inl v) h' h2 hp)))
theorem x_lstore {i : Nat} {v : Int64} (hZ : Z.1 = (code, y, nL)) (hd : decode code pc = .ok (.lstore i, 2)) (hi : i + 1 < nL) (hp : xst2 pl i (.inr (.inl v)) = pl') (k : xWq Z H (pc + 2) pl' st) : xWq Z H pc pl (.long v :: st) :=
  x_liftL hZ k (fun hx hb hl kk => by obtain ⟨lv, h1, h2⟩ := hl; exact lv_lstore hx hb hd h1 hi rfl (fun ls' h' => kk ls' (xL.st2 (v := .inr (.inl v)) h' h2 hp)))
theorem x_lstore_n {i : Fin 4} {v : Int64} (hZ : Z.1 = (code, y, nL)) (hd : decode code pc = .ok (.lstore_n i, 1)) (hi : (i : Nat) + 1 < nL) (hp : xst2 pl (i : Nat) (.inr (.inl v)) = pl') (k : xWq Z H (pc + 1) pl' st) : xWq Z H pc pl (.long v :: st) :=
  x_liftL hZ k (fun hx hb hl kk => by obtain ⟨lv, h1, h2⟩ := hl; exact lv_lstore_n hx hb hd rfl h1 hi rfl (fun ls' h' => kk ls' (xL.st2 (v := .inr (.inl v)) h' h2 hp)))
theorem x_astore {i : Nat} {r : Option Nat} (hZ : Z.1 = (code, y, nL)) (hd : decode code pc = .ok (.astore i, 2)) (hi : i < nL) (hp : xst1 pl i (.inr (.inr r)) = pl') (k : xWq Z H (pc + 2) pl' st) : xWq Z H pc pl (va_rf r :: st) := by
  cases r with
  | none => exact x_liftL hZ k (fun hx hb hl kk => by obtain ⟨lv, h1, h2⟩ := hl; exact lv_astoreN hx hb hd h1 hi rfl (fun ls' h' => kk ls' (xL.st1 (v := .inr (.inr none)) h' h2 hp)))
  | some a => exact x_liftL hZ k (fun hx hb hl kk => by obtain ⟨lv, h1, h2⟩ := hl; exact lv_astore hx hb hd h1 hi rfl (fun ls' h' => kk ls' (xL.st1 (v := .inr (.inr (some a))) h' h2 hp)))
theorem x_astore_n {i : Fin 4} {r : Option Nat} (hZ : Z.1 = (code, y, nL)) (hd : decode code pc = .ok (.astore_n i, 1)) (hi : (i : Nat) < nL) (hp : xst1 pl (i : Nat) (.inr (.inr r)) = pl') (k : xWq Z H (pc + 1) pl' st) : xWq Z H pc pl (va_rf r :: st) := by
  cases r with
  | none => exact x_liftL hZ k (fun hx hb hl kk => by obtain ⟨lv, h1, h2⟩ := hl; exact lv_astore_nN hx hb hd rfl h1 hi rfl (fun ls' h' => kk ls' (xL.st1 (v := .inr (.inr none)) h' h2 hp)))
  | some a => exact x_liftL hZ k (fun hx hb hl kk => by obtain ⟨lv, h1, h2⟩ := hl; exact lv_astore_n hx hb hd rfl h1 hi rfl (fun ls' h' => kk ls' (xL.st1 (v := .inr (.inr (some a))) h' h2 hp)))
theorem x_iinc {i : Nat} {n : Int} {v w : Int32} (hZ : Z.1 = (code, y, nL)) (hd : decode code pc = .ok (.iinc i n, 3)) (hl : pl[i]? = some (some (.inl v))) (hv : v + Int32.ofInt n = w) (hi : i < nL) (hp : xst1 pl i (.inl w) = pl') (k : xWq Z H (pc + 3) pl' st) : xWq Z H pc pl st :=
  x_liftL hZ k (fun hx hb hl' kk => by
    obtain ⟨lv, h1, h2⟩ := hl'
    obtain ⟨k9, hk9⟩ := List.getElem?_of_mem (h2 _ _ hl)
    exact lv_iinc hx hb hd h1 hk9 hv hi rfl (fun ls' h' => kk ls' (xL.st1 (v := .inl w) h' h2 hp)))

theorem x_dup {v : Value} (hZ : Z.1 = (code, y, nL)) (hd : decode code pc = .ok (.dup, 1)) (hc : v.category = 1) (k : xWq Z H (pc + 1) pl (v :: v :: st)) : xWq Z H pc pl (v :: st) := x_lift hZ k (fun hx hb _ _ _ _ _ _ w => lv_dup hx hb hd hc w)
theorem x_pop {v : Value} (hZ : Z.1 = (code, y, nL)) (hd : decode code pc = .ok (.pop, 1)) (hc : v.category = 1) (k : xWq Z H (pc + 1) pl st) : xWq Z H pc pl (v :: st) := x_lift hZ k (fun hx hb _ _ _ _ _ _ w => lv_pop hx hb hd hc w)
theorem x_dup_x1 {v u : Value} (hZ : Z.1 = (code, y, nL)) (hd : decode code pc = .ok (.dup_x1, 1)) (hc : v.category = 1) (hc2 : u.category = 1) (k : xWq Z H (pc + 1) pl (v :: u :: v :: st)) : xWq Z H pc pl (v :: u :: st) := x_lift hZ k (fun hx hb _ _ _ _ _ _ w => lv_dup_x1 hx hb hd hc hc2 w)
theorem x_dup2 {v u : Value} (hZ : Z.1 = (code, y, nL)) (hd : decode code pc = .ok (.dup2, 1)) (hc : v.category = 1) (hc2 : u.category = 1) (k : xWq Z H (pc + 1) pl (v :: u :: v :: u :: st)) : xWq Z H pc pl (v :: u :: st) := x_lift hZ k (fun hx hb _ _ _ _ _ _ w => lv_dup2_11 hx hb hd hc hc2 w)
theorem x_rfc (r : Option Nat) : (va_rf r).category = 1 := by cases r <;> rfl
theorem x_goto {off : Int} {t : Nat} (hZ : Z.1 = (code, y, nL)) (hd : decode code pc = .ok (.goto off, 3)) (ht : (pc : Int) + off = (t : Int)) (k : xWq Z H t pl st) : xWq Z H pc pl st := x_lift hZ k (fun hx hb _ _ _ _ _ _ w => lv_goto hx hb hd ht w)
theorem x_if_eq {off : Int} {t : Nat} {a : Int32} (hZ : Z.1 = (code, y, nL)) (hd : decode code pc = .ok (.ifCond .eq off, 3)) (ht : (pc : Int) + off = (t : Int)) (kt : a = 0 → xWq Z H t pl st) (kf : ¬ a = 0 → xWq Z H (pc + 3) pl st) : xWq Z H pc pl (.int a :: st) := x_br hZ kt kf (fun hx hb wt wf => lv_if_eq hx hb hd ht wt wf)
theorem x_if_ne {off : Int} {t : Nat} {a : Int32} (hZ : Z.1 = (code, y, nL)) (hd : decode code pc = .ok (.ifCond .ne off, 3)) (ht : (pc : Int) + off = (t : Int)) (kt : ¬ a = 0 → xWq Z H t pl st) (kf : a = 0 → xWq Z H (pc + 3) pl st) : xWq Z H pc pl (.int a :: st) := x_br (P := a = 0) hZ kf kt (fun hx hb wt wf => lv_if_ne hx hb hd ht wf wt)
theorem x_if_lt {off : Int} {t : Nat} {a : Int32} (hZ : Z.1 = (code, y, nL)) (hd : decode code pc = .ok (.ifCond .lt off, 3)) (ht : (pc : Int) + off = (t : Int)) (kt : a < 0 → xWq Z H t pl st) (kf : ¬ a < 0 → xWq Z H (pc + 3) pl st) : xWq Z H pc pl (.int a :: st) := x_br hZ kt kf (fun hx hb wt wf => lv_if_lt hx hb hd ht wt wf)
theorem x_if_ge {off : Int} {t : Nat} {a : Int32} (hZ : Z.1 = (code, y, nL)) (hd : decode code pc = .ok (.ifCond .ge off, 3)) (ht : (pc : Int) + off = (t : Int)) (kt : 0 ≤ a → xWq Z H t pl st) (kf : ¬ 0 ≤ a → xWq Z H (pc + 3) pl st) : xWq Z H pc pl (.int a :: st) := x_br hZ kt kf (fun hx hb wt wf => lv_if_ge hx hb hd ht wt wf)
theorem x_if_gt {off : Int} {t : Nat} {a : Int32} (hZ : Z.1 = (code, y, nL)) (hd : decode code pc = .ok (.ifCond .gt off, 3)) (ht : (pc : Int) + off = (t : Int)) (kt : 0 < a → xWq Z H t pl st) (kf : ¬ 0 < a → xWq Z H (pc + 3) pl st) : xWq Z H pc pl (.int a :: st) := x_br hZ kt kf (fun hx hb wt wf => lv_if_gt hx hb hd ht wt wf)
theorem x_if_le {off : Int} {t : Nat} {a : Int32} (hZ : Z.1 = (code, y, nL)) (hd : decode code pc = .ok (.ifCond .le off, 3)) (ht : (pc : Int) + off = (t : Int)) (kt : a ≤ 0 → xWq Z H t pl st) (kf : ¬ a ≤ 0 → xWq Z H (pc + 3) pl st) : xWq Z H pc pl (.int a :: st) := x_br hZ kt kf (fun hx hb wt wf => lv_if_le hx hb hd ht wt wf)
theorem x_icmp_eq {off : Int} {t : Nat} {a b : Int32} (hZ : Z.1 = (code, y, nL)) (hd : decode code pc = .ok (.if_icmp .eq off, 3)) (ht : (pc : Int) + off = (t : Int)) (kt : a = b → xWq Z H t pl st) (kf : ¬ a = b → xWq Z H (pc + 3) pl st) : xWq Z H pc pl (.int b :: .int a :: st) := x_br hZ kt kf (fun hx hb wt wf => lv_icmp_eq hx hb hd ht wt wf)
theorem x_icmp_ne {off : Int} {t : Nat} {a b : Int32} (hZ : Z.1 = (code, y, nL)) (hd : decode code pc = .ok (.if_icmp .ne off, 3)) (ht : (pc : Int) + off = (t : Int)) (kt : ¬ a = b → xWq Z H t pl st) (kf : a = b → xWq Z H (pc + 3) pl st) : xWq Z H pc pl (.int b :: .int a :: st) := x_br (P := a = b) hZ kf kt (fun hx hb wt wf => lv_icmp_ne hx hb hd ht wf wt)
theorem x_icmp_lt {off : Int} {t : Nat} {a b : Int32} (hZ : Z.1 = (code, y, nL)) (hd : decode code pc = .ok (.if_icmp .lt off, 3)) (ht : (pc : Int) + off = (t : Int)) (kt : a < b → xWq Z H t pl st) (kf : ¬ a < b → xWq Z H (pc + 3) pl st) : xWq Z H pc pl (.int b :: .int a :: st) := x_br hZ kt kf (fun hx hb wt wf => lv_icmp_lt hx hb hd ht wt wf)
theorem x_icmp_ge {off : Int} {t : Nat} {a b : Int32} (hZ : Z.1 = (code, y, nL)) (hd : decode code pc = .ok (.if_icmp .ge off, 3)) (ht : (pc : Int) + off = (t : Int)) (kt : b ≤ a → xWq Z H t pl st) (kf : ¬ b ≤ a → xWq Z H (pc + 3) pl st) : xWq Z H pc pl (.int b :: .int a :: st) := x_br hZ kt kf (fun hx hb wt wf => lv_icmp_ge hx hb hd ht wt wf)
theorem x_icmp_gt {off : Int} {t : Nat} {a b : Int32} (hZ : Z.1 = (code, y, nL)) (hd : decode code pc = .ok (.if_icmp .gt off, 3)) (ht : (pc : Int) + off = (t : Int)) (kt : b < a → xWq Z H t pl st) (kf : ¬ b < a → xWq Z H (pc + 3) pl st) : xWq Z H pc pl (.int b :: .int a :: st) := x_br hZ kt kf (fun hx hb wt wf => lv_icmp_gt hx hb hd ht wt wf)
theorem x_icmp_le {off : Int} {t : Nat} {a b : Int32} (hZ : Z.1 = (code, y, nL)) (hd : decode code pc = .ok (.if_icmp .le off, 3)) (ht : (pc : Int) + off = (t : Int)) (kt : a ≤ b → xWq Z H t pl st) (kf : ¬ a ≤ b → xWq Z H (pc + 3) pl st) : xWq Z H pc pl (.int b :: .int a :: st) := x_br hZ kt kf (fun hx hb wt wf => lv_icmp_le hx hb hd ht wt wf)
theorem x_acmp_ne {off : Int} {t : Nat} {a b : Option Nat} (hZ : Z.1 = (code, y, nL)) (hd : decode code pc = .ok (.if_acmp .ne off, 3)) (ht : (pc : Int) + off = (t : Int)) (kt : ¬ a = b → xWq Z H t pl st) (kf : a = b → xWq Z H (pc + 3) pl st) : xWq Z H pc pl (va_rf b :: va_rf a :: st) := x_br (P := a = b) hZ kf kt (fun hx hb wt wf => lv_acmp_ne hx hb hd ht wf wt)
theorem x_ifnull {off : Int} {t : Nat} {r : Option Nat} (hZ : Z.1 = (code, y, nL)) (hd : decode code pc = .ok (.ifnull off, 3)) (ht : (pc : Int) + off = (t : Int)) (kt : r = none → xWq Z H t pl st) (kf : ¬ r = none → xWq Z H (pc + 3) pl st) : xWq Z H pc pl (va_rf r :: st) := by
  cases r with
  | none => exact x_lift hZ (kt rfl) (fun hx hb _ _ _ _ _ _ w => lv_ifnullN hx hb hd ht w)
  | some a => exact x_lift hZ (kf (fun h => by cases h)) (fun hx hb _ _ _ _ _ _ w => lv_ifnull hx hb hd w)
theorem x_ifnonnull {off : Int} {t : Nat} {r : Option Nat} (hZ : Z.1 = (code, y, nL)) (hd : decode code pc = .ok (.ifnonnull off, 3)) (ht : (pc : Int) + off = (t : Int)) (kt : ¬ r = none → xWq Z H t pl st) (kf : r = none → xWq Z H (pc + 3) pl st) : xWq Z H pc pl (va_rf r :: st) := by
  cases r with
  | none => exact x_lift hZ (kf rfl) (fun hx hb _ _ _ _ _ _ w => lv_ifnonnullN hx hb hd w)
  | some a => exact x_lift hZ (kt (fun h => by cases h)) (fun hx hb _ _ _ _ _ _ w => lv_ifnonnull hx hb hd ht w)
theorem x_tsIn {dflt lo hi : Int} {offs : Array Int} {len : Nat} {x : Int32} {off : Int} {t : Nat} (hZ : Z.1 = (code, y, nL)) (hd : decode code pc = .ok (.tableswitch dflt lo hi offs, len)) (h1 : ¬ x.toInt < lo) (h2 : ¬ hi < x.toInt) (ho : offs[(x.toInt - lo).toNat]? = some off) (ht : (pc : Int) + off = (t : Int)) (k : xWq Z H t pl st) : xWq Z H pc pl (.int x :: st) := x_lift hZ k (fun hx hb _ _ _ _ _ _ w => lv_tableIn hx hb hd h1 h2 ho ht w)
theorem x_tsOut {dflt lo hi : Int} {offs : Array Int} {len : Nat} {x : Int32} {t : Nat} (hZ : Z.1 = (code, y, nL)) (hd : decode code pc = .ok (.tableswitch dflt lo hi offs, len)) (h1 : x.toInt < lo ∨ hi < x.toInt) (ht : (pc : Int) + dflt = (t : Int)) (k : xWq Z H t pl st) : xWq Z H pc pl (.int x :: st) := x_lift hZ k (fun hx hb _ _ _ _ _ _ w => lv_tableOut hx hb hd h1 ht w)
def xWk (pl pl' : xPL) : Prop := ∀ (i : Nat) (o : xV), pl[i]? = some (some o) → pl'[i]? = some (some o)
theorem xwk_0 {b : xPL} : xWk [] b := fun i o h => by simp at h
theorem xwk_n {a b : xPL} {o : Option xV} (h : xWk a b) : xWk (none :: a) (o :: b) := fun i q hq => by
  cases i with
  | zero => simp at hq
  | succ i => simpa using h i q (by simpa using hq)
theorem xwk_c {a b : xPL} {o : Option xV} (h : xWk a b) : xWk (o :: a) (o :: b) := fun i q hq => by
  cases i with
  | zero => simpa using hq
  | succ i => simpa using h i q (by simpa using hq)
theorem x_wk (h : xWk pl pl') (k : xWq Z H pc pl st) : xWq Z H pc pl' st := by
  refine ⟨k.1, fun X hX => ?_⟩
  have kk := k.2 X hX
  obtain ⟨p, l, e, R, s, m, args, below, meth, c, Q, D, da, q0, n0, sl0⟩ := X
  intro Hr locs ls h1 h2 h3 h4 h5
  obtain ⟨lv, g1, g2⟩ := h5
  exact kk Hr locs ls h1 h2 h3 h4 ⟨lv, g1, fun i o hi => g2 i o (h i o hi)⟩
end XW