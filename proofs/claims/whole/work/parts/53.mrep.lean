/-! PURE: all that the reference's heap holds: mR; what doesn't touch it; the state of both: Rel. -/
/-- arrays that are only scratch, or read by book alone: they are there -/
def mScr (m : Nat) (H : xH) : Prop :=
  (∀ a, a = 3 ∨ a = 4 ∨ a = 11 → ∃ g, H.1 (m + a) = some (aI 24 g)) ∧ (∀ a, 7 ≤ a → a ≤ 10 → ∃ g, H.1 (m + a) = some (aI 80 g)) ∧ (∀ a, 15 ≤ a → a ≤ 17 → ∃ g, H.1 (m + a) = some (aI 1400 g)) ∧
  (∃ g, H.1 (m + 18) = some (aJ 5 g)) ∧ (∃ g, H.1 (m + 19) = some (aJ 6 g)) ∧ (∃ g, H.1 (m + 21) = some (aB 1200 g)) ∧ (∃ g, H.1 (m + 22) = some (aI 5 g)) ∧ (∃ g, H.1 (m + 25) = some (aZ 64 g)) ∧ (∃ g, H.1 (m + 27) = some (aI 59049 g)) ∧ (∃ g, H.1 (m + 30) = some (aI 6 g)) ∧ (∃ g, H.1 (m + 31) = some (aI 64 g) ∧ g 0 = 0) ∧ (∃ g, H.1 (m + 32) = some (aZ 15625 g)) ∧ ∃ g, H.1 (m + 33) = some (aI 6 g)
/-- an IMAGE in the reference's row -/
def mImg (g : Nat → Int32) (k : Nat) (σ : sL) : Prop := g (40 * k) = nI (lT σ) ∧ (∃ cb : Nat, cb < 32 ∧ g (40 * k + 1) = nI cb ∧ ∀ j, j < 5 → (cb.testBit j = true ↔ lC σ j ≠ 0)) ∧ g (40 * k + 2) = lS σ ∧ (∀ j, j < 5 → lC σ j ≠ 0 → g (40 * k + 3 + j) = nI (lC σ j - 1)) ∧ (∀ j, j < 24 → g (40 * k + 8 + j) = lH σ j) ∧ ∀ j, j < 6 → g (40 * k + 32 + j) = lB σ j
def mMore (m : Nat) (v : Nat → Int32) (β : sB) (δ : sD) (H : xH) : Prop :=
  (v 5 = dB δ ∧ v 31 = nI (dN δ) ∧ v 35 = dF δ ∧ v 51 = lS (dL δ) ∧ v 62 = nI (dI δ)) ∧
  (∃ g, H.1 (m + 1) = some (aI 10 g) ∧ ∀ j, j < bT β → g j = bfr β j) ∧ (∃ g, H.1 (m + 2) = some (aI 10 g) ∧ ∀ j, j < bT β → g j = bun β j) ∧
  (∃ g1 g2 g3, H.1 (m + 12) = some (aI 24 g1) ∧ H.1 (m + 13) = some (aI 24 g2) ∧ H.1 (m + 14) = some (aI 24 g3) ∧ ∀ w, w < bW β → (g1 w < g2 w ↔ bmo β w) ∧ (g2 w < g3 w ↔ bmd β w)) ∧
  (∃ g, H.1 (m + 20) = some (aB 1200 g) ∧ ∀ j, j < dN δ → g j = dT δ j) ∧ (∃ g, H.1 (m + 28) = some (aI 24 g) ∧ ∀ j, j < 24 → g j = lH (dL δ) j) ∧ (∃ g, H.1 (m + 29) = some (aI 6 g) ∧ ∀ j, j < 6 → g j = lB (dL δ) j) ∧
  (∃ g, H.1 (m + 34) = some (aI 45 g) ∧ ∀ j, j < 45 → g j = dC δ j) ∧ (∃ g, H.1 (m + 35) = some (aI 160 g) ∧ ∀ k, k < dI δ → mImg g k (dM δ k)) ∧ mScr m H
def mR (m : Nat) (v : Nat → Int32) (β : sB) (δ : sD) (H : xH) : Prop := mCore m v β (dL δ) H ∧ mMore m v β δ H
/-- the reference's scratch: fields, arrays -/
def mf (j : Nat) : Prop := j = 49 ∨ j = 58 ∨ j = 59 ∨ j = 60
def SMa (m a : Nat) : Prop := a = m + 22 ∨ a = m + 25 ∨ a = m + 27 ∨ a = m + 30 ∨ a = m + 32 ∨ a = m + 33
/-- only its scratch has changed -/
def mS (m : Nat) (v v' : Nat → Int32) (H H' : xH) : Prop := (∀ j, ¬ mf j → v' j = v j) ∧ sc (SMa m) (xup H m (mo m v')) H'
theorem mS.rf {m : Nat} {v : Nat → Int32} {H : xH} (h : H.1 m = some (mo m v)) : mS m v v H H := ⟨fun _ _ => rfl, by rw [xup_id h]; exact sc.rf⟩
theorem mS.at {m : Nat} {v v' : Nat → Int32} {H H' : xH} (h : mS m v v' H H') : H'.1 m = some (mo m v') := h.2.ob (xup_at _)
theorem mS.el {m : Nat} {v v' : Nat → Int32} {H H' : xH} (h : mS m v v' H H') {a : Nat} (ha : a ≠ m) (hS : ¬ SMa m a) : H'.1 a = H.1 a := (h.2.fr.2 a hS).trans (xup_ne _ ha)
theorem xup_cm {H : xH} {a c : Nat} {e f : xE} (h : a ≠ c) : xup (xup H a e) c f = xup (xup H c f) a e := by
  unfold xup
  simp only [Prod.mk.injEq, and_true]
  funext q
  by_cases h1 : q = a
  · subst h1; simp [h]
  · simp [h1]
theorem sc.xup {S : Nat → Prop} {H H' : xH} {a : Nat} {e : xE} (h : sc S H H') (ha : ¬ S a) : sc S (xup H a e) (xup H' a e) := ⟨h.1, fun q => by
  by_cases hq : q = a
  · subst hq; exact Or.inl ((xup_at e).trans (xup_at e).symm)
  · rw [xup_ne e hq, xup_ne e hq]; exact h.2 q⟩
theorem SMa.m {m : Nat} : ¬ SMa m m := by unfold SMa; omega
theorem mS.tr {m : Nat} {v v' v'' : Nat → Int32} {H H' H'' : xH} (h : mS m v v' H H') (k : mS m v' v'' H' H'') : mS m v v'' H H'' := by
  refine ⟨fun j hj => (k.1 j hj).trans (h.1 j hj), ?_⟩
  have := h.2.xup (e := mo m v'') (a := m) SMa.m
  rw [xup_up] at this
  exact this.tr k.2
theorem mS.fld {m : Nat} {v v' : Nat → Int32} {H : xH} (h : H.1 m = some (mo m v)) (hv : ∀ j, ¬ mf j → v' j = v j) : mS m v v' H (xup H m (mo m v')) := ⟨hv, sc.rf⟩
theorem mS.sc {m : Nat} {v : Nat → Int32} {H H' : xH} (h : H.1 m = some (mo m v)) (hs : sc (SMa m) H H') : mS m v v H H' := ⟨fun _ _ => rfl, by rw [xup_id h]; exact hs⟩
theorem mS.fr {m : Nat} {v v' : Nat → Int32} {H H' : xH} (h : mS m v v' H H') : Fr (fun q => m ≤ q ∧ q < m + 36) H H' := ⟨h.2.1, fun q hq => h.el (fun e => hq (by omega)) (fun e => hq (by unfold SMa at e; omega))⟩
theorem mS.aI {m a n : Nat} {ty : FieldType} {v v' : Nat → Int32} {H H' : xH} (h : mS m v v' H H') (ha : a ≠ m) (k : ∃ g, H.1 a = some ((true, .inl (ty, n, .inl g)) : xE)) : ∃ g, H'.1 a = some ((true, .inl (ty, n, .inl g)) : xE) := h.2.aI (by rw [xup_ne _ ha]; exact k)
theorem mCore.s {m : Nat} {v v' : Nat → Int32} {β : sB} {l : sL} {H H' : xH} (h : mS m v v' H H') (c : mCore m v β l H) : mCore m v' β l H' := by
  obtain ⟨h1, ⟨e0, e1, e2, e3, e41, e46⟩, ⟨cb, c1, c2, c3⟩, h4, h5, h6, h7, h8⟩ := c
  have hv : ∀ j, ¬ mf j → v' j = v j := h.1
  refine ⟨h.at, ⟨(hv 0 (by unfold mf; omega)).trans e0, (hv 1 (by unfold mf; omega)).trans e1, (hv 2 (by unfold mf; omega)).trans e2, (hv 3 (by unfold mf; omega)).trans e3, (hv 41 (by unfold mf; omega)).trans e41, (hv 46 (by unfold mf; omega)).trans e46⟩, ⟨cb, c1, (hv 47 (by unfold mf; omega)).trans c2, c3⟩, ?_, ?_, ?_, ?_, ?_⟩
  · rw [h.el (by omega) (by unfold SMa; omega)]; exact h4
  · rw [h.el (by omega) (by unfold SMa; omega)]; exact h5
  · rw [h.el (by omega) (by unfold SMa; omega)]; exact h6
  · rw [h.el (by omega) (by unfold SMa; omega)]; exact h7
  · rw [h.el (by omega) (by unfold SMa; omega)]; exact h8
theorem mScr.s {m : Nat} {v v' : Nat → Int32} {H H' : xH} (h : mS m v v' H H') (c : mScr m H) : mScr m H' := by
  obtain ⟨h1, h2, h3, h4, h5, h6, h7, h8, h9, h10, h11, h12, h13⟩ := c
  refine ⟨fun a ha => h.aI (by omega) (h1 a ha), fun a a1 a2 => h.aI (by omega) (h2 a a1 a2), fun a a1 a2 => h.aI (by omega) (h3 a a1 a2), ?_, ?_, h.aI (by omega) h6, h.aI (by omega) h7, h.aI (by omega) h8, h.aI (by omega) h9, h.aI (by omega) h10, ?_, h.aI (by omega) h12, h.aI (by omega) h13⟩
  · rw [h.el (by omega) (by unfold SMa; omega)]; exact h4
  · rw [h.el (by omega) (by unfold SMa; omega)]; exact h5
  · rw [h.el (by omega) (by unfold SMa; omega)]; exact h11
theorem mMore.s {m : Nat} {v v' : Nat → Int32} {β : sB} {δ : sD} {H H' : xH} (h : mS m v v' H H') (c : mMore m v β δ H) : mMore m v' β δ H' := by
  obtain ⟨⟨e1, e2, e3, e4, e5⟩, h2, h3, h4, h5, h6, h7, h8, h9, h10⟩ := c
  have hv : ∀ j, ¬ mf j → v' j = v j := h.1
  refine ⟨⟨(hv 5 (by unfold mf; omega)).trans e1, (hv 31 (by unfold mf; omega)).trans e2, (hv 35 (by unfold mf; omega)).trans e3, (hv 51 (by unfold mf; omega)).trans e4, (hv 62 (by unfold mf; omega)).trans e5⟩, ?_, ?_, ?_, ?_, ?_, ?_, ?_, ?_, h10.s h⟩
  · rw [h.el (by omega) (by unfold SMa; omega)]; exact h2
  · rw [h.el (by omega) (by unfold SMa; omega)]; exact h3
  · rw [h.el (by omega) (by unfold SMa; omega), h.el (by omega) (by unfold SMa; omega), h.el (by omega) (by unfold SMa; omega)]; exact h4
  · rw [h.el (by omega) (by unfold SMa; omega)]; exact h5
  · rw [h.el (by omega) (by unfold SMa; omega)]; exact h6
  · rw [h.el (by omega) (by unfold SMa; omega)]; exact h7
  · rw [h.el (by omega) (by unfold SMa; omega)]; exact h8
  · rw [h.el (by omega) (by unfold SMa; omega)]; exact h9
theorem mR.s {m : Nat} {v v' : Nat → Int32} {β : sB} {δ : sD} {H H' : xH} (h : mS m v v' H H') (c : mR m v β δ H) : mR m v' β δ H' := ⟨c.1.s h, c.2.s h⟩
theorem mQ.s {m : Nat} {v v' : Nat → Int32} {β : sB} {l : sL} {H H' : xH} (h : mS m v v' H H') (c : mQ m v β l H) : mQ m v' β l H' := ⟨c.1.s h, c.2⟩
theorem mScr.fr {m : Nat} {H H' : xH} (k : ∀ a, 1 ≤ a → a < 36 → H'.1 (m + a) = H.1 (m + a)) (h : mScr m H) : mScr m H' := by
  obtain ⟨h1, h2, h3, h4, h5, h6, h7, h8, h9, h10, h11, h12, h13⟩ := h
  refine ⟨fun a ha => ?_, fun a a1 a2 => ?_, fun a a1 a2 => ?_, ?_, ?_, ?_, ?_, ?_, ?_, ?_, ?_, ?_, ?_⟩
  · rw [k a (by omega) (by omega)]; exact h1 a ha
  · rw [k a (by omega) (by omega)]; exact h2 a a1 a2
  · rw [k a (by omega) (by omega)]; exact h3 a a1 a2
  · rw [k _ (by omega) (by omega)]; exact h4
  · rw [k _ (by omega) (by omega)]; exact h5
  · rw [k _ (by omega) (by omega)]; exact h6
  · rw [k _ (by omega) (by omega)]; exact h7
  · rw [k _ (by omega) (by omega)]; exact h8
  · rw [k _ (by omega) (by omega)]; exact h9
  · rw [k _ (by omega) (by omega)]; exact h10
  · rw [k _ (by omega) (by omega)]; exact h11
  · rw [k _ (by omega) (by omega)]; exact h12
  · rw [k _ (by omega) (by omega)]; exact h13
theorem mCore.fr {m : Nat} {v : Nat → Int32} {β : sB} {l : sL} {H H' : xH} (k0 : H'.1 m = H.1 m) (k : ∀ a, 1 ≤ a → a < 36 → H'.1 (m + a) = H.1 (m + a)) (h : mCore m v β l H) : mCore m v β l H' := by
  unfold mCore
  rw [k0, k 26 (by omega) (by omega), k 23 (by omega) (by omega), k 24 (by omega) (by omega), k 5 (by omega) (by omega), k 6 (by omega) (by omega)]
  exact h
theorem mMore.fr {m : Nat} {v : Nat → Int32} {β : sB} {δ : sD} {H H' : xH} (k : ∀ a, 1 ≤ a → a < 36 → H'.1 (m + a) = H.1 (m + a)) (h : mMore m v β δ H) : mMore m v β δ H' := by
  obtain ⟨h1, h2, h3, h4, h5, h6, h7, h8, h9, h10⟩ := h
  unfold mMore
  rw [k 1 (by omega) (by omega), k 2 (by omega) (by omega), k 12 (by omega) (by omega), k 13 (by omega) (by omega), k 14 (by omega) (by omega), k 20 (by omega) (by omega), k 28 (by omega) (by omega), k 29 (by omega) (by omega), k 34 (by omega) (by omega), k 35 (by omega) (by omega)]
  exact ⟨h1, h2, h3, h4, h5, h6, h7, h8, h9, h10.fr k⟩
/-- what is done outside its cells leaves the reference's state -/
theorem mR.fr {m : Nat} {v : Nat → Int32} {β : sB} {δ : sD} {H H' : xH} (hF : ∀ a, m ≤ a → a < m + 36 → H'.1 a = H.1 a) (h : mR m v β δ H) : mR m v β δ H' := by
  have k0 : H'.1 m = H.1 m := hF m (by omega) (by omega)
  have k : ∀ a, 1 ≤ a → a < 36 → H'.1 (m + a) = H.1 (m + a) := fun a a1 a2 => hF _ (by omega) (by omega)
  exact ⟨h.1.fr k0 k, h.2.fr k⟩
/-- a state of play, and what is so of it after K calls -/
def lOkK (K : Nat) (β : sB) (l : sL) : Prop := lOk β l ∧ (∀ h, h < 2 * bW β → ∃ j, j < bM β ∧ lH l h = nI j) ∧ ∀ j, j < 6 → -(9999 * (K : Int)) ≤ (lB l j).toInt ∧ (lB l j).toInt ≤ 9999 * (K : Int)
def dOk (K : Nat) (β : sB) (δ : sD) : Prop := lOkK K β (dL δ) ∧ (∀ k, k < dI δ → lOkK K β (dM δ k)) ∧ ∀ j, j < 45 → ∃ c, c ≤ 100 ∧ dC δ j = nI c
theorem lOkK.up {K K' : Nat} {β : sB} {l : sL} (hK : K ≤ K') (h : lOkK K β l) : lOkK K' β l := ⟨h.1, h.2.1, fun j hj => by have := h.2.2 j hj; omega⟩
theorem dOk.up {K K' : Nat} {β : sB} {δ : sD} (hK : K ≤ K') (h : dOk K β δ) : dOk K' β δ := ⟨h.1.up hK, fun k hk => (h.2.1 k hk).up hK, h.2.2⟩
/-- the class's side, the reference's side -/
def CX (stf : Nat → Nat) (K b m : Nat) (β : sB) (δ : sD) (H : xH) : Prop := RX stf K b m β δ H ∧ bOk β ∧ dOk K β δ ∧ hW H ∧ m + 36 ≤ H.2.1
def CM (K m : Nat) (v : Nat → Int32) (β : sB) (δ : sD) (H : xH) : Prop := mR m v β δ H ∧ bOk β ∧ dOk K β δ
def Rel (stf : Nat → Nat) (K b m : Nat) (β : sB) (δ : sD) (H : xH) : Prop := CX stf K b m β δ H ∧ ∃ v, CM K m v β δ H
theorem CM.mq {K m : Nat} {v : Nat → Int32} {β : sB} {δ : sD} {H : xH} (h : CM K m v β δ H) : mQ m v β (dL δ) H := ⟨h.1.1, h.2.1, h.2.2.1.1.1, h.2.2.1.1.2.1⟩
theorem CM.lf {K m : Nat} {v : Nat → Int32} {β : sB} {δ : sD} {H : xH} (h : CM K m v β δ H) : ∃ k, k < bZ β ∧ lft β (dL δ) k := h.2.2.1.1.2.2
theorem hW.up {H : xH} {a : Nat} {e f : xE} (h : hW H) (ha : H.1 a = some f) : hW (xup H a e) := fun q g hq => by
  by_cases hqa : q = a
  · rw [hqa]; exact h a f ha
  · rw [xup_ne _ hqa] at hq; exact h q g hq
/-- a step: what both answer -/
def xStep (stf : Nat → Nat) (K b m : Nat) {τ : Type} (fx fm : xH → Option (τ × xH)) (H : xH) : Prop := ∃ (r : τ) (H1 H2 : xH) (β' : sB) (δ' : sD), fx H = some (r, H1) ∧ fm H1 = some (r, H2) ∧ Rel stf (K + 1) b m β' δ' H2
/-- only scratch changed -/
theorem Rel.scr {stf : Nat → Nat} {K b m : Nat} {β : sB} {δ : sD} {H H1 H2 : xH} {v v' : Nat → Int32} (h : Rel stf K b m β δ H) {c tc tk cb n nk ncb : Nat} {ad : Nat → Nat} (ho : RXo stf K b m c tc tk cb n nk ncb ad β δ H) (h1 : sc (SX b tk cb) H H1) (hv : H1.1 m = some (mo m v)) (hm : mR m v β δ H1) (h2 : mS m v v' H1 H2) : Rel stf (K + 1) b m β δ H2 := by
  have hd := h.1.2.2.1.up (Nat.le_succ K)
  refine ⟨⟨⟨c, tc, tk, cb, n, nk, ncb, ad, ((ho.sc h1).fr h2.fr).up (Nat.le_succ K)⟩, h.1.2.1, hd, ?_, ?_⟩, v', hm.s h2, h.1.2.1, hd⟩
  · exact ((h.1.2.2.2.1.sc h1).up (e := mo m v') hv).sc h2.2
  · rw [h2.2.1]
    show m + 36 ≤ H1.2.1
    rw [h1.1]
    exact h.1.2.2.2.2
/-- what the class does to its scratch leaves the reference -/
theorem mR.x {b m c tc tk cb : Nat} {ad : Nat → Nat} {v : Nat → Int32} {β : sB} {δ : sD} {H H1 : xH} (hD : DX b m c tc tk cb ad β) (h1 : sc (SX b tk cb) H H1) (h : mR m v β δ H) : mR m v β δ H1 := by
  obtain ⟨d1, d2, ⟨d3, d4, d5⟩, ⟨d6, d7, d8⟩, ⟨d9, d10, d11⟩, ⟨d12, d13, d14⟩, d15⟩ := hD
  exact h.fr (fun a a1 a2 => h1.fr.2 a (by unfold SX oM at *; omega))
theorem Rel.same {stf : Nat → Nat} {K b m : Nat} {β : sB} {δ : sD} {H : xH} (h : Rel stf K b m β δ H) : Rel stf (K + 1) b m β δ H := by
  obtain ⟨⟨⟨c, tc, tk, cb, n, nk, ncb, ad, ho⟩, -⟩, v, hm⟩ := id h
  exact h.scr ho sc.rf hm.1.1.1 hm.1 (mS.rf hm.1.1.1)
