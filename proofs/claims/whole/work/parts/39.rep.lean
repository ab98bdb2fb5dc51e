/-! PURE: all that the class's heap holds: RX; what doesn't touch it; scratch. -/
/-- the same array, other elements -/
def shp (e e' : xE) : Prop := e = e' ∨ (∃ ty n g g', e = (true, .inl (ty, n, .inl g)) ∧ e' = (true, .inl (ty, n, .inl g'))) ∨ (∃ n g g', e = aJ n g ∧ e' = aJ n g') ∨ ∃ C n g g', e = aQ C n g ∧ e' = aQ C n g'
theorem shp.rf {e : xE} : shp e e := Or.inl rfl
theorem shp.tr {e f h : xE} (a : shp e f) (b : shp f h) : shp e h := by
  rcases a with rfl | ⟨ty, n, g, g', rfl, rfl⟩ | ⟨n, g, g', rfl, rfl⟩ | ⟨C, n, g, g', rfl, rfl⟩
  · exact b
  · rcases b with rfl | ⟨ty2, n2, g2, g2', q, rfl⟩ | ⟨n2, g2, g2', q, rfl⟩ | ⟨C2, n2, g2, g2', q, rfl⟩
    · exact Or.inr (Or.inl ⟨ty, n, g, g', rfl, rfl⟩)
    · cases q; exact Or.inr (Or.inl ⟨ty, n, g, g2', rfl, rfl⟩)
    · cases q
    · cases q
  · rcases b with rfl | ⟨ty2, n2, g2, g2', q, rfl⟩ | ⟨n2, g2, g2', q, rfl⟩ | ⟨C2, n2, g2, g2', q, rfl⟩
    · exact Or.inr (Or.inr (Or.inl ⟨n, g, g', rfl, rfl⟩))
    · cases q
    · cases q; exact Or.inr (Or.inr (Or.inl ⟨n, g, g2', rfl, rfl⟩))
    · cases q
  · rcases b with rfl | ⟨ty2, n2, g2, g2', q, rfl⟩ | ⟨n2, g2, g2', q, rfl⟩ | ⟨C2, n2, g2, g2', q, rfl⟩
    · exact Or.inr (Or.inr (Or.inr ⟨C, n, g, g', rfl, rfl⟩))
    · cases q
    · cases q
    · cases q; exact Or.inr (Or.inr (Or.inr ⟨C, n, g, g2', rfl, rfl⟩))
/-- only elements of arrays in S have changed -/
def sc (S : Nat → Prop) (H H' : xH) : Prop := H'.2 = H.2 ∧ ∀ a, H'.1 a = H.1 a ∨ (S a ∧ ∃ e e', H.1 a = some e ∧ H'.1 a = some e' ∧ shp e e')
theorem sc.rf {S : Nat → Prop} {H : xH} : sc S H H := ⟨rfl, fun _ => Or.inl rfl⟩
theorem sc.tr {S : Nat → Prop} {H H1 H2 : xH} (h : sc S H H1) (k : sc S H1 H2) : sc S H H2 := by
  refine ⟨k.1.trans h.1, fun a => ?_⟩
  rcases h.2 a with q | ⟨s, e, e', q1, q2, q3⟩
  · rcases k.2 a with r | ⟨s, e, e', r1, r2, r3⟩
    · exact Or.inl (r.trans q)
    · exact Or.inr ⟨s, e, e', q.symm.trans r1, r2, r3⟩
  · rcases k.2 a with r | ⟨s, f, f', r1, r2, r3⟩
    · exact Or.inr ⟨s, e, e', q1, r.trans q2, q3⟩
    · have : e' = f := Option.some.inj (q2.symm.trans r1)
      subst this
      exact Or.inr ⟨s, e, f', q1, r2, q3.tr r3⟩
theorem sc.mono {S S' : Nat → Prop} {H H1 : xH} (h : sc S H H1) (hs : ∀ q, S q → S' q) : sc S' H H1 := ⟨h.1, fun a => (h.2 a).imp id (fun ⟨s, r⟩ => ⟨hs a s, r⟩)⟩
theorem sc.fr {S : Nat → Prop} {H H1 : xH} (h : sc S H H1) : Fr S H H1 := ⟨h.1, fun a ha => (h.2 a).elim id (fun ⟨s, _⟩ => absurd s ha)⟩
theorem sc.up {S : Nat → Prop} {H : xH} {a : Nat} {e f : xE} (hS : S a) (h : H.1 a = some e) (hs : shp e f) : sc S H (xup H a f) := ⟨rfl, fun q => by
  by_cases hq : q = a
  · subst hq; exact Or.inr ⟨hS, e, f, h, xup_at f, hs⟩
  · exact Or.inl (xup_ne f hq)⟩
theorem sc.upI {S : Nat → Prop} {H : xH} {a n : Nat} {ty : FieldType} {g g' : Nat → Int32} (hS : S a) (h : H.1 a = some (true, .inl (ty, n, .inl g))) : sc S H (xup H a (true, .inl (ty, n, .inl g'))) := sc.up hS h (Or.inr (Or.inl ⟨ty, n, g, g', rfl, rfl⟩))
theorem sc.upJ {S : Nat → Prop} {H : xH} {a n : Nat} {g g' : Nat → Int64} (hS : S a) (h : H.1 a = some (aJ n g)) : sc S H (xup H a (aJ n g')) := sc.up hS h (Or.inr (Or.inr (Or.inl ⟨n, g, g', rfl, rfl⟩)))
theorem sc.upQ {S : Nat → Prop} {H : xH} {a n : Nat} {C : String} {g g' : Nat → Option Nat} (hS : S a) (h : H.1 a = some (aQ C n g)) : sc S H (xup H a (aQ C n g')) := sc.up hS h (Or.inr (Or.inr (Or.inr ⟨C, n, g, g', rfl, rfl⟩)))
theorem sc.aI {S : Nat → Prop} {H H1 : xH} {a n : Nat} {ty : FieldType} (h : sc S H H1) (k : ∃ g, H.1 a = some ((true, .inl (ty, n, .inl g)) : xE)) : ∃ g, H1.1 a = some ((true, .inl (ty, n, .inl g)) : xE) := by
  obtain ⟨g, hg⟩ := k
  rcases h.2 a with q | ⟨s, e, e', q1, q2, q3⟩
  · exact ⟨g, q.trans hg⟩
  · have : e = _ := Option.some.inj (q1.symm.trans hg)
    subst this
    rcases q3 with rfl | ⟨ty2, n2, g2, g2', p1, rfl⟩ | ⟨n2, g2, g2', p1, rfl⟩ | ⟨C2, n2, g2, g2', p1, rfl⟩
    · exact ⟨g, q2⟩
    · cases p1; exact ⟨g2', q2⟩
    · cases p1
    · cases p1
theorem sc.aJ {S : Nat → Prop} {H H1 : xH} {a n : Nat} (h : sc S H H1) (k : ∃ g, H.1 a = some (aJ n g)) : ∃ g, H1.1 a = some (aJ n g) := by
  obtain ⟨g, hg⟩ := k
  rcases h.2 a with q | ⟨s, e, e', q1, q2, q3⟩
  · exact ⟨g, q.trans hg⟩
  · have : e = _ := Option.some.inj (q1.symm.trans hg)
    subst this
    rcases q3 with rfl | ⟨ty2, n2, g2, g2', p1, rfl⟩ | ⟨n2, g2, g2', p1, rfl⟩ | ⟨C2, n2, g2, g2', p1, rfl⟩
    · exact ⟨g, q2⟩
    · cases p1
    · cases p1; exact ⟨g2', q2⟩
    · cases p1
theorem sc.aQ {S : Nat → Prop} {H H1 : xH} {a n : Nat} {C : String} (h : sc S H H1) (k : ∃ g, H.1 a = some (aQ C n g)) : ∃ g, H1.1 a = some (aQ C n g) := by
  obtain ⟨g, hg⟩ := k
  rcases h.2 a with q | ⟨s, e, e', q1, q2, q3⟩
  · exact ⟨g, q.trans hg⟩
  · have : e = _ := Option.some.inj (q1.symm.trans hg)
    subst this
    rcases q3 with rfl | ⟨ty2, n2, g2, g2', p1, rfl⟩ | ⟨n2, g2, g2', p1, rfl⟩ | ⟨C2, n2, g2, g2', p1, rfl⟩
    · exact ⟨g, q2⟩
    · cases p1
    · cases p1
    · cases p1; exact ⟨g2', q2⟩
/-- an object is as it was -/
theorem sc.ob {S : Nat → Prop} {H H1 : xH} {a ci : Nat} {fs : List Value} (h : sc S H H1) (k : H.1 a = some (ob ci fs)) : H1.1 a = some (ob ci fs) := by
  rcases h.2 a with q | ⟨s, e, e', q1, q2, q3⟩
  · exact q.trans k
  · have : e = _ := Option.some.inj (q1.symm.trans k)
    subst this
    rcases q3 with rfl | ⟨ty2, n2, g2, g2', p1, rfl⟩ | ⟨n2, g2, g2', p1, rfl⟩ | ⟨C2, n2, g2, g2', p1, rfl⟩
    · exact q2
    · cases p1
    · cases p1
    · cases p1
def xBB (b c : Nat) (δ : sD) (H : xH) : Prop := H.1 b = some (ob 10 [va_rf (some (b + 1)), .int (nI (dN δ)), .int (dF δ), .int (dB δ), va_rf (some (b + 2)), va_rf (some c), va_rf (some (b + 15)), va_rf (some (b + 20)), va_rf (some (b + 24)), .int (nI (dI δ)), va_rf (some (b + 41)), va_rf (some (b + 43)), va_rf (some (b + 45)), va_rf (some (b + 49)), va_rf (some (b + 50))])
def xTape (b : Nat) (δ : sD) (H : xH) : Prop := dN δ ≤ 1200 ∧ ∃ g, H.1 (b + 1) = some (aB 1200 g) ∧ ∀ j, j < dN δ → g j = dT δ j
def xTok (b : Nat) (H : xH) : Prop := (∃ x : Int32, H.1 (b + 2) = some (ob 8 [va_rf (some (b + 3)), va_rf (some (b + 4)), va_rf (some (b + 5)), .int x])) ∧ (∃ g, H.1 (b + 3) = some (aI 1201 g)) ∧ (∃ g, H.1 (b + 4) = some (aI 1201 g)) ∧ ∃ g, H.1 (b + 5) = some (aJ 1201 g)
def xImgs (b : Nat) (δ : sD) (H : xH) : Prop := dI δ ≤ 4 ∧ (∃ g, H.1 (b + 24) = some (aQ "BettingBook$Ledger" 4 g) ∧ ∀ k, k < 4 → g k = some (b + 25 + 4 * k)) ∧ (∀ k, k < dI δ → xLed (b + 25 + 4 * k) (dM δ k) H) ∧ ∀ k, k < 4 → ∃ σ, xLed (b + 25 + 4 * k) σ H
def xOdds (b : Nat) (δ : sD) (H : xH) : Prop := H.1 (b + 41) = some (ob 5 [va_rf (some (b + 42))]) ∧ ∃ g, H.1 (b + 42) = some (aI 45 g) ∧ ∀ j, j < 45 → g j = dC δ j
def xGain (b : Nat) (H : xH) : Prop := H.1 (b + 43) = some (ob 3 [va_rf (some (b + 44))]) ∧ ∃ g, H.1 (b + 44) = some (aI 60 g)
def xWin (b cb ncb : Nat) (H : xH) : Prop := (∃ x1 x2 x3 x4 : Int32, H.1 (b + 45) = some (ob 9 [va_rf (some (b + 46)), va_rf (some (b + 47)), .int x1, va_rf (some cb), .int x2, .int x3, .int x4])) ∧ (∃ g, H.1 (b + 46) = some (aQ "BettingBook$Bet" 6 g)) ∧ (∃ g, H.1 (b + 47) = some (aI 6 g)) ∧ (∃ g, H.1 cb = some (aJ ncb g)) ∧ (ncb = 0 ∨ ∃ t, t ≤ 6 ∧ ncb = 5 ^ t)
def xOG (b : Nat) (H : xH) : Prop := (∃ g, H.1 (b + 49) = some (aI 6 g)) ∧ ∃ g, H.1 (b + 50) = some (aI 64 g)
/-- the words, and what was there before -/
def xWd (b : Nat) (stf : Nat → Nat) (H : xH) : Prop := xSt b stf ∧ H.2.2.2 = stf ∧ ∀ a, a < b → H.1 a = xh0 stf a
/-- outside the reference's cells -/
def oM (m a : Nat) : Prop := a < m ∨ m + 36 ≤ a
def DX (b m c tc tk cb : Nat) (ad : Nat → Nat) (β : sB) : Prop :=
  b + 51 ≤ m ∧ (c = b + 6 ∨ (b + 51 ≤ c ∧ (c + 9 ≤ m ∨ m + 36 ≤ c))) ∧ ((tc = b + 16 ∨ b + 51 ≤ tc) ∧ oM m tc ∧ (tc < c ∨ c + 8 < tc)) ∧ ((tk = b + 17 ∨ b + 51 ≤ tk) ∧ oM m tk ∧ (tk < c ∨ c + 8 < tk)) ∧ ((cb = b + 48 ∨ b + 51 ≤ cb) ∧ oM m cb ∧ (cb < c ∨ c + 8 < cb)) ∧ (tc ≠ tk ∧ tc ≠ cb ∧ tk ≠ cb) ∧
  ∀ w, w < bW β → b + 51 ≤ ad w ∧ oM m (ad w) ∧ ad w ≠ tc ∧ ad w ≠ tk ∧ ad w ≠ cb ∧ (ad w < c ∨ c + 8 < ad w)
/-- the room taken so far, after K calls -/
def Rm (K b n nk ncb : Nat) (δ : sD) (H : xH) : Prop := (∃ t, t ≤ 5 ∧ n = 9 ^ t) ∧ nk = n + n / 8 + 1 ∧ H.2.1 + dN δ ≤ b + 300 + 40 * K ∧ H.2.2.1 + 5 * dN δ ≤ 1500000 + 500 * K + 4 * n + 2 * ncb
def RXo (stf : Nat → Nat) (K b m c tc tk cb n nk ncb : Nat) (ad : Nat → Nat) (β : sB) (δ : sD) (H : xH) : Prop :=
  DX b m c tc tk cb ad β ∧ xBB b c δ H ∧ xTape b δ H ∧ xTok b H ∧ xClub c ad β H ∧ xTab (b + 15) tc tk n nk β (dL δ) H ∧ xLed (b + 20) (dL δ) H ∧ xImgs b δ H ∧ xOdds b δ H ∧ xGain b H ∧ xWin b cb ncb H ∧ xOG b H ∧ xWd b stf H ∧ Rm K b n nk ncb δ H
def RX (stf : Nat → Nat) (K b m : Nat) (β : sB) (δ : sD) (H : xH) : Prop := ∃ (c tc tk cb n nk ncb : Nat) (ad : Nat → Nat), RXo stf K b m c tc tk cb n nk ncb ad β δ H
/-- no cell lies beyond the heap -/
def hW (H : xH) : Prop := ∀ a e, H.1 a = some e → a < H.2.1
theorem hW.sc {S : Nat → Prop} {H H1 : xH} (h : sc S H H1) (k : hW H) : hW H1 := fun a e he => by
  rw [h.1]
  rcases h.2 a with q | ⟨s, e1, e2, q1, q2, q3⟩
  · exact k a e (q.symm.trans he)
  · exact k a e1 q1
theorem xLed.fr {l : Nat} {σ : sL} {H H' : xH} (k : ∀ a, l ≤ a → a ≤ l + 3 → H'.1 a = H.1 a) (h : xLed l σ H) : xLed l σ H' := by
  unfold xLed
  rw [k l (by omega) (by omega), k (l + 1) (by omega) (by omega), k (l + 2) (by omega) (by omega), k (l + 3) (by omega) (by omega)]
  exact h
theorem xClub.fr {c : Nat} {ad : Nat → Nat} {β : sB} {H H' : xH} (k : ∀ a, c ≤ a → a ≤ c + 8 → H'.1 a = H.1 a) (kb : ∀ w, w < bW β → H'.1 (ad w) = H.1 (ad w)) (h : xClub c ad β H) : xClub c ad β H' := by
  obtain ⟨h1, h2, h3, h4, h5⟩ := h
  unfold xClub
  rw [k c (by omega) (by omega), k (c + 2) (by omega) (by omega), k (c + 3) (by omega) (by omega), k (c + 8) (by omega) (by omega)]
  exact ⟨h1, h2, h3, h4, fun w hw => by rw [kb w hw]; exact h5 w hw⟩
theorem xTok.fr {b : Nat} {H H' : xH} (k : ∀ a, b + 2 ≤ a → a ≤ b + 5 → H'.1 a = H.1 a) (h : xTok b H) : xTok b H' := by
  unfold xTok
  rw [k (b + 2) (by omega) (by omega), k (b + 3) (by omega) (by omega), k (b + 4) (by omega) (by omega), k (b + 5) (by omega) (by omega)]
  exact h
theorem xTape.fr {b : Nat} {δ : sD} {H H' : xH} (k : H'.1 (b + 1) = H.1 (b + 1)) (h : xTape b δ H) : xTape b δ H' := by
  unfold xTape
  rw [k]; exact h
theorem xBB.fr {b c : Nat} {δ : sD} {H H' : xH} (k : H'.1 b = H.1 b) (h : xBB b c δ H) : xBB b c δ H' := k.trans h
theorem xImgs.fr {b : Nat} {δ : sD} {H H' : xH} (k : ∀ a, b + 24 ≤ a → a ≤ b + 40 → H'.1 a = H.1 a) (h : xImgs b δ H) : xImgs b δ H' := by
  obtain ⟨h0, h1, h2, h3⟩ := h
  have h4 : dI δ ≤ 4 := h0
  unfold xImgs
  rw [k (b + 24) (by omega) (by omega)]
  exact ⟨h0, h1, fun i hi => (h2 i hi).fr (fun a a1 a2 => k a (by omega) (by omega)), fun i hi => by
    obtain ⟨σ, hσ⟩ := h3 i hi
    exact ⟨σ, hσ.fr (fun a a1 a2 => k a (by omega) (by omega))⟩⟩
theorem xOdds.fr {b : Nat} {δ : sD} {H H' : xH} (k : ∀ a, a = b + 41 ∨ a = b + 42 → H'.1 a = H.1 a) (h : xOdds b δ H) : xOdds b δ H' := by
  unfold xOdds
  rw [k (b + 41) (by simp), k (b + 42) (by simp)]; exact h
theorem xWd.fr {b : Nat} {stf : Nat → Nat} {H H' : xH} (k0 : H'.2.2.2 = H.2.2.2) (k : ∀ a, a < b → H'.1 a = H.1 a) (h : xWd b stf H) : xWd b stf H' := ⟨h.1, k0.trans h.2.1, fun a ha => (k a ha).trans (h.2.2 a ha)⟩
theorem xTab.sc {S : Nat → Prop} {t tc tk n nk : Nat} {β : sB} {σ : sL} {H H' : xH} (hs : sc S H H') (k : H'.1 tc = H.1 tc) (h : xTab t tc tk n nk β σ H) : xTab t tc tk n nk β σ H' := by
  obtain ⟨⟨cert, h1, h1'⟩, h2, h3, h4, h5, h6, h7, h8, h9⟩ := h
  refine ⟨⟨cert, hs.ob h1, h1'⟩, ?_, h3, h4, hs.aI h5, h6, h7, hs.aI h8, hs.aI h9⟩
  rw [k]; exact h2
theorem xTok.sc {S : Nat → Prop} {b : Nat} {H H' : xH} (hs : sc S H H') (h : xTok b H) : xTok b H' := by
  obtain ⟨⟨x, h1⟩, h2, h3, h4⟩ := h
  exact ⟨⟨x, hs.ob h1⟩, hs.aI h2, hs.aI h3, hs.aJ h4⟩
theorem xGain.sc {S : Nat → Prop} {b : Nat} {H H' : xH} (hs : sc S H H') (h : xGain b H) : xGain b H' := ⟨hs.ob h.1, hs.aI h.2⟩
theorem xWin.sc {S : Nat → Prop} {b cb ncb : Nat} {H H' : xH} (hs : sc S H H') (h : xWin b cb ncb H) : xWin b cb ncb H' := by
  obtain ⟨⟨x1, x2, x3, x4, h1⟩, h2, h3, h4, h5⟩ := h
  exact ⟨⟨x1, x2, x3, x4, hs.ob h1⟩, hs.aQ h2, hs.aI h3, hs.aJ h4, h5⟩
theorem xOG.sc {S : Nat → Prop} {b : Nat} {H H' : xH} (hs : sc S H H') (h : xOG b H) : xOG b H' := ⟨hs.aI h.1, hs.aI h.2⟩
/-- the class's scratch arrays -/
def SX (b tk cb a : Nat) : Prop := a = b + 3 ∨ a = b + 4 ∨ a = b + 5 ∨ a = b + 18 ∨ a = b + 19 ∨ a = b + 44 ∨ a = b + 46 ∨ a = b + 47 ∨ a = b + 49 ∨ a = b + 50 ∨ a = tk ∨ a = cb
/-- what is done to the class's scratch arrays leaves its state -/
theorem RXo.sc {stf : Nat → Nat} {K b m c tc tk cb n nk ncb : Nat} {ad : Nat → Nat} {β : sB} {δ : sD} {H H' : xH} (hs : sc (SX b tk cb) H H') (h : RXo stf K b m c tc tk cb n nk ncb ad β δ H) : RXo stf K b m c tc tk cb n nk ncb ad β δ H' := by
  obtain ⟨hD, h1, h2, h3, h4, h5, h6, h7, h8, h9, h10, h11, h12, h13⟩ := h
  have hD' := hD
  obtain ⟨d1, d2, ⟨d3, d4, d5⟩, ⟨d6, d7, d8⟩, ⟨d9, d10, d11⟩, ⟨d12, d13, d14⟩, d15⟩ := hD
  have k : ∀ a, ¬ SX b tk cb a → H'.1 a = H.1 a := fun a ha => hs.fr.2 a ha
  refine ⟨hD', h1.fr (k b (by unfold SX; omega)), h2.fr (k _ (by unfold SX; omega)), h3.sc hs, h4.fr (fun a a1 a2 => k a (by unfold SX; omega)) (fun w hw => k _ (by have := d15 w hw; unfold SX; omega)), h5.sc hs (k _ (by unfold SX; omega)), h6.fr (fun a a1 a2 => k a (by unfold SX; omega)), h7.fr (fun a a1 a2 => k a (by unfold SX; omega)), h8.fr (fun a ha => k a (by unfold SX; omega)), h9.sc hs, h10.sc hs, h11.sc hs, h12.fr (by rw [hs.1]) (fun a ha => k a (by unfold SX; omega)), ?_⟩
  unfold Rm
  rw [hs.1]; exact h13
/-- what is done to the reference's cells alone leaves the class's state -/
theorem RXo.fr {stf : Nat → Nat} {K b m c tc tk cb n nk ncb : Nat} {ad : Nat → Nat} {β : sB} {δ : sD} {H H' : xH} (hF : Fr (fun q => m ≤ q ∧ q < m + 36) H H') (h : RXo stf K b m c tc tk cb n nk ncb ad β δ H) : RXo stf K b m c tc tk cb n nk ncb ad β δ H' := by
  obtain ⟨hD, h1, h2, h3, h4, h5, h6, h7, h8, h9, h10, h11, h12, h13⟩ := h
  have hD' := hD
  obtain ⟨d1, d2, ⟨d3, d4, d5⟩, ⟨d6, d7, d8⟩, ⟨d9, d10, d11⟩, ⟨d12, d13, d14⟩, d15⟩ := hD
  have k : ∀ a, oM m a → H'.1 a = H.1 a := fun a ha => hF.2 a (fun q => by unfold oM at ha; omega)
  have kl : ∀ a, a < m → H'.1 a = H.1 a := fun a ha => k a (Or.inl ha)
  refine ⟨hD', h1.fr (kl _ (by omega)), h2.fr (kl _ (by omega)), h3.fr (fun a a1 a2 => kl a (by omega)), h4.fr (fun a a1 a2 => k a (by unfold oM; omega)) (fun w hw => k _ (d15 w hw).2.1), ?_, h6.fr (fun a a1 a2 => kl a (by omega)), h7.fr (fun a a1 a2 => kl a (by omega)), h8.fr (fun a ha => kl a (by omega)), ?_, ?_, ?_, h12.fr (by rw [hF.1]) (fun a ha => kl a (by omega)), ?_⟩
  · unfold xTab
    rw [kl (b + 15) (by omega), kl (b + 15 + 3) (by omega), kl (b + 15 + 4) (by omega), k tc d4, k tk d7]; exact h5
  · unfold xGain
    rw [kl _ (by omega), kl _ (by omega)]; exact h9
  · unfold xWin
    rw [kl _ (by omega), kl _ (by omega), kl _ (by omega), k cb d10]; exact h10
  · unfold xOG
    rw [kl _ (by omega), kl _ (by omega)]; exact h11
  · unfold Rm
    rw [hF.1]; exact h13
theorem RXo.up {stf : Nat → Nat} {K K' b m c tc tk cb n nk ncb : Nat} {ad : Nat → Nat} {β : sB} {δ : sD} {H : xH} (hK : K ≤ K') (h : RXo stf K b m c tc tk cb n nk ncb ad β δ H) : RXo stf K' b m c tc tk cb n nk ncb ad β δ H := by
  obtain ⟨hD, h1, h2, h3, h4, h5, h6, h7, h8, h9, h10, h11, h12, r1, r2, r3, r4⟩ := h
  exact ⟨hD, h1, h2, h3, h4, h5, h6, h7, h8, h9, h10, h11, h12, r1, r2, by omega, by omega⟩
