/-! PURE: all that the reference's heap holds: RM; what doesn't touch it. -/
/-- arrays that are only scratch, or read by book alone: they are there -/
def mScr (m : Nat) (H : xH) : Prop :=
  (∀ a, a = 3 ∨ a = 4 ∨ a = 11 → ∃ g, H.1 (m + a) = some (aI 24 g)) ∧ (∀ a, 7 ≤ a → a ≤ 10 → ∃ g, H.1 (m + a) = some (aI 80 g)) ∧ (∀ a, 15 ≤ a → a ≤ 17 → ∃ g, H.1 (m + a) = some (aI 1400 g)) ∧
  (∃ g, H.1 (m + 18) = some (aJ 5 g)) ∧ (∃ g, H.1 (m + 19) = some (aJ 6 g)) ∧ (∃ g, H.1 (m + 21) = some (aB 1200 g)) ∧ (∃ g, H.1 (m + 22) = some (aI 5 g)) ∧ (∃ g, H.1 (m + 25) = some (aZ 64 g)) ∧ (∃ g, H.1 (m + 27) = some (aI 59049 g)) ∧ (∃ g, H.1 (m + 30) = some (aI 6 g)) ∧ (∃ g, H.1 (m + 31) = some (aI 64 g)) ∧ (∃ g, H.1 (m + 32) = some (aZ 15625 g)) ∧ ∃ g, H.1 (m + 33) = some (aI 6 g)
/-- an IMAGE in the reference's row -/
def mImg (g : Nat → Int32) (k : Nat) (σ : sL) : Prop := g (40 * k) = nI (lT σ) ∧ (∃ cb : Nat, cb < 32 ∧ g (40 * k + 1) = nI cb ∧ ∀ j, j < 5 → (cb.testBit j = true ↔ lC σ j ≠ 0)) ∧ g (40 * k + 2) = lS σ ∧ (∀ j, j < 5 → lC σ j ≠ 0 → g (40 * k + 3 + j) = nI (lC σ j - 1)) ∧ (∀ j, j < 24 → g (40 * k + 8 + j) = lH σ j) ∧ ∀ j, j < 6 → g (40 * k + 32 + j) = lB σ j
def mMore (m : Nat) (v : Nat → Int32) (β : sB) (δ : sD) (H : xH) : Prop :=
  (v 5 = dB δ ∧ v 31 = nI (dN δ) ∧ v 35 = dF δ ∧ v 51 = lS (dL δ) ∧ v 62 = nI (dI δ)) ∧
  (∃ g, H.1 (m + 1) = some (aI 10 g) ∧ ∀ j, j < bT β → g j = bfr β j) ∧ (∃ g, H.1 (m + 2) = some (aI 10 g) ∧ ∀ j, j < bT β → g j = bun β j) ∧
  (∃ g1 g2 g3, H.1 (m + 12) = some (aI 24 g1) ∧ H.1 (m + 13) = some (aI 24 g2) ∧ H.1 (m + 14) = some (aI 24 g3) ∧ ∀ w, w < bW β → (g1 w < g2 w ↔ bmo β w) ∧ (g2 w < g3 w ↔ bmd β w)) ∧
  (∃ g, H.1 (m + 20) = some (aB 1200 g) ∧ ∀ j, j < dN δ → g j = dT δ j) ∧ (∃ g, H.1 (m + 28) = some (aI 24 g) ∧ ∀ j, j < 24 → g j = lH (dL δ) j) ∧ (∃ g, H.1 (m + 29) = some (aI 6 g) ∧ ∀ j, j < 6 → g j = lB (dL δ) j) ∧
  (∃ g, H.1 (m + 34) = some (aI 45 g) ∧ ∀ j, j < 45 → g j = dC δ j) ∧ (∃ g, H.1 (m + 35) = some (aI 160 g) ∧ ∀ k, k < dI δ → mImg g k (dM δ k)) ∧ mScr m H
def RM (m : Nat) (β : sB) (δ : sD) (H : xH) : Prop := ∃ v, mCore m v β (dL δ) H ∧ mMore m v β δ H
theorem mScr.fr {m : Nat} {H H' : xH} (k : ∀ a, 1 ≤ a → a < 36 → H'.1 (m + a) = H.1 (m + a)) (h : mScr m H) : mScr m H' := by
  obtain ⟨h1, h2, h3, h4, h5, h6, h7, h8, h9, h10, h11, h12, h13⟩ := h
  refine ⟨fun a ha => ?_, fun a a1 a2 => ?_, fun a a1 a2 => ?_, ?_, ?_, ?_, ?_, ?_, ?_, ?_, ?_, ?_, ?_⟩
  · rw [k a (by omega) (by omega)]; exact h1 a ha
  · rw [k a (by omega) (by omega)]; exact h2 a a1 a2
  · rw [k a (by omega) (by omega)]; exact h3 a a1 a2
  · rw [k _ (by omega) (by omega)]; exact h4
  · rw [k _ (by omega) (by omega)]; exact h5
  · rw [k _ (by omega) (by omega)]; exact h6
  · rw [k _ (by omega) (by omega)]; exact h7
  · rw [k _ (by omega) (by omega)]; exact h8
  · rw [k _ (by omega) (by omega)]; exact h9
  · rw [k _ (by omega) (by omega)]; exact h10
  · rw [k _ (by omega) (by omega)]; exact h11
  · rw [k _ (by omega) (by omega)]; exact h12
  · rw [k _ (by omega) (by omega)]; exact h13
theorem mCore.fr {m : Nat} {v : Nat → Int32} {β : sB} {l : sL} {H H' : xH} (k0 : H'.1 m = H.1 m) (k : ∀ a, 1 ≤ a → a < 36 → H'.1 (m + a) = H.1 (m + a)) (h : mCore m v β l H) : mCore m v β l H' := by
  unfold mCore
  rw [k0, k 26 (by omega) (by omega), k 23 (by omega) (by omega), k 24 (by omega) (by omega), k 5 (by omega) (by omega), k 6 (by omega) (by omega)]
  exact h
theorem mMore.fr {m : Nat} {v : Nat → Int32} {β : sB} {δ : sD} {H H' : xH} (k : ∀ a, 1 ≤ a → a < 36 → H'.1 (m + a) = H.1 (m + a)) (h : mMore m v β δ H) : mMore m v β δ H' := by
  obtain ⟨h1, h2, h3, h4, h5, h6, h7, h8, h9, h10⟩ := h
  unfold mMore
  rw [k 1 (by omega) (by omega), k 2 (by omega) (by omega), k 12 (by omega) (by omega), k 13 (by omega) (by omega), k 14 (by omega) (by omega), k 20 (by omega) (by omega), k 28 (by omega) (by omega), k 29 (by omega) (by omega), k 34 (by omega) (by omega), k 35 (by omega) (by omega)]
  exact ⟨h1, h2, h3, h4, h5, h6, h7, h8, h9, h10.fr k⟩
/-- what is done outside its cells leaves the reference's state -/
theorem RM.fr {m : Nat} {β : sB} {δ : sD} {H H' : xH} (hF : Fr (oM m) H H') (h : RM m β δ H) : RM m β δ H' := by
  obtain ⟨v, h1, h2⟩ := h
  have k0 : H'.1 m = H.1 m := hF.2 m (fun q => by unfold oM at q; omega)
  have k : ∀ a, 1 ≤ a → a < 36 → H'.1 (m + a) = H.1 (m + a) := fun a a1 a2 => hF.2 _ (fun q => by unfold oM at q; omega)
  exact ⟨v, h1.fr k0 k, h2.fr k⟩
/-- the state of both, and what is so of it -/
def dOk (β : sB) (δ : sD) : Prop := lOk β (dL δ) ∧ ∀ k, k < dI δ → lOk β (dM δ k)
def Rel (b m : Nat) (β : sB) (δ : sD) (H : xH) : Prop := RX b m β δ H ∧ RM m β δ H ∧ bOk β ∧ dOk β δ ∧ hW H ∧ m + 36 ≤ H.2.1
theorem Rel.mq {b m : Nat} {β : sB} {δ : sD} {H : xH} (h : Rel b m β δ H) : ∃ v, mQ m v β (dL δ) H ∧ mMore m v β δ H := by
  obtain ⟨v, h1, h2⟩ := h.2.1
  exact ⟨v, ⟨h1, h.2.2.1, h.2.2.2.1.1.1, h.2.2.2.1.1.2.1⟩, h2⟩
theorem hW.up {H : xH} {a : Nat} {e f : xE} (h : hW H) (ha : H.1 a = some f) : hW (xup H a e) := fun q g hq => by
  by_cases hqa : q = a
  · rw [hqa]; exact h a f ha
  · rw [xup_ne _ hqa] at hq; exact h q g hq
/-- the reference wrote its scratch field -/
theorem Rel.scr {b m : Nat} {β : sB} {δ : sD} {H : xH} {v : Nat → Int32} {x : Int32} (h : Rel b m β δ H) (hv : H.1 m = some (mo m v)) (hm : mMore m v β δ H) (hq : mCore m v β (dL δ) H) : Rel b m β δ (xup H m (mo m (upd v 49 x))) := by
  have hF : Fr (fun q => m ≤ q ∧ q < m + 36) H (xup H m (mo m (upd v 49 x))) := Fr.up ⟨Nat.le_refl m, by omega⟩
  have hk : ∀ a, 1 ≤ a → a < 36 → (xup H m (mo m (upd v 49 x))).1 (m + a) = H.1 (m + a) := fun a a1 a2 => xup_ne _ (by omega)
  refine ⟨h.1.fr hF, ⟨upd v 49 x, ?_, ?_⟩, h.2.2.1, h.2.2.2.1, h.2.2.2.2.1.up hv, h.2.2.2.2.2⟩
  · have : mQ m v β (dL δ) H := ⟨hq, h.2.2.1, h.2.2.2.1.1.1, h.2.2.2.1.1.2.1⟩
    exact (this.scr (x := x) rfl).1
  · have := hm.fr hk
    obtain ⟨⟨e1, e2, e3, e4, e5⟩, hr⟩ := this
    exact ⟨⟨by simpa [upd] using e1, by simpa [upd] using e2, by simpa [upd] using e3, by simpa [upd] using e4, by simpa [upd] using e5⟩, hr⟩
