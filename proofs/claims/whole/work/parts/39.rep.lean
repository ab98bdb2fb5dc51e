/-! PURE: all that the class's heap holds: RX; what doesn't touch it. -/
def xBB (b c : Nat) (δ : sD) (H : xH) : Prop := H.1 b = some (ob 10 [va_rf (some (b + 1)), .int (nI (dN δ)), .int (dF δ), .int (dB δ), va_rf (some (b + 2)), va_rf (some c), va_rf (some (b + 15)), va_rf (some (b + 20)), va_rf (some (b + 24)), .int (nI (dI δ)), va_rf (some (b + 41)), va_rf (some (b + 43)), va_rf (some (b + 45)), va_rf (some (b + 49)), va_rf (some (b + 50))])
def xTape (b : Nat) (δ : sD) (H : xH) : Prop := dN δ ≤ 1200 ∧ ∃ g, H.1 (b + 1) = some (aB 1200 g) ∧ ∀ j, j < dN δ → g j = dT δ j
def xTok (b : Nat) (H : xH) : Prop := (∃ x : Int32, H.1 (b + 2) = some (ob 8 [va_rf (some (b + 3)), va_rf (some (b + 4)), va_rf (some (b + 5)), .int x])) ∧ (∃ g, H.1 (b + 3) = some (aI 1201 g)) ∧ (∃ g, H.1 (b + 4) = some (aI 1201 g)) ∧ ∃ g, H.1 (b + 5) = some (aJ 1201 g)
def xImgs (b : Nat) (δ : sD) (H : xH) : Prop := dI δ ≤ 4 ∧ (∃ g, H.1 (b + 24) = some (aQ "BettingBook$Ledger" 4 g) ∧ ∀ k, k < 4 → g k = some (b + 25 + 4 * k)) ∧ (∀ k, k < dI δ → xLed (b + 25 + 4 * k) (dM δ k) H) ∧ ∀ k, k < 4 → ∃ σ, xLed (b + 25 + 4 * k) σ H
def xOdds (b : Nat) (δ : sD) (H : xH) : Prop := H.1 (b + 41) = some (ob 5 [va_rf (some (b + 42))]) ∧ ∃ g, H.1 (b + 42) = some (aI 45 g) ∧ ∀ j, j < 45 → g j = dC δ j
def xGain (b : Nat) (H : xH) : Prop := H.1 (b + 43) = some (ob 3 [va_rf (some (b + 44))]) ∧ ∃ g, H.1 (b + 44) = some (aI 60 g)
def xWin (b cb ncb : Nat) (H : xH) : Prop := (∃ x1 x2 x3 x4 : Int32, H.1 (b + 45) = some (ob 9 [va_rf (some (b + 46)), va_rf (some (b + 47)), .int x1, va_rf (some cb), .int x2, .int x3, .int x4])) ∧ (∃ g, H.1 (b + 46) = some (aQ "BettingBook$Bet" 6 g)) ∧ (∃ g, H.1 (b + 47) = some (aI 6 g)) ∧ (∃ g, H.1 cb = some (aJ ncb g)) ∧ ncb ≤ 15625
def xOG (b : Nat) (H : xH) : Prop := (∃ g, H.1 (b + 49) = some (aI 6 g)) ∧ ∃ g, H.1 (b + 50) = some (aI 64 g)
/-- outside the reference's cells -/
def oM (m a : Nat) : Prop := a < m ∨ m + 36 ≤ a
def DX (b m c tc tk cb : Nat) (ad : Nat → Nat) (β : sB) : Prop :=
  b + 51 ≤ m ∧ (c = b + 6 ∨ (b + 51 ≤ c ∧ (c + 9 ≤ m ∨ m + 36 ≤ c))) ∧ (tc ≠ b + 5 ∧ tc ≠ c + 1 ∧ tc ≠ c + 4 ∧ tc ≠ cb ∧ cb ≠ b + 5 ∧ cb ≠ c + 1 ∧ cb ≠ c + 4 ∧ tk ≠ b + 1) ∧ oM m tc ∧ oM m tk ∧ oM m cb ∧ ∀ w, w < bW β → oM m (ad w)
def RX (b m : Nat) (β : sB) (δ : sD) (H : xH) : Prop := ∃ (c tc tk cb n nk ncb : Nat) (ad : Nat → Nat), DX b m c tc tk cb ad β ∧ xBB b c δ H ∧ xTape b δ H ∧ xTok b H ∧ xClub c ad β H ∧ xTab (b + 15) tc tk n nk β (dL δ) H ∧ xLed (b + 20) (dL δ) H ∧ xImgs b δ H ∧ xOdds b δ H ∧ xGain b H ∧ xWin b cb ncb H ∧ xOG b H
/-- no cell lies beyond the heap -/
def hW (H : xH) : Prop := ∀ a e, H.1 a = some e → a < H.2.1
theorem xLed.fr {l : Nat} {σ : sL} {H H' : xH} (k : ∀ a, l ≤ a → a ≤ l + 3 → H'.1 a = H.1 a) (h : xLed l σ H) : xLed l σ H' := by
  unfold xLed
  rw [k l (by omega) (by omega), k (l + 1) (by omega) (by omega), k (l + 2) (by omega) (by omega), k (l + 3) (by omega) (by omega)]
  exact h
theorem xClub.fr {c : Nat} {ad : Nat → Nat} {β : sB} {H H' : xH} (k : ∀ a, c ≤ a → a ≤ c + 8 → H'.1 a = H.1 a) (kb : ∀ w, w < bW β → H'.1 (ad w) = H.1 (ad w)) (h : xClub c ad β H) : xClub c ad β H' := by
  obtain ⟨h1, h2, h3, h4, h5⟩ := h
  unfold xClub
  rw [k c (by omega) (by omega), k (c + 2) (by omega) (by omega), k (c + 3) (by omega) (by omega), k (c + 8) (by omega) (by omega)]
  exact ⟨h1, h2, h3, h4, fun w hw => by rw [kb w hw]; exact h5 w hw⟩
theorem xTab.fr {t tc tk n nk : Nat} {β : sB} {σ : sL} {H H' : xH} (k : ∀ a, t = a ∨ a = t + 3 ∨ a = t + 4 ∨ a = tc ∨ a = tk → H'.1 a = H.1 a) (h : xTab t tc tk n nk β σ H) : xTab t tc tk n nk β σ H' := by
  unfold xTab
  rw [k t (by simp), k (t + 3) (by simp), k (t + 4) (by simp), k tc (by simp), k tk (by simp)]
  exact h
theorem xTok.fr {b : Nat} {H H' : xH} (k : ∀ a, b + 2 ≤ a → a ≤ b + 5 → H'.1 a = H.1 a) (h : xTok b H) : xTok b H' := by
  unfold xTok
  rw [k (b + 2) (by omega) (by omega), k (b + 3) (by omega) (by omega), k (b + 4) (by omega) (by omega), k (b + 5) (by omega) (by omega)]
  exact h
theorem xTape.fr {b : Nat} {δ : sD} {H H' : xH} (k : H'.1 (b + 1) = H.1 (b + 1)) (h : xTape b δ H) : xTape b δ H' := by
  unfold xTape
  rw [k]; exact h
theorem xBB.fr {b c : Nat} {δ : sD} {H H' : xH} (k : H'.1 b = H.1 b) (h : xBB b c δ H) : xBB b c δ H' := k.trans h
theorem xImgs.fr {b : Nat} {δ : sD} {H H' : xH} (k : ∀ a, b + 24 ≤ a → a ≤ b + 40 → H'.1 a = H.1 a) (h : xImgs b δ H) : xImgs b δ H' := by
  obtain ⟨h0, h1, h2, h3⟩ := h
  have h4 : dI δ ≤ 4 := h0
  unfold xImgs
  rw [k (b + 24) (by omega) (by omega)]
  exact ⟨h0, h1, fun i hi => (h2 i hi).fr (fun a a1 a2 => k a (by omega) (by omega)), fun i hi => by
    obtain ⟨σ, hσ⟩ := h3 i hi
    exact ⟨σ, hσ.fr (fun a a1 a2 => k a (by omega) (by omega))⟩⟩
theorem xOdds.fr {b : Nat} {δ : sD} {H H' : xH} (k : ∀ a, a = b + 41 ∨ a = b + 42 → H'.1 a = H.1 a) (h : xOdds b δ H) : xOdds b δ H' := by
  unfold xOdds
  rw [k (b + 41) (by simp), k (b + 42) (by simp)]; exact h
theorem xGain.fr {b : Nat} {H H' : xH} (k : ∀ a, a = b + 43 ∨ a = b + 44 → H'.1 a = H.1 a) (h : xGain b H) : xGain b H' := by
  unfold xGain
  rw [k (b + 43) (by simp), k (b + 44) (by simp)]; exact h
theorem xWin.fr {b cb ncb : Nat} {H H' : xH} (k : ∀ a, (b + 45 ≤ a ∧ a ≤ b + 47) ∨ a = cb → H'.1 a = H.1 a) (h : xWin b cb ncb H) : xWin b cb ncb H' := by
  unfold xWin
  rw [k (b + 45) (by omega), k (b + 46) (by omega), k (b + 47) (by omega), k cb (by omega)]; exact h
theorem xOG.fr {b : Nat} {H H' : xH} (k : ∀ a, a = b + 49 ∨ a = b + 50 → H'.1 a = H.1 a) (h : xOG b H) : xOG b H' := by
  unfold xOG
  rw [k (b + 49) (by simp), k (b + 50) (by simp)]; exact h
/-- what is done to the reference's cells alone leaves the class's state -/
theorem RX.fr {b m : Nat} {β : sB} {δ : sD} {H H' : xH} (hF : Fr (fun q => m ≤ q ∧ q < m + 36) H H') (h : RX b m β δ H) : RX b m β δ H' := by
  obtain ⟨c, tc, tk, cb, n, nk, ncb, ad, hD, h1, h2, h3, h4, h5, h6, h7, h8, h9, h10, h11⟩ := h
  have hD' := hD
  obtain ⟨d1, d2, d3, d4, d5', d6, d7⟩ := hD
  have k : ∀ a, oM m a → H'.1 a = H.1 a := fun a ha => hF.2 a (fun q => by unfold oM at ha; omega)
  have kl : ∀ a, a < m → H'.1 a = H.1 a := fun a ha => k a (Or.inl ha)
  refine ⟨c, tc, tk, cb, n, nk, ncb, ad, hD', h1.fr (kl _ (by omega)), h2.fr (kl _ (by omega)), h3.fr (fun a a1 a2 => kl a (by omega)), h4.fr (fun a a1 a2 => k a (by unfold oM; omega)) (fun w hw => k _ (d7 w hw)), h5.fr (fun a ha => ?_), h6.fr (fun a a1 a2 => kl a (by omega)), h7.fr (fun a a1 a2 => kl a (by omega)), h8.fr (fun a ha => kl a (by omega)), h9.fr (fun a ha => kl a (by omega)), h10.fr (fun a ha => ?_), h11.fr (fun a ha => kl a (by omega))⟩
  · rcases ha with h | h | h | h | h
    · exact kl a (by omega)
    · exact kl a (by omega)
    · exact kl a (by omega)
    · rw [h]; exact k tc d4
    · rw [h]; exact k tk d5'
  · rcases ha with h | h
    · exact kl a (by omega)
    · rw [h]; exact k cb d6
