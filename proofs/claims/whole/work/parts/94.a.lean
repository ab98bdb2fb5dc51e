/-! PURE: what a text says. -/
variable {stf : Nat → Nat} {N K b m : Nat} {β : sB} {δ : sD} {H : xH}
/-- a wager told: who, with whom, the coins, what about, when it's off, when it's double -/
abbrev tB : Type := Nat × Nat × Nat × Nat × sem × Option sem × Option sem
/-- a text told so far: how many things, members, wagers, rules, statements; names; from, until; rules (none: bars); wagers -/
abbrev tS : Type := (Nat × Nat × Nat × Nat × Nat) × (Nat → List Nat) × (Nat → List Nat) × (Nat → Nat) × (Nat → Nat) × (Nat → Nat × Nat × Option Nat) × (Nat → tB)
def yT (τ : tS) : Nat := τ.1.1
def yM (τ : tS) : Nat := τ.1.2.1
def yW (τ : tS) : Nat := τ.1.2.2.1
def yR (τ : tS) : Nat := τ.1.2.2.2.1
def yS (τ : tS) : Nat := τ.1.2.2.2.2
def ytn (τ : tS) : Nat → List Nat := τ.2.1
def ymn (τ : tS) : Nat → List Nat := τ.2.2.1
def yf (τ : tS) : Nat → Nat := τ.2.2.2.1
def yu (τ : tS) : Nat → Nat := τ.2.2.2.2.1
def yr (τ : tS) : Nat → Nat × Nat × Option Nat := τ.2.2.2.2.2.1
def yb (τ : tS) : Nat → tB := τ.2.2.2.2.2.2
abbrev ps : Type := Option tS × Nat
def qbd (p : pr) (f : sem → Nat → ps) : ps := match p.1 with
  | none => (none, p.2)
  | some σ => f σ p.2
theorem qbd_n {p : pr} {f : sem → Nat → ps} (h : p.1 = none) : qbd p f = (none, p.2) := by unfold qbd; rw [h]
theorem qbd_s {p : pr} {f : sem → Nat → ps} {σ : sem} (h : p.1 = some σ) : qbd p f = f σ p.2 := by unfold qbd; rw [h]
def sbd (p : ps) (f : tS → Nat → ps) : ps := match p.1 with
  | none => (none, p.2)
  | some σ => f σ p.2
theorem sbd_n {p : ps} {f : tS → Nat → ps} (h : p.1 = none) : sbd p f = (none, p.2) := by unfold sbd; rw [h]
theorem sbd_s {p : ps} {f : tS → Nat → ps} {σ : tS} (h : p.1 = some σ) : sbd p f = f σ p.2 := by unfold sbd; rw [h]
/-- a name that's free -/
def isNw (τ : tS) (W : List Nat) : Prop := W ≠ [] ∧ (¬ ∃ k, k < 19 ∧ kw k = W) ∧ (∀ i, i < yT τ → ytn τ i ≠ W) ∧ ∀ i, i < yM τ → ymn τ i ≠ W
def tadT (τ : tS) (W : List Nat) (f u : Nat) : tS := ((yT τ + 1, yM τ, yW τ, yR τ, yS τ), ins (ytn τ) (yT τ) W, ymn τ, ins (yf τ) (yT τ) f, ins (yu τ) (yT τ) u, yr τ, yb τ)
def tadM (τ : tS) (W : List Nat) : tS := ((yT τ, yM τ + 1, yW τ, yR τ, yS τ), ytn τ, ins (ymn τ) (yM τ) W, yf τ, yu τ, yr τ, yb τ)
def tadR (τ : tS) (r : Nat × Nat × Option Nat) : tS := ((yT τ, yM τ, yW τ, yR τ + 1, yS τ), ytn τ, ymn τ, yf τ, yu τ, ins (yr τ) (yR τ) r, yb τ)
def tadB (τ : tS) (x : tB) : tS := ((yT τ, yM τ, yW τ + 1, yR τ, yS τ), ytn τ, ymn τ, yf τ, yu τ, yr τ, ins (yb τ) (yW τ) x)
def tadS (τ : tS) : tS := ((yT τ, yM τ, yW τ, yR τ, yS τ + 1), ytn τ, ymn τ, yf τ, yu τ, yr τ, yb τ)
section
variable (t : Nat → Nat) (J : Nat) (S E : Nat → Nat)
noncomputable def pTu (τ : tS) (W : List Nat) (f j : Nat) : ps := cif (wd t J S E j = kw 2) (cif (isN t J S E (j + 1) f 7) (some (tadT τ W f (nv t S E (j + 1))), j + 2) (none, j + 1)) (some (tadT τ W f 7), j)
noncomputable def pTt (τ : tS) (j : Nat) : ps := cif (isNw τ (wd t J S E j)) (cif (yT τ < 5) (cif (wd t J S E (j + 1) = kw 1) (cif (isN t J S E (j + 2) 0 7) (pTu t J S E τ (wd t J S E j) (nv t S E (j + 2)) (j + 3)) (none, j + 2)) (pTu t J S E τ (wd t J S E j) 0 (j + 1))) (none, j)) (none, j)
noncomputable def pTm (τ : tS) (j : Nat) : ps := cif (isNw τ (wd t J S E j)) (cif (yM τ < 6) (some (tadM τ (wd t J S E j)), j + 1) (none, j)) (none, j)
noncomputable def pTr (br : Prop) (τ : tS) (j : Nat) : ps := obd (fnd (yT τ) (ytn τ) (wd t J S E j)) (none, j) (fun a => obd (fnd (yT τ) (ytn τ) (wd t J S E (j + 1))) (none, j + 1) (fun u => cif (u = a) (none, j + 1)
  (cif br (cif (wd t J S E (j + 2) = kw 6) (cif (isN t J S E (j + 3) 0 7) (some (tadR τ (a, u, some (nv t S E (j + 3)))), j + 4) (none, j + 3)) (none, j + 2)) (some (tadR τ (a, u, none)), j + 2))))
noncomputable def pCl (τ : tS) (j : Nat) : pr := pAn t J S E (pSi t J S E (yT τ) (ytn τ) 9) j
noncomputable def pTd (τ : tS) (a o x y : Nat) (σ : sem) (f : Option sem) (j : Nat) : ps := cif (wd t J S E j = kw 11) (qbd (pCl t J S E τ (j + 1)) (fun ρ j' => (some (tadB τ (a, o, x, y, σ, f, some ρ)), j'))) (some (tadB τ (a, o, x, y, σ, f, none)), j)
noncomputable def pTo (τ : tS) (a o x y : Nat) (σ : sem) (j : Nat) : ps := cif (wd t J S E j = kw 10) (qbd (pCl t J S E τ (j + 1)) (fun ρ j' => pTd t J S E τ a o x y σ (some ρ) j')) (pTd t J S E τ a o x y σ none j)
noncomputable def pTb (τ : tS) (j : Nat) : ps := obd (fnd (yM τ) (ymn τ) (wd t J S E j)) (none, j) (fun a => cif (isN t J S E (j + 1) 1 999) (cif (wd t J S E (j + 2) = kw 8) (cif (isN t J S E (j + 3) 1 999)
  (obd (fnd (yM τ) (ymn τ) (wd t J S E (j + 4))) (none, j + 4) (fun o => cif (o = a) (none, j + 4) (cif (wd t J S E (j + 5) = kw 9) (qbd (pCl t J S E τ (j + 6)) (fun σ j' => pTo t J S E τ a o (nv t S E (j + 1)) (nv t S E (j + 3)) σ j')) (none, j + 5))))
  (none, j + 3)) (none, j + 2)) (none, j + 1))
noncomputable def pSt (τ : tS) (j : Nat) : ps := cif (wd t J S E j = kw 0) (pTt t J S E τ (j + 1)) (cif (wd t J S E j = kw 3) (pTm t J S E τ (j + 1)) (cif (wd t J S E j = kw 4) (pTr t J S E False τ (j + 1)) (cif (wd t J S E j = kw 5) (pTr t J S E True τ (j + 1)) (cif (yW τ < 12) (cif (wd t J S E j = kw 7) (pTb t J S E τ (j + 1)) (none, j)) (none, j)))))
noncomputable def pTx : Nat → tS → Nat → ps
  | 0, _, j => (none, j)
  | f + 1, τ, j => cif (j = J) (some τ, j) (cif (yS τ < 40) (sbd (pSt t J S E τ j) (fun τ' j' => cif (sg t J S j' = 59) (pTx f (tadS τ') (j' + 1)) (none, j'))) (none, j))
end
/-- a wager in the class -/
def oCl (N lo : Nat) (H : xH) (p : Option Nat) (f : Option sem) : Prop := (f = none → p = none) ∧ ∀ σ, f = some σ → ∃ a, p = some a ∧ lo ≤ a ∧ CT N 20 H lo a σ ∧ nodeN H a none
def cBt (N lo : Nat) (x : tB) (a : Nat) (H : xH) : Prop := ∃ p1 p2 p3 : Option Nat, H.1 a = some (ob 0 [.int (nI x.1), .int (nI x.2.1), .int (nI x.2.2.1), .int (nI x.2.2.2.1), va_rf p1, va_rf p2, va_rf p3]) ∧ lo ≤ a ∧ oCl N lo H p1 (some x.2.2.2.2.1) ∧ oCl N lo H p2 x.2.2.2.2.2.1 ∧ oCl N lo H p3 x.2.2.2.2.2.2
theorem oCl.fr {lo : Nat} {p : Option Nat} {f : Option sem} {H' : xH} (h : oCl N lo H p f) (hw : hW H) (hf : ∀ q, lo ≤ q → q < H.2.1 → H'.1 q = H.1 q) : oCl N lo H' p f := ⟨h.1, fun σ hσ => by
  obtain ⟨a, h1, h2, h3, h4⟩ := h.2 σ hσ
  have ha : a < H.2.1 := by obtain ⟨_, _, _, _, z⟩ := h4; exact hw _ _ z
  exact ⟨a, h1, h2, h3.fr (fun q q1 q2 => hf q q1 (by omega)) (same4.of h4 (hf a h2 ha)), h4.of (hf a h2 ha)⟩⟩
theorem cBt.fr {lo a : Nat} {x : tB} {H' : xH} (h : cBt N lo x a H) (hw : hW H) (hf : ∀ q, lo ≤ q → q < H.2.1 → H'.1 q = H.1 q) : cBt N lo x a H' := by
  obtain ⟨p1, p2, p3, h1, h2, h3, h4, h5⟩ := h
  exact ⟨p1, p2, p3, (hf a h2 (hw _ _ h1)).trans h1, h2, h3.fr hw hf, h4.fr hw hf, h5.fr hw hf⟩
/-- the class's club, as told so far -/
def rD (x : Option Nat) : Int32 := match x with
  | none => -1
  | some d => nI d
def cob (c : Nat) (x : Nat × Nat × Nat × Nat × Nat) : xE := ob 2 [.int (nI x.1), .int (nI x.2.1), .int (nI x.2.2.1), .int (nI x.2.2.2.1), .int (nI x.2.2.2.2), va_rf (some (c + 1)), va_rf (some (c + 2)), va_rf (some (c + 3)), va_rf (some (c + 4)), va_rf (some (c + 5)), va_rf (some (c + 6)), va_rf (some (c + 7)), va_rf (some (c + 8))]
def cL (N c lo : Nat) (τ : tS) (ad : Nat → Nat) (H : xH) : Prop :=
  H.1 c = some (cob c τ.1) ∧ (yT τ ≤ 5 ∧ nmW (yT τ) (ytn τ) ∧ ∃ g, H.1 (c + 1) = some (aJ 5 g) ∧ ∀ i, i < yT τ → g i = lN (w5 (ytn τ i))) ∧
  (∃ g, H.1 (c + 2) = some (aI 5 g) ∧ ∀ i, i < yT τ → g i = nI (yf τ i)) ∧ (∃ g, H.1 (c + 3) = some (aI 5 g) ∧ ∀ i, i < yT τ → g i = nI (yu τ i)) ∧
  (yM τ ≤ 6 ∧ nmW (yM τ) (ymn τ) ∧ ∃ g, H.1 (c + 4) = some (aJ 6 g) ∧ ∀ i, i < yM τ → g i = lN (w5 (ymn τ i))) ∧
  (yR τ ≤ 40 ∧ yS τ ≤ 40 ∧ ∃ g1 g2 g3, H.1 (c + 5) = some (aI 40 g1) ∧ H.1 (c + 6) = some (aI 40 g2) ∧ H.1 (c + 7) = some (aI 40 g3) ∧ ∀ r, r < yR τ → g1 r = nI (yr τ r).1 ∧ g2 r = nI (yr τ r).2.1 ∧ g3 r = rD (yr τ r).2.2) ∧
  (yW τ ≤ 12 ∧ ∃ g, H.1 (c + 8) = some (aQ "BettingBook$Bet" 12 g) ∧ ∀ w, w < yW τ → g w = some (ad w)) ∧ ∀ w, w < yW τ → cBt N lo (yb τ w) (ad w) H
/-- what's so of what is told -/
def yOk (τ : tS) : Prop := (∀ i, i < yT τ → yf τ i ≤ 7 ∧ yu τ i ≤ 7) ∧ (∀ r, r < yR τ → (yr τ r).1 < yT τ ∧ (yr τ r).2.1 < yT τ ∧ ∀ d, (yr τ r).2.2 = some d → d ≤ 7) ∧ ∀ w, w < yW τ → (yb τ w).1 < yM τ ∧ (yb τ w).2.1 < yM τ ∧ 1 ≤ (yb τ w).2.2.1 ∧ (yb τ w).2.2.1 ≤ 999 ∧ 1 ≤ (yb τ w).2.2.2.1 ∧ (yb τ w).2.2.2.1 ≤ 999
theorem cL.fr {c lo : Nat} {τ : tS} {ad : Nat → Nat} {H' : xH} (h : cL N c lo τ ad H) (hw : hW H) (hc : c + 8 < lo) (hl : lo ≤ H.2.1) (hf : ∀ q, c ≤ q → q < H.2.1 → H'.1 q = H.1 q) : cL N c lo τ ad H' := by
  obtain ⟨h1, ⟨a1, a2, h2⟩, h3, h4, ⟨a3, a4, h5⟩, ⟨a5, a6, h6⟩, ⟨a7, h7⟩, h8⟩ := h
  refine ⟨(hf c (by omega) (by omega)).trans h1, ⟨a1, a2, ?_⟩, ?_, ?_, ⟨a3, a4, ?_⟩, ⟨a5, a6, ?_⟩, ⟨a7, ?_⟩, fun w hq => (h8 w hq).fr hw (fun q q1 q2 => hf q (by omega) q2)⟩
  · rw [hf (c + 1) (by omega) (by omega)]; exact h2
  · rw [hf (c + 2) (by omega) (by omega)]; exact h3
  · rw [hf (c + 3) (by omega) (by omega)]; exact h4
  · rw [hf (c + 4) (by omega) (by omega)]; exact h5
  · rw [hf (c + 5) (by omega) (by omega), hf (c + 6) (by omega) (by omega), hf (c + 7) (by omega) (by omega)]; exact h6
  · rw [hf (c + 8) (by omega) (by omega)]; exact h7
