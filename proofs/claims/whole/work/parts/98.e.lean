/-! PURE: the start: the class, new. -/
variable {stf : Nat → Nat} {N K b m : Nat} {β : sB} {δ : sD} {H : xH}
variable {k s : Nat} {fs : List Value} {H0 : xH} {g : Nat → Option Nat}
def ledE (l : Nat) : xE := ob 4 [.int 0, .int 0, va_rf (some (l + 1)), va_rf (some (l + 2)), va_rf (some (l + 3))]
def E0 (b : Nat) : Nat → xE := fun i => match i with
  | 1 => aB 1200 (fun _ => 0)
  | 2 => ob 8 [va_rf (some (b + 3)), va_rf (some (b + 4)), va_rf (some (b + 5)), .int 0]
  | 3 => aI 1201 (fun _ => 0)
  | 4 => aI 1201 (fun _ => 0)
  | 5 => aJ 1201 (fun _ => 0)
  | 6 => cob (b + 6) (0, 0, 0, 0, 0)
  | 7 => clC 1
  | 8 => clC 2
  | 9 => clC 3
  | 10 => clC 4
  | 11 => clC 5
  | 12 => clC 6
  | 13 => clC 7
  | 14 => clC 8
  | 15 => tob (b + 15) (b + 16) (b + 17) 0 0 0 0 0
  | 16 => aJ 0 (fun _ => 0)
  | 17 => aB 0 (fun _ => 0)
  | 18 => aI 5 (fun _ => 0)
  | 19 => aI 5 (fun _ => 0)
  | 20 => ledE (b + 20)
  | 21 => aI 5 (fun _ => 0)
  | 22 => aI 24 (fun _ => 0)
  | 23 => aI 6 (fun _ => 0)
  | 25 => ledE (b + 25)
  | 26 => aI 5 (fun _ => 0)
  | 27 => aI 24 (fun _ => 0)
  | 28 => aI 6 (fun _ => 0)
  | 29 => ledE (b + 29)
  | 30 => aI 5 (fun _ => 0)
  | 31 => aI 24 (fun _ => 0)
  | 32 => aI 6 (fun _ => 0)
  | 33 => ledE (b + 33)
  | 34 => aI 5 (fun _ => 0)
  | 35 => aI 24 (fun _ => 0)
  | 36 => aI 6 (fun _ => 0)
  | 37 => ledE (b + 37)
  | 38 => aI 5 (fun _ => 0)
  | 39 => aI 24 (fun _ => 0)
  | 40 => aI 6 (fun _ => 0)
  | 41 => ob 5 [va_rf (some (b + 42))]
  | 42 => aI 45 (fun _ => 0)
  | 43 => ob 3 [va_rf (some (b + 44))]
  | 44 => aI 60 (fun _ => 0)
  | 45 => ob 9 [va_rf (some (b + 46)), va_rf (some (b + 47)), .int 0, va_rf (some (b + 48)), .int 0, .int 0, .int 0]
  | 46 => aQ "BettingBook$Bet" 6 (fun _ => none)
  | 47 => aI 6 (fun _ => 0)
  | 48 => aJ 0 (fun _ => 0)
  | 49 => aI 6 (fun _ => 0)
  | _ => aI 64 (fun _ => 0)
def E11 (b : Nat) (g : Nat → Option Nat) : Nat → xE := fun i => if i = 24 then aQ "BettingBook$Ledger" 4 g else E0 b i
theorem E11_n {i : Nat} (h : i ≠ 24) : E11 b g i = E0 b i := if_neg h
theorem E11_l : ∀ k, k < 4 → E0 b (25 + 4 * k) = ledE (b + (25 + 4 * k)) ∧ ∀ i, 1 ≤ i → i < 4 → E0 b (25 + 4 * k + i) = bC4 i := by
  intro k hk
  have : k = 0 ∨ k = 1 ∨ k = 2 ∨ k = 3 := by omega
  rcases this with rfl | rfl | rfl | rfl <;> refine ⟨rfl, fun i i1 i2 => ?_⟩ <;> (have : i = 1 ∨ i = 2 ∨ i = 3 := by omega) <;> rcases this with rfl | rfl | rfl <;> rfl
theorem C_led {K1 : Option Nat → xH → Option xH} {z : Nat} (hk : k < 4) (h : bl 10 b (E11 b g) fs H0 H (25 + 4 * k) s) (hf : fs[8]? = some (va_rf (some (b + 24)))) : ∃ H', F_X11_init_L72 N K1 (z + 1) (some b) (nI k) H = F_X11_init_L72 N K1 z (some b) (nI (k + 1)) H' ∧ bl 10 b (E11 b (va_up g k (some (b + (25 + 4 * k))))) fs H0 H' (25 + 4 * (k + 1)) (s + 40) := by
  obtain ⟨h1, h2, h3, h4, h5, h6, h7⟩ := h
  obtain ⟨H1, e1, g1, g2, g3, g4, g5, g6, g7⟩ := B_4 (N := N) h5
  have a24 : H.1 (b + 24) = some (aQ "BettingBook$Ledger" 4 g) := h7 24 (by decide) (by omega)
  have c24 : H1.1 (b + 24) = some (aQ "BettingBook$Ledger" 4 g) := (g6 _ (by omega)).trans a24
  have r8 : xgA H (some b) 10 8 = some (some (b + 24)) := gA h1 hf
  have st : xsA (.object "BettingBook$Ledger") 4 H1 (some (b + 24)) (nI k) (some H.2.1) = some (xup H1 (b + 24) (aQ "BettingBook$Ledger" 4 (va_up g k (some H.2.1)))) := by
    have q1 := nI_nin (k := k) (n := 4) hk (by decide)
    simp only [xsA, c24, g1]
    rw [if_pos ⟨trivial, q1⟩, if_pos trivial, nI_clamp (by omega)]
  refine ⟨xup H1 (b + 24) (aQ "BettingBook$Ledger" 4 (va_up g k (some H.2.1))), ?_, (xup_ne _ (by omega)).trans ((g6 _ (by omega)).trans h1), ?_, ?_, g4.trans h4, g5.up c24, fun q hq => (xup_ne _ (by omega)).trans ((g6 _ (by omega)).trans (h6 q hq)), fun i i1 i2 => ?_⟩
  · show F_X11_init_J72 N (F_X11_init_L72 N K1 z) K1 (some b) (nI k) H = _
    unfold F_X11_init_J72
    simp only [r8, leQ a24, show ¬ nI 4 ≤ nI k from nI_ge hk (by decide), if_false, x_ltS, xnoE, e1, st, Option.bind_some]
    rw [show nI k + 1 = nI (k + 1) from nI_add k 1]
  · show H1.2.1 = _; omega
  · show H1.2.2.1 = _; omega
  · by_cases q : i = 24
    · rw [q, xup_at, h2]
      rfl
    rw [xup_ne _ (by omega), E11_n q]
    obtain ⟨w1, w2⟩ := E11_l (b := b) k hk
    rcases Nat.lt_trichotomy i (25 + 4 * k) with z | z | z
    · rw [g6 _ (by omega), h7 i i1 z, E11_n q]
    · rw [z, ← h2, g1, w1, ← h2]
      rfl
    · have := w2 (i - (25 + 4 * k)) (by omega) (by omega)
      rw [show 25 + 4 * k + (i - (25 + 4 * k)) = i by omega] at this
      rw [this, show b + i = H.2.1 + (i - (25 + 4 * k)) by omega]
      exact g7 _ (by omega) (by omega)
theorem hW0 (h : xSt b stf) : hW (xH0 b stf) := fun a e ha => by
  show a < b
  have ha' : xh0 stf a = some e := ha
  unfold xh0 at ha'
  split at ha'
  · rename_i q
    rw [q]
    exact h.2 19 (by decide)
  · split at ha'
    · rename_i i hi
      have h1 := List.find?_some hi
      have h2 := List.mem_of_find?_eq_some hi
      rw [of_decide_eq_true h1]
      exact h.2 i (by have := List.mem_range.mp h2; omega)
    · cases ha'
def gL (b : Nat) : Nat → Option Nat := va_up (va_up (va_up (va_up (fun _ => none) 0 (some (b + 25))) 1 (some (b + 29))) 2 (some (b + 33))) 3 (some (b + 37))
def fsX (b : Nat) : List Value := [va_rf (some (b + 1)), .int 0, .int (-1), .int 0, va_rf (some (b + 2)), va_rf (some (b + 6)), va_rf (some (b + 15)), va_rf (some (b + 20)), va_rf (some (b + 24)), .int 0, va_rf (some (b + 41)), va_rf (some (b + 43)), va_rf (some (b + 45)), va_rf (some (b + 49)), va_rf (some (b + 50))]
theorem C_new (hN : 59049 < N) (hst : xSt b stf) : ∃ (HC H' : xH), F_X11_init N (some b) (xnw (xH0 b stf) (ob 10 xdf_11) 15) = ((xgA H' (some b) 10 6).bind fun v14 => (xgA H' (some b) 10 5).bind fun v15 => (xob H' v14 6).bind fun b17 => (F_X6_fill N v14 v15 H').bind fun H16 => (xgA H16 (some b) 10 6).bind fun v18 => (xgA H16 (some b) 10 7).bind fun v19 => (xob H16 v18 6).bind fun b21 => x_bd2 (F_X6_mark N v18 v19 H16) fun v22 H20 => some H20) ∧ (∃ f0 s0, bl 10 b (E11 b (fun _ => none)) f0 (xH0 b stf) HC 15 s0) ∧ bl 10 b (E11 b (gL b)) (fsX b) (xH0 b stf) H' 51 5407 := by
  obtain ⟨z, rfl⟩ : ∃ z, N = z + 5 := ⟨N - 5, by omega⟩
  have n1 : bl 10 b (E11 b (fun _ => none)) xdf_11 (xH0 b stf) (xnw (xH0 b stf) (ob 10 xdf_11) 15) 1 15 := bl.new (H := xH0 b stf) (hW0 hst)
  unfold F_X11_init
  generalize xnw (xH0 b stf) (ob 10 xdf_11) 15 = H1 at *
  obtain ⟨H2, e2, n2⟩ := n1.st (z := 1200) (j := 0) (by decide) (by simp [xdf_11])
  have a1 : xnI .byte H1 (1200 : Int32) = some (xnw H1 (E11 b (fun _ => none) 1) 1200) := rfl
  obtain ⟨H3, e3, n3⟩ := n2.int (j := 2) (x := -1) (by decide) (by simp [xdf_11])
  obtain ⟨H4, d4, m4⟩ := B_8 (N := z + 5) n3.2.2.2.2.1
  obtain ⟨H5, e5, n5⟩ := n3.sub m4 (j := 4) (by decide) (by simp [xdf_11]) (by rw [n3.2.1]; rfl) (fun i i1 i2 => by
    have : i = 1 ∨ i = 2 ∨ i = 3 := by omega
    rcases this with rfl | rfl | rfl <;> rfl)
  obtain ⟨H6, d6, p1, p2, p3, p4, p5, p6, p7⟩ := S_init2 (N := z + 5) n5.2.2.2.2.1
  have m6 : bl 2 H5.2.1 clC [.int (nI 0), .int (nI 0), .int (nI 0), .int (nI 0), .int (nI 0), va_rf (some (H5.2.1 + 1)), va_rf (some (H5.2.1 + 2)), va_rf (some (H5.2.1 + 3)), va_rf (some (H5.2.1 + 4)), va_rf (some (H5.2.1 + 5)), va_rf (some (H5.2.1 + 6)), va_rf (some (H5.2.1 + 7)), va_rf (some (H5.2.1 + 8))] H5 H6 9 166 := ⟨p1, p3, p4, p5, p6, p7, p2⟩
  obtain ⟨H7, e7, n7⟩ := n5.sub m6 (j := 5) (by decide) (by simp [xdf_11]) (by rw [n5.2.1]; rfl) (fun i i1 i2 => by
    have : i = 1 ∨ i = 2 ∨ i = 3 ∨ i = 4 ∨ i = 5 ∨ i = 6 ∨ i = 7 ∨ i = 8 := by omega
    rcases this with rfl | rfl | rfl | rfl | rfl | rfl | rfl | rfl <;> rfl)
  obtain ⟨H8, d8, m8⟩ := B_6 (N := z + 5) n7.2.2.2.2.1
  obtain ⟨H9, e9, n9⟩ := n7.sub m8 (j := 6) (by decide) (by simp [xdf_11]) (by rw [n7.2.1]; rfl) (fun i i1 i2 => by
    have : i = 1 ∨ i = 2 ∨ i = 3 ∨ i = 4 := by omega
    rcases this with rfl | rfl | rfl | rfl <;> rfl)
  obtain ⟨H10, d10, m10⟩ := B_4 (N := z + 5) n9.2.2.2.2.1
  obtain ⟨H11, e11, n11⟩ := n9.sub m10 (j := 7) (by decide) (by simp [xdf_11]) (by rw [n9.2.1]; rfl) (fun i i1 i2 => by
    have : i = 1 ∨ i = 2 ∨ i = 3 := by omega
    rcases this with rfl | rfl | rfl <;> rfl)
  obtain ⟨H12, e12, n12⟩ := n11.st (z := 4) (j := 8) (by decide) (by simp [xdf_11])
  have a11 : xnA (.object "BettingBook$Ledger") H11 (4 : Int32) = some (xnw H11 (E11 b (fun _ => none) 24) 4) := rfl
  obtain ⟨H13, e13, n13⟩ := C_led (N := z + 5) (K1 := F_X11_init_J100 (z + 5)) (z := z + 4) (k := 0) (by decide) n12 rfl
  obtain ⟨H14, e14, n14⟩ := C_led (N := z + 5) (K1 := F_X11_init_J100 (z + 5)) (z := z + 3) (k := 1) (by decide) n13 rfl
  obtain ⟨H15, e15, n15⟩ := C_led (N := z + 5) (K1 := F_X11_init_J100 (z + 5)) (z := z + 2) (k := 2) (by decide) n14 rfl
  obtain ⟨H16, e16, n16⟩ := C_led (N := z + 5) (K1 := F_X11_init_J100 (z + 5)) (z := z + 1) (k := 3) (by decide) n15 rfl
  have r8 : xgA H16 (some b) 10 8 = some (some (b + 24)) := gA n16.1 rfl
  have l8 : xal (.object "BettingBook$Ledger") H16 (some (b + 24)) = some (nI 4) := leQ (n16.2.2.2.2.2.2 24 (by decide) (by decide))
  have e17 : F_X11_init_L72 (z + 5) (F_X11_init_J100 (z + 5)) (z + 1) (some b) (nI 4) H16 = F_X11_init_J100 (z + 5) (some b) H16 := by
    show F_X11_init_J72 (z + 5) (F_X11_init_L72 (z + 5) (F_X11_init_J100 (z + 5)) z) (F_X11_init_J100 (z + 5)) (some b) (nI 4) H16 = _
    unfold F_X11_init_J72
    simp only [r8, l8, Option.bind_some]
    rw [if_pos (Int32.le_refl _)]
  obtain ⟨H18, d18, m18⟩ := B_5 (N := z + 5) n16.2.2.2.2.1
  obtain ⟨H19, e19, n19⟩ := n16.sub m18 (j := 10) (by decide) (by simp [xdf_11]) (by rw [n16.2.1]; rfl) (fun i i1 i2 => by
    have : i = 1 := by omega
    subst this; rfl)
  obtain ⟨H20, d20, m20⟩ := B_3 (N := z + 5) n19.2.2.2.2.1
  obtain ⟨H21, e21, n21⟩ := n19.sub m20 (j := 11) (by decide) (by simp [xdf_11]) (by rw [n19.2.1]; rfl) (fun i i1 i2 => by
    have : i = 1 := by omega
    subst this; rfl)
  obtain ⟨H22, d22, m22⟩ := B_9 (N := z + 5) n21.2.2.2.2.1
  obtain ⟨H23, e23, n23⟩ := n21.sub m22 (j := 12) (by decide) (by simp [xdf_11]) (by rw [n21.2.1]; rfl) (fun i i1 i2 => by
    have : i = 1 ∨ i = 2 ∨ i = 3 := by omega
    rcases this with rfl | rfl | rfl <;> rfl)
  obtain ⟨H24, e24, n24⟩ := n23.st (z := 6) (j := 13) (by decide) (by simp [xdf_11])
  have a23 : xnI .int H23 (6 : Int32) = some (xnw H23 (E11 b (gL b) 49) 6) := rfl
  obtain ⟨H25, e25, n25⟩ := n24.st (z := 64) (j := 14) (by decide) (by simp [xdf_11])
  have a24 : xnI .int H24 (64 : Int32) = some (xnw H24 (E11 b (gL b) 50) 64) := rfl
  refine ⟨H7, H25, ?_, ⟨_, _, n7⟩, n25⟩
  simp only [a1, e2, e3, x_ltS, xnoE, d4, e5, d6, e7, d8, e9, d10, e11, a11, e12, Option.bind_some]
  rw [show (0 : Int32) = nI 0 from rfl, e13, e14, e15, e16, e17]
  unfold F_X11_init_J100
  simp only [x_ltS, xnoE, d18, e19, d20, e21, d22, e23, a23, show xpA (xnw H23 (E11 b (gL b) 49) 6) (some b) 10 13 (some H23.2.1) = some H24 from e24, a24, show xpA (xnw H24 (E11 b (gL b) 50) 64) (some b) 10 14 (some H24.2.1) = some H25 from e25, Option.bind_some]
