/-! PURE: the class's book: a new club, its text read. -/
variable {stf : Nat → Nat} {N K b m : Nat} {β : sB} {δ : sD} {H : xH}
variable {c lo : Nat} {τ : tS} {ad : Nat → Nat}
def clC : Nat → xE := fun i => match i with
  | 1 => aJ 5 (fun _ => 0)
  | 2 => aI 5 (fun _ => 0)
  | 3 => aI 5 (fun _ => 0)
  | 4 => aJ 6 (fun _ => 0)
  | 5 => aI 40 (fun _ => 0)
  | 6 => aI 40 (fun _ => 0)
  | 7 => aI 40 (fun _ => 0)
  | _ => aQ "BettingBook$Bet" 12 (fun _ => none)
def clN (c : Nat) (fs : List Value) (H0 H : xH) (k s : Nat) : Prop := H.1 c = some (ob 2 fs) ∧ H.2.1 = c + k ∧ H.2.2.1 = H0.2.2.1 + s ∧ H.2.2.2 = H0.2.2.2 ∧ hW H ∧ (∀ q, q < c → H.1 q = H0.1 q) ∧ ∀ i, 1 ≤ i → i < k → H.1 (c + i) = some (clC i)
theorem clN.st {fs : List Value} {H0 : xH} {k s z j : Nat} (h : clN c fs H0 H k s) (hk : 1 ≤ k) (hj : j < fs.length) : ∃ H2, xpA (xnw H (clC k) z) (some c) 2 j (some H.2.1) = some H2 ∧ clN c (fs.set j (va_rf (some (c + k)))) H0 H2 (k + 1) (s + z) := by
  obtain ⟨h1, h2, h3, h4, h5, h6, h7⟩ := h
  have e1 : (xnw H (clC k) z).1 c = some (ob 2 fs) := (xnw_ne (by omega)).trans h1
  refine ⟨xup (xnw H (clC k) z) c (ob 2 (fs.set j (va_rf (some H.2.1)))), by unfold xpA; rw [pV e1 hj], ?_, ?_, ?_, ?_, (h5.nw).up e1, fun q hq => (xup_ne _ (by omega)).trans ((xnw_ne (by omega)).trans (h6 q hq)), fun i i1 i2 => ?_⟩
  · rw [xup_at, h2]
  · show H.2.1 + 1 = _; omega
  · show H.2.2.1 + z = _; omega
  · exact h4
  · rw [xup_ne _ (by omega)]
    by_cases e : i = k
    · rw [e, ← h2, xnw_at]
    · rw [xnw_ne (by omega)]; exact h7 i i1 (by omega)
theorem S_init2 (hw : hW H) : ∃ H', F_X2_init N (some H.2.1) (xnw H (ob 2 xdf_2) 13) = some H' ∧ H'.1 H.2.1 = some (cob H.2.1 (0, 0, 0, 0, 0)) ∧ (∀ i, 1 ≤ i → i < 9 → H'.1 (H.2.1 + i) = some (clC i)) ∧ H'.2.1 = H.2.1 + 9 ∧ H'.2.2.1 = H.2.2.1 + 166 ∧ H'.2.2.2 = H.2.2.2 ∧ hW H' ∧ ∀ q, q < H.2.1 → H'.1 q = H.1 q := by
  have n0 : clN H.2.1 xdf_2 H (xnw H (ob 2 xdf_2) 13) 1 13 := ⟨xnw_at, rfl, rfl, rfl, hw.nw, fun q hq => xnw_ne (by omega), fun i i1 i2 => by omega⟩
  generalize xnw H (ob 2 xdf_2) 13 = H1 at *
  obtain ⟨H2, e2, n2⟩ := n0.st (z := 5) (j := 5) (by decide) (by simp [xdf_2])
  obtain ⟨H3, e3, n3⟩ := n2.st (z := 5) (j := 6) (by decide) (by simp [xdf_2])
  obtain ⟨H4, e4, n4⟩ := n3.st (z := 5) (j := 7) (by decide) (by simp [xdf_2])
  obtain ⟨H5, e5, n5⟩ := n4.st (z := 6) (j := 8) (by decide) (by simp [xdf_2])
  obtain ⟨H6, e6, n6⟩ := n5.st (z := 40) (j := 9) (by decide) (by simp [xdf_2])
  obtain ⟨H7, e7, n7⟩ := n6.st (z := 40) (j := 10) (by decide) (by simp [xdf_2])
  obtain ⟨H8, e8, n8⟩ := n7.st (z := 40) (j := 11) (by decide) (by simp [xdf_2])
  obtain ⟨H9, e9, n9⟩ := n8.st (z := 12) (j := 12) (by decide) (by simp [xdf_2])
  have J5 : ∀ X : xH, xnJ X (5 : Int32) = some (xnw X (aJ 5 (fun _ => 0)) 5) := fun X => xnJ_n (H := X) (k := 5) (by decide)
  have J6 : ∀ X : xH, xnJ X (6 : Int32) = some (xnw X (aJ 6 (fun _ => 0)) 6) := fun X => xnJ_n (H := X) (k := 6) (by decide)
  have I5 : ∀ X : xH, xnI .int X (5 : Int32) = some (xnw X (aI 5 (fun _ => 0)) 5) := fun X => xnI_n (H := X) (k := 5) (by decide)
  have I40 : ∀ X : xH, xnI .int X (40 : Int32) = some (xnw X (aI 40 (fun _ => 0)) 40) := fun X => xnI_n (H := X) (k := 40) (by decide)
  have Q12 : ∀ X : xH, xnA (.object "BettingBook$Bet") X (12 : Int32) = some (xnw X (aQ "BettingBook$Bet" 12 (fun _ => none)) 12) := fun X => rfl
  refine ⟨H9, ?_, ?_, n9.2.2.2.2.2.2, n9.2.1, n9.2.2.1, n9.2.2.2.1, n9.2.2.2.2.1, n9.2.2.2.2.2.1⟩
  · unfold F_X2_init
    simp only [J5, I5, J6, I40, Q12, show xpA (xnw H1 (aJ 5 (fun _ => 0)) 5) (some H.2.1) 2 5 (some H1.2.1) = some H2 from e2, show xpA (xnw H2 (aI 5 (fun _ => 0)) 5) (some H.2.1) 2 6 (some H2.2.1) = some H3 from e3, show xpA (xnw H3 (aI 5 (fun _ => 0)) 5) (some H.2.1) 2 7 (some H3.2.1) = some H4 from e4, show xpA (xnw H4 (aJ 6 (fun _ => 0)) 6) (some H.2.1) 2 8 (some H4.2.1) = some H5 from e5, show xpA (xnw H5 (aI 40 (fun _ => 0)) 40) (some H.2.1) 2 9 (some H5.2.1) = some H6 from e6, show xpA (xnw H6 (aI 40 (fun _ => 0)) 40) (some H.2.1) 2 10 (some H6.2.1) = some H7 from e7, show xpA (xnw H7 (aI 40 (fun _ => 0)) 40) (some H.2.1) 2 11 (some H7.2.1) = some H8 from e8, show xpA (xnw H8 (aQ "BettingBook$Bet" 12 (fun _ => none)) 12) (some H.2.1) 2 12 (some H8.2.1) = some H9 from e9, Option.bind_some]
  · exact n9.1
def tS0 : tS := ((0, 0, 0, 0, 0), (fun _ => []), (fun _ => []), (fun _ => 0), (fun _ => 0), (fun _ => (0, 0, none)), fun _ => (0, 0, 0, 0, (fun _ => True), none, none))
theorem cL0 {N lo : Nat} (h1 : H.1 c = some (cob c (0, 0, 0, 0, 0))) (h2 : ∀ i, 1 ≤ i → i < 9 → H.1 (c + i) = some (clC i)) : cL N c lo tS0 ad H := by
  have z : ∀ {P : Nat → Prop} i, i < 0 → P i := fun i hi => absurd hi (Nat.not_lt_zero _)
  exact ⟨h1, ⟨Nat.zero_le _, ⟨fun i hi => absurd hi (Nat.not_lt_zero _), fun i k hi => absurd hi (Nat.not_lt_zero _)⟩, _, h2 1 (by decide) (by decide), fun i hi => absurd hi (Nat.not_lt_zero _)⟩, ⟨_, h2 2 (by decide) (by decide), fun i hi => absurd hi (Nat.not_lt_zero _)⟩, ⟨_, h2 3 (by decide) (by decide), fun i hi => absurd hi (Nat.not_lt_zero _)⟩, ⟨Nat.zero_le _, ⟨fun i hi => absurd hi (Nat.not_lt_zero _), fun i k hi => absurd hi (Nat.not_lt_zero _)⟩, _, h2 4 (by decide) (by decide), fun i hi => absurd hi (Nat.not_lt_zero _)⟩, ⟨Nat.zero_le _, Nat.zero_le _, _, _, _, h2 5 (by decide) (by decide), h2 6 (by decide) (by decide), h2 7 (by decide) (by decide), fun i hi => absurd hi (Nat.not_lt_zero _)⟩, ⟨Nat.zero_le _, _, h2 8 (by decide) (by decide), fun i hi => absurd hi (Nat.not_lt_zero _)⟩, fun i hi => absurd hi (Nat.not_lt_zero _)⟩
theorem yOk0 : yOk tS0 := ⟨fun i hi => absurd hi (Nat.not_lt_zero _), fun i hi => absurd hi (Nat.not_lt_zero _), fun i hi => absurd hi (Nat.not_lt_zero _)⟩
theorem S_init7 {x y : Option Nat} : F_X7_init N (some H.2.1) x y (xnw H (ob 7 xdf_7) 2) = some (xnw H (ob 7 [va_rf x, va_rf y]) 2) := by
  unfold F_X7_init xpA
  rw [Option.bind_some, pN (by simp [xdf_7]), Option.bind_some, pN (by simp [xdf_7]), Option.bind_some]
  rfl
def bojb (b c : Nat) (δ : sD) : xE := ob 10 [va_rf (some (b + 1)), .int (nI (dN δ)), .int (dF δ), .int (dB δ), va_rf (some (b + 2)), va_rf (some c), va_rf (some (b + 15)), va_rf (some (b + 20)), va_rf (some (b + 24)), .int (nI (dI δ)), va_rf (some (b + 41)), va_rf (some (b + 43)), va_rf (some (b + 45)), va_rf (some (b + 49)), va_rf (some (b + 50))]
/-- the text is read: up to what tellAll says -/
theorem C_bookR (hN : 59049 < N) {tc tk cb n nk ncb q : Nat} (ho : RXo stf K b m c tc tk cb n nk ncb ad β δ H) (hw : hW H) {g : Nat → Int32} (hg : H.1 (b + 1) = some (aB 1200 g)) (hq : q ≤ dN δ) (hq12 : dN δ ≤ 1200) : ∃ (J : Nat) (S E : Nat → Nat) (H0 : xH) (x : Option (Int32 × xH)), tkS (fun i => ub (g i)) q J S E ∧
    F_X11_book N (some b) (nI q) H = x_bd2 x (fun v16 H14 => if v16 = 0 then ((xgA H14 (some b) 10 4).bind fun v38 => (xob H14 v38 8).bind fun b40 => x_bd2 (F_X8_nextStart N v38 H14) fun v41 H39 => (xpI H39 (some b) 10 2 v41).bind fun H42 => some ((-1 : Int32), H42)) else ((xpI H14 (some b) 10 2 (-1 : Int32)).bind fun H18 => (xgI H18 (some b) 10 3).bind fun v19 => (xpI H18 (some b) 10 3 (v19 + (1 : Int32))).bind fun H20 => (xpA H20 (some b) 10 5 (some H.2.1)).bind fun H21 => (xpI H21 (some b) 10 9 (0 : Int32)).bind fun H22 => (xgA H22 (some b) 10 10).bind fun v23 => (xob H22 v23 5).bind fun b25 => (F_X5_clear N v23 H22).bind fun H24 => (xgA H24 (some b) 10 7).bind fun v26 => (xob H24 v26 4).bind fun b28 => (F_X4_open N v26 (some H.2.1) H24).bind fun H27 => (xgA H27 (some b) 10 6).bind fun v29 => (xob H27 v29 6).bind fun b31 => (F_X6_fill N v29 (some H.2.1) H27).bind fun H30 => (xgA H30 (some b) 10 6).bind fun v32 => (xgA H30 (some b) 10 7).bind fun v33 => (xob H30 v32 6).bind fun b35 => x_bd2 (F_X6_mark N v32 v33 H30) fun v36 H34 => (xgI H34 (some H.2.1) 2 2).bind fun v37 => some (v37, H34))) ∧
    sOut (fun i => ub (g i)) J S E N b stf (H.2.1 + 9) H.2.1 (H.2.1 + 10) (pTx (fun i => ub (g i)) J S E (J + 1) tS0 0) 0 H0 x ∧ H0.2.1 = H.2.1 + 10 ∧ H0.2.2.1 = H.2.2.1 + 168 ∧ H0.2.2.2 = H.2.2.2 ∧ H0.1 b = some (bobj b c δ 0) ∧ (∀ a, a < H.2.1 → a ≠ b → ¬ (b + 2 ≤ a ∧ a ≤ b + 5) → H0.1 a = H.1 a) := by
  obtain ⟨hD, h1, h2, ⟨⟨x2, h3⟩, ⟨g3, h3a⟩, ⟨g4, h3b⟩, ⟨g5, h3c⟩⟩, h4, h5, h6, h7, h8, h9, h10, h11, h12, h13⟩ := ho
  have hbb : H.1 b = some (bobj b c δ (dN δ)) := h1
  have blt := hw _ _ h3c
  have g1 : xgI H (some b) 10 1 = some (nI (dN δ)) := gI hbb rfl
  have s1 : xpI H (some b) 10 1 (0 : Int32) = some (xup H b (bobj b c δ 0)) := pV hbb (by simp)
  unfold F_X11_book
  rw [if_neg (nI_pos (by omega))]
  simp only [g1, nI_le hq (show dN δ < 2 ^ 31 by omega), if_true, s1, Option.bind_some]
  have a1 : (xup H b (bobj b c δ 0)).1 b = some (bobj b c δ 0) := xup_at _
  have a2 : ∀ a, a ≠ b → (xup H b (bobj b c δ 0)).1 a = H.1 a := fun a ha => xup_ne _ ha
  have aw : hW (xup H b (bobj b c δ 0)) := hw.up hbb
  have at' : (xup H b (bobj b c δ 0)).2 = H.2 := rfl
  generalize xup H b (bobj b c δ 0) = H4 at *
  have t4 : H4.2.1 = H.2.1 := by rw [at']
  obtain ⟨H6, i1, i2, i3, i4, i5, i6, i7, i8⟩ := S_init2 (N := N) aw
  rw [t4] at i1 i2 i3 i4 i8
  have e6 : ∀ a, a < H.2.1 → a ≠ b → H6.1 a = H.1 a := fun a h1 h2 => (i8 a h1).trans (a2 a h2)
  have b6 : H6.1 b = some (bobj b c δ 0) := (i8 b (by omega)).trans a1
  obtain ⟨J, S, E, H9, r1, r2, r3, r4⟩ := S_tread (N := N) (n := q) (g := g) (gk := g3) (gs := g4) (gv := g5) (j := x2) (by omega) (by omega) ((e6 _ (by omega) (by omega)).trans hg) (⟨(e6 _ (by omega) (by omega)).trans h3, (e6 _ (by omega) (by omega)).trans h3a, (e6 _ (by omega) (by omega)).trans h3b, (e6 _ (by omega) (by omega)).trans h3c⟩ : cT0 b g3 g4 g5 x2 H6)
  have o2 : xob H6 (some (b + 2)) 8 = some (b + 2) := obx ((e6 _ (by omega) (by omega)).trans h3)
  have t9 : H9.2.1 = H.2.1 + 9 := by rw [r4.1, i4]
  have b9 : H9.1 b = some (bobj b c δ 0) := (r4.2 b (by omega)).trans b6
  have w9 : hW H9 := by
    refine i7.fr r4 (fun a ha => ?_)
    have ha' : a = b + 2 ∨ a = b + 3 ∨ a = b + 4 ∨ a = b + 5 := by omega
    rcases ha' with rfl | rfl | rfl | rfl
    · exact ⟨_, (e6 _ (by omega) (by omega)).trans h3⟩
    · exact ⟨_, (e6 _ (by omega) (by omega)).trans h3a⟩
    · exact ⟨_, (e6 _ (by omega) (by omega)).trans h3b⟩
    · exact ⟨_, (e6 _ (by omega) (by omega)).trans h3c⟩
  have i1' : x_lt (xno 2 13 xdf_2 H4) (fun H5 => F_X2_init N (some H.2.1) H5) = some H6 := i1
  have ini7 := S_init7 (N := N) (H := H9) (x := some (b + 2)) (y := some H.2.1)
  have n11 : ∀ a, a ≠ H9.2.1 → (xnw H9 (ob 7 xdf_7) 2).1 a = H9.1 a := fun a ha => xnw_ne ha
  have n13 : ∀ a, a ≠ H9.2.1 → (xnw H9 (ob 7 [va_rf (some (b + 2)), va_rf (some H.2.1)]) 2).1 a = H9.1 a := fun a ha => xnw_ne ha
  have n13a : (xnw H9 (ob 7 [va_rf (some (b + 2)), va_rf (some H.2.1)]) 2).1 H9.2.1 = some (ob 7 [va_rf (some (b + 2)), va_rf (some H.2.1)]) := xnw_at
  have w13 : hW (xnw H9 (ob 7 [va_rf (some (b + 2)), va_rf (some H.2.1)]) 2) := w9.nw
  have n13t : (xnw H9 (ob 7 [va_rf (some (b + 2)), va_rf (some H.2.1)]) 2).2 = (H9.2.1 + 1, H9.2.2.1 + 2, H9.2.2.2) := rfl
  have e0 : F_X11_book N (some b) (nI q) H = F_X11_book N (some b) (nI q) H := rfl
  unfold x_lt xno at *
  simp only [t4, i1, gA b6 (j := 4) rfl, gA b6 (j := 0) rfl, o2, r1, gA ((n11 b (by omega)).trans b9) (j := 4) rfl, ini7, Option.bind_some, obx n13a]
  generalize xnw H9 (ob 7 [va_rf (some (b + 2)), va_rf (some H.2.1)]) 2 = H0 at *
  rw [t9] at *
  have old : ∀ a, a < H.2.1 → a ≠ b → ¬ (b + 2 ≤ a ∧ a ≤ b + 5) → H0.1 a = H.1 a := fun a h1 h2 h3 => (n13 a (by omega)).trans ((r4.2 a h3).trans (e6 a h1 h2))
  refine ⟨J, S, E, H0, F_X7_tellAll N (some (H.2.1 + 9)) H0, r2, rfl, ?_, by rw [n13t], by rw [n13t, r4.1, i5, at'], by rw [n13t, r4.1, i6, at'], (n13 b (by omega)).trans b9, old⟩
  have hJ : J ≤ q := by have := r2.le (Nat.zero_le J); omega
  have hTk : cTk (fun i => ub (g i)) J S E b (nI 0) H0 := by
    obtain ⟨gk, gs, gv, ⟨t1, t2, t3, t4⟩, t5, t6⟩ := r3
    exact ⟨gk, gs, gv, ⟨(n13 _ (by omega)).trans t1, (n13 _ (by omega)).trans t2, (n13 _ (by omega)).trans t3, (n13 _ (by omega)).trans t4⟩, t5, t6⟩
  have hY : cY (fun i => ub (g i)) J S E N b stf (H.2.1 + 9) H.2.1 (H.2.1 + 10) tS0 (fun _ => 0) 0 H0 := by
    refine ⟨hTk, h12.fr (by rw [n13t, r4.1, i6, at']) (fun a ha => old a (by omega) (by omega) (by omega)), n13a, w13, cL0 ?_ (fun i z1 z2 => ?_), yOk0, by omega, by omega, by omega, by rw [n13t]; exact Nat.le_refl _⟩
    · exact (n13 _ (by omega)).trans ((r4.2 _ (by omega)).trans i2)
    · exact (n13 _ (by omega)).trans ((r4.2 _ (by omega)).trans (i3 i z1 z2))
  have := C_tellAll (tl := H.2.1 + 9) (lo := H.2.1 + 10) (j0 := 0) (H0 := H0) r2 (by omega) (fun i => ub_lt _) (show 1200 < N by omega) (show b + 6 ≤ H.2.1 by omega) (by rw [n13t]; show H.2.1 ≤ H.2.1 + 9 + 1; omega) (J + 1) N tS0 (fun _ => 0) 0 H0 (by omega) (by omega) hY ((cR.rf hY.p (Nat.zero_le _)).s hY) (Nat.le_refl _)
  exact this
