/-! PURE: the start: an object and its arrays, laid one behind the other. -/
variable {stf : Nat → Nat} {N K b m : Nat} {β : sB} {δ : sD} {H : xH}
variable {c lo t tc tk nn nk : Nat} {τ : tS} {ad : Nat → Nat}
theorem S_fillB (hN : 59049 < N) {Hp : xH} (hp : cL N c lo τ ad Hp) (hw : hW Hp) (hc : c + 8 < lo) (hl : lo ≤ Hp.2.1) (ho : yOk τ) (ht : ¬ (c ≤ t ∧ t < Hp.2.1)) (ht3 : ¬ (c ≤ t + 3 ∧ t + 3 < Hp.2.1)) (htc : ¬ (c ≤ tc ∧ tc < Hp.2.1)) (h1 : tc ≠ t) (h2 : tc ≠ t + 3) (hk1 : tk ≠ t) (hk2 : tk ≠ t + 3) (hk3 : tk ≠ tc) (h4 : tc ≠ t + 4) (hn : nn ≤ 59049) (hnk : 9 ^ yT τ ≤ nn → 9 ^ yT τ + 9 ^ yT τ / 8 + 1 ≤ nk) (hnk7 : nk ≤ 70000) {x0 x1 x2 x3 : Int32} {ce : Int64} {g : Nat → Int64} (hH : hW H) (htop : Hp.2.1 ≤ H.2.1) (hag : ∀ q, c ≤ q → q < Hp.2.1 → H.1 q = Hp.1 q) (e1 : H.1 t = some (tob t tc tk x0 x1 x2 x3 ce)) (e2 : H.1 tc = some (aJ nn g)) (e3 : ∃ g, H.1 (t + 3) = some (aI 5 g)) (e4 : ∃ g, H.1 (t + 4) = some (aI 5 g)) (e5 : ∃ g, H.1 tk = some (aB nk g)) : ∃ (H' : xH) (tc' tk' n' nk' : Nat), F_X6_fill N (some t) (some c) H = some H' ∧ xTw t tc' tk' n' nk' (bet τ) H' ∧ hW H' ∧ H'.2.2.2 = H.2.2.2 ∧ (∀ q, q < H.2.1 → q ≠ t → q ≠ t + 3 → q ≠ tc → H'.1 q = H.1 q) ∧ ((tc' = tc ∧ tk' = tk ∧ n' = nn ∧ nk' = nk ∧ H'.2 = H.2) ∨ (nn < 9 ^ yT τ ∧ tc' = H.2.1 ∧ tk' = H.2.1 + 1 ∧ n' = 9 ^ yT τ ∧ nk' = 9 ^ yT τ + 9 ^ yT τ / 8 + 1 ∧ H'.2.1 = H.2.1 + 2 ∧ H'.2.2.1 = H.2.2.1 + n' + nk')) := by
  have hT5 := hp.2.1.1
  obtain ⟨z1, z2⟩ := z9 (yT τ) hT5
  have hcl := hp.fr hw hc hl hag
  have k0 : xgI H (some c) 2 0 = some (nI (yT τ)) := (cob_g hcl.1).1
  have tlt := hH _ _ e1
  have tclt := hH _ _ e2
  have s1 := (tob_p (a := 0) e1 (y := nI (yT τ))).1
  unfold F_X6_fill
  simp only [k0, s1, Option.bind_some]
  have b1 : (xup H t (tob t tc tk (nI (yT τ)) x1 x2 x3 ce)).1 t = _ := xup_at _
  have hF1 : Fr (fun q => q = t) H (xup H t (tob t tc tk (nI (yT τ)) x1 x2 x3 ce)) := Fr.u rfl
  have hw1 := hH.up (e := tob t tc tk (nI (yT τ)) x1 x2 x3 ce) e1
  generalize xup H t (tob t tc tk (nI (yT τ)) x1 x2 x3 ce) = H1 at *
  have s2 := (tob_p (a := 0) b1 (y := nI (9 ^ yT τ))).2.1
  have pw := S_power9 (N := N) (H := H1) (by omega) hT5
  simp only [(tob_g b1).1, pw, bd2_s, s2, Option.bind_some]
  have c1 : (xup H1 t (tob t tc tk (nI (yT τ)) (nI (9 ^ yT τ)) x2 x3 ce)).1 t = _ := xup_at _
  have hF2 := hF1.tr (Fr.u (P := fun q => q = t) (H := H1) (a := t) (e := tob t tc tk (nI (yT τ)) (nI (9 ^ yT τ)) x2 x3 ce) rfl)
  have hw2 := hw1.up (e := tob t tc tk (nI (yT τ)) (nI (9 ^ yT τ)) x2 x3 ce) b1
  generalize xup H1 t (tob t tc tk (nI (yT τ)) (nI (9 ^ yT τ)) x2 x3 ce) = H2 at *
  have c2 : H2.1 tc = some (aJ nn g) := (hF2.2 tc h1).trans e2
  obtain ⟨g3, e3⟩ := e3
  obtain ⟨g4, e4⟩ := e4
  obtain ⟨g5, e5⟩ := e5
  have t3lt := hH _ _ e3
  have t4lt := hH _ _ e4
  have tklt := hH _ _ e5
  have c3 : H2.1 (t + 3) = some (aI 5 g3) := (hF2.2 _ (by omega)).trans e3
  have c4 : H2.1 (t + 4) = some (aI 5 g4) := (hF2.2 _ (by omega)).trans e4
  have c5 : H2.1 tk = some (aB nk g5) := (hF2.2 _ hk1).trans e5
  have ag2 : ∀ q, c ≤ q → q < Hp.2.1 → H2.1 q = Hp.1 q := fun q q1 q2 => (hF2.2 q (by omega)).trans (hag q q1 q2)
  obtain ⟨l0, l1, l2, l5, l6, l7, lo1⟩ := tob_g c1
  simp only [l5, leJ c2, l1, Option.bind_some]
  by_cases hZ : 9 ^ yT τ ≤ nn
  · rw [if_pos (nI_le hZ (by omega))]
    obtain ⟨H', w1, w2, w3⟩ := S_fill63 hN hp hw hc hl ho (by omega) (by omega) htc h1 h2 hk1 hk2 hk3 h4 hZ hn (hnk hZ) hnk7 ag2 c1 c2 ⟨g3, c3⟩ ⟨g4, c4⟩ ⟨g5, c5⟩
    have hF := (hF2.mono (fun q hq => Or.inl hq)).tr w3
    refine ⟨H', tc, tk, nn, nk, w1, w2, ?_, by rw [hF.1], fun q q1 q2 q3 q4 => hF.2 q (by omega), Or.inl ⟨rfl, rfl, rfl, rfl, hF.1⟩⟩
    refine hH.fr hF (fun a ha => ?_)
    rcases ha with rfl | rfl | rfl
    · exact ⟨_, e1⟩
    · exact ⟨_, e2⟩
    · exact ⟨_, e3⟩
  · rw [if_neg (nI_ge (by omega) (by omega))]
    have top2 : H2.2.1 = H.2.1 := by rw [hF2.1]
    have d1 : (xnw H2 (aJ (9 ^ yT τ) (fun _ => 0)) (9 ^ yT τ)).1 t = _ := (xnw_ne (by omega)).trans c1
    have s3 := (tob_p (a := H2.2.1) d1 (y := 0)).2.2.2.1
    simp only [xnJ_n (H := H2) (show 9 ^ yT τ ≤ 1000000 by omega), s3, Option.bind_some]
    have hw3 := (hw2.nw (e := aJ (9 ^ yT τ) (fun _ => 0)) (k := 9 ^ yT τ)).up (e := tob t H2.2.1 tk (nI (yT τ)) (nI (9 ^ yT τ)) x2 x3 ce) d1
    have f1 : (xup (xnw H2 (aJ (9 ^ yT τ) (fun _ => 0)) (9 ^ yT τ)) t (tob t H2.2.1 tk (nI (yT τ)) (nI (9 ^ yT τ)) x2 x3 ce)).1 t = _ := xup_at _
    have f2 : (xup (xnw H2 (aJ (9 ^ yT τ) (fun _ => 0)) (9 ^ yT τ)) t (tob t H2.2.1 tk (nI (yT τ)) (nI (9 ^ yT τ)) x2 x3 ce)).1 H2.2.1 = some (aJ (9 ^ yT τ) (fun _ => 0)) := (xup_ne _ (by omega)).trans xnw_at
    have f3 : ∀ q, q < H2.2.1 → q ≠ t → (xup (xnw H2 (aJ (9 ^ yT τ) (fun _ => 0)) (9 ^ yT τ)) t (tob t H2.2.1 tk (nI (yT τ)) (nI (9 ^ yT τ)) x2 x3 ce)).1 q = H2.1 q := fun q q1 q2 => (xup_ne _ q2).trans (xnw_ne (by omega))
    have f4 : (xup (xnw H2 (aJ (9 ^ yT τ) (fun _ => 0)) (9 ^ yT τ)) t (tob t H2.2.1 tk (nI (yT τ)) (nI (9 ^ yT τ)) x2 x3 ce)).2 = (H2.2.1 + 1, H2.2.2.1 + 9 ^ yT τ, H2.2.2.2) := rfl
    generalize xup (xnw H2 (aJ (9 ^ yT τ) (fun _ => 0)) (9 ^ yT τ)) t (tob t H2.2.1 tk (nI (yT τ)) (nI (9 ^ yT τ)) x2 x3 ce) = H3 at *
    have top3 : H3.2.1 = H.2.1 + 1 := by rw [f4, ← top2]
    have e6 := xnI_n (H := H3) (ty := .byte) (k := 9 ^ yT τ + 9 ^ yT τ / 8 + 1) (by omega)
    have d4 : (xnw H3 (aB (9 ^ yT τ + 9 ^ yT τ / 8 + 1) (fun _ => 0)) (9 ^ yT τ + 9 ^ yT τ / 8 + 1)).1 t = _ := (xnw_ne (by omega)).trans f1
    have s4 := (tob_p (a := H3.2.1) d4 (y := 0)).2.2.2.2
    have hw4 := (hw3.nw (e := aB (9 ^ yT τ + 9 ^ yT τ / 8 + 1) (fun _ => 0)) (k := 9 ^ yT τ + 9 ^ yT τ / 8 + 1)).up (e := tob t H2.2.1 H3.2.1 (nI (yT τ)) (nI (9 ^ yT τ)) x2 x3 ce) d4
    simp only [(tob_g f1).2.1, z8 (yT τ) hT5, e6, s4, Option.bind_some]
    have g1 : (xup (xnw H3 (aB (9 ^ yT τ + 9 ^ yT τ / 8 + 1) (fun _ => 0)) (9 ^ yT τ + 9 ^ yT τ / 8 + 1)) t (tob t H2.2.1 H3.2.1 (nI (yT τ)) (nI (9 ^ yT τ)) x2 x3 ce)).1 t = _ := xup_at _
    have g2 : (xup (xnw H3 (aB (9 ^ yT τ + 9 ^ yT τ / 8 + 1) (fun _ => 0)) (9 ^ yT τ + 9 ^ yT τ / 8 + 1)) t (tob t H2.2.1 H3.2.1 (nI (yT τ)) (nI (9 ^ yT τ)) x2 x3 ce)).1 H3.2.1 = some (aB (9 ^ yT τ + 9 ^ yT τ / 8 + 1) (fun _ => 0)) := (xup_ne _ (by omega)).trans xnw_at
    have g3' : ∀ q, q < H3.2.1 → q ≠ t → (xup (xnw H3 (aB (9 ^ yT τ + 9 ^ yT τ / 8 + 1) (fun _ => 0)) (9 ^ yT τ + 9 ^ yT τ / 8 + 1)) t (tob t H2.2.1 H3.2.1 (nI (yT τ)) (nI (9 ^ yT τ)) x2 x3 ce)).1 q = H3.1 q := fun q q1 q2 => (xup_ne _ q2).trans (xnw_ne (by omega))
    have g4' : (xup (xnw H3 (aB (9 ^ yT τ + 9 ^ yT τ / 8 + 1) (fun _ => 0)) (9 ^ yT τ + 9 ^ yT τ / 8 + 1)) t (tob t H2.2.1 H3.2.1 (nI (yT τ)) (nI (9 ^ yT τ)) x2 x3 ce)).2 = (H3.2.1 + 1, H3.2.2.1 + (9 ^ yT τ + 9 ^ yT τ / 8 + 1), H3.2.2.2) := rfl
    generalize xup (xnw H3 (aB (9 ^ yT τ + 9 ^ yT τ / 8 + 1) (fun _ => 0)) (9 ^ yT τ + 9 ^ yT τ / 8 + 1)) t (tob t H2.2.1 H3.2.1 (nI (yT τ)) (nI (9 ^ yT τ)) x2 x3 ce) = H5 at *
    have old : ∀ q, q < H.2.1 → q ≠ t → H5.1 q = H.1 q := fun q q1 q2 => (g3' q (by omega) q2).trans ((f3 q (by omega) q2).trans (hF2.2 q q2))
    obtain ⟨H', w1, w2, w3⟩ := S_fill63 (tc := H2.2.1) (tk := H3.2.1) (nn := 9 ^ yT τ) (nk := 9 ^ yT τ + 9 ^ yT τ / 8 + 1) hN hp hw hc hl ho (by omega) (by omega) (by omega) (by omega) (by omega) (by omega) (by omega) (by omega) (by omega) (Nat.le_refl _) z1 (Nat.le_refl _) z2 (x2 := x2) (x3 := x3) (ce := ce) (fun q q1 q2 => (old q (by omega) (by omega)).trans (hag q q1 q2)) g1 ((g3' _ (by omega) (by omega)).trans f2) ⟨g3, (old _ (by omega) (by omega)).trans e3⟩ ⟨g4, (old _ (by omega) (by omega)).trans e4⟩ ⟨_, g2⟩
    have hF3 : H3.2.2.1 = H.2.2.1 + 9 ^ yT τ := by rw [f4, hF2.1]
    refine ⟨H', H2.2.1, H3.2.1, _, _, w1, w2, ?_, ?_, fun q q1 q2 q3 q4 => (w3.2 q (by omega)).trans (old q q1 q2), Or.inr ⟨by omega, top2, by omega, rfl, rfl, ?_, ?_⟩⟩
    · refine hw4.fr w3 (fun a ha => ?_)
      rcases ha with rfl | rfl | rfl
      · exact ⟨_, g1⟩
      · exact ⟨_, (g3' _ (by omega) (by omega)).trans f2⟩
      · exact ⟨_, (old _ (by omega) (by omega)).trans e3⟩
    · rw [w3.1, g4', f4, hF2.1]
    · rw [w3.1, g4']; show H3.2.1 + 1 = _; omega
    · rw [w3.1, g4']; show H3.2.2.1 + (9 ^ yT τ + 9 ^ yT τ / 8 + 1) = _; omega
/-- the ledger of a book just taken -/
def bl (ci a : Nat) (C : Nat → xE) (fs : List Value) (H0 H : xH) (k s : Nat) : Prop := H.1 a = some (ob ci fs) ∧ H.2.1 = a + k ∧ H.2.2.1 = H0.2.2.1 + s ∧ H.2.2.2 = H0.2.2.2 ∧ hW H ∧ (∀ q, q < a → H.1 q = H0.1 q) ∧ ∀ i, 1 ≤ i → i < k → H.1 (a + i) = some (C i)
variable {ci a k s z j : Nat} {C : Nat → xE} {fs : List Value} {H0 : xH}
theorem bl.new (hw : hW H) : bl ci H.2.1 C fs H (xnw H (ob ci fs) z) 1 z := ⟨xnw_at, rfl, rfl, rfl, hw.nw, fun q hq => xnw_ne (by omega), fun i i1 i2 => by omega⟩
theorem bl.st (h : bl ci a C fs H0 H k s) (hk : 1 ≤ k) (hj : j < fs.length) : ∃ H2, xpA (xnw H (C k) z) (some a) ci j (some H.2.1) = some H2 ∧ bl ci a C (fs.set j (va_rf (some (a + k)))) H0 H2 (k + 1) (s + z) := by
  obtain ⟨h1, h2, h3, h4, h5, h6, h7⟩ := h
  have e1 : (xnw H (C k) z).1 a = some (ob ci fs) := (xnw_ne (by omega)).trans h1
  refine ⟨xup (xnw H (C k) z) a (ob ci (fs.set j (va_rf (some H.2.1)))), by unfold xpA; rw [pV e1 hj], ?_, ?_, ?_, ?_, (h5.nw).up e1, fun q hq => (xup_ne _ (by omega)).trans ((xnw_ne (by omega)).trans (h6 q hq)), fun i i1 i2 => ?_⟩
  · rw [xup_at, h2]
  · show H.2.1 + 1 = _; omega
  · show H.2.2.1 + z = _; omega
  · exact h4
  · rw [xup_ne _ (by omega)]
    by_cases e : i = k
    · rw [e, ← h2, xnw_at]
    · rw [xnw_ne (by omega)]; exact h7 i i1 (by omega)
theorem bl.int (h : bl ci a C fs H0 H k s) {x : Int32} (hk : 1 ≤ k) (hj : j < fs.length) : ∃ H2, xpI H (some a) ci j x = some H2 ∧ bl ci a C (fs.set j (.int x)) H0 H2 k s := by
  obtain ⟨h1, h2, h3, h4, h5, h6, h7⟩ := h
  refine ⟨xup H a (ob ci (fs.set j (.int x))), by unfold xpI; rw [pV h1 hj], xup_at _, h2, h3, h4, h5.up h1, fun q hq => (xup_ne _ (by omega)).trans (h6 q hq), fun i i1 i2 => (xup_ne _ (by omega)).trans (h7 i i1 i2)⟩
/-- an object made apart is laid into a field -/
theorem bl.sub (h : bl ci a C fs H0 H k s) {ci2 n z2 : Nat} {C2 : Nat → xE} {fs2 : List Value} {H1 : xH} (h2 : bl ci2 H.2.1 C2 fs2 H H1 n z2) (hk : 1 ≤ k) (hj : j < fs.length) (hE : C k = ob ci2 fs2) (hC : ∀ i, 1 ≤ i → i < n → C (k + i) = C2 i) : ∃ H2, xpA H1 (some a) ci j (some H.2.1) = some H2 ∧ bl ci a C (fs.set j (va_rf (some (a + k)))) H0 H2 (k + n) (s + z2) := by
  obtain ⟨h1, e2, h3, h4, h5, h6, h7⟩ := h
  obtain ⟨g1, g2, g3, g4, g5, g6, g7⟩ := h2
  have e1 : H1.1 a = some (ob ci fs) := (g6 a (by omega)).trans h1
  refine ⟨xup H1 a (ob ci (fs.set j (va_rf (some H.2.1)))), by unfold xpA; rw [pV e1 hj], ?_, ?_, ?_, ?_, g5.up e1, fun q hq => (xup_ne _ (by omega)).trans ((g6 q (by omega)).trans (h6 q hq)), fun i i1 i2 => ?_⟩
  · rw [xup_at, e2]
  · show H1.2.1 = _; omega
  · show H1.2.2.1 = _; omega
  · exact g4.trans h4
  · rw [xup_ne _ (by omega)]
    rcases Nat.lt_trichotomy i k with q | q | q
    · rw [g6 _ (by omega)]; exact h7 i i1 q
    · rw [q, hE, ← e2]; exact g1
    · have := hC (i - k) (by omega) (by omega)
      rw [show k + (i - k) = i by omega] at this
      rw [this, show a + i = H.2.1 + (i - k) by omega]
      exact g7 _ (by omega) (by omega)
theorem xnoE {ci z : Nat} {fs : List Value} {X : xH} : xno ci z fs X = xnw X (ob ci fs) z := rfl
theorem x_ltS {α γ : Type} (u : α) (f : α → Option γ) : x_lt u f = f u := rfl
def bC8 : Nat → xE := fun i => match i with
  | 1 => aI 1201 (fun _ => 0)
  | 2 => aI 1201 (fun _ => 0)
  | _ => aJ 1201 (fun _ => 0)
theorem B_8 (hw : hW H) : ∃ H', F_X8_init N (some H.2.1) (xnw H (ob 8 xdf_8) 4) = some H' ∧ bl 8 H.2.1 bC8 [va_rf (some (H.2.1 + 1)), va_rf (some (H.2.1 + 2)), va_rf (some (H.2.1 + 3)), .int 0] H H' 4 3607 := by
  have n1 : bl 8 H.2.1 bC8 xdf_8 H (xnw H (ob 8 xdf_8) 4) 1 4 := bl.new hw
  generalize xnw H (ob 8 xdf_8) 4 = H1 at *
  obtain ⟨H2, e2, n2⟩ := n1.st (z := 1201) (j := 0) (by decide) (by simp [xdf_8])
  have a1 : xnI .int H1 (1201 : Int32) = some (xnw H1 (bC8 1) 1201) := rfl
  obtain ⟨H3, e3, n3⟩ := n2.st (z := 1201) (j := 1) (by decide) (by simp [xdf_8])
  have a2 : xnI .int H2 (1201 : Int32) = some (xnw H2 (bC8 2) 1201) := rfl
  obtain ⟨H4, e4, n4⟩ := n3.st (z := 1201) (j := 2) (by decide) (by simp [xdf_8])
  have a3 : xnJ H3 (1201 : Int32) = some (xnw H3 (bC8 3) 1201) := rfl
  refine ⟨H4, ?_, n4⟩
  unfold F_X8_init
  simp only [a1, e2, a2, e3, a3, e4, Option.bind_some]
def bC6 : Nat → xE := fun i => match i with
  | 1 => aJ 0 (fun _ => 0)
  | 2 => aB 0 (fun _ => 0)
  | 3 => aI 5 (fun _ => 0)
  | _ => aI 5 (fun _ => 0)
theorem B_6 (hw : hW H) : ∃ H', F_X6_init N (some H.2.1) (xnw H (ob 6 xdf_6) 9) = some H' ∧ bl 6 H.2.1 bC6 [.int 0, .int 0, .int 0, .int 0, .long 0, va_rf (some (H.2.1 + 1)), va_rf (some (H.2.1 + 2)), va_rf (some (H.2.1 + 3)), va_rf (some (H.2.1 + 4))] H H' 5 19 := by
  have n1 : bl 6 H.2.1 bC6 xdf_6 H (xnw H (ob 6 xdf_6) 9) 1 9 := bl.new hw
  generalize xnw H (ob 6 xdf_6) 9 = H1 at *
  obtain ⟨H2, e2, n2⟩ := n1.st (z := 0) (j := 5) (by decide) (by simp [xdf_6])
  have a1 : xnJ H1 (0 : Int32) = some (xnw H1 (bC6 1) 0) := rfl
  obtain ⟨H3, e3, n3⟩ := n2.st (z := 0) (j := 6) (by decide) (by simp [xdf_6])
  have a2 : xnI .byte H2 (0 : Int32) = some (xnw H2 (bC6 2) 0) := rfl
  obtain ⟨H4, e4, n4⟩ := n3.st (z := 5) (j := 7) (by decide) (by simp [xdf_6])
  have a3 : xnI .int H3 (5 : Int32) = some (xnw H3 (bC6 3) 5) := rfl
  obtain ⟨H5, e5, n5⟩ := n4.st (z := 5) (j := 8) (by decide) (by simp [xdf_6])
  have a4 : xnI .int H4 (5 : Int32) = some (xnw H4 (bC6 4) 5) := rfl
  refine ⟨H5, ?_, n5⟩
  unfold F_X6_init
  simp only [a1, e2, a2, e3, a3, e4, a4, e5, Option.bind_some]
def bC4 : Nat → xE := fun i => match i with
  | 1 => aI 5 (fun _ => 0)
  | 2 => aI 24 (fun _ => 0)
  | _ => aI 6 (fun _ => 0)
theorem B_4 (hw : hW H) : ∃ H', F_X4_init N (some H.2.1) (xnw H (ob 4 xdf_4) 5) = some H' ∧ bl 4 H.2.1 bC4 [.int 0, .int 0, va_rf (some (H.2.1 + 1)), va_rf (some (H.2.1 + 2)), va_rf (some (H.2.1 + 3))] H H' 4 40 := by
  have n1 : bl 4 H.2.1 bC4 xdf_4 H (xnw H (ob 4 xdf_4) 5) 1 5 := bl.new hw
  generalize xnw H (ob 4 xdf_4) 5 = H1 at *
  obtain ⟨H2, e2, n2⟩ := n1.st (z := 5) (j := 2) (by decide) (by simp [xdf_4])
  have a1 : xnI .int H1 (5 : Int32) = some (xnw H1 (bC4 1) 5) := rfl
  obtain ⟨H3, e3, n3⟩ := n2.st (z := 24) (j := 3) (by decide) (by simp [xdf_4])
  have a2 : xnI .int H2 (24 : Int32) = some (xnw H2 (bC4 2) 24) := rfl
  obtain ⟨H4, e4, n4⟩ := n3.st (z := 6) (j := 4) (by decide) (by simp [xdf_4])
  have a3 : xnI .int H3 (6 : Int32) = some (xnw H3 (bC4 3) 6) := rfl
  refine ⟨H4, ?_, n4⟩
  unfold F_X4_init
  simp only [a1, e2, a2, e3, a3, e4, Option.bind_some]
def bC5 : Nat → xE := fun i => match i with
  | _ => aI 45 (fun _ => 0)
theorem B_5 (hw : hW H) : ∃ H', F_X5_init N (some H.2.1) (xnw H (ob 5 xdf_5) 1) = some H' ∧ bl 5 H.2.1 bC5 [va_rf (some (H.2.1 + 1))] H H' 2 46 := by
  have n1 : bl 5 H.2.1 bC5 xdf_5 H (xnw H (ob 5 xdf_5) 1) 1 1 := bl.new hw
  generalize xnw H (ob 5 xdf_5) 1 = H1 at *
  obtain ⟨H2, e2, n2⟩ := n1.st (z := 45) (j := 0) (by decide) (by simp [xdf_5])
  have a1 : xnI .int H1 (45 : Int32) = some (xnw H1 (bC5 1) 45) := rfl
  refine ⟨H2, ?_, n2⟩
  unfold F_X5_init
  simp only [a1, e2, Option.bind_some]
def bC3 : Nat → xE := fun i => match i with
  | _ => aI 60 (fun _ => 0)
theorem B_3 (hw : hW H) : ∃ H', F_X3_init N (some H.2.1) (xnw H (ob 3 xdf_3) 1) = some H' ∧ bl 3 H.2.1 bC3 [va_rf (some (H.2.1 + 1))] H H' 2 61 := by
  have n1 : bl 3 H.2.1 bC3 xdf_3 H (xnw H (ob 3 xdf_3) 1) 1 1 := bl.new hw
  generalize xnw H (ob 3 xdf_3) 1 = H1 at *
  obtain ⟨H2, e2, n2⟩ := n1.st (z := 60) (j := 0) (by decide) (by simp [xdf_3])
  have a1 : xnI .int H1 (60 : Int32) = some (xnw H1 (bC3 1) 60) := rfl
  refine ⟨H2, ?_, n2⟩
  unfold F_X3_init
  simp only [a1, e2, Option.bind_some]
def bC9 : Nat → xE := fun i => match i with
  | 1 => aQ "BettingBook$Bet" 6 (fun _ => none)
  | 2 => aI 6 (fun _ => 0)
  | _ => aJ 0 (fun _ => 0)
theorem B_9 (hw : hW H) : ∃ H', F_X9_init N (some H.2.1) (xnw H (ob 9 xdf_9) 7) = some H' ∧ bl 9 H.2.1 bC9 [va_rf (some (H.2.1 + 1)), va_rf (some (H.2.1 + 2)), .int 0, va_rf (some (H.2.1 + 3)), .int 0, .int 0, .int 0] H H' 4 19 := by
  have n1 : bl 9 H.2.1 bC9 xdf_9 H (xnw H (ob 9 xdf_9) 7) 1 7 := bl.new hw
  generalize xnw H (ob 9 xdf_9) 7 = H1 at *
  obtain ⟨H2, e2, n2⟩ := n1.st (z := 6) (j := 0) (by decide) (by simp [xdf_9])
  have a1 : xnA (.object "BettingBook$Bet") H1 (6 : Int32) = some (xnw H1 (bC9 1) 6) := rfl
  obtain ⟨H3, e3, n3⟩ := n2.st (z := 6) (j := 1) (by decide) (by simp [xdf_9])
  have a2 : xnI .int H2 (6 : Int32) = some (xnw H2 (bC9 2) 6) := rfl
  obtain ⟨H4, e4, n4⟩ := n3.st (z := 0) (j := 3) (by decide) (by simp [xdf_9])
  have a3 : xnJ H3 (0 : Int32) = some (xnw H3 (bC9 3) 0) := rfl
  refine ⟨H4, ?_, n4⟩
  unfold F_X9_init
  simp only [a1, e2, a2, e3, a3, e4, Option.bind_some]
