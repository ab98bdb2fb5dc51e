/-! PURE: the class's table anew, its ledger anew. -/
variable {stf : Nat → Nat} {N K b m : Nat} {β : sB} {δ : sD} {H : xH}
variable {c lo : Nat} {τ : tS} {ad : Nat → Nat} {t tc tk nn nk : Nat}
theorem S_fil {a k : Nat} {g : Nat → Int32} {x : Int32} (h : H.1 a = some (aI k g)) (hk : k < N) (h31 : k < 2 ^ 31) : F_J7_fill_53178 N (some a) x H = some (xup H a (aI k (fun j => if 0 ≤ j ∧ j < k then x else g j))) := by
  unfold F_J7_fill_53178
  rw [leI h]
  simp only [Option.bind_some]
  exact S_fill x h31 N 0 H g h (Nat.zero_le _) (by omega)
theorem xnJ_n {k : Nat} (hk : k ≤ 1000000) : xnJ H (nI k) = some (xnw H (aJ k (fun _ => 0)) k) := by
  unfold xnJ
  rw [nI_clamp (by omega), if_pos ⟨nI_pos (by omega), hk⟩]
theorem xnI_n {ty : FieldType} {k : Nat} (hk : k ≤ 1000000) : xnI ty H (nI k) = some (xnw H (true, .inl (ty, k, .inl (fun _ => 0))) k) := by
  unfold xnI
  rw [nI_clamp (by omega), if_pos ⟨nI_pos (by omega), hk⟩]
theorem z8 : ∀ s, s ≤ 5 → (nI (9 ^ s) + nI (9 ^ s) / (8 : Int32)) + (1 : Int32) = nI (9 ^ s + 9 ^ s / 8 + 1) := by decide +kernel
theorem z9 : ∀ s, s ≤ 5 → 9 ^ s ≤ 59049 ∧ 9 ^ s + 9 ^ s / 8 + 1 ≤ 70000 := by decide +kernel
theorem S_fill63 (hN : 59049 < N) {Hp : xH} (hp : cL N c lo τ ad Hp) (hw : hW Hp) (hc : c + 8 < lo) (hl : lo ≤ Hp.2.1) (ho : yOk τ) (ht : ¬ (c ≤ t ∧ t < Hp.2.1)) (ht3 : ¬ (c ≤ t + 3 ∧ t + 3 < Hp.2.1)) (htc : ¬ (c ≤ tc ∧ tc < Hp.2.1)) (h1 : tc ≠ t) (h2 : tc ≠ t + 3) (hk1 : tk ≠ t) (hk2 : tk ≠ t + 3) (hk3 : tk ≠ tc) (h4 : tc ≠ t + 4) (hZ : 9 ^ yT τ ≤ nn) (hn : nn ≤ 59049) (hnk : 9 ^ yT τ + 9 ^ yT τ / 8 + 1 ≤ nk) (hnk7 : nk ≤ 70000) {x2 x3 : Int32} {ce : Int64} {g : Nat → Int64} (hag : ∀ q, c ≤ q → q < Hp.2.1 → H.1 q = Hp.1 q) (e1 : H.1 t = some (tob t tc tk (nI (yT τ)) (nI (9 ^ yT τ)) x2 x3 ce)) (e2 : H.1 tc = some (aJ nn g)) (e3 : ∃ g, H.1 (t + 3) = some (aI 5 g)) (e4 : ∃ g, H.1 (t + 4) = some (aI 5 g)) (e5 : ∃ g, H.1 tk = some (aB nk g)) : ∃ H', F_X6_fill_J63 N (some t) (some c) H = some H' ∧ xTw t tc tk nn nk (bet τ) H' ∧ Fr (fun q => q = t ∨ q = tc ∨ q = t + 3) H H' := by
  obtain ⟨g3, e3⟩ := e3
  obtain ⟨g4, e4⟩ := e4
  obtain ⟨g5, e5⟩ := e5
  have st := (tob_p (a := 0) e1 (y := 0)).2.2.1
  have b1 : (xup H t (tob t tc tk (nI (yT τ)) (nI (9 ^ yT τ)) 0 x3 ce)).1 t = some (tob t tc tk (nI (yT τ)) (nI (9 ^ yT τ)) 0 x3 ce) := xup_at _
  have b2 : (xup H t (tob t tc tk (nI (yT τ)) (nI (9 ^ yT τ)) 0 x3 ce)).1 tc = some (aJ nn g) := (xup_ne _ h1).trans e2
  have b3 : (xup H t (tob t tc tk (nI (yT τ)) (nI (9 ^ yT τ)) 0 x3 ce)).1 (t + 3) = some (aI 5 g3) := (xup_ne _ (by omega)).trans e3
  have hF1 : Fr (fun q => q = t ∨ q = tc ∨ q = t + 3) H (xup H t (tob t tc tk (nI (yT τ)) (nI (9 ^ yT τ)) 0 x3 ce)) := Fr.u (Or.inl rfl)
  unfold F_X6_fill_J63
  simp only [st, Option.bind_some]
  generalize xup H t (tob t tc tk (nI (yT τ)) (nI (9 ^ yT τ)) 0 x3 ce) = H1 at *
  have sf := S_fil (N := N) (x := 0) b3 (by omega) (by decide)
  have c1 : (xup H1 (t + 3) (aI 5 (fun j => if 0 ≤ j ∧ j < 5 then 0 else g3 j))).1 t = _ := (xup_ne _ (by omega)).trans b1
  have c2 : (xup H1 (t + 3) (aI 5 (fun j => if 0 ≤ j ∧ j < 5 then 0 else g3 j))).1 tc = _ := (xup_ne _ h2).trans b2
  have c3 : dgs (t + 3) (dig 0) (xup H1 (t + 3) (aI 5 (fun j => if 0 ≤ j ∧ j < 5 then 0 else g3 j))) := ⟨_, xup_at _, fun j hj => ⟨by rw [if_pos ⟨Nat.zero_le _, hj⟩, dig_zero]; rfl, dig_lt _ _⟩⟩
  have hF2 := hF1.tr (Fr.u (P := fun q => q = t ∨ q = tc ∨ q = t + 3) (H := H1) (a := t + 3) (e := aI 5 (fun j => if 0 ≤ j ∧ j < 5 then 0 else g3 j)) (Or.inr (Or.inr rfl)))
  simp only [(tob_g b1).2.2.2.2.2.1, sf, Option.bind_some]
  generalize xup H1 (t + 3) (aI 5 (fun j => if 0 ≤ j ∧ j < 5 then 0 else g3 j)) = H2 at *
  obtain ⟨H', g', w1, w2, w3, w4, w5, w6⟩ := S_fillL hN hp hw hc hl ho ht ht3 htc h1 h2 hZ hn (x3 := x3) (ce := ce) N 0 (Nat.zero_le _) (by omega) H2 g (fun q q1 q2 => (hF2.2 q (fun z => by
    rcases z with z | z | z
    · exact ht (by omega)
    · exact htc (by omega)
    · exact ht3 (by omega))).trans (hag q q1 q2)) c1 c2 (fun j hj => by omega) c3
  have hF := hF2.tr w6
  refine ⟨H', w1, ⟨⟨x3, ce, w2⟩, ⟨g', w3, w4⟩, hZ, hn, ⟨g5, (hF.2 tk (by omega)).trans e5⟩, hnk, hnk7, w5, ⟨g4, (hF.2 (t + 4) (by omega)).trans e4⟩⟩, hF⟩
/-- the table is made -/
theorem S_fillA (hN : 59049 < N) {Hp : xH} (hp : cL N c lo τ ad Hp) (hw : hW Hp) (hc : c + 8 < lo) (hl : lo ≤ Hp.2.1) (ho : yOk τ) (ht : t + 5 ≤ c) (htc : ¬ (c ≤ tc ∧ tc < Hp.2.1)) (h1 : tc ≠ t) (h2 : tc ≠ t + 3) (hk1 : tk ≠ t) (hk2 : tk ≠ t + 3) (hk3 : tk ≠ tc) (h4 : tc ≠ t + 4) (hn : nn ≤ 59049) (hnk : 9 ^ yT τ ≤ nn → 9 ^ yT τ + 9 ^ yT τ / 8 + 1 ≤ nk) (hnk7 : nk ≤ 70000) {x0 x1 x2 x3 : Int32} {ce : Int64} {g : Nat → Int64} (hH : hW H) (htop : Hp.2.1 ≤ H.2.1) (hag : ∀ q, c ≤ q → q < Hp.2.1 → H.1 q = Hp.1 q) (e1 : H.1 t = some (tob t tc tk x0 x1 x2 x3 ce)) (e2 : H.1 tc = some (aJ nn g)) (e3 : ∃ g, H.1 (t + 3) = some (aI 5 g)) (e4 : ∃ g, H.1 (t + 4) = some (aI 5 g)) (e5 : ∃ g, H.1 tk = some (aB nk g)) : ∃ (H' : xH) (tc' tk' n' nk' : Nat), F_X6_fill N (some t) (some c) H = some H' ∧ xTw t tc' tk' n' nk' (bet τ) H' ∧ hW H' ∧ H'.2.2.2 = H.2.2.2 ∧ (∀ q, q < H.2.1 → q ≠ t → q ≠ t + 3 → q ≠ tc → H'.1 q = H.1 q) ∧ ((tc' = tc ∧ tk' = tk ∧ n' = nn ∧ nk' = nk ∧ H'.2 = H.2) ∨ (nn < 9 ^ yT τ ∧ tc' = H.2.1 ∧ tk' = H.2.1 + 1 ∧ n' = 9 ^ yT τ ∧ nk' = 9 ^ yT τ + 9 ^ yT τ / 8 + 1 ∧ H'.2.1 = H.2.1 + 2 ∧ H'.2.2.1 = H.2.2.1 + n' + nk')) := by
  have hT5 := hp.2.1.1
  obtain ⟨z1, z2⟩ := z9 (yT τ) hT5
  have hcl := hp.fr hw hc hl hag
  have k0 : xgI H (some c) 2 0 = some (nI (yT τ)) := (cob_g hcl.1).1
  have tlt := hH _ _ e1
  have tclt := hH _ _ e2
  have s1 := (tob_p (a := 0) e1 (y := nI (yT τ))).1
  unfold F_X6_fill
  simp only [k0, s1, Option.bind_some]
  have b1 : (xup H t (tob t tc tk (nI (yT τ)) x1 x2 x3 ce)).1 t = _ := xup_at _
  have hF1 : Fr (fun q => q = t) H (xup H t (tob t tc tk (nI (yT τ)) x1 x2 x3 ce)) := Fr.u rfl
  have hw1 := hH.up (e := tob t tc tk (nI (yT τ)) x1 x2 x3 ce) e1
  generalize xup H t (tob t tc tk (nI (yT τ)) x1 x2 x3 ce) = H1 at *
  have s2 := (tob_p (a := 0) b1 (y := nI (9 ^ yT τ))).2.1
  have pw := S_power9 (N := N) (H := H1) (by omega) hT5
  simp only [(tob_g b1).1, pw, bd2_s, s2, Option.bind_some]
  have c1 : (xup H1 t (tob t tc tk (nI (yT τ)) (nI (9 ^ yT τ)) x2 x3 ce)).1 t = _ := xup_at _
  have hF2 := hF1.tr (Fr.u (P := fun q => q = t) (H := H1) (a := t) (e := tob t tc tk (nI (yT τ)) (nI (9 ^ yT τ)) x2 x3 ce) rfl)
  have hw2 := hw1.up (e := tob t tc tk (nI (yT τ)) (nI (9 ^ yT τ)) x2 x3 ce) b1
  generalize xup H1 t (tob t tc tk (nI (yT τ)) (nI (9 ^ yT τ)) x2 x3 ce) = H2 at *
  have c2 : H2.1 tc = some (aJ nn g) := (hF2.2 tc h1).trans e2
  obtain ⟨g3, e3⟩ := e3
  obtain ⟨g4, e4⟩ := e4
  obtain ⟨g5, e5⟩ := e5
  have t3lt := hH _ _ e3
  have t4lt := hH _ _ e4
  have tklt := hH _ _ e5
  have c3 : H2.1 (t + 3) = some (aI 5 g3) := (hF2.2 _ (by omega)).trans e3
  have c4 : H2.1 (t + 4) = some (aI 5 g4) := (hF2.2 _ (by omega)).trans e4
  have c5 : H2.1 tk = some (aB nk g5) := (hF2.2 _ hk1).trans e5
  have ag2 : ∀ q, c ≤ q → q < Hp.2.1 → H2.1 q = Hp.1 q := fun q q1 q2 => (hF2.2 q (by omega)).trans (hag q q1 q2)
  obtain ⟨l0, l1, l2, l5, l6, l7, lo1⟩ := tob_g c1
  simp only [l5, leJ c2, l1, Option.bind_some]
  by_cases hZ : 9 ^ yT τ ≤ nn
  · rw [if_pos (nI_le hZ (by omega))]
    obtain ⟨H', w1, w2, w3⟩ := S_fill63 hN hp hw hc hl ho (by omega) (by omega) htc h1 h2 hk1 hk2 hk3 h4 hZ hn (hnk hZ) hnk7 ag2 c1 c2 ⟨g3, c3⟩ ⟨g4, c4⟩ ⟨g5, c5⟩
    have hF := (hF2.mono (fun q hq => Or.inl hq)).tr w3
    refine ⟨H', tc, tk, nn, nk, w1, w2, ?_, by rw [hF.1], fun q q1 q2 q3 q4 => hF.2 q (by omega), Or.inl ⟨rfl, rfl, rfl, rfl, hF.1⟩⟩
    refine hH.fr hF (fun a ha => ?_)
    rcases ha with rfl | rfl | rfl
    · exact ⟨_, e1⟩
    · exact ⟨_, e2⟩
    · exact ⟨_, e3⟩
  · rw [if_neg (nI_ge (by omega) (by omega))]
    have top2 : H2.2.1 = H.2.1 := by rw [hF2.1]
    have d1 : (xnw H2 (aJ (9 ^ yT τ) (fun _ => 0)) (9 ^ yT τ)).1 t = _ := (xnw_ne (by omega)).trans c1
    have s3 := (tob_p (a := H2.2.1) d1 (y := 0)).2.2.2.1
    simp only [xnJ_n (H := H2) (show 9 ^ yT τ ≤ 1000000 by omega), s3, Option.bind_some]
    have hw3 := (hw2.nw (e := aJ (9 ^ yT τ) (fun _ => 0)) (k := 9 ^ yT τ)).up (e := tob t H2.2.1 tk (nI (yT τ)) (nI (9 ^ yT τ)) x2 x3 ce) d1
    have f1 : (xup (xnw H2 (aJ (9 ^ yT τ) (fun _ => 0)) (9 ^ yT τ)) t (tob t H2.2.1 tk (nI (yT τ)) (nI (9 ^ yT τ)) x2 x3 ce)).1 t = _ := xup_at _
    have f2 : (xup (xnw H2 (aJ (9 ^ yT τ) (fun _ => 0)) (9 ^ yT τ)) t (tob t H2.2.1 tk (nI (yT τ)) (nI (9 ^ yT τ)) x2 x3 ce)).1 H2.2.1 = some (aJ (9 ^ yT τ) (fun _ => 0)) := (xup_ne _ (by omega)).trans xnw_at
    have f3 : ∀ q, q < H2.2.1 → q ≠ t → (xup (xnw H2 (aJ (9 ^ yT τ) (fun _ => 0)) (9 ^ yT τ)) t (tob t H2.2.1 tk (nI (yT τ)) (nI (9 ^ yT τ)) x2 x3 ce)).1 q = H2.1 q := fun q q1 q2 => (xup_ne _ q2).trans (xnw_ne (by omega))
    have f4 : (xup (xnw H2 (aJ (9 ^ yT τ) (fun _ => 0)) (9 ^ yT τ)) t (tob t H2.2.1 tk (nI (yT τ)) (nI (9 ^ yT τ)) x2 x3 ce)).2 = (H2.2.1 + 1, H2.2.2.1 + 9 ^ yT τ, H2.2.2.2) := rfl
    generalize xup (xnw H2 (aJ (9 ^ yT τ) (fun _ => 0)) (9 ^ yT τ)) t (tob t H2.2.1 tk (nI (yT τ)) (nI (9 ^ yT τ)) x2 x3 ce) = H3 at *
    have top3 : H3.2.1 = H.2.1 + 1 := by rw [f4, ← top2]
    have e6 := xnI_n (H := H3) (ty := .byte) (k := 9 ^ yT τ + 9 ^ yT τ / 8 + 1) (by omega)
    have d4 : (xnw H3 (aB (9 ^ yT τ + 9 ^ yT τ / 8 + 1) (fun _ => 0)) (9 ^ yT τ + 9 ^ yT τ / 8 + 1)).1 t = _ := (xnw_ne (by omega)).trans f1
    have s4 := (tob_p (a := H3.2.1) d4 (y := 0)).2.2.2.2
    have hw4 := (hw3.nw (e := aB (9 ^ yT τ + 9 ^ yT τ / 8 + 1) (fun _ => 0)) (k := 9 ^ yT τ + 9 ^ yT τ / 8 + 1)).up (e := tob t H2.2.1 H3.2.1 (nI (yT τ)) (nI (9 ^ yT τ)) x2 x3 ce) d4
    simp only [(tob_g f1).2.1, z8 (yT τ) hT5, e6, s4, Option.bind_some]
    have g1 : (xup (xnw H3 (aB (9 ^ yT τ + 9 ^ yT τ / 8 + 1) (fun _ => 0)) (9 ^ yT τ + 9 ^ yT τ / 8 + 1)) t (tob t H2.2.1 H3.2.1 (nI (yT τ)) (nI (9 ^ yT τ)) x2 x3 ce)).1 t = _ := xup_at _
    have g2 : (xup (xnw H3 (aB (9 ^ yT τ + 9 ^ yT τ / 8 + 1) (fun _ => 0)) (9 ^ yT τ + 9 ^ yT τ / 8 + 1)) t (tob t H2.2.1 H3.2.1 (nI (yT τ)) (nI (9 ^ yT τ)) x2 x3 ce)).1 H3.2.1 = some (aB (9 ^ yT τ + 9 ^ yT τ / 8 + 1) (fun _ => 0)) := (xup_ne _ (by omega)).trans xnw_at
    have g3' : ∀ q, q < H3.2.1 → q ≠ t → (xup (xnw H3 (aB (9 ^ yT τ + 9 ^ yT τ / 8 + 1) (fun _ => 0)) (9 ^ yT τ + 9 ^ yT τ / 8 + 1)) t (tob t H2.2.1 H3.2.1 (nI (yT τ)) (nI (9 ^ yT τ)) x2 x3 ce)).1 q = H3.1 q := fun q q1 q2 => (xup_ne _ q2).trans (xnw_ne (by omega))
    have g4' : (xup (xnw H3 (aB (9 ^ yT τ + 9 ^ yT τ / 8 + 1) (fun _ => 0)) (9 ^ yT τ + 9 ^ yT τ / 8 + 1)) t (tob t H2.2.1 H3.2.1 (nI (yT τ)) (nI (9 ^ yT τ)) x2 x3 ce)).2 = (H3.2.1 + 1, H3.2.2.1 + (9 ^ yT τ + 9 ^ yT τ / 8 + 1), H3.2.2.2) := rfl
    generalize xup (xnw H3 (aB (9 ^ yT τ + 9 ^ yT τ / 8 + 1) (fun _ => 0)) (9 ^ yT τ + 9 ^ yT τ / 8 + 1)) t (tob t H2.2.1 H3.2.1 (nI (yT τ)) (nI (9 ^ yT τ)) x2 x3 ce) = H5 at *
    have old : ∀ q, q < H.2.1 → q ≠ t → H5.1 q = H.1 q := fun q q1 q2 => (g3' q (by omega) q2).trans ((f3 q (by omega) q2).trans (hF2.2 q q2))
    obtain ⟨H', w1, w2, w3⟩ := S_fill63 (tc := H2.2.1) (tk := H3.2.1) (nn := 9 ^ yT τ) (nk := 9 ^ yT τ + 9 ^ yT τ / 8 + 1) hN hp hw hc hl ho (by omega) (by omega) (by omega) (by omega) (by omega) (by omega) (by omega) (by omega) (by omega) (Nat.le_refl _) z1 (Nat.le_refl _) z2 (x2 := x2) (x3 := x3) (ce := ce) (fun q q1 q2 => (old q (by omega) (by omega)).trans (hag q q1 q2)) g1 ((g3' _ (by omega) (by omega)).trans f2) ⟨g3, (old _ (by omega) (by omega)).trans e3⟩ ⟨g4, (old _ (by omega) (by omega)).trans e4⟩ ⟨_, g2⟩
    have hF3 : H3.2.2.1 = H.2.2.1 + 9 ^ yT τ := by rw [f4, hF2.1]
    refine ⟨H', H2.2.1, H3.2.1, _, _, w1, w2, ?_, ?_, fun q q1 q2 q3 q4 => (w3.2 q (by omega)).trans (old q q1 q2), Or.inr ⟨by omega, top2, by omega, rfl, rfl, ?_, ?_⟩⟩
    · refine hw4.fr w3 (fun a ha => ?_)
      rcases ha with rfl | rfl | rfl
      · exact ⟨_, g1⟩
      · exact ⟨_, (g3' _ (by omega) (by omega)).trans f2⟩
      · exact ⟨_, (old _ (by omega) (by omega)).trans e3⟩
    · rw [w3.1, g4', f4, hF2.1]
    · rw [w3.1, g4']; show H3.2.1 + 1 = _; omega
    · rw [w3.1, g4']; show H3.2.2.1 + (9 ^ yT τ + 9 ^ yT τ / 8 + 1) = _; omega
/-- the ledger of a book just taken -/
def nH (τ : tS) (h0 : Nat → Int32) : Nat → Int32 := fun j => if j < 2 * yW τ then (if j % 2 = 0 then nI (yb τ (j / 2)).1 else nI (yb τ (j / 2)).2.1) else h0 j
def newL (τ : tS) (h0 : Nat → Int32) : sL := (0, 0, fun _ => 0, nH τ h0, fun _ => 0)
theorem C_betAt {w : Nat} (h : cL N c lo τ ad H) (hw : w < yW τ) : F_X2_betAt N (some c) (nI w) H = some (some (ad w), H) := by
  obtain ⟨h1, -, -, -, -, -, ⟨a7, g8, h7, h7'⟩, -⟩ := h
  obtain ⟨-, -, k2, -⟩ := cob_g h1
  obtain ⟨-, -, -, -, -, -, -, q8⟩ := cob_a h1
  have k2 : xgI H (some c) 2 2 = some (nI (yW τ)) := k2
  unfold F_X2_betAt
  simp only [nI_pos (show w < 2 ^ 31 by omega), if_false, k2, nI_ge hw (by omega), q8, leQ h7, nI_ge (show w < 12 by omega) (by decide), rdQ h7 (show w < 12 by omega) (by decide), h7' w hw, Option.bind_some]
theorem S_openL (hN : 12 < N) {Hp : xH} {l : Nat} {h0 : Nat → Int32} (hp : cL N c lo τ ad Hp) (hw : hW Hp) (hc : c + 8 < lo) (hl : lo ≤ Hp.2.1) (hlc : l + 3 < c) : ∀ m w, w ≤ yW τ → yW τ - w < m → ∀ (H : xH) (g : Nat → Int32), (∀ q, c ≤ q → q < Hp.2.1 → H.1 q = Hp.1 q) → H.1 l = some (ob 4 [.int 0, .int 0, va_rf (some (l + 1)), va_rf (some (l + 2)), va_rf (some (l + 3))]) → H.1 (l + 2) = some (aI 24 g) → (∀ j, j < 24 → g j = if j < 2 * w then (if j % 2 = 0 then nI (yb τ (j / 2)).1 else nI (yb τ (j / 2)).2.1) else h0 j) → ∃ g', F_X4_open_L28 N m (some l) (some c) (nI w) H = some (xup H (l + 2) (aI 24 g')) ∧ ∀ j, j < 24 → g' j = nH τ h0 j := by
  refine upto (P := fun m w => ∀ (H : xH) (g : Nat → Int32), (∀ q, c ≤ q → q < Hp.2.1 → H.1 q = Hp.1 q) → H.1 l = some (ob 4 [.int 0, .int 0, va_rf (some (l + 1)), va_rf (some (l + 2)), va_rf (some (l + 3))]) → H.1 (l + 2) = some (aI 24 g) → (∀ j, j < 24 → g j = if j < 2 * w then (if j % 2 = 0 then nI (yb τ (j / 2)).1 else nI (yb τ (j / 2)).2.1) else h0 j) → ∃ g', F_X4_open_L28 N m (some l) (some c) (nI w) H = some (xup H (l + 2) (aI 24 g')) ∧ ∀ j, j < 24 → g' j = nH τ h0 j) ?_ ?_
  · intro m H g hag e1 e2 e3
    have hcl := hp.fr hw hc hl hag
    have k2 : xgI H (some c) 2 2 = some (nI (yW τ)) := (cob_g hcl.1).2.2.1
    rw [show F_X4_open_L28 N (m + 1) = F_X4_open_J28 N (F_X4_open_L28 N m) from rfl]
    refine ⟨g, ?_, e3⟩
    rw [xup_id e2]
    simp only [F_X4_open_J28, k2, Int32.le_refl, if_true, Option.bind_some]
  · intro m w hlt ih H g hag e1 e2 e3
    have hcl := hp.fr hw hc hl hag
    have hW12 := hp.2.2.2.2.2.2.1.1
    have k2 : xgI H (some c) 2 2 = some (nI (yW τ)) := (cob_g hcl.1).2.2.1
    have kb := C_betAt hcl hlt
    have adlt : lo ≤ ad w ∧ ad w < Hp.2.1 := by
      obtain ⟨_, _, _, z, z2, -⟩ := hp.2.2.2.2.2.2.2 w hlt
      exact ⟨z2, hw _ _ z⟩
    obtain ⟨p1, p2, p3, b1, -⟩ := hcl.2.2.2.2.2.2.2 w hlt
    have f0 : xgI H (some (ad w)) 0 0 = some (nI (yb τ w).1) := gI b1 rfl
    have st1 := S_set (N := N) (v := nI (yb τ w).1) e2 (show 2 * w < 24 by omega) (by decide)
    have c1 : (xup H (l + 2) (aI 24 (upd g (2 * w) (nI (yb τ w).1)))).1 l = _ := (xup_ne _ (by omega)).trans e1
    have c2 : (xup H (l + 2) (aI 24 (upd g (2 * w) (nI (yb τ w).1)))).1 (l + 2) = some (aI 24 (upd g (2 * w) (nI (yb τ w).1))) := xup_at _
    have c3 : (xup H (l + 2) (aI 24 (upd g (2 * w) (nI (yb τ w).1)))).1 (ad w) = _ := (xup_ne _ (by omega)).trans b1
    have f1 : xgI (xup H (l + 2) (aI 24 (upd g (2 * w) (nI (yb τ w).1)))) (some (ad w)) 0 1 = some (nI (yb τ w).2.1) := gI c3 rfl
    have st2 := S_set (N := N) (v := nI (yb τ w).2.1) c2 (show 2 * w + 1 < 24 by omega) (by decide)
    rw [xup_up] at st2
    rw [show F_X4_open_L28 N (m + 1) = F_X4_open_J28 N (F_X4_open_L28 N m) from rfl]
    have m2 : (2 : Int32) * nI w = nI (2 * w) := by rw [show (2 : Int32) = nI 2 from rfl, pk_mul]
    have g3 : ∀ e, xgA (xup H (l + 2) e) (some l) 4 3 = some (some (l + 2)) := fun e => gA ((xup_ne _ (by omega)).trans e1) rfl
    simp only [F_X4_open_J28, F_X4_open_J76, k2, nI_ge hlt (show yW τ < 2 ^ 31 by omega), if_false, (cob_g hcl.1).2.2.2.2.2, kb, bd2_s, reduceCtorEq, gA e1 (j := 3) rfl, f0, m2, st1, g3, f1, nI_1, st2, Option.bind_some]
    obtain ⟨g', w1, w2⟩ := ih (xup H (l + 2) (aI 24 (upd (upd g (2 * w) (nI (yb τ w).1)) (2 * w + 1) (nI (yb τ w).2.1)))) _ (fun q q1 q2 => (xup_ne _ (by omega)).trans (hag q q1 q2)) ((xup_ne _ (by omega)).trans e1) (xup_at _) (fun j hj => by
      by_cases q1 : j = 2 * w + 1
      · rw [q1, pk_us, if_pos (by omega), if_neg (by omega), show (2 * w + 1) / 2 = w by omega]
      · rw [pk_un q1]
        by_cases q2 : j = 2 * w
        · rw [q2, pk_us, if_pos (by omega), if_pos (by omega), show 2 * w / 2 = w by omega]
        · rw [pk_un q2, e3 j hj]
          by_cases q3 : j < 2 * w
          · rw [if_pos q3, if_pos (show j < 2 * (w + 1) by omega)]
          · rw [if_neg q3, if_neg (show ¬ j < 2 * (w + 1) by omega)])
    exact ⟨g', by rw [w1, xup_up], w2⟩
theorem S_open (hN : 24 < N) {Hp : xH} {l : Nat} {σ0 : sL} (hp : cL N c lo τ ad Hp) (hw : hW Hp) (hc : c + 8 < lo) (hl : lo ≤ Hp.2.1) (hlc : l + 3 < c) (hag : ∀ q, c ≤ q → q < Hp.2.1 → H.1 q = Hp.1 q) (h : xLed l σ0 H) : ∃ H', F_X4_open N (some l) (some c) H = some H' ∧ xLed l (newL τ (lH σ0)) H' ∧ Fr (fun q => l ≤ q ∧ q ≤ l + 3) H H' := by
  obtain ⟨h1, ⟨g1, h2, -⟩, ⟨g2, h3, h3'⟩, ⟨g3, h4, -⟩⟩ := h
  have s1 : xpI H (some l) 4 0 0 = some (xup H l (ob 4 [.int 0, .int (lS σ0), va_rf (some (l + 1)), va_rf (some (l + 2)), va_rf (some (l + 3))])) := pV h1 (by simp)
  have s2 : xpI (xup H l (ob 4 [.int 0, .int (lS σ0), va_rf (some (l + 1)), va_rf (some (l + 2)), va_rf (some (l + 3))])) (some l) 4 1 0 = some (xup H l (ob 4 [.int 0, .int 0, va_rf (some (l + 1)), va_rf (some (l + 2)), va_rf (some (l + 3))])) := by
    have := pV (ci := 4) (j := 1) (v := .int 0) (xup_at (H := H) (a := l) (ob 4 [.int 0, .int (lS σ0), va_rf (some (l + 1)), va_rf (some (l + 2)), va_rf (some (l + 3))])) (by simp)
    rw [xup_up] at this
    exact this
  unfold F_X4_open
  simp only [s1, s2, Option.bind_some]
  have c1 : (xup H l (ob 4 [.int 0, .int 0, va_rf (some (l + 1)), va_rf (some (l + 2)), va_rf (some (l + 3))])).1 l = _ := xup_at _
  have hF1 : Fr (fun q => l ≤ q ∧ q ≤ l + 3) H (xup H l (ob 4 [.int 0, .int 0, va_rf (some (l + 1)), va_rf (some (l + 2)), va_rf (some (l + 3))])) := Fr.u (by omega)
  have k1 : ∀ a, a ≠ l → (xup H l (ob 4 [.int 0, .int 0, va_rf (some (l + 1)), va_rf (some (l + 2)), va_rf (some (l + 3))])).1 a = H.1 a := fun a ha => xup_ne _ ha
  generalize xup H l (ob 4 [.int 0, .int 0, va_rf (some (l + 1)), va_rf (some (l + 2)), va_rf (some (l + 3))]) = H1 at *
  have d2 : H1.1 (l + 1) = some (aI 5 g1) := (k1 _ (by omega)).trans h2
  have f1 := S_fil (N := N) (x := 0) d2 (by omega) (by decide)
  have k2 : ∀ a, a ≠ l + 1 → (xup H1 (l + 1) (aI 5 (fun j => if 0 ≤ j ∧ j < 5 then 0 else g1 j))).1 a = H1.1 a := fun a ha => xup_ne _ ha
  have e2 : (xup H1 (l + 1) (aI 5 (fun j => if 0 ≤ j ∧ j < 5 then 0 else g1 j))).1 (l + 1) = some (aI 5 (fun j => if 0 ≤ j ∧ j < 5 then 0 else g1 j)) := xup_at _
  have hF2 := hF1.tr (Fr.u (P := fun q => l ≤ q ∧ q ≤ l + 3) (H := H1) (a := l + 1) (e := aI 5 (fun j => if 0 ≤ j ∧ j < 5 then 0 else g1 j)) (by omega))
  simp only [gA c1 (j := 2) rfl, f1, Option.bind_some]
  generalize xup H1 (l + 1) (aI 5 (fun j => if 0 ≤ j ∧ j < 5 then 0 else g1 j)) = H2 at *
  have e1 : H2.1 l = _ := (k2 _ (by omega)).trans c1
  have e4 : H2.1 (l + 3) = some (aI 6 g3) := ((k2 _ (by omega)).trans (k1 _ (by omega))).trans h4
  have f3 := S_fil (N := N) (x := 0) e4 (by omega) (by decide)
  have k3 : ∀ a, a ≠ l + 3 → (xup H2 (l + 3) (aI 6 (fun j => if 0 ≤ j ∧ j < 6 then 0 else g3 j))).1 a = H2.1 a := fun a ha => xup_ne _ ha
  have e5 : (xup H2 (l + 3) (aI 6 (fun j => if 0 ≤ j ∧ j < 6 then 0 else g3 j))).1 (l + 3) = some (aI 6 (fun j => if 0 ≤ j ∧ j < 6 then 0 else g3 j)) := xup_at _
  have hF3 := hF2.tr (Fr.u (P := fun q => l ≤ q ∧ q ≤ l + 3) (H := H2) (a := l + 3) (e := aI 6 (fun j => if 0 ≤ j ∧ j < 6 then 0 else g3 j)) (by omega))
  simp only [gA e1 (j := 4) rfl, f3, Option.bind_some]
  generalize xup H2 (l + 3) (aI 6 (fun j => if 0 ≤ j ∧ j < 6 then 0 else g3 j)) = H3 at *
  have i1 : H3.1 l = _ := (k3 _ (by omega)).trans e1
  have i2 : H3.1 (l + 1) = _ := (k3 _ (by omega)).trans e2
  have i3 : H3.1 (l + 2) = some (aI 24 g2) := ((k3 _ (by omega)).trans ((k2 _ (by omega)).trans (k1 _ (by omega)))).trans h3
  obtain ⟨g', w1, w2⟩ := S_openL (N := N) (h0 := lH σ0) (by omega) hp hw hc hl hlc N 0 (Nat.zero_le _) (by have := hp.2.2.2.2.2.2.1.1; omega) H3 g2 (fun q q1 q2 => (hF3.2 q (by omega)).trans (hag q q1 q2)) i1 i3 (fun j hj => by rw [if_neg (by omega)]; exact h3' j hj)
  refine ⟨_, w1, ⟨(xup_ne _ (by omega)).trans i1, ⟨_, (xup_ne _ (by omega)).trans i2, fun j hj => ?_⟩, ⟨g', xup_at _, w2⟩, ⟨_, (xup_ne _ (by omega)).trans e5, fun j hj => ?_⟩⟩, hF3.tr (Fr.u (by omega))⟩
  · rw [if_pos ⟨Nat.zero_le _, hj⟩]; rfl
  · rw [if_pos ⟨Nat.zero_le _, hj⟩]; rfl
