/-! PURE: the class's book, taken. -/
variable {stf : Nat → Nat} {N K b m : Nat} {β : sB} {δ : sD} {H : xH}
variable {tc tk cb n nk ncb c lo : Nat} {τ : tS} {ad : Nat → Nat}
def SB (b tc q : Nat) : Prop := q = b ∨ (b + 2 ≤ q ∧ q ≤ b + 5) ∨ q = b + 15 ∨ q = b + 18 ∨ q = b + 19 ∨ (b + 20 ≤ q ∧ q ≤ b + 23) ∨ q = b + 42 ∨ q = tc
theorem S_clear (hN : 45 < N) {a : Nat} {g : Nat → Int32} (h1 : H.1 a = some (ob 5 [va_rf (some (a + 1))])) (h2 : H.1 (a + 1) = some (aI 45 g)) : F_X5_clear N (some a) H = some (xup H (a + 1) (aI 45 (fun j => if 0 ≤ j ∧ j < 45 then 0 else g j))) := by
  unfold F_X5_clear
  simp only [gA h1 (j := 0) rfl, S_fil (N := N) (x := 0) h2 (by omega) (by decide), Option.bind_some]
theorem C_bookS (hN : 59049 < N) {q : Nat} (ho : RXo stf K b m c tc tk cb n nk ncb ad β δ H) (hw : hW H) (hm : m + 36 ≤ H.2.1) {J : Nat} {t S E : Nat → Nat} {H0 : xH} {x : Option (Int32 × xH)} {p : ps} {y : Option (Int32 × xH)} {k1 : Int32 → xH → Option (Int32 × xH)} (hq : q ≤ dN δ) (hT : tkS t q J S E)
    (hy : y = x_bd2 x (fun v16 H14 => if v16 = 0 then k1 v16 H14 else ((xpI H14 (some b) 10 2 (-1 : Int32)).bind fun H18 => (xgI H18 (some b) 10 3).bind fun v19 => (xpI H18 (some b) 10 3 (v19 + (1 : Int32))).bind fun H20 => (xpA H20 (some b) 10 5 (some H.2.1)).bind fun H21 => (xpI H21 (some b) 10 9 (0 : Int32)).bind fun H22 => (xgA H22 (some b) 10 10).bind fun v23 => (xob H22 v23 5).bind fun b25 => (F_X5_clear N v23 H22).bind fun H24 => (xgA H24 (some b) 10 7).bind fun v26 => (xob H24 v26 4).bind fun b28 => (F_X4_open N v26 (some H.2.1) H24).bind fun H27 => (xgA H27 (some b) 10 6).bind fun v29 => (xob H27 v29 6).bind fun b31 => (F_X6_fill N v29 (some H.2.1) H27).bind fun H30 => (xgA H30 (some b) 10 6).bind fun v32 => (xgA H30 (some b) 10 7).bind fun v33 => (xob H30 v32 6).bind fun b35 => x_bd2 (F_X6_mark N v32 v33 H30) fun v36 H34 => (xgI H34 (some H.2.1) 2 2).bind fun v37 => some (v37, H34)))) (hp : p.1 = some τ) (hx : sOut t J S E N b stf (H.2.1 + 9) H.2.1 (H.2.1 + 10) p 0 H0 x) (e1 : H0.2.1 = H.2.1 + 10) (e2 : H0.2.2.1 = H.2.2.1 + 168) (e3 : H0.2.2.2 = H.2.2.2) (e4 : H0.1 b = some (bobj b c δ 0)) (e5 : ∀ a, a < H.2.1 → a ≠ b → ¬ (b + 2 ≤ a ∧ a ≤ b + 5) → H0.1 a = H.1 a) : ∃ (H' : xH) (c' tc' tk' n' nk' : Nat) (ad' : Nat → Nat), y = some (nI (yW τ), H') ∧ RXo stf (K + 1) b m c' tc' tk' cb n' nk' ncb ad' (bet τ) (dYes δ τ) H' ∧ hW H' ∧ H.2.1 ≤ H'.2.1 ∧ (∀ a, m ≤ a → a < m + 36 → H'.1 a = H.1 a) ∧ yOk τ ∧ bOk (bet τ) := by
  obtain ⟨r, H14, x1, ⟨k1', k2, k3, k4, k5, k6, k7, k8, k9⟩, -, x3⟩ := hx
  obtain ⟨hr, ad', -, -, -, -, hL, hOk, -, -, -, hlo⟩ := x3 τ hp
  have hSn := hT.le k7
  obtain ⟨hD, h1, ⟨h2, gt, h2'⟩, ⟨⟨x2, h3⟩, ⟨g3, h3a⟩, ⟨g4, h3b⟩, ⟨g5, h3c⟩⟩, h4, h5, h6', h7, ⟨h8, ⟨go, h8'⟩⟩, h9, h10, h11, h12, ⟨⟨s9, rm0, rm1⟩, rm2, rm3, rm4⟩⟩ := id ho
  have hD' := hD
  obtain ⟨d1, d2, ⟨d3, d4, d5⟩, ⟨d6, d7, d8⟩, ⟨d9, d10, d11⟩, ⟨d12, d13, d14⟩, d15⟩ := hD
  have blt := hw _ _ h3c
  obtain ⟨⟨ce, w1, -⟩, ⟨gc, w2, -⟩, w6, w7, ⟨gtk, w3⟩, w8, w9, ⟨gt3, w4⟩, ⟨gt4, w5⟩⟩ := id h5
  obtain ⟨⟨y1, y2, y3, y4, v1⟩, ⟨gv2, v2⟩, ⟨gv3, v3⟩, ⟨gv4, v4⟩, -⟩ := id h10
  obtain ⟨i0, ⟨gi, i1, i2⟩, -, i3⟩ := id h7
  obtain ⟨⟨gow, o1⟩, ⟨go2, o2⟩⟩ := id h11
  have l3 := hw _ _ w2
  have l4 := hw _ _ w3
  have l5 := hw _ _ v4
  have l6 := hw _ _ o2
  have ag14 : ∀ a, a < H.2.1 → a ≠ b → ¬ (b + 2 ≤ a ∧ a ≤ b + 5) → H14.1 a = H.1 a := fun a a1 a2 a3 => (k5 a (by omega) (by omega)).trans (e5 a a1 a2 a3)
  have b14 : H14.1 b = some (bobj b c δ 0) := (k5 b (by omega) (by omega)).trans e4
  -- the book's own fields
  have f1 : xpI H14 (some b) 10 2 (-1 : Int32) = some (xup H14 b (bojb b c (dNo δ (-1)))) := pV b14 (by simp)
  have b18 : (xup H14 b (bojb b c (dNo δ (-1)))).1 b = some (bojb b c (dNo δ (-1))) := xup_at _
  have f3 : xpI (xup H14 b (bojb b c (dNo δ (-1)))) (some b) 10 3 (dB δ + 1) = some (xup H14 b (bojb b c (dL δ, dI δ, dM δ, dC δ, 0, dT δ, -1, dB δ + 1))) := by
    have := pV (ci := 10) (j := 3) (v := .int (dB δ + 1)) b18 (by simp)
    rw [xup_up] at this
    exact this
  have b20 : (xup H14 b (bojb b c (dL δ, dI δ, dM δ, dC δ, 0, dT δ, -1, dB δ + 1))).1 b = some (bojb b c (dL δ, dI δ, dM δ, dC δ, 0, dT δ, -1, dB δ + 1)) := xup_at _
  have f5 : xpA (xup H14 b (bojb b c (dL δ, dI δ, dM δ, dC δ, 0, dT δ, -1, dB δ + 1))) (some b) 10 5 (some H.2.1) = some (xup H14 b (bojb b H.2.1 (dL δ, dI δ, dM δ, dC δ, 0, dT δ, -1, dB δ + 1))) := by
    have := pV (ci := 10) (j := 5) (v := va_rf (some H.2.1)) b20 (by simp)
    rw [xup_up] at this
    exact this
  have b21 : (xup H14 b (bojb b H.2.1 (dL δ, dI δ, dM δ, dC δ, 0, dT δ, -1, dB δ + 1))).1 b = some (bojb b H.2.1 (dL δ, dI δ, dM δ, dC δ, 0, dT δ, -1, dB δ + 1)) := xup_at _
  have f9 : xpI (xup H14 b (bojb b H.2.1 (dL δ, dI δ, dM δ, dC δ, 0, dT δ, -1, dB δ + 1))) (some b) 10 9 (0 : Int32) = some (xup H14 b (bojb b H.2.1 (dYes δ τ))) := by
    have := pV (ci := 10) (j := 9) (v := .int 0) b21 (by simp)
    rw [xup_up] at this
    exact this
  have g19 : xgI (xup H14 b (bojb b c (dNo δ (-1)))) (some b) 10 3 = some (dB δ) := gI b18 rfl
  have b22 : (xup H14 b (bojb b H.2.1 (dYes δ τ))).1 b = some (bojb b H.2.1 (dYes δ τ)) := xup_at _
  have n22 : ∀ a, a ≠ b → (xup H14 b (bojb b H.2.1 (dYes δ τ))).1 a = H14.1 a := fun a ha => xup_ne _ ha
  have w22 : hW (xup H14 b (bojb b H.2.1 (dYes δ τ))) := k2.up b14
  have t22 : (xup H14 b (bojb b H.2.1 (dYes δ τ))).2 = H14.2 := rfl
  rw [x1] at hy
  simp only [bd2_s, hr, if_neg n10, f1, g19, f3, f5, f9, Option.bind_some] at hy
  clear f1 f3 f5 f9 g19 b18 b20 b21
  generalize xup H14 b (bojb b H.2.1 (dYes δ τ)) = H22 at *
  -- chances
  have c41 : H22.1 (b + 41) = some (ob 5 [va_rf (some (b + 41 + 1))]) := (n22 _ (by omega)).trans ((ag14 _ (by omega) (by omega) (by omega)).trans h8)
  have c42 : H22.1 (b + 41 + 1) = some (aI 45 go) := (n22 _ (by omega)).trans ((ag14 _ (by omega) (by omega) (by omega)).trans h8'.1)
  have fc := S_clear (N := N) (by omega) c41 c42
  simp only [gA b22 (j := 10) rfl, obx c41, fc, Option.bind_some] at hy
  have F24 : Fr (fun q => q = b + 42) H22 (xup H22 (b + 41 + 1) (aI 45 (fun j => if 0 ≤ j ∧ j < 45 then 0 else go j))) := Fr.u rfl
  have a24 : (xup H22 (b + 41 + 1) (aI 45 (fun j => if 0 ≤ j ∧ j < 45 then 0 else go j))).1 (b + 42) = some (aI 45 (fun j => if 0 ≤ j ∧ j < 45 then 0 else go j)) := xup_at _
  have w24 : hW (xup H22 (b + 41 + 1) (aI 45 (fun j => if 0 ≤ j ∧ j < 45 then 0 else go j))) := w22.up c42
  generalize xup H22 (b + 41 + 1) (aI 45 (fun j => if 0 ≤ j ∧ j < 45 then 0 else go j)) = H24 at *
  -- the ledger
  have b24 : H24.1 b = some (bojb b H.2.1 (dYes δ τ)) := (F24.2 _ (by omega)).trans b22
  have hl24 : xLed (b + 20) (dL δ) H24 := h6'.fr (fun a a1 a2 => (F24.2 _ (by omega)).trans ((n22 _ (by omega)).trans (ag14 _ (by omega) (by omega) (by omega))))
  have ag24 : ∀ a, H.2.1 ≤ a → a < H14.2.1 → H24.1 a = H14.1 a := fun a a1 a2 => (F24.2 _ (by omega)).trans (n22 _ (by omega))
  obtain ⟨H27, u1, u2, u3⟩ := S_open (N := N) (by omega) hL k2 (by omega) hlo (show b + 20 + 3 < H.2.1 by omega) ag24 hl24
  simp only [gA b24 (j := 7) rfl, obx hl24.1, u1, Option.bind_some] at hy
  have w27 : hW H27 := by
    refine w24.fr u3 (fun a ha => ?_)
    obtain ⟨z1, ⟨_, z2, -⟩, ⟨_, z3, -⟩, ⟨_, z4, -⟩⟩ := hl24
    have ha' : a = b + 20 ∨ a = b + 20 + 1 ∨ a = b + 20 + 2 ∨ a = b + 20 + 3 := by omega
    rcases ha' with rfl | rfl | rfl | rfl
    · exact ⟨_, z1⟩
    · exact ⟨_, z2⟩
    · exact ⟨_, z3⟩
    · exact ⟨_, z4⟩
  have b27 : H27.1 b = some (bojb b H.2.1 (dYes δ τ)) := (u3.2 _ (by omega)).trans b24
  have o27 : ∀ a, a < H.2.1 → ¬ SB b tc a → H27.1 a = H.1 a := fun a a1 a2 => by
    unfold SB at a2
    exact (u3.2 _ (by omega)).trans ((F24.2 _ (by omega)).trans ((n22 _ (by omega)).trans (ag14 _ a1 (by omega) (by omega))))
  have p27 : ∀ a, a < H.2.1 → a = b + 15 ∨ a = b + 18 ∨ a = b + 19 ∨ a = tc ∨ a = tk → H27.1 a = H.1 a := fun a a1 a2 => (u3.2 _ (by omega)).trans ((F24.2 _ (by omega)).trans ((n22 _ (by omega)).trans (ag14 _ a1 (by omega) (by omega))))
  have top27 : H27.2 = H14.2 := by rw [u3.1, F24.1, t22]
  -- the table
  have ag27 : ∀ a, H.2.1 ≤ a → a < H14.2.1 → H27.1 a = H14.1 a := fun a a1 a2 => (u3.2 _ (by omega)).trans (ag24 a a1 a2)
  obtain ⟨H30, tc', tk', n', nk', z1, z2, z3, z4, z5, z6⟩ := S_fillA (N := N) (t := b + 15) (tc := tc) (tk := tk) (nn := n) (nk := nk) hN hL k2 (by omega) hlo hOk (by omega) (by omega) (by omega) (by omega) (by omega) (by omega) (by omega) (by omega) w7 (fun zz => by rw [rm2]; omega) w9 w27 (by rw [top27]; exact Nat.le_refl _) ag27 ((p27 _ (by omega) (by simp)).trans w1) ((p27 _ l3 (by simp)).trans w2) ⟨gt3, (p27 _ (by omega) (by simp)).trans w4⟩ ⟨gt4, (p27 _ (by omega) (by simp)).trans w5⟩ ⟨gtk, (p27 _ l4 (by simp)).trans w3⟩
  have ob27 : xob H27 (some (b + 15)) 6 = some (b + 15) := obx ((p27 _ (by omega) (by simp)).trans w1)
  simp only [gA b27 (j := 6) rfl, ob27, z1, Option.bind_some] at hy
  have t27 : H27.2.1 = H14.2.1 := by rw [top27]
  have b30 : H30.1 b = some (bojb b H.2.1 (dYes δ τ)) := (z5 b (by omega) (by omega) (by omega) (by omega)).trans b27
  have hl30 : xLed (b + 20) (newL τ (lH (dL δ))) H30 := u2.fr (fun a a1 a2 => z5 a (by omega) (by omega) (by omega) (by omega))
  have hB := bet_ok hL hOk
  obtain ⟨H34, m1, m2, m3⟩ := S_mkW (N := N) hN hB (l := b + 20) (σ := newL τ (lH (dL δ))) (Nat.zero_le _) (fun _ => Nat.zero_le _) (by omega) z2 hl30
  have ob30 : xob H30 (some (b + 15)) 6 = some (b + 15) := by obtain ⟨⟨_, _, zz⟩, -⟩ := z2; exact obx zz
  have tcr : tc' = tc ∨ H14.2.1 ≤ tc' := by omega
  have tkr : tk' = tk ∨ (H14.2.1 ≤ tk' ∧ tk' ≠ tc') := by omega
  have o34 : ∀ a, a < H.2.1 → ¬ SB b tc a → H34.1 a = H.1 a := fun a a1 a2 => by
    have a3 := a2
    unfold SB at a3
    exact (m3.2 a (by omega)).trans ((z5 a (by omega) (by omega) (by omega) (by omega)).trans (o27 a a1 a2))
  have n34 : ∀ a, H.2.1 ≤ a → a < H14.2.1 → H34.1 a = H14.1 a := fun a a1 a2 => (m3.2 a (by omega)).trans ((z5 a (by omega) (by omega) (by omega) (by omega)).trans (ag27 a a1 a2))
  have hL34 := hL.fr k2 (by omega) hlo n34
  have v37 : xgI H34 (some H.2.1) 2 2 = some (nI (yW τ)) := (cob_g hL34.1).2.2.1
  simp only [gA b30 (j := 6) rfl, gA b30 (j := 7) rfl, ob30, m1, bd2_s, v37, Option.bind_some] at hy
  have b34 : H34.1 b = some (bojb b H.2.1 (dYes δ τ)) := (m3.2 b (by omega)).trans b30
  have w34 : hW H34 := by
    refine z3.fr m3 (fun a ha => ?_)
    obtain ⟨⟨_, _, q1⟩, ⟨_, q2, -⟩, -, -, -, -, -, ⟨_, q3⟩, ⟨_, q4⟩⟩ := z2
    rcases ha with rfl | rfl | rfl | rfl
    · exact ⟨_, q1⟩
    · exact ⟨_, q2⟩
    · exact ⟨_, q3⟩
    · exact ⟨_, q4⟩
  have top34 : H34.2 = H30.2 := m3.1
  have top30 : H14.2.1 ≤ H30.2.1 ∧ H30.2.1 ≤ H14.2.1 + 2 := by
    rcases z6 with ⟨_, _, _, _, q⟩ | ⟨_, _, _, _, _, q, _⟩
    · rw [q, top27]; omega
    · omega
  have tok34 : ∀ a, b + 2 ≤ a → a ≤ b + 5 → H34.1 a = H14.1 a := fun a a1 a2 => (m3.2 a (by omega)).trans ((z5 a (by omega) (by omega) (by omega) (by omega)).trans ((u3.2 a (by omega)).trans ((F24.2 a (by omega)).trans (n22 a (by omega)))))
  have adw : ∀ w, w < yW τ → H.2.1 + 10 ≤ ad' w ∧ ad' w < H14.2.1 := fun w hw' => by
    obtain ⟨_, _, _, zz, zz2, -⟩ := hL.2.2.2.2.2.2.2 w hw'
    exact ⟨zz2, k2 _ _ zz⟩
  refine ⟨H34, H.2.1, tc', tk', n', nk', ad', hy, ⟨?_, b34, ⟨Nat.zero_le _, gt, (o34 _ (by omega) (by unfold SB; omega)).trans h2'.1, fun j hj => absurd hj (Nat.not_lt_zero _)⟩, ?_, ?_, m2, hl30.fr (fun a a1 a2 => m3.2 a (by omega)), ⟨Nat.zero_le _, ⟨gi, (o34 _ (by omega) (by unfold SB; omega)).trans i1, i2⟩, fun k hk => absurd hk (Nat.not_lt_zero _), fun k hk => ?_⟩, ⟨(o34 _ (by omega) (by unfold SB; omega)).trans h8, (fun j => if 0 ≤ j ∧ j < 45 then 0 else go j), ?_, fun j hj => ?_⟩, ?_, ?_, ?_, h12.fr ?_ (fun a ha => o34 a (by omega) (by unfold SB; omega)), ?_⟩, w34, ?_, fun a a1 a2 => o34 a (by omega) (by unfold SB oM at *; omega), hOk, hB⟩
  · refine ⟨d1, Or.inr ⟨by omega, Or.inr hm⟩, ⟨by omega, ?_, by omega⟩, ⟨by omega, ?_, by omega⟩, ⟨d9, d10, by omega⟩, ⟨by omega, by omega, by omega⟩, fun w hw' => ?_⟩
    · unfold oM at *; omega
    · unfold oM at *; omega
    · obtain ⟨q1, q2⟩ := adw w hw'
      unfold oM
      omega
  · obtain ⟨gk, gs, gv, ⟨t1, t2, t3, t4⟩, -⟩ := k1'
    exact ⟨⟨_, (tok34 _ (by omega) (by omega)).trans t1⟩, ⟨_, (tok34 _ (by omega) (by omega)).trans t2⟩, ⟨_, (tok34 _ (by omega) (by omega)).trans t3⟩, ⟨_, (tok34 _ (by omega) (by omega)).trans t4⟩⟩
  · obtain ⟨q1, -, ⟨gq2, q2, q2'⟩, ⟨gq3, q3, q3'⟩, -, -, ⟨-, gq8, q8, q8'⟩, qb⟩ := hL34
    refine ⟨⟨_, q1⟩, ⟨gq2, q2, q2'⟩, ⟨gq3, q3, q3'⟩, ⟨gq8, q8, q8'⟩, fun w hw' => ?_⟩
    obtain ⟨p1, p2, p3, pa, -, -, ⟨pb, pb'⟩, ⟨pc, pc'⟩⟩ := qb w hw'
    refine ⟨_, _, p1, p2, p3, pa, ⟨fun z hz => ?_, fun z => ?_⟩, ⟨fun z hz => ?_, fun z => ?_⟩⟩
    · cases hf : (yb τ w).2.2.2.2.2.1 with
      | none => exact hz hf
      | some ρ => obtain ⟨a, za, -⟩ := pb' ρ hf; rw [za] at z; cases z
    · exact pb (Classical.byContradiction fun zz => z zz)
    · cases hf : (yb τ w).2.2.2.2.2.2 with
      | none => exact hz hf
      | some ρ => obtain ⟨a, za, -⟩ := pc' ρ hf; rw [za] at z; cases z
    · exact pc (Classical.byContradiction fun zz => z zz)
  · obtain ⟨σ, hσ⟩ := i3 k hk
    exact ⟨σ, hσ.fr (fun a a1 a2 => o34 a (by omega) (by unfold SB; omega))⟩
  · exact (m3.2 _ (by omega)).trans ((z5 _ (by omega) (by omega) (by omega) (by omega)).trans ((u3.2 _ (by omega)).trans a24))
  · show (if 0 ≤ j ∧ j < 45 then (0 : Int32) else go j) = 0
    rw [if_pos ⟨Nat.zero_le _, hj⟩]
  · unfold xGain at h9 ⊢
    rw [o34 _ (by omega) (by unfold SB; omega), o34 _ (by omega) (by unfold SB; omega)]; exact h9
  · unfold xWin at h10 ⊢
    rw [o34 _ (by omega) (by unfold SB; omega), o34 _ (by omega) (by unfold SB; omega), o34 _ (by omega) (by unfold SB; omega), o34 cb (by omega) (by unfold SB; omega)]; exact h10
  · unfold xOG at h11 ⊢
    rw [o34 _ (by omega) (by unfold SB; omega), o34 _ (by omega) (by unfold SB; omega)]; exact h11
  · rw [top34, z4, top27, k3, e3]
  · have hT5 := hL.2.1.1
    refine ⟨?_, ?_, ?_, ?_⟩
    · rcases z6 with ⟨_, _, q, _⟩ | ⟨_, _, _, q, _⟩
      · exact ⟨s9, rm0, by rw [q]; exact rm1⟩
      · exact ⟨yT τ, hT5, q⟩
    · rcases z6 with ⟨_, _, q, q2, _⟩ | ⟨_, _, _, q, q2, _⟩
      · rw [q, q2]; exact rm2
      · rw [q, q2]
    · show H34.2.1 + 0 ≤ _
      rw [top34]
      omega
    · show H34.2.2.1 + 5 * 0 ≤ _
      rw [top34]
      rcases z6 with ⟨_, _, q, _, q2⟩ | ⟨q0, _, _, q, q2, _, q3⟩
      · rw [q, q2, top27]; omega
      · rw [q3, q, q2, top27]
        have h9 : 9 * n ≤ 9 ^ yT τ := by
          have : s9 < yT τ := by
            rcases Nat.lt_or_ge s9 (yT τ) with z | z
            · exact z
            · have := Nat.pow_le_pow_right (n := 9) (by decide) z
              omega
          have := Nat.pow_le_pow_right (n := 9) (by decide) (show s9 + 1 ≤ yT τ by omega)
          rw [Nat.pow_succ] at this
          omega
        have h1 : 1 ≤ n := by rw [rm1]; exact Nat.pow_pos (by decide)
        omega
  · rw [top34]; omega
