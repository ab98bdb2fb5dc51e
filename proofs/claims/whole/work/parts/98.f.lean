/-! PURE: the start: the class's state. -/
variable {stf : Nat → Nat} {N K b m : Nat} {β : sB} {δ : sD} {H : xH}
def l0 : sL := newL tS0 (fun _ => 0)
def d0 : sD := (l0, 0, (fun _ => l0), (fun _ => 0), 0, (fun _ => 0), -1, 0)
theorem led0 {l : Nat} (h1 : H.1 l = some (ledE l)) (h2 : H.1 (l + 1) = some (aI 5 (fun _ => 0))) (h3 : H.1 (l + 2) = some (aI 24 (fun _ => 0))) (h4 : H.1 (l + 3) = some (aI 6 (fun _ => 0))) : xLed l l0 H :=
  ⟨h1, ⟨_, h2, fun j hj => rfl⟩, ⟨_, h3, fun j hj => by show (0 : Int32) = nH tS0 (fun _ => 0) j; unfold nH; rw [if_neg (by show ¬ j < 2 * 0; omega)]⟩, ⟨_, h4, fun j hj => rfl⟩⟩
theorem C_start (hN : 59049 < N) (hst : xSt b stf) : ∃ H', F_X11_init N (some b) (xnw (xH0 b stf) (ob 10 xdf_11) 15) = some H' ∧ H'.2.1 = b + 53 ∧ hW H' ∧ H'.2.2.1 = 5410 ∧ H'.2.2.2 = stf ∧ RXo stf 0 b (b + 53) (b + 6) (b + 51) (b + 52) (b + 48) 1 2 0 (fun _ => 0) (bet tS0) d0 H' := by
  obtain ⟨HC, H1, e1, ⟨f0, s0, nC⟩, h1, h2, h3, h4, h5, h6, h7⟩ := C_new hN hst
  have q : ∀ i, 1 ≤ i → i < 51 → i ≠ 24 → H1.1 (b + i) = some (E0 b i) := fun i i1 i2 i3 => by rw [h7 i i1 i2, E11_n i3]
  have qc : ∀ i, 1 ≤ i → i < 15 → HC.1 (b + i) = some (E0 b i) := fun i i1 i2 => by rw [nC.2.2.2.2.2.2 i i1 i2, E11_n (by omega)]
  have hp : cL N (b + 6) (b + 15) tS0 (fun _ => 0) HC := cL0 (qc 6 (by decide) (by decide)) (fun i i1 i2 => by
    have : i = 1 ∨ i = 2 ∨ i = 3 ∨ i = 4 ∨ i = 5 ∨ i = 6 ∨ i = 7 ∨ i = 8 := by omega
    rcases this with rfl | rfl | rfl | rfl | rfl | rfl | rfl | rfl
    · exact qc 7 (by decide) (by decide)
    · exact qc 8 (by decide) (by decide)
    · exact qc 9 (by decide) (by decide)
    · exact qc 10 (by decide) (by decide)
    · exact qc 11 (by decide) (by decide)
    · exact qc 12 (by decide) (by decide)
    · exact qc 13 (by decide) (by decide)
    · exact qc 14 (by decide) (by decide))
  have tC : HC.2.1 = b + 15 := nC.2.1
  have hag : ∀ a, b + 6 ≤ a → a < HC.2.1 → H1.1 a = HC.1 a := fun a a1 a2 => by
    have w1 := q (a - b) (by omega) (by omega) (by omega)
    have w2 := qc (a - b) (by omega) (by omega)
    rw [show b + (a - b) = a by omega] at w1 w2
    rw [w1, w2]
  obtain ⟨H16, tc', tk', n', nk', z1, z2, z3, z4, z5, z6⟩ := S_fillB (N := N) (t := b + 15) (tc := b + 16) (tk := b + 17) (nn := 0) (nk := 0) (c := b + 6) (lo := b + 15) (x0 := 0) (x1 := 0) (x2 := 0) (x3 := 0) (ce := 0) hN hp nC.2.2.2.2.1 (by omega) (by omega) yOk0 (by omega) (by omega) (by omega) (by omega) (by omega) (by omega) (by omega) (by omega) (by omega) (by omega) (fun zz => absurd zz (by decide)) (by omega) h5 (by omega) hag (q 15 (by decide) (by decide) (by decide)) (q 16 (by decide) (by decide) (by decide)) ⟨_, q 18 (by decide) (by decide) (by decide)⟩ ⟨_, q 19 (by decide) (by decide) (by decide)⟩ ⟨_, q 17 (by decide) (by decide) (by decide)⟩
  obtain ⟨-, rfl, rfl, rfl, rfl, t16, s16⟩ : 0 < 9 ^ yT tS0 ∧ tc' = H1.2.1 ∧ tk' = H1.2.1 + 1 ∧ n' = 9 ^ yT tS0 ∧ nk' = 9 ^ yT tS0 + 9 ^ yT tS0 / 8 + 1 ∧ H16.2.1 = H1.2.1 + 2 ∧ H16.2.2.1 = H1.2.2.1 + n' + nk' := by
    rcases z6 with ⟨_, _, w, _⟩ | w
    · obtain ⟨-, -, w2, -⟩ := z2
      rw [w] at w2
      exact absurd w2 (by decide)
    · exact w
  have b1 : H1.1 b = some (ob 10 (fsX b)) := h1
  have b16 : H16.1 b = some (ob 10 (fsX b)) := (z5 b (by omega) (by omega) (by omega) (by omega)).trans h1
  have o16 : ∀ i, 1 ≤ i → i < 51 → i ≠ 15 → i ≠ 18 → i ≠ 16 → H16.1 (b + i) = H1.1 (b + i) := fun i i1 i2 i3 i4 i5 => z5 _ (by omega) (by omega) (by omega) (by omega)
  have hl16 : xLed (b + 20) l0 H16 := led0 ((o16 20 (by decide) (by decide) (by decide) (by decide) (by decide)).trans (q 20 (by decide) (by decide) (by decide))) ((o16 21 (by decide) (by decide) (by decide) (by decide) (by decide)).trans (q 21 (by decide) (by decide) (by decide))) ((o16 22 (by decide) (by decide) (by decide) (by decide) (by decide)).trans (q 22 (by decide) (by decide) (by decide))) ((o16 23 (by decide) (by decide) (by decide) (by decide) (by decide)).trans (q 23 (by decide) (by decide) (by decide)))
  have hB := bet_ok hp yOk0
  obtain ⟨H20, m1, m2, m3⟩ := S_mkW (N := N) hN hB (l := b + 20) (σ := l0) (Nat.zero_le _) (fun _ => Nat.zero_le _) (by omega) z2 hl16
  have o15 : xob H1 (some (b + 15)) 6 = some (b + 15) := obx (q 15 (by decide) (by decide) (by decide))
  have o15' : xob H16 (some (b + 15)) 6 = some (b + 15) := by obtain ⟨⟨_, _, zz⟩, -⟩ := id z2; exact obx zz
  have top : H20.2 = H16.2 := m3.1
  have k : ∀ i, 1 ≤ i → i < 51 → i ≠ 15 → i ≠ 18 → i ≠ 19 → i ≠ 16 → H20.1 (b + i) = H1.1 (b + i) := fun i i1 i2 i3 i4 i5 i6 => (m3.2 _ (by omega)).trans (o16 i i1 i2 i3 i4 i6)
  have kq : ∀ i, 1 ≤ i → i < 51 → i ≠ 15 → i ≠ 18 → i ≠ 19 → i ≠ 16 → i ≠ 24 → H20.1 (b + i) = some (E0 b i) := fun i i1 i2 i3 i4 i5 i6 i7 => (k i i1 i2 i3 i4 i5 i6).trans (q i i1 i2 i7)
  have hlk : ∀ k, k < 4 → xLed (b + 25 + 4 * k) l0 H20 := fun k hk => by
    obtain ⟨w1, w2⟩ := E11_l (b := b) k hk
    have y0 := kq (25 + 4 * k) (by omega) (by omega) (by omega) (by omega) (by omega) (by omega) (by omega)
    have y1 := kq (25 + 4 * k + 1) (by omega) (by omega) (by omega) (by omega) (by omega) (by omega) (by omega)
    have y2 := kq (25 + 4 * k + 2) (by omega) (by omega) (by omega) (by omega) (by omega) (by omega) (by omega)
    have y3 := kq (25 + 4 * k + 3) (by omega) (by omega) (by omega) (by omega) (by omega) (by omega) (by omega)
    rw [w2 _ (by omega) (by omega)] at y1 y2 y3
    rw [w1] at y0
    rw [show b + 25 + 4 * k = b + (25 + 4 * k) by omega]
    exact led0 y0 y1 y2 y3
  have hw20 : hW H20 := by
    refine z3.fr m3 (fun a ha => ?_)
    obtain ⟨⟨_, _, q1⟩, ⟨_, q2, -⟩, -, -, -, -, -, ⟨_, q3⟩, ⟨_, q4⟩⟩ := z2
    rcases ha with rfl | rfl | rfl | rfl
    · exact ⟨_, q1⟩
    · exact ⟨_, q2⟩
    · exact ⟨_, q3⟩
    · exact ⟨_, q4⟩
  have s1 : H1.2.2.1 = 5407 := h3.trans (by show 0 + 5407 = 5407; rfl)
  have s20 : H20.2.2.1 = 5410 := by
    rw [top, s16, s1]
    rfl
  have t20 : H20.2.1 = b + 53 := by rw [top, t16, h2]
  have f20 : H20.2.2.2 = stf := by rw [top, z4, h4]; rfl
  have m2' : xTab (b + 15) (b + 51) (b + 52) 1 2 (bet tS0) l0 H20 := by
    have e51 : H1.2.1 = b + 51 := h2
    rw [e51] at m2
    exact m2
  refine ⟨H20, ?_, t20, hw20, s20, f20, ⟨by omega, Or.inl rfl, ⟨by omega, ?_, by omega⟩, ⟨by omega, ?_, by omega⟩, ⟨by omega, ?_, by omega⟩, ⟨by omega, by omega, by omega⟩, fun w hw => absurd hw (Nat.not_lt_zero _)⟩, (m3.2 b (by omega)).trans b16, ⟨Nat.zero_le _, _, kq 1 (by decide) (by decide) (by decide) (by decide) (by decide) (by decide) (by decide), fun j hj => absurd hj (Nat.not_lt_zero _)⟩, ⟨⟨_, kq 2 (by decide) (by decide) (by decide) (by decide) (by decide) (by decide) (by decide)⟩, ⟨_, kq 3 (by decide) (by decide) (by decide) (by decide) (by decide) (by decide) (by decide)⟩, ⟨_, kq 4 (by decide) (by decide) (by decide) (by decide) (by decide) (by decide) (by decide)⟩, ⟨_, kq 5 (by decide) (by decide) (by decide) (by decide) (by decide) (by decide) (by decide)⟩⟩, ?_, m2', hl16.fr (fun a a1 a2 => m3.2 a (by omega)), ?_, ⟨kq 41 (by decide) (by decide) (by decide) (by decide) (by decide) (by decide) (by decide), _, kq 42 (by decide) (by decide) (by decide) (by decide) (by decide) (by decide) (by decide), fun j hj => rfl⟩, ⟨kq 43 (by decide) (by decide) (by decide) (by decide) (by decide) (by decide) (by decide), _, kq 44 (by decide) (by decide) (by decide) (by decide) (by decide) (by decide) (by decide)⟩, ⟨⟨_, _, _, _, kq 45 (by decide) (by decide) (by decide) (by decide) (by decide) (by decide) (by decide)⟩, ⟨_, kq 46 (by decide) (by decide) (by decide) (by decide) (by decide) (by decide) (by decide)⟩, ⟨_, kq 47 (by decide) (by decide) (by decide) (by decide) (by decide) (by decide) (by decide)⟩, ⟨_, kq 48 (by decide) (by decide) (by decide) (by decide) (by decide) (by decide) (by decide)⟩, Or.inl rfl⟩, ⟨⟨_, kq 49 (by decide) (by decide) (by decide) (by decide) (by decide) (by decide) (by decide)⟩, ⟨_, kq 50 (by decide) (by decide) (by decide) (by decide) (by decide) (by decide) (by decide)⟩⟩, ⟨hst, f20, fun a ha => (m3.2 a (by omega)).trans ((z5 a (by omega) (by omega) (by omega) (by omega)).trans (h6 a ha))⟩, ⟨0, by decide, rfl⟩, rfl, ?_, ?_⟩
  · rw [e1]
    simp only [gA b1 (j := 6) rfl, gA b1 (j := 5) rfl, o15, z1, gA b16 (j := 6) rfl, gA b16 (j := 7) rfl, o15', m1, bd2_s, Option.bind_some]
  · unfold oM; omega
  · unfold oM; omega
  · unfold oM; omega
  · refine ⟨⟨0, kq 6 (by decide) (by decide) (by decide) (by decide) (by decide) (by decide) (by decide)⟩, ⟨_, kq 8 (by decide) (by decide) (by decide) (by decide) (by decide) (by decide) (by decide), fun j hj => absurd hj (Nat.not_lt_zero _)⟩, ⟨_, kq 9 (by decide) (by decide) (by decide) (by decide) (by decide) (by decide) (by decide), fun j hj => absurd hj (Nat.not_lt_zero _)⟩, ⟨_, kq 14 (by decide) (by decide) (by decide) (by decide) (by decide) (by decide) (by decide), fun j hj => absurd hj (Nat.not_lt_zero _)⟩, fun w hw => absurd hw (Nat.not_lt_zero _)⟩
  · refine ⟨Nat.zero_le _, ⟨gL b, ((k 24 (by decide) (by decide) (by decide) (by decide) (by decide) (by decide)).trans (h7 24 (by decide) (by decide))), fun k hk => ?_⟩, fun k hk => absurd hk (Nat.not_lt_zero _), fun k hk => ⟨l0, hlk k hk⟩⟩
    have : k = 0 ∨ k = 1 ∨ k = 2 ∨ k = 3 := by omega
    rcases this with rfl | rfl | rfl | rfl <;> rfl
  · show H20.2.1 + 0 ≤ b + 300 + 40 * 0
    omega
  · show H20.2.2.1 + 5 * 0 ≤ 1500000 + 500 * 0 + 4 * 1 + 2 * 0
    omega
