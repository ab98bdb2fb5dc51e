/-! PURE: the reference takes a book over. -/
variable {stf : Nat → Nat} {N K b m : Nat} {β : sB} {δ : sD} {H : xH}
variable {v : Nat → Int32} {c : cod} {τ : tS} {Γ Γ0 : Nat → Nat → Int32}
def sB1 (m q : Nat) : Prop := m + 1 ≤ q ∧ q ≤ m + 17
theorem gB.el {a i : Nat} {x : Int32} (h : gB m v Γ c H) (h1 : 1 ≤ a) (h2 : a ≤ 14) (hi : i < sz a) : xsI .int H (some (m + a)) (nI i) x = some (xup H (m + a) (aI (sz a) (upd (Γ a) i x))) ∧ gB m v (up2 Γ a i x) c (xup H (m + a) (aI (sz a) (upd (Γ a) i x))) ∧ Fr (sB1 m) H (xup H (m + a) (aI (sz a) (upd (Γ a) i x))) := by
  obtain ⟨g1, g2, a1, a2, a3⟩ := h
  exact ⟨g2.st h1 h2 hi, ⟨(xup_ne _ (by omega)).trans g1, g2.u, (xup_ne _ (by omega)).trans a1, (xup_ne _ (by omega)).trans a2, (xup_ne _ (by omega)).trans a3⟩, Fr.u (by unfold sB1; omega)⟩
theorem M_67 (hT : yT τ ≤ 5) (h0 : v 0 = nI (yT τ)) : ∀ z i, i ≤ yT τ → yT τ - i < z → ∀ (Γ : Nat → Nat → Int32) (H : xH), gB m v Γ c H → (∀ j, j < i → Γ 1 j = nI (yf τ j) ∧ Γ 2 j = nI (yu τ j)) → (∀ j, j < yT τ → Γ 1 (5 + j) = nI (yf τ j) ∧ Γ 2 (5 + j) = nI (yu τ j)) → (∀ a, 3 ≤ a → Γ a = Γ0 a) → ∃ Γ' H', F_X12_book_L67 N (F_X12_book_J109 N) z (some m) (nI i) H = F_X12_book_J109 N (some m) H' ∧ gB m v Γ' c H' ∧ Fr (sB1 m) H H' ∧ (∀ j, j < yT τ → Γ' 1 j = nI (yf τ j) ∧ Γ' 2 j = nI (yu τ j)) ∧ ∀ a, 3 ≤ a → Γ' a = Γ0 a := by
  refine upto (P := fun z i => ∀ (Γ : Nat → Nat → Int32) (H : xH), gB m v Γ c H → (∀ j, j < i → Γ 1 j = nI (yf τ j) ∧ Γ 2 j = nI (yu τ j)) → (∀ j, j < yT τ → Γ 1 (5 + j) = nI (yf τ j) ∧ Γ 2 (5 + j) = nI (yu τ j)) → (∀ a, 3 ≤ a → Γ a = Γ0 a) → ∃ Γ' H', F_X12_book_L67 N (F_X12_book_J109 N) z (some m) (nI i) H = F_X12_book_J109 N (some m) H' ∧ gB m v Γ' c H' ∧ Fr (sB1 m) H H' ∧ (∀ j, j < yT τ → Γ' 1 j = nI (yf τ j) ∧ Γ' 2 j = nI (yu τ j)) ∧ ∀ a, 3 ≤ a → Γ' a = Γ0 a) ?_ ?_
  · intro z Γ H hB i1 i2 i3
    rw [show F_X12_book_L67 N (F_X12_book_J109 N) (z + 1) = F_X12_book_J67 N (F_X12_book_L67 N (F_X12_book_J109 N) z) (F_X12_book_J109 N) from rfl]
    refine ⟨Γ, H, ?_, hB, Fr.rf, i1, i3⟩
    simp only [F_X12_book_J67, gI hB.1 mi0, h0, Int32.le_refl, if_true, Option.bind_some]
  · intro z i hi ih Γ H hB i1 i2 i3
    obtain ⟨k1, k2⟩ := i2 i hi
    have r1 := hB.2.1.rd (a := 1) (by decide) (by decide) (show 5 + i < 10 by omega)
    rw [k1] at r1
    obtain ⟨s1, b1, f1⟩ := hB.el (a := 1) (i := i) (x := nI (yf τ i)) (by decide) (by decide) (show i < 10 by omega)
    have r2 := b1.2.1.rd (a := 2) (by decide) (by decide) (show 5 + i < 10 by omega)
    rw [congrFun (up2_a (by decide)) _, k2] at r2
    obtain ⟨s2, b2, f2⟩ := b1.el (a := 2) (i := i) (x := nI (yu τ i)) (by decide) (by decide) (show i < 10 by omega)
    rw [show F_X12_book_L67 N (F_X12_book_J109 N) (z + 1) = F_X12_book_J67 N (F_X12_book_L67 N (F_X12_book_J109 N) z) (F_X12_book_J109 N) from rfl]
    simp only [F_X12_book_J67, gI hB.1 mi0, h0, nI_ge hi (show yT τ < 2 ^ 31 by omega), if_false, gA hB.1 ma6, n5k, r1, s1, gA b1.1 ma7, r2, s2, nI_1, Option.bind_some]
    obtain ⟨Γ', H', w1, w2, w3, w4⟩ := ih _ _ b2 (fun j hj => by
      by_cases e : j = i
      · subst e; exact ⟨(congrFun (up2_a (by decide)) _).trans up2_s, up2_s⟩
      · rw [up2_n e, up2_n e, up2_n e, up2_n e]; exact i1 j (by omega)) (fun j hj => by rw [up2_n (by omega), up2_n (by omega), up2_n (by omega), up2_n (by omega)]; exact i2 j hj) (fun a ha => by rw [up2_a (by omega), up2_a (by omega)]; exact i3 a ha)
    exact ⟨Γ', H', w1, w2, (f1.tr f2).tr w3, w4⟩
theorem M_111 (hR : yR τ ≤ 40) (h4 : v 4 = nI (yR τ)) : ∀ z i, i ≤ yR τ → yR τ - i < z → ∀ (Γ : Nat → Nat → Int32) (H : xH), gB m v Γ c H → (∀ j, j < i → Γ 7 j = Γ0 7 (40 + j) ∧ Γ 8 j = Γ0 8 (40 + j) ∧ Γ 9 j = Γ0 9 (40 + j) ∧ Γ 10 j = Γ0 10 (40 + j)) → (∀ a j, j < yR τ → Γ a (40 + j) = Γ0 a (40 + j)) → (∀ a, ¬ (7 ≤ a ∧ a ≤ 10) → Γ a = Γ0 a) → ∃ Γ' H', F_X12_book_L111 N (F_X12_book_J185 N) z (some m) (nI i) H = F_X12_book_J185 N (some m) H' ∧ gB m v Γ' c H' ∧ Fr (sB1 m) H H' ∧ (∀ j, j < yR τ → Γ' 7 j = Γ0 7 (40 + j) ∧ Γ' 8 j = Γ0 8 (40 + j) ∧ Γ' 9 j = Γ0 9 (40 + j) ∧ Γ' 10 j = Γ0 10 (40 + j)) ∧ ∀ a, ¬ (7 ≤ a ∧ a ≤ 10) → Γ' a = Γ0 a := by
  refine upto (P := fun z i => ∀ (Γ : Nat → Nat → Int32) (H : xH), gB m v Γ c H → (∀ j, j < i → Γ 7 j = Γ0 7 (40 + j) ∧ Γ 8 j = Γ0 8 (40 + j) ∧ Γ 9 j = Γ0 9 (40 + j) ∧ Γ 10 j = Γ0 10 (40 + j)) → (∀ a j, j < yR τ → Γ a (40 + j) = Γ0 a (40 + j)) → (∀ a, ¬ (7 ≤ a ∧ a ≤ 10) → Γ a = Γ0 a) → ∃ Γ' H', F_X12_book_L111 N (F_X12_book_J185 N) z (some m) (nI i) H = F_X12_book_J185 N (some m) H' ∧ gB m v Γ' c H' ∧ Fr (sB1 m) H H' ∧ (∀ j, j < yR τ → Γ' 7 j = Γ0 7 (40 + j) ∧ Γ' 8 j = Γ0 8 (40 + j) ∧ Γ' 9 j = Γ0 9 (40 + j) ∧ Γ' 10 j = Γ0 10 (40 + j)) ∧ ∀ a, ¬ (7 ≤ a ∧ a ≤ 10) → Γ' a = Γ0 a) ?_ ?_
  · intro z Γ H hB i1 i2 i3
    rw [show F_X12_book_L111 N (F_X12_book_J185 N) (z + 1) = F_X12_book_J111 N (F_X12_book_L111 N (F_X12_book_J185 N) z) (F_X12_book_J185 N) from rfl]
    refine ⟨Γ, H, ?_, hB, Fr.rf, i1, i3⟩
    simp only [F_X12_book_J111, gI hB.1 mi4, h4, Int32.le_refl, if_true, Option.bind_some]
  · intro z i hi ih Γ H hB i1 i2 i3
    have k := fun a => i2 a i hi
    have ne : 40 + i ≠ i := by omega
    have r1 := hB.2.1.rd (a := 7) (by decide) (by decide) (show 40 + i < 80 by omega)
    obtain ⟨s1, b1, f1⟩ := hB.el (a := 7) (i := i) (x := Γ 7 (40 + i)) (by decide) (by decide) (show i < 80 by omega)
    have r2 := b1.2.1.rd (a := 8) (by decide) (by decide) (show 40 + i < 80 by omega)
    rw [up2_n ne] at r2
    obtain ⟨s2, b2, f2⟩ := b1.el (a := 8) (i := i) (x := Γ 8 (40 + i)) (by decide) (by decide) (show i < 80 by omega)
    have r3 := b2.2.1.rd (a := 9) (by decide) (by decide) (show 40 + i < 80 by omega)
    rw [up2_n ne, up2_n ne] at r3
    obtain ⟨s3, b3, f3⟩ := b2.el (a := 9) (i := i) (x := Γ 9 (40 + i)) (by decide) (by decide) (show i < 80 by omega)
    have r4 := b3.2.1.rd (a := 10) (by decide) (by decide) (show 40 + i < 80 by omega)
    rw [up2_n ne, up2_n ne, up2_n ne] at r4
    obtain ⟨s4, b4, f4⟩ := b3.el (a := 10) (i := i) (x := Γ 10 (40 + i)) (by decide) (by decide) (show i < 80 by omega)
    rw [show F_X12_book_L111 N (F_X12_book_J185 N) (z + 1) = F_X12_book_J111 N (F_X12_book_L111 N (F_X12_book_J185 N) z) (F_X12_book_J185 N) from rfl]
    simp only [F_X12_book_J111, gI hB.1 mi4, h4, nI_ge hi (show yR τ < 2 ^ 31 by omega), if_false, gA hB.1 ma12, n40k, r1, s1, gA b1.1 ma13, r2, s2, gA b2.1 ma14, r3, s3, gA b3.1 ma15, r4, s4, nI_1, Option.bind_some]
    obtain ⟨Γ', H', w1, w2, w3, w4⟩ := ih _ _ b4 (fun j hj => by
      by_cases e : j = i
      · subst e
        rw [← k 7, ← k 8, ← k 9, ← k 10]
        exact ⟨by simp [up2, upd], by simp [up2, upd], by simp [up2, upd], by simp [up2, upd]⟩
      · simp only [up2_n e]; exact i1 j (by omega)) (fun a j hj => by simp only [up2_n (show 40 + j ≠ i by omega)]; exact i2 a j hj) (fun a ha => by rw [up2_a (by omega), up2_a (by omega), up2_a (by omega), up2_a (by omega)]; exact i3 a ha)
    exact ⟨Γ', H', w1, w2, (((f1.tr f2).tr f3).tr f4).tr w3, w4⟩
def inO (a : Nat) : Prop := (3 ≤ a ∧ a ≤ 6) ∨ (11 ≤ a ∧ a ≤ 14)
theorem M_over {w : Nat} (hB : gB m v Γ c H) (hw : w < 12) {gh : Nat → Int32} (h28 : H.1 (m + 28) = some (aI 24 gh)) : ∃ Γ' H', F_X12_takesOver N (some m) (nI w) (nI (12 + w)) H = some H' ∧ gB m v Γ' c H' ∧ Fr (fun q => sB1 m q ∨ q = m + 28) H H' ∧ H'.1 (m + 28) = some (aI 24 (upd (upd gh (2 * w) (Γ 3 (12 + w))) (2 * w + 1) (Γ 4 (12 + w)))) ∧ (∀ a j, j ≠ w → Γ' a j = Γ a j) ∧ (∀ a, ¬ inO a → Γ' a = Γ a) ∧ (∀ a, 3 ≤ a → a ≤ 6 → Γ' a w = Γ a (12 + w)) ∧ ∀ a, 11 ≤ a → a ≤ 14 → Γ' a w = Γ a (12 + w) - 700 := by
  have ne : 12 + w ≠ w := by omega
  have l1 : 12 + w < 24 := by omega
  have l2 : w < 24 := by omega
  have r1 := hB.2.1.rd (a := 3) (by decide) (by decide) (show 12 + w < sz 3 from l1)
  obtain ⟨s1, b1, f1⟩ := hB.el (a := 3) (i := w) (x := Γ 3 (12 + w)) (by decide) (by decide) l2
  have r2 := b1.2.1.rd (a := 4) (by decide) (by decide) (show 12 + w < sz 4 from l1)
  rw [up2_n ne] at r2
  obtain ⟨s2, b2, f2⟩ := b1.el (a := 4) (i := w) (x := Γ 4 (12 + w)) (by decide) (by decide) l2
  have r3 := b2.2.1.rd (a := 5) (by decide) (by decide) (show 12 + w < sz 5 from l1)
  rw [up2_n ne, up2_n ne] at r3
  obtain ⟨s3, b3, f3⟩ := b2.el (a := 5) (i := w) (x := Γ 5 (12 + w)) (by decide) (by decide) l2
  have r4 := b3.2.1.rd (a := 6) (by decide) (by decide) (show 12 + w < sz 6 from l1)
  rw [up2_n ne, up2_n ne, up2_n ne] at r4
  obtain ⟨s4, b4, f4⟩ := b3.el (a := 6) (i := w) (x := Γ 6 (12 + w)) (by decide) (by decide) l2
  have r5 := b4.2.1.rd (a := 11) (by decide) (by decide) (show 12 + w < sz 11 from l1)
  rw [up2_n ne, up2_n ne, up2_n ne, up2_n ne] at r5
  obtain ⟨s5, b5, f5⟩ := b4.el (a := 11) (i := w) (x := Γ 11 (12 + w) - 700) (by decide) (by decide) l2
  have r6 := b5.2.1.rd (a := 12) (by decide) (by decide) (show 12 + w < sz 12 from l1)
  rw [up2_n ne, up2_n ne, up2_n ne, up2_n ne, up2_n ne] at r6
  obtain ⟨s6, b6, f6⟩ := b5.el (a := 12) (i := w) (x := Γ 12 (12 + w) - 700) (by decide) (by decide) l2
  have r7 := b6.2.1.rd (a := 13) (by decide) (by decide) (show 12 + w < sz 13 from l1)
  rw [up2_n ne, up2_n ne, up2_n ne, up2_n ne, up2_n ne, up2_n ne] at r7
  obtain ⟨s7, b7, f7⟩ := b6.el (a := 13) (i := w) (x := Γ 13 (12 + w) - 700) (by decide) (by decide) l2
  have r8 := b7.2.1.rd (a := 14) (by decide) (by decide) (show 12 + w < sz 14 from l1)
  rw [up2_n ne, up2_n ne, up2_n ne, up2_n ne, up2_n ne, up2_n ne, up2_n ne] at r8
  obtain ⟨s8, b8, f8⟩ := b7.el (a := 14) (i := w) (x := Γ 14 (12 + w) - 700) (by decide) (by decide) l2
  have ff := ((((((f1.tr f2).tr f3).tr f4).tr f5).tr f6).tr f7).tr f8
  have q3 := b8.2.1.rd (a := 3) (by decide) (by decide) (show w < sz 3 from l2)
  rw [show up2 (up2 (up2 (up2 (up2 (up2 (up2 (up2 Γ 3 w (Γ 3 (12 + w))) 4 w (Γ 4 (12 + w))) 5 w (Γ 5 (12 + w))) 6 w (Γ 6 (12 + w))) 11 w (Γ 11 (12 + w) - 700)) 12 w (Γ 12 (12 + w) - 700)) 13 w (Γ 13 (12 + w) - 700)) 14 w (Γ 14 (12 + w) - 700) 3 w = Γ 3 (12 + w) by simp [up2, upd]] at q3
  have h28' := (ff.2 (m + 28) (by unfold sB1; omega)).trans h28
  have e1 := stI (v := Γ 3 (12 + w)) h28' (show 2 * w < 24 by omega) (by decide)
  rw [vnI] at e1
  have P1 : ∀ a j, j ≠ w → up2 (up2 (up2 (up2 (up2 (up2 (up2 (up2 Γ 3 w (Γ 3 (12 + w))) 4 w (Γ 4 (12 + w))) 5 w (Γ 5 (12 + w))) 6 w (Γ 6 (12 + w))) 11 w (Γ 11 (12 + w) - 700)) 12 w (Γ 12 (12 + w) - 700)) 13 w (Γ 13 (12 + w) - 700)) 14 w (Γ 14 (12 + w) - 700) a j = Γ a j := fun a j hj => by simp only [up2_n hj]
  have P2 : ∀ a, ¬ inO a → up2 (up2 (up2 (up2 (up2 (up2 (up2 (up2 Γ 3 w (Γ 3 (12 + w))) 4 w (Γ 4 (12 + w))) 5 w (Γ 5 (12 + w))) 6 w (Γ 6 (12 + w))) 11 w (Γ 11 (12 + w) - 700)) 12 w (Γ 12 (12 + w) - 700)) 13 w (Γ 13 (12 + w) - 700)) 14 w (Γ 14 (12 + w) - 700) a = Γ a := fun a ha => by
    unfold inO at ha
    rw [up2_a (by omega), up2_a (by omega), up2_a (by omega), up2_a (by omega), up2_a (by omega), up2_a (by omega), up2_a (by omega), up2_a (by omega)]
  have P3 : ∀ a, 3 ≤ a → a ≤ 6 → up2 (up2 (up2 (up2 (up2 (up2 (up2 (up2 Γ 3 w (Γ 3 (12 + w))) 4 w (Γ 4 (12 + w))) 5 w (Γ 5 (12 + w))) 6 w (Γ 6 (12 + w))) 11 w (Γ 11 (12 + w) - 700)) 12 w (Γ 12 (12 + w) - 700)) 13 w (Γ 13 (12 + w) - 700)) 14 w (Γ 14 (12 + w) - 700) a w = Γ a (12 + w) := fun a h1 h2 => by
    have : a = 3 ∨ a = 4 ∨ a = 5 ∨ a = 6 := by omega
    rcases this with rfl | rfl | rfl | rfl <;> simp [up2, upd]
  have P4 : ∀ a, 11 ≤ a → a ≤ 14 → up2 (up2 (up2 (up2 (up2 (up2 (up2 (up2 Γ 3 w (Γ 3 (12 + w))) 4 w (Γ 4 (12 + w))) 5 w (Γ 5 (12 + w))) 6 w (Γ 6 (12 + w))) 11 w (Γ 11 (12 + w) - 700)) 12 w (Γ 12 (12 + w) - 700)) 13 w (Γ 13 (12 + w) - 700)) 14 w (Γ 14 (12 + w) - 700) a w = Γ a (12 + w) - 700 := fun a h1 h2 => by
    have : a = 11 ∨ a = 12 ∨ a = 13 ∨ a = 14 := by omega
    rcases this with rfl | rfl | rfl | rfl <;> simp [up2, upd]
  unfold F_X12_takesOver
  simp only [gA hB.1 ma8, r1, s1, gA b1.1 ma9, r2, s2, gA b2.1 ma10, r3, s3, gA b3.1 ma11, r4, s4, gA b4.1 ma16, r5, s5, gA b5.1 ma17, r6, s6, gA b6.1 ma18, r7, s7, gA b7.1 ma19, r8, s8, gA b8.1 ma52, gA b8.1 ma8, q3, show (2 : Int32) * nI w = nI (2 * w) by rw [show (2 : Int32) = nI 2 from rfl, pk_mul], e1, Option.bind_some]
  generalize up2 (up2 (up2 (up2 (up2 (up2 (up2 (up2 Γ 3 w (Γ 3 (12 + w))) 4 w (Γ 4 (12 + w))) 5 w (Γ 5 (12 + w))) 6 w (Γ 6 (12 + w))) 11 w (Γ 11 (12 + w) - 700)) 12 w (Γ 12 (12 + w) - 700)) 13 w (Γ 13 (12 + w) - 700)) 14 w (Γ 14 (12 + w) - 700) = Γ8 at *
  clear r1 r2 r3 r4 r5 r6 r7 r8 s1 s2 s3 s4 s5 s6 s7 s8 q3 e1 f1 f2 f3 f4 f5 f6 f7 f8 b1 b2 b3 b4 b5 b6 b7
  generalize xup _ (m + 14) _ = X at *
  have c1 : gB m v Γ8 c (xup X (m + 28) (aI 24 (upd gh (2 * w) (Γ 3 (12 + w))))) := by
    obtain ⟨g1, g2, a1, a2, a3⟩ := b8
    exact ⟨(xup_ne _ (by omega)).trans g1, g2.fr (fun a _ _ => xup_ne _ (by omega)), (xup_ne _ (by omega)).trans a1, (xup_ne _ (by omega)).trans a2, (xup_ne _ (by omega)).trans a3⟩
  have q4 := c1.2.1.rd (a := 4) (by decide) (by decide) (show w < sz 4 from l2)
  rw [P3 4 (by decide) (by decide)] at q4
  have e2 := stI (v := Γ 4 (12 + w)) (xup_at (H := X) (a := m + 28) (aI 24 (upd gh (2 * w) (Γ 3 (12 + w))))) (show 2 * w + 1 < 24 by omega) (by decide)
  rw [vnI, xup_up] at e2
  simp only [gA c1.1 ma52, gA c1.1 ma9, q4, nI_1, e2, Option.bind_some]
  refine ⟨Γ8, _, rfl, ?_, (ff.mono (fun q hq => Or.inl hq)).tr (Fr.u (Or.inr rfl)), xup_at _, P1, P2, P3, P4⟩
  obtain ⟨g1, g2, a1, a2, a3⟩ := b8
  exact ⟨(xup_ne _ (by omega)).trans g1, g2.fr (fun a _ _ => xup_ne _ (by omega)), (xup_ne _ (by omega)).trans a1, (xup_ne _ (by omega)).trans a2, (xup_ne _ (by omega)).trans a3⟩
