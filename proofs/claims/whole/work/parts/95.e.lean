/-! PURE: the reference reads the whole text. -/
variable {stf : Nat → Nat} {N K b m : Nat} {β : sB} {δ : sD} {H : xH}
variable {t S E : Nat → Nat} {n J : Nat} {τ : tS}
variable {v v1 v2 : Nat → Int32} {c c1 c2 : cod} {sm sm1 sm2 : Nat} {H1 H2 : xH} {Γ Γ1 Γ2 : Nat → Nat → Int32}
theorem mOs.pre {j j1 : Nat} {p : ps} {x : Option (Int32 × xH)} (g : mW t S n J m j j1 v Γ H v1 Γ1 H1) (h : mOs t S n J m p j1 v1 Γ1 H1 x) : mOs t S n J m p j v Γ H x := by
  obtain ⟨r, v', c', sm', Γ', H', x1, x2, x3⟩ := h
  exact ⟨r, v', c', sm', Γ', H', x1, g.tr x2, x3⟩
theorem M_statement (hT : tkS t n J S E) (hn : n ≤ 1200) (h6 : ∀ q, t q < 256) (hN : 1200 < N) {j : Nat} (h : mY t S n m τ j v c sm Γ H) (hj : j ≤ J) (hR : yR τ < 40) : mOs t S n J m (pSt t J S E τ j) j v Γ H (F_X12_statement N (some m) H) := by
  have st : xpI H (some m) 11 34 (0 : Int32) = some (mu m (upd v 34 0) H) := mpI h.1.f (by decide) _ ms34
  have u : ∀ i, i ≠ 34 → upd v 34 (0 : Int32) i = v i := fun i a => pk_un a
  have hC := h.1.fd (k := 34) (x := 0) (by decide)
  have y0 : mY t S n m τ j (upd v 34 0) c sm Γ (mu m (upd v 34 0) H) := ⟨hC, ⟨(u 25 (by decide)).trans h.2.1.1, (u 26 (by decide)).trans h.2.1.2.1, (u 27 (by decide)).trans h.2.1.2.2⟩, h.2.2.1.um, h.2.2.2⟩
  have w0 : mW t S n J m j j v Γ H (upd v 34 0) Γ (mu m (upd v 34 0) H) := ⟨⟨_, _, _, _, _, _, hC⟩, h.2.2.1.um, lv.rf, Fr.um, vk.u (by omega), Nat.le_refl _, hj⟩
  have a0 : upd v 34 (0 : Int32) 34 = nI 0 := pk_us
  refine mOs.pre w0 ?_
  have fin : ∀ (p : ps) (x : Option (Int32 × xH)) {j v Γ H}, mOs t S n J m p j v Γ H x → mOs t S n J m p j v Γ H (x_bd2 x fun v h => if v = 0 ∨ v = 1 then some (v, h) else none) := by
    intro p x j v Γ H hx
    obtain ⟨r, v', c', sm', Γ', H', x1, x2, x3, x4⟩ := hx
    rw [x1]
    refine ⟨r, v', c', sm', Γ', H', ?_, x2, x3, x4⟩
    simp only [bd2_s]
    cases hp : p.1 with
    | none => rw [(x3 hp).1, if_pos (Or.inl rfl)]
    | some τ' => rw [(x4 τ' hp).1, if_pos (Or.inr rfl)]
  unfold F_X12_statement pSt
  simp only [st, y0.1.ob, Option.bind_some]
  generalize upd v 34 (0 : Int32) = v0 at *
  generalize mu m v0 H = H0 at *
  have w1 := y0.1.w hT hn h6 hN hj (show 0 < 19 by decide) (show (499967946343 : Int64) = lN (w8 (kw 0)) by decide +kernel)
  by_cases q0 : wd t J S E j = kw 0
  · obtain ⟨v1, H1, e1, R1, -⟩ := w1.1 q0
    have y1 := y0.k R1
    rw [cif_t q0, e1]
    simp only [bd2_s, if_neg n10, y1.1.ob, Option.bind_some]
    exact mOs.pre (R1.w y0.2.2.1) (fin _ _ (M_thingTold hT hn h6 hN y1 R1.2.2.2.2.2.2.2))
  obtain ⟨v1, H1, e1, R1, s1, b1, -⟩ := w1.2 q0
  have y1 := y0.k R1
  rw [cif_f q0, e1]
  refine mOs.pre (R1.w y0.2.2.1) ?_
  simp only [bd2_s, if_true, y1.1.ob, Option.bind_some]
  have w2 := y1.1.w hT hn h6 hN hj (show 3 < 19 by decide) (show (120282394289522 : Int64) = lN (w8 (kw 3)) by decide +kernel)
  by_cases q1 : wd t J S E j = kw 3
  · obtain ⟨v2, H2, e2, R2, -⟩ := w2.1 q1
    have y2 := y1.k R2
    rw [cif_t q1, e2]
    simp only [bd2_s, if_neg n10, y2.1.ob, Option.bind_some]
    exact mOs.pre (R2.w y1.2.2.1) (fin _ _ (M_memberTold hT hn h6 hN y2 R2.2.2.2.2.2.2.2))
  obtain ⟨v2, H2, e2, R2, s2, b2, -⟩ := w2.2 q1
  have y2 := y1.k R2
  rw [cif_f q1, e2]
  refine mOs.pre (R2.w y1.2.2.1) ?_
  simp only [bd2_s, if_true, y2.1.ob, Option.bind_some]
  have w3 := y2.1.w hT hn h6 hN hj (show 4 < 19 by decide) (show (1650553459 : Int64) = lN (w8 (kw 4)) by decide +kernel)
  by_cases q2 : wd t J S E j = kw 4
  · obtain ⟨v3, H3, e3, R3, -⟩ := w3.1 q2
    have y3 := y2.k R3
    have o := M_linkTold (br := False) hT hn h6 hN y3 R3.2.2.2.2.2.2.2 hR
    rw [bI_f id] at o
    rw [cif_t q2, e3]
    simp only [bd2_s, if_neg n10, y3.1.ob, Option.bind_some]
    exact mOs.pre (R3.w y2.2.2.1) (fin _ _ o)
  obtain ⟨v3, H3, e3, R3, s3, b3, -⟩ := w3.2 q2
  have y3 := y2.k R3
  rw [cif_f q2, e3]
  refine mOs.pre (R3.w y2.2.2.1) ?_
  simp only [bd2_s, if_true, y3.1.ob, Option.bind_some]
  have w4 := y3.1.w hT hn h6 hN hj (show 5 < 19 by decide) (show (108243534636915 : Int64) = lN (w8 (kw 5)) by decide +kernel)
  by_cases q3 : wd t J S E j = kw 5
  · obtain ⟨v4, H4, e4, R4, -⟩ := w4.1 q3
    have y4 := y3.k R4
    have o := M_linkTold (br := True) hT hn h6 hN y4 R4.2.2.2.2.2.2.2 hR
    rw [bI_t trivial] at o
    rw [cif_t q3, e4]
    simp only [bd2_s, if_neg n10, y4.1.ob, Option.bind_some]
    exact mOs.pre (R4.w y3.2.2.1) (fin _ _ o)
  obtain ⟨v4, H4, e4, R4, s4, b4, -⟩ := w4.2 q3
  have y4 := y3.k R4
  rw [cif_f q3, e4]
  refine mOs.pre (R4.w y3.2.2.1) ?_
  simp only [bd2_s, if_true, gI y4.1.f mi25, y4.2.1.1, Option.bind_some]
  have hW12 := h.2.2.2.2.2.2.1
  by_cases q4 : yW τ < 12
  rotate_left
  · rw [cif_f q4, if_pos (show (12 : Int32) ≤ nI (yW τ) from nI_le (a := 12) (by omega) (by omega))]
    exact mOs.no ((y4.d hj).1) s4
  rw [cif_t q4, if_neg (show ¬ (12 : Int32) ≤ nI (yW τ) from nI_ge (b := 12) q4 (by decide))]
  simp only [y4.1.ob, Option.bind_some]
  have w5 := y4.1.w hT hn h6 hN hj (show 7 < 19 by decide) (show (6448500 : Int64) = lN (w8 (kw 7)) by decide +kernel)
  by_cases q5 : wd t J S E j = kw 7
  rotate_left
  · obtain ⟨v5, H5, e5, R5, s5, -⟩ := w5.2 q5
    rw [cif_f q5, e5]
    simp only [bd2_s, if_true]
    exact mOs.no ((y4.d hj).k R5).1 s5
  obtain ⟨v5, H5, e5, R5, b5, -⟩ := w5.1 q5
  have y5 := y4.k R5
  rw [cif_t q5, e5]
  simp only [bd2_s, if_neg n10, y5.1.ob, Option.bind_some]
  refine mOs.pre (R5.w y4.2.2.1) ?_
  have o := M_betTold hT hn h6 hN y5 R5.2.2.2.2.2.2.2 (((((b5.trans b4).trans b3).trans b2).trans b1).trans a0) q4
  obtain ⟨r, v', c', sm', Γ', H', x1, x2, x3, x4⟩ := o
  rw [x1]
  refine ⟨r, v', c', sm', Γ', H', ?_, x2, x3, x4⟩
  simp only [bd2_s]
  cases hp : (pTb t J S E τ (j + 1)).1 with
  | none => rw [(x3 hp).1, if_pos rfl]
  | some τ' => rw [(x4 τ' hp).1, if_neg n10]
theorem M_text (hT : tkS t n J S E) (hn : n ≤ 1200) (h6 : ∀ q, t q < 256) (hN : 1200 < N) {j0 : Nat} {v0 : Nat → Int32} {Γ0 : Nat → Nat → Int32} {H0 : xH} : ∀ (f k : Nat) (τ : tS) (j : Nat) (v : Nat → Int32) (c : cod) (sm : Nat) (Γ : Nat → Nat → Int32) (H : xH), J - j < f → J - j < k → mY t S n m τ j v c sm Γ H → mW t S n J m j0 j v0 Γ0 H0 v Γ H → v 33 = nI (S j) → yR τ ≤ yS τ →
    ∃ (r : Int32) (v' : Nat → Int32) (c' : cod) (sm' : Nat) (Γ' : Nat → Nat → Int32) (H' : xH), F_X12_reads_L78 N (F_X12_reads_J148 N) k (some m) 1 H = F_X12_reads_J148 N (some m) r H' ∧ mW t S n J m j0 (pTx t J S E f τ j).2 v0 Γ0 H0 v' Γ' H' ∧ v' 33 = nI (S (pTx t J S E f τ j).2) ∧ ((pTx t J S E f τ j).1 = none → r = 0) ∧ ∀ τ', (pTx t J S E f τ j).1 = some τ' → r = 1 ∧ mY t S n m τ' (pTx t J S E f τ j).2 v' c' sm' Γ' H' := by
  intro f
  induction f with
  | zero => intro k τ j v c sm Γ H hf; omega
  | succ f ih =>
    intro k τ j v c sm Γ H hf hk h g h33 hR
    obtain ⟨k, rfl⟩ : ∃ z, k = z + 1 := ⟨k - 1, by omega⟩
    have hj : j ≤ J := g.2.2.2.2.2.2
    have h32 : v 32 = nI n := h.1.1.2.2.1
    have hS := hT.le hj
    rw [show F_X12_reads_L78 N (F_X12_reads_J148 N) (k + 1) = F_X12_reads_J78 N (F_X12_reads_L78 N (F_X12_reads_J148 N) k) (F_X12_reads_J148 N) from rfl, pTx]
    have bad : j < J → ∀ H', F_X12_reads_J122 N (F_X12_reads_L78 N (F_X12_reads_J148 N) k) (some m) H' = F_X12_reads_J148 N (some m) 0 H' := by
      intro hlt H'
      obtain ⟨k, rfl⟩ : ∃ z, k = z + 1 := ⟨k - 1, by omega⟩
      unfold F_X12_reads_J122 F_X12_reads_J123
      rw [if_pos rfl, show F_X12_reads_L78 N (F_X12_reads_J148 N) (k + 1) = F_X12_reads_J78 N (F_X12_reads_L78 N (F_X12_reads_J148 N) k) (F_X12_reads_J148 N) from rfl]
      unfold F_X12_reads_J78
      rw [if_pos rfl]
    unfold F_X12_reads_J78
    rw [if_neg n10]
    simp only [gI h.1.f mi33, gI h.1.f mi32, h32, h33, Option.bind_some]
    by_cases q0 : j = J
    · rw [cif_t q0, if_pos (show nI n ≤ nI (S j) by rw [q0, hT.1]; exact Int32.le_refl _)]
      exact ⟨1, v, c, sm, Γ, H, rfl, g, h33, (fun z => by cases z), fun σ hσ => ⟨rfl, by cases hσ; exact h⟩⟩
    have jlt : j < J := by omega
    have hlt : S j < n := by have := hT.2.1 j jlt; have := hT.ele jlt; omega
    rw [cif_f q0, if_neg (nI_ge hlt (by omega))]
    simp only [gI h.1.f mi26, h.2.1.2.1, Option.bind_some]
    have hS40 := h.2.2.2.2.2.2.2.2
    by_cases q1 : yS τ < 40
    rotate_left
    · rw [cif_f q1, if_pos (show (40 : Int32) ≤ nI (yS τ) from nI_le (a := 40) (by omega) (by omega)), bad jlt]
      exact ⟨0, v, c, sm, Γ, H, rfl, g, h33, fun _ => rfl, fun σ hσ => by cases hσ⟩
    rw [cif_t q1, if_neg (show ¬ (40 : Int32) ≤ nI (yS τ) from nI_ge (b := 40) q1 (by decide))]
    obtain ⟨r, v1, c1, sm1, Γ1, H1, x1, x2, x3, x4⟩ := M_statement hT hn h6 hN h hj (by omega)
    simp only [h.1.ob, x1, bd2_s, Option.bind_some]
    cases hp : (pSt t J S E τ j).1 with
    | none =>
      rw [sbd_n hp, (x3 hp).1, if_pos rfl, bad jlt]
      exact ⟨0, v1, c1, sm1, Γ1, H1, rfl, g.tr x2, (x3 hp).2, fun _ => rfl, fun σ hσ => by cases hσ⟩
    | some τ' =>
      rw [sbd_s hp, (x4 τ' hp).1, if_neg n10]
      have y1 := (x4 τ' hp).2
      obtain ⟨b1, b2⟩ := pSt_y (t := t) (J := J) (S := S) (E := E) (τ := τ) (j := j) τ' hp
      clear x1 x3 x4
      generalize (pSt t J S E τ j).2 = j' at *
      have hj' : j' ≤ J := x2.2.2.2.2.2.2
      have jj : j ≤ j' := x2.2.2.2.2.2.1
      obtain ⟨s1, s2⟩ := y1.1.s hT hn h6 hN hj' (s := 59) (by decide)
      rw [show nI 59 = (59 : Int32) from rfl] at s1 s2
      simp only [y1.1.ob, Option.bind_some]
      by_cases q2 : sg t J S j' = 59
      rotate_left
      · obtain ⟨v2, H2, e2, R2, f2⟩ := s2 q2
        rw [cif_f q2, e2]
        simp only [bd2_s, if_true]
        rw [bad jlt]
        exact ⟨0, v2, c1, sm1, Γ1, H2, rfl, (g.tr x2).tr (R2.w y1.2.2.1), f2, fun _ => rfl, fun σ hσ => by cases hσ⟩
      obtain ⟨v2, H2, e2, R2, -⟩ := s1 q2
      have y2 := y1.k R2
      have g2 := (g.tr x2).tr (R2.w y1.2.2.1)
      have j1 : j' + 1 ≤ J := R2.2.2.2.2.2.2.2
      rw [cif_t q2, e2]
      simp only [bd2_s, if_neg n10, F_X12_reads_J123]
      have st : xpI H2 (some m) 11 26 (nI (yS τ' + 1)) = some (mu m (upd v2 26 (nI (yS τ' + 1))) H2) := mpI y2.1.f (by decide) _ ms26
      have hC := y2.1.fd (k := 26) (x := nI (yS τ' + 1)) (by decide)
      have u : ∀ i, i ≠ 26 → upd v2 26 (nI (yS τ' + 1)) i = v2 i := fun i a => pk_un a
      have y3 : mY t S n m (tadS τ') (j' + 1) (upd v2 26 (nI (yS τ' + 1))) c1 sm1 Γ1 (mu m (upd v2 26 (nI (yS τ' + 1))) H2) := ⟨hC, ⟨(u 25 (by decide)).trans y2.2.1.1, pk_us, (u 27 (by decide)).trans y2.2.1.2.2⟩, y2.2.2.1.um, y2.2.2.2.1, y2.2.2.2.2.1, y2.2.2.2.2.2.1, y2.2.2.2.2.2.2.1, y2.2.2.2.2.2.2.2.1, by show yS τ' + 1 ≤ 40; omega⟩
      have g3 : mW t S n J m j0 (j' + 1) v0 Γ0 H0 (upd v2 26 (nI (yS τ' + 1))) Γ1 (mu m (upd v2 26 (nI (yS τ' + 1))) H2) := by
        obtain ⟨z1, z2, z3, z4, z5, z6, z7⟩ := g2
        exact ⟨⟨_, _, _, _, _, _, hC⟩, z2.um, z3, z4.tr Fr.um, z5.tr (vk.u (by omega)), z6, z7⟩
      simp only [gI y2.1.f mi26, y2.2.1.2.1, nI_1, st, y3.1.ob, Option.bind_some]
      clear st hC u
      generalize upd v2 26 (nI (yS τ' + 1)) = v3 at *
      generalize mu m v3 H2 = H3 at *
      obtain ⟨c0, cx, c32, p, c33, cp⟩ := id y3.1.1
      have eb := M_blanks hT hn h6 hN cx j1 cp c0 c32 c33
      have hC := y3.1.p33 (j' := j' + 1) (p := S (j' + 1)) gp_s
      have u : ∀ i, i ≠ 33 → upd v3 33 (nI (S (j' + 1))) i = v3 i := fun i a => pk_un a
      have y4 : mY t S n m (tadS τ') (j' + 1) (upd v3 33 (nI (S (j' + 1)))) c1 sm1 Γ1 (mu m (upd v3 33 (nI (S (j' + 1)))) H3) := ⟨hC, ⟨(u 25 (by decide)).trans y3.2.1.1, (u 26 (by decide)).trans y3.2.1.2.1, (u 27 (by decide)).trans y3.2.1.2.2⟩, y3.2.2.1.um, y3.2.2.2⟩
      have g4 : mW t S n J m j0 (j' + 1) v0 Γ0 H0 (upd v3 33 (nI (S (j' + 1)))) Γ1 (mu m (upd v3 33 (nI (S (j' + 1)))) H3) := by
        obtain ⟨z1, z2, z3, z4, z5, z6, z7⟩ := g3
        exact ⟨⟨_, _, _, _, _, _, hC⟩, z2.um, z3, z4.tr Fr.um, z5.tr (vk.u (by omega)), z6, z7⟩
      simp only [eb, Option.bind_some]
      exact ih k (tadS τ') (j' + 1) _ c1 sm1 Γ1 _ (by omega) (by omega) y4 g4 pk_us (by show yR τ' ≤ yS τ' + 1; omega)
