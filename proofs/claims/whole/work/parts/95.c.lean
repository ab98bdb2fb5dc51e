/-! PURE: the reference reads statements: things, members, rules. -/
variable {stf : Nat → Nat} {N K b m : Nat} {β : sB} {δ : sD} {H : xH}
variable {t S E : Nat → Nat} {n J : Nat} {τ : tS}
variable {v v1 v2 : Nat → Int32} {c c1 c2 : cod} {sm sm1 sm2 : Nat} {H1 H2 : xH} {Γ Γ1 Γ2 : Nat → Nat → Int32}
/-- a new name is looked at -/
theorem M_nw (hT : tkS t n J S E) (hn : n ≤ 1200) (h6 : ∀ q, t q < 256) (hN : 1200 < N) {j : Nat} (h : mY t S n m τ j v c sm Γ H) (hj : j ≤ J) : ∃ v1, F_X12_word N (some m) H = some (lN (w8 (wd t J S E j)), mu m v1 H) ∧ F_X12_isNew N (some m) (lN (w8 (wd t J S E j))) (mu m v1 H) = some (bI (isNw τ (wd t J S E j)), mu m v1 H) ∧ v1 33 = nI (S j) ∧ v1 38 = nI (we t J S E j) ∧ mD t S n J m τ j j v Γ H v1 c sm Γ (mu m v1 H) := by
  obtain ⟨v1, w, e1, e33, e38, R1⟩ := h.1.wo hT hn h6 hN hj
  have d := (h.d hj).k R1
  exact ⟨v1, w, M_isNew hN d.2.1.f d.2.1.2.1 (wd_ok hT j), e33, e38, d⟩
section
variable {j0 j : Nat} {v0 : Nat → Int32} {Γ0 : Nat → Nat → Int32} {H0 : xH}
/-- the place behind the word -/
theorem mD.pw (hT : tkS t n J S E) (hn : n ≤ 1200) (h6 : ∀ q, t q < 256) (hN : 1200 < N) (h : mD t S n J m τ j0 j v0 Γ0 H0 v c sm Γ (mu m v H)) (hw : wd t J S E j ≠ []) : mD t S n J m τ j0 (j + 1) v0 Γ0 H0 (upd v 33 (nI (E j))) c sm Γ (mu m (upd v 33 (nI (E j))) H) ∧ we t J S E j = E j ∧ j < J := by
  obtain ⟨j1, -, j3⟩ := wd_j hT hn h6 hN hw
  obtain ⟨h1, h2, ⟨h3, h4, h5⟩, h6', h7, h8⟩ := h
  have hC := h2.p33 (gp_e hT hn h6 hN j1)
  rw [mu_mu] at hC
  have u : ∀ i, i ≠ 33 → upd v 33 (nI (E j)) i = v i := fun i a => pk_un a
  obtain ⟨w1, w2, w3, w4, w5, w6, w7⟩ := h1
  have hS := hT.2.1 j j1
  refine ⟨⟨⟨⟨_, _, _, _, _, _, hC⟩, ?_, w3, ?_, w5.tr (vk.u (by omega)), by omega, by omega⟩, hC, ⟨(u 25 (by decide)).trans h3, (u 26 (by decide)).trans h4, (u 27 (by decide)).trans h5⟩, h6', ?_, h8⟩, j3, j1⟩
  · have := w2.um (v := upd v 33 (nI (E j)))
    rwa [mu_mu] at this
  · have := w4.tr (Fr.um (v := upd v 33 (nI (E j))))
    rwa [mu_mu] at this
  · unfold rmS at *; omega
end
theorem M_thingTold (hT : tkS t n J S E) (hn : n ≤ 1200) (h6 : ∀ q, t q < 256) (hN : 1200 < N) {j : Nat} (h : mY t S n m τ j v c sm Γ H) (hj : j ≤ J) : mOs t S n J m (pTt t J S E τ j) j v Γ H (F_X12_thingTold N (some m) H) := by
  obtain ⟨v1, w, nw, e33, e38, d1⟩ := M_nw hT hn h6 hN h hj
  have hT5 := h.1.2.1.1.2.1
  unfold F_X12_thingTold pTt
  simp only [h.1.ob, w, nw, bd2_s, d1.2.1.ob, Option.bind_some]
  by_cases q1 : isNw τ (wd t J S E j)
  rotate_left
  · rw [cif_f q1, bI_f q1, if_pos rfl]
    exact mOs.no d1.1 e33
  rw [cif_t q1, bI_t q1, if_neg n10]
  simp only [gI d1.2.1.f mi23, d1.2.1.2.1.1.1, Option.bind_some]
  by_cases q2 : yT τ < 5
  rotate_left
  · rw [cif_f q2, if_pos (show nI (yT τ) = (5 : Int32) by rw [show yT τ = 5 by omega]; rfl)]
    exact mOs.no d1.1 e33
  obtain ⟨d2, ew, j1⟩ := d1.pw hT hn h6 hN q1.1
  have st : xpI (mu m v1 H) (some m) 11 33 (nI (E j)) = some (mu m (upd v1 33 (nI (E j))) H) := mu_p (by decide) ms33
  rw [cif_t q2, if_neg (show ¬ nI (yT τ) = (5 : Int32) from fun z => by have := (nI_eq (b := 5) (by omega) (by decide)).mp z; omega)]
  simp only [gI mu_at mi38, e38, ew, st, gI mu_at mi23, d2.2.1.2.1.1.1, d2.2.1.ar.1, n5k, Option.bind_some]
  have hW := wd_ok hT j
  have b1 : 5 + yT τ < sz 1 := by show 5 + yT τ < 10; omega
  have b2 : 5 + yT τ < sz 2 := by show 5 + yT τ < 10; omega
  have s1 := d2.1.2.1.st (a := 1) (x := 0) (by decide) (by decide) b1
  have d3 := d2.el (a := 1) (i := 5 + yT τ) (x := 0) (by decide) (by decide) (by show 10 ≤ 2 * (5 + yT τ); omega) ⟨fun _ => rfl, fun z => by omega, fun z => by omega, fun z => by omega⟩
  have s2 := d3.1.2.1.st (a := 2) (x := 7) (by decide) (by decide) b2
  have d4 := d3.el (a := 2) (i := 5 + yT τ) (x := 7) (by decide) (by decide) (by show 10 ≤ 2 * (5 + yT τ); omega) ⟨fun _ => rfl, fun z => by omega, fun z => by omega, fun z => by omega⟩
  simp only [s1, d3.2.1.ar.2.1, s2, d4.2.1.ob, Option.bind_some]
  have g1 : up2 (up2 Γ 1 (5 + yT τ) 0) 2 (5 + yT τ) 7 1 (5 + yT τ) = nI 0 := (congrFun (up2_a (by decide)) _).trans up2_s
  have g2 : up2 (up2 Γ 1 (5 + yT τ) 0) 2 (5 + yT τ) 7 2 (5 + yT τ) = nI 7 := up2_s
  generalize up2 (up2 Γ 1 (5 + yT τ) 0) 2 (5 + yT τ) 7 = Γ4 at *
  generalize xup (xup (mu m (upd v1 33 (nI (E j))) H) (m + 1) (aI (sz 1) (upd (Γ 1) (5 + yT τ) 0))) (m + 2) (aI (sz 2) (upd (up2 Γ 1 (5 + yT τ) 0 2) (5 + yT τ) 7)) = H4 at *
  have w1 := d4.2.1.w hT hn h6 hN d4.1.2.2.2.2.2.2 (show 1 < 19 by decide) (show (1718775661 : Int64) = lN (w8 (kw 1)) by decide +kernel)
  by_cases q3 : wd t J S E (j + 1) = kw 1
  rotate_left
  · obtain ⟨v5, H5, e5, R5, -⟩ := w1.2 q3
    rw [cif_f q3, e5]
    simp only [bd2_s, if_true]
    exact M_85 hT hn h6 hN (d4.k R5) q2 hW q1 (Nat.zero_le _) g1 g2
  obtain ⟨v5, H5, e5, R5, -⟩ := w1.1 q3
  have d5 := d4.k R5
  rw [cif_t q3, e5]
  simp only [bd2_s, if_neg n10, d5.2.1.ob, Option.bind_some]
  have w2 := d5.2.1.nu hT hn h6 hN R5.2.2.2.2.2.2.2 (show 0 < 1000 by decide) (show 7 < 1000 by decide)
  rw [show nI 7 = (7 : Int32) from rfl, show nI 0 = (0 : Int32) from rfl] at w2
  by_cases q4 : isN t J S E (j + 1 + 1) 0 7
  rotate_left
  · obtain ⟨v6, H6, e6, R6, f6⟩ := w2.2 q4
    rw [cif_f q4, e6]
    simp only [bd2_s, if_true]
    exact mOs.no (d5.k R6).1 f6
  obtain ⟨v6, H6, e6, R6, -, r6⟩ := w2.1 q4
  have d6 := d5.k R6
  have l6 := nv_le q4
  have s3 := d6.1.2.1.st (a := 1) (x := nI (nv t S E (j + 1 + 1))) (by decide) (by decide) b1
  have d7 := d6.el (a := 1) (i := 5 + yT τ) (x := nI (nv t S E (j + 1 + 1))) (by decide) (by decide) (by show 10 ≤ 2 * (5 + yT τ); omega) ⟨fun _ => rfl, fun z => by omega, fun z => by omega, fun z => by omega⟩
  rw [cif_t q4, e6]
  simp only [bd2_s, if_neg n10, d6.2.1.ar.1, gI d6.2.1.f mi39, r6, s3, Option.bind_some]
  exact M_85 hT hn h6 hN d7 q2 hW q1 l6 up2_s ((congrFun (up2_a (by decide)) _).trans g2)
theorem M_memberTold (hT : tkS t n J S E) (hn : n ≤ 1200) (h6 : ∀ q, t q < 256) (hN : 1200 < N) {j : Nat} (h : mY t S n m τ j v c sm Γ H) (hj : j ≤ J) : mOs t S n J m (pTm t J S E τ j) j v Γ H (F_X12_memberTold N (some m) H) := by
  obtain ⟨v1, w, nw, e33, e38, d1⟩ := M_nw hT hn h6 hN h hj
  have hM6 := h.1.2.1.2.1.2.1
  unfold F_X12_memberTold pTm
  simp only [h.1.ob, w, nw, bd2_s, d1.2.1.ob, Option.bind_some]
  by_cases q1 : isNw τ (wd t J S E j)
  rotate_left
  · rw [cif_f q1, bI_f q1, if_pos rfl]
    exact mOs.no d1.1 e33
  rw [cif_t q1, bI_t q1, if_neg n10]
  simp only [gI d1.2.1.f mi24, d1.2.1.2.1.2.1.1, Option.bind_some]
  by_cases q2 : yM τ < 6
  rotate_left
  · rw [cif_f q2, if_pos (show nI (yM τ) = (6 : Int32) by rw [show yM τ = 6 by omega]; rfl)]
    exact mOs.no d1.1 e33
  obtain ⟨d2, ew, j1⟩ := d1.pw hT hn h6 hN q1.1
  have st : xpI (mu m v1 H) (some m) 11 33 (nI (E j)) = some (mu m (upd v1 33 (nI (E j))) H) := mu_p (by decide) ms33
  rw [cif_t q2, if_neg (show ¬ nI (yM τ) = (6 : Int32) from fun z => by have := (nI_eq (b := 6) (by omega) (by decide)).mp z; omega)]
  have hW := wd_ok hT j
  simp only [gI mu_at mi38, e38, ew, st, Option.bind_some]
  generalize upd v1 33 (nI (E j)) = v2 at *
  generalize mu m v2 H = H2 at *
  obtain ⟨g1, hC, g3, hG, g5, g6, g7⟩ := d2
  obtain ⟨⟨p1, ⟨tx, p2, p2'⟩, p3, p4⟩, ⟨⟨n1, n2, gn, n3, n3'⟩, ⟨n4, n5, gm, n6, n6'⟩, n7, n8⟩, ⟨c1', c2', c3'⟩, c4'⟩ := id hC
  obtain ⟨⟨T', M', tn', mn', c', sm', w1⟩, w2, w3, w4, w5, w6, w7⟩ := g1
  have e1 := stJ (v := lN (w8 (wd t J S E j))) n6 q2 (by decide)
  generalize x1 : xup H2 (m + 19) (aJ 6 (vp_updL gm (yM τ) (lN (w8 (wd t J S E j))))) = A at *
  have am : A.1 m = some (mo m v2) := by rw [← x1, xup_ne _ (by omega)]; exact p1
  have ne : ∀ q, q ≠ m → q ≠ m + 19 → (mu m (upd v2 24 (nI (yM τ + 1))) A).1 q = H2.1 q := fun q q1 q2 => by rw [mu_ne q1, ← x1, xup_ne _ q2]
  have e2 : xpI A (some m) 11 24 (nI (yM τ + 1)) = some (mu m (upd v2 24 (nI (yM τ + 1))) A) := mpI am (by decide) _ ms24
  simp only [gA p1 ma30, gI p1 mi24, n4, e1, gI am mi24, nI_1, e2, Option.bind_some]
  have uu : ∀ i, i ≠ 24 → upd v2 24 (nI (yM τ + 1)) i = v2 i := fun i hi => pk_un hi
  have hC' : zC t S n (yT τ) (yM τ + 1) (ytn τ) (ins (ymn τ) (yM τ) (wd t J S E j)) m (j + 1) (upd v2 24 (nI (yM τ + 1))) c sm (mu m (upd v2 24 (nI (yM τ + 1))) A) := by
    refine ⟨⟨mu_at, ⟨tx, (ne _ (by omega) (by omega)).trans p2, p2'⟩, (uu 32 (by decide)).trans p3, ?_⟩, ⟨⟨(uu 23 (by decide)).trans n1, n2, gn, (ne _ (by omega) (by omega)).trans n3, n3'⟩, ⟨pk_us, by omega, _, ?_, gN1 n6'⟩, n7, n8.ins hW q1.1 q1.2.2.2⟩, ⟨(ne _ (by omega) (by omega)).trans c1', (ne _ (by omega) (by omega)).trans c2', (ne _ (by omega) (by omega)).trans c3'⟩, (uu 28 (by decide)).trans c4'⟩
    · rw [uu 33 (by decide)]; exact p4
    · rw [mu_ne (by omega), ← x1, xup_at]
  have hw : mW t S n J m j (j + 1) v Γ H (upd v2 24 (nI (yM τ + 1))) Γ (mu m (upd v2 24 (nI (yM τ + 1))) A) := by
    refine ⟨⟨_, _, _, _, _, _, hC'⟩, w2.fr (fun a z1 z2 => ne _ (by omega) (by omega)), w3, w4.tr ⟨?_, fun q hq => ne q (fun z => hq (by rw [z]; unfold sY; omega)) (fun z => hq (by rw [z]; unfold sY; omega))⟩, w5.tr (vk.u (by omega)), w6, w7⟩
    show A.2 = H2.2
    rw [← x1]; rfl
  exact mOs.ok hw ⟨hC', ⟨(uu 25 (by decide)).trans g3.1, (uu 26 (by decide)).trans g3.2.1, (uu 27 (by decide)).trans g3.2.2⟩, hw.2.1, hG, g5, g6, g7⟩
/-- a rule is taken up -/
theorem M_104 {j0 j : Nat} {r : Nat × Nat × Option Nat} {v0 : Nat → Int32} {Γ0 : Nat → Nat → Int32} {H0 : xH} (h : mD t S n J m τ j0 j v0 Γ0 H0 v c sm Γ H) (hR : yR τ < 40) (h1 : Γ 7 (40 + yR τ) = rK r.2.2 ∧ Γ 8 (40 + yR τ) = nI r.1 ∧ Γ 9 (40 + yR τ) = nI r.2.1 ∧ Γ 10 (40 + yR τ) = rI r.2.2) : mOs t S n J m (some (tadR τ r), j) j0 v0 Γ0 H0 (F_X12_linkTold_J104 N (some m) H) := by
  obtain ⟨⟨g1, g1'⟩, hC, ⟨g3, g4, g5⟩, ⟨y1, y2, y3, y4⟩, g6, g7, g8, g9, g10⟩ := h
  have e2 : xpI H (some m) 11 27 (nI (yR τ + 1)) = some (mu m (upd v 27 (nI (yR τ + 1))) H) := mpI hC.f (by decide) _ ms27
  have uu : ∀ i, i ≠ 27 → upd v 27 (nI (yR τ + 1)) i = v i := fun i hi => pk_un hi
  unfold F_X12_linkTold_J104
  simp only [gI hC.f mi27, g5, nI_1, e2, Option.bind_some]
  have hC' := hC.fd (k := 27) (x := nI (yR τ + 1)) (by decide)
  obtain ⟨w2, w3, w4, w5, w6, w7⟩ := g1'
  have hw : mW t S n J m j0 j v0 Γ0 H0 (upd v 27 (nI (yR τ + 1))) Γ (mu m (upd v 27 (nI (yR τ + 1))) H) := ⟨⟨_, _, _, _, _, _, hC'⟩, w2.um, w3, w4.tr Fr.um, w5.tr (vk.u (by omega)), w6, w7⟩
  refine mOs.ok hw ⟨hC', ⟨(uu 25 (by decide)).trans g3, (uu 26 (by decide)).trans g4, pk_us⟩, hw.2.1, ⟨y1, y2, fun i hi => ?_, y4⟩, g6, g7, g8, by show yR τ + 1 ≤ 40; omega, g10⟩
  show Γ 7 (40 + i) = rK (ins (yr τ) (yR τ) r i).2.2 ∧ Γ 8 (40 + i) = nI (ins (yr τ) (yR τ) r i).1 ∧ Γ 9 (40 + i) = nI (ins (yr τ) (yR τ) r i).2.1 ∧ Γ 10 (40 + i) = rI (ins (yr τ) (yR τ) r i).2.2
  by_cases q : i = yR τ
  · rw [q, ins_s]; exact h1
  · rw [ins_n q]; exact y3 i (by have : i < yR τ + 1 := hi; omega)
theorem M_linkTold (hT : tkS t n J S E) (hn : n ≤ 1200) (h6 : ∀ q, t q < 256) (hN : 1200 < N) {j : Nat} {br : Prop} (h : mY t S n m τ j v c sm Γ H) (hj : j ≤ J) (hR : yR τ < 40) : mOs t S n J m (pTr t J S E br τ j) j v Γ H (F_X12_linkTold N (some m) (bI br) H) := by
  have bd : ∀ a, 7 ≤ a → a ≤ 10 → 40 + yR τ < sz a ∧ sz a ≤ 2 * (40 + yR τ) := fun a h1 h2 => by
    have : sz a = 80 := by unfold sz; rw [if_neg (by omega), if_neg (by omega), if_pos h2]
    omega
  have fd : ∀ a, 7 ≤ a → a ≤ 10 → (a ≤ 2 → 40 + yR τ = 5 + yT τ) ∧ (3 ≤ a → a ≤ 6 → 40 + yR τ = 12 + yW τ) ∧ (7 ≤ a → a ≤ 10 → 40 + yR τ = 40 + yR τ) ∧ (11 ≤ a → 40 + yR τ = 12 + yW τ) := fun a h1 h2 => ⟨fun z => by omega, fun z z2 => by omega, fun _ _ => rfl, fun z => by omega⟩
  have d0 := h.d hj
  have s0 := d0.1.2.1.st (a := 7) (x := bI br) (by decide) (by decide) (bd 7 (by decide) (by decide)).1
  have d1 := d0.el (a := 7) (x := bI br) (by decide) (by decide) (bd 7 (by decide) (by decide)).2 (fd 7 (by decide) (by decide))
  unfold F_X12_linkTold pTr
  simp only [gI h.1.f mi27, h.2.1.2.2, h.1.ar.2.2.2.2.2.2.1, n40k, s0, d1.2.1.ob, Option.bind_some]
  have k7 : up2 Γ 7 (40 + yR τ) (bI br) 7 (40 + yR τ) = bI br := up2_s
  generalize up2 Γ 7 (40 + yR τ) (bI br) = Γ1 at *
  generalize xup H (m + 7) (aI (sz 7) (upd (Γ 7) (40 + yR τ) (bI br))) = H1 at *
  obtain ⟨t1, t1'⟩ := d1.2.1.th hT hn h6 hN hj (-1)
  rcases fnd_c (yT τ) (ytn τ) (wd t J S E j) with ⟨i, f1, f2, f3⟩ | ⟨f1, f2⟩
  rotate_left
  · obtain ⟨v2, H2, e2, R2, s2⟩ := t1' f1
    rw [obd_n f1, e2]
    simp only [bd2_s, if_true]
    exact mOs.no (d1.k R2).1 s2
  obtain ⟨iT, i5, j1, t1, -⟩ := t1 i f1
  obtain ⟨v2, H2, e2, R2, -, -, r2⟩ := t1 (nIm1 (by omega))
  have d2 := d1.k R2
  rw [obd_s f1, e2]
  have s2 := d2.1.2.1.st (a := 8) (x := nI i) (by decide) (by decide) (bd 8 (by decide) (by decide)).1
  have d3 := d2.el (a := 8) (x := nI i) (by decide) (by decide) (bd 8 (by decide) (by decide)).2 (fd 8 (by decide) (by decide))
  have k8 : up2 Γ1 8 (40 + yR τ) (nI i) 8 (40 + yR τ) = nI i := up2_s
  have rd8 := d3.1.2.1.rd (a := 8) (by decide) (by decide) (bd 8 (by decide) (by decide)).1
  rw [k8] at rd8
  simp only [bd2_s, if_neg n10, d2.2.1.ar.2.2.2.2.2.2.2.1, gI d2.2.1.f mi40, r2, s2, d3.2.1.ar.2.2.2.2.2.2.2.1, rd8, d3.2.1.ob, Option.bind_some]
  have k7' : up2 Γ1 8 (40 + yR τ) (nI i) 7 (40 + yR τ) = bI br := (congrFun (up2_a (by decide)) _).trans k7
  generalize up2 Γ1 8 (40 + yR τ) (nI i) = Γ3 at *
  generalize xup H2 (m + 8) (aI (sz 8) (upd (Γ1 8) (40 + yR τ) (nI i))) = H3 at *
  obtain ⟨t2, t2'⟩ := d3.2.1.th hT hn h6 hN R2.2.2.2.2.2.2.2 (nI i)
  rcases fnd_c (yT τ) (ytn τ) (wd t J S E (j + 1)) with ⟨u, g1, g2, g3⟩ | ⟨g1, g2⟩
  rotate_left
  · obtain ⟨v4, H4, e4, R4, s4⟩ := t2' g1
    rw [obd_n g1, e4]
    simp only [bd2_s, if_true]
    exact mOs.no (d3.k R4).1 s4
  obtain ⟨uT, u5, j2, t2, t3⟩ := t2 u g1
  rw [obd_s g1]
  by_cases q1 : u = i
  · obtain ⟨v4, H4, e4, R4, s4⟩ := t3 (by rw [q1])
    rw [cif_t q1, e4]
    simp only [bd2_s, if_true]
    exact mOs.no (d3.k R4).1 s4
  obtain ⟨v4, H4, e4, R4, -, -, r4⟩ := t2 (fun z => q1 ((nI_eq (by omega) (by omega)).mp z))
  have d4 := d3.k R4
  rw [cif_f q1, e4]
  have s4 := d4.1.2.1.st (a := 9) (x := nI u) (by decide) (by decide) (bd 9 (by decide) (by decide)).1
  have d5 := d4.el (a := 9) (x := nI u) (by decide) (by decide) (bd 9 (by decide) (by decide)).2 (fd 9 (by decide) (by decide))
  have s5 := d5.1.2.1.st (a := 10) (x := 0) (by decide) (by decide) (bd 10 (by decide) (by decide)).1
  have d6 := d5.el (a := 10) (x := 0) (by decide) (by decide) (bd 10 (by decide) (by decide)).2 (fd 10 (by decide) (by decide))
  simp only [bd2_s, if_neg n10, d4.2.1.ar.2.2.2.2.2.2.2.2.1, gI d4.2.1.f mi40, r4, s4, d5.2.1.ar.2.2.2.2.2.2.2.2.2.1, s5, Option.bind_some]
  have m7 : up2 (up2 Γ3 9 (40 + yR τ) (nI u)) 10 (40 + yR τ) 0 7 (40 + yR τ) = bI br := (congrFun (up2_a (by decide)) _).trans ((congrFun (up2_a (by decide)) _).trans k7')
  have m8 : up2 (up2 Γ3 9 (40 + yR τ) (nI u)) 10 (40 + yR τ) 0 8 (40 + yR τ) = nI i := (congrFun (up2_a (by decide)) _).trans ((congrFun (up2_a (by decide)) _).trans k8)
  have m9 : up2 (up2 Γ3 9 (40 + yR τ) (nI u)) 10 (40 + yR τ) 0 9 (40 + yR τ) = nI u := (congrFun (up2_a (by decide)) _).trans up2_s
  have m10 : up2 (up2 Γ3 9 (40 + yR τ) (nI u)) 10 (40 + yR τ) 0 10 (40 + yR τ) = 0 := up2_s
  generalize up2 (up2 Γ3 9 (40 + yR τ) (nI u)) 10 (40 + yR τ) 0 = Γ6 at *
  generalize xup (xup H4 (m + 9) (aI (sz 9) (upd (Γ3 9) (40 + yR τ) (nI u)))) (m + 10) (aI (sz 10) (upd (up2 Γ3 9 (40 + yR τ) (nI u) 10) (40 + yR τ) 0)) = H6 at *
  by_cases hb : br
  rotate_left
  · rw [bI_f hb] at m7 ⊢
    rw [cif_f hb, if_neg (by decide)]
    exact M_104 (r := (i, u, none)) d6 hR ⟨m7, m8, m9, m10⟩
  rw [bI_t hb] at m7 ⊢
  rw [cif_t hb, if_pos rfl]
  have w6 := d6.2.1.w hT hn h6 hN R4.2.2.2.2.2.2.2 (show 6 < 19 by decide) (show (26990 : Int64) = lN (w8 (kw 6)) by decide +kernel)
  simp only [d6.2.1.ob, Option.bind_some]
  by_cases q2 : wd t J S E (j + 1 + 1) = kw 6
  rotate_left
  · obtain ⟨v7, H7, e7, R7, s7, -⟩ := w6.2 q2
    rw [cif_f q2, e7]
    simp only [bd2_s, if_true]
    exact mOs.no (d6.k R7).1 s7
  obtain ⟨v7, H7, e7, R7, -⟩ := w6.1 q2
  have d7 := d6.k R7
  rw [cif_t q2, e7]
  simp only [bd2_s, if_neg n10, d7.2.1.ob, Option.bind_some]
  have w7 := d7.2.1.nu hT hn h6 hN R7.2.2.2.2.2.2.2 (show 0 < 1000 by decide) (show 7 < 1000 by decide)
  rw [show nI 7 = (7 : Int32) from rfl, show nI 0 = (0 : Int32) from rfl] at w7
  by_cases q4 : isN t J S E (j + 1 + 1 + 1) 0 7
  rotate_left
  · obtain ⟨v8, H8, e8, R8, s8⟩ := w7.2 q4
    rw [cif_f q4, e8]
    simp only [bd2_s, if_true]
    exact mOs.no (d7.k R8).1 s8
  obtain ⟨v8, H8, e8, R8, -, r8⟩ := w7.1 q4
  have d8 := d7.k R8
  have s8 := d8.1.2.1.st (a := 10) (x := nI (nv t S E (j + 1 + 1 + 1))) (by decide) (by decide) (bd 10 (by decide) (by decide)).1
  have d9 := d8.el (a := 10) (x := nI (nv t S E (j + 1 + 1 + 1))) (by decide) (by decide) (bd 10 (by decide) (by decide)).2 (fd 10 (by decide) (by decide))
  rw [cif_t q4, e8]
  simp only [bd2_s, if_neg n10, d8.2.1.ar.2.2.2.2.2.2.2.2.2.1, gI d8.2.1.f mi39, r8, s8, Option.bind_some]
  exact M_104 (r := (i, u, some (nv t S E (j + 1 + 1 + 1)))) d9 hR ⟨(congrFun (up2_a (by decide)) _).trans m7, (congrFun (up2_a (by decide)) _).trans m8, (congrFun (up2_a (by decide)) _).trans m9, up2_s⟩
