/-! PURE: the reference reads a claim. -/
variable {stf : Nat → Nat} {N K b m : Nat} {β : sB} {δ : sD} {H : xH}
variable {t S E : Nat → Nat} {n J : Nat} {T M : Nat} {tn mn : Nat → List Nat}
variable {v v1 v2 : Nat → Int32} {c c1 c2 : cod} {sm sm1 sm2 : Nat} {H1 H2 : xH}
theorem mOut.pre {k h j j1 : Nat} {p : pr} {x : Option (Int32 × xH)} (g : zK t S n J T M tn mn m k j j1 v c sm H v1 c sm H1) (h4 : v1 34 = v 34) (hx : mOut t S n J T M tn mn m h p j1 v1 c sm H1 x) : mOut t S n J T M tn mn m h p j v c sm H x := by
  obtain ⟨r, v', c', sm', H', x1, x2, x3, x4⟩ := hx
  exact ⟨r, v', c', sm', H', x1, (g.tr x2).le (Nat.zero_le _), x3, fun σ hσ => ⟨(x4 σ hσ).1, (x4 σ hσ).2.1.trans h4, (x4 σ hσ).2.2⟩⟩
theorem mOut.hm {h h' j : Nat} {p : pr} {x : Option (Int32 × xH)} (hx : mOut t S n J T M tn mn m h p j v c sm H x) (hh : h ≤ h') : mOut t S n J T M tn mn m h' p j v c sm H x := by
  obtain ⟨r, v', c', sm', H', x1, x2, x3, x4⟩ := hx
  exact ⟨r, v', c', sm', H', x1, x2, x3, fun σ hσ => ⟨(x4 σ hσ).1, (x4 σ hσ).2.1, (x4 σ hσ).2.2.hm hh⟩⟩
theorem n10 : ¬ (1 : Int32) = 0 := by decide
section
variable {cany call csin : Option Nat → xH → Option (Int32 × xH)}
theorem M_leaf (hT : tkS t n J S E) (hn : n ≤ 1200) (h6 : ∀ q, t q < 256) (hN : 1200 < N) {j : Nat} (h : zC t S n T M tn mn m j v c sm H) (hj : j ≤ J) (hs : rmS S sm j) : mOut t S n J T M tn mn m 1 (pLf t J S E T tn j) j v c sm H (F_X12_single_J131 N cany call csin (some m) H) := by
  have w1 := h.w hT hn h6 hN hj (show 18 < 19 by decide) (show (465557353332 : Int64) = lN (w8 (kw 18)) by decide +kernel)
  unfold F_X12_single_J131 pLf
  simp only [h.ob, Option.bind_some]
  by_cases q1 : wd t J S E j = kw 18
  · -- "least"
    obtain ⟨v1, H1, e1, R1, d1, -, -⟩ := w1.1 q1
    rw [cif_t q1, e1]
    unfold pLe
    simp only [bd2_s, if_neg n10, R1.1.ob, Option.bind_some]
    have w2 := R1.1.nu hT hn h6 hN R1.2.2.2.2.2.2.2 (show 0 < 1000 by decide) (show 9 < 1000 by decide)
    rw [show nI 0 = (0 : Int32) from rfl, show nI 9 = (9 : Int32) from rfl] at w2
    by_cases q2 : isN t J S E (j + 1) 0 9
    rotate_left
    · obtain ⟨v2, H2, e2, R2, d2⟩ := w2.2 q2
      rw [cif_f q2, e2]
      simp only [bd2_s, if_true]
      exact mOut.no (R1.tr R2) d2
    obtain ⟨v2, H2, e2, R2, d2, r2⟩ := w2.1 q2
    have l2 := nv_le q2
    rw [cif_t q2, e2]
    simp only [bd2_s, if_neg n10, gI R2.1.f mi39, r2, R2.1.ob, Option.bind_some]
    have w3 := R2.1.w hT hn h6 hN R2.2.2.2.2.2.2.2 (show 16 < 19 by decide) (show (25209 : Int64) = lN (w8 (kw 16)) by decide +kernel)
    by_cases q3 : wd t J S E (j + 1 + 1) = kw 16
    rotate_left
    · obtain ⟨v3, H3, e3, R3, d3, -⟩ := w3.2 q3
      rw [cif_f q3, e3]
      simp only [bd2_s, if_true]
      exact mOut.no ((R1.tr R2).tr R3) d3
    obtain ⟨v3, H3, e3, R3, d3, -, -⟩ := w3.1 q3
    rw [cif_t q3, e3]
    simp only [bd2_s, if_neg n10, R3.1.ob, Option.bind_some]
    have w4 := R3.1.nu hT hn h6 hN R3.2.2.2.2.2.2.2 (show 0 < 1000 by decide) (show 7 < 1000 by decide)
    rw [show nI 0 = (0 : Int32) from rfl, show nI 7 = (7 : Int32) from rfl] at w4
    by_cases q4 : isN t J S E (j + 1 + 1 + 1) 0 7
    rotate_left
    · obtain ⟨v4, H4, e4, R4, d4⟩ := w4.2 q4
      rw [cif_f q4, e4]
      simp only [bd2_s, if_true]
      exact mOut.no (((R1.tr R2).tr R3).tr R4) d4
    obtain ⟨v4, H4, e4, R4, d4, r4⟩ := w4.1 q4
    have l4 := nv_le q4
    rw [cif_t q4, e4]
    simp only [bd2_s, if_neg n10, gI R4.1.f mi39, r4, R4.1.ob, Option.bind_some]
    exact mOut.lf (kd := 3) hT hn ((((R1.tr R2).tr R3).tr R4).le (by omega)) hs ⟨fun z => by omega, fun z => by omega, by omega, by show nv t S E (j + 1 + 1 + 1) < 9; omega, by omega⟩ (((d4.trans d3).trans d2).trans d1)
  -- of a thing
  obtain ⟨v1, H1, e1, R1, s1, d1, -, -⟩ := w1.2 q1
  rw [cif_f q1, e1]
  unfold pTh
  simp only [bd2_s, if_true, R1.1.ob, Option.bind_some]
  obtain ⟨w2, w2'⟩ := R1.1.th hT hn h6 hN hj (-1)
  rcases fnd_c T tn (wd t J S E j) with ⟨i, f1, f2, f3⟩ | ⟨f1, f2⟩
  rotate_left
  · obtain ⟨v2, H2, e2, R2, d2⟩ := w2' f1
    rw [obd_n f1, e2]
    simp only [bd2_s, if_true]
    exact mOut.no (R1.tr R2) d2
  obtain ⟨iT, i5, j1, w2, -⟩ := w2 i f1
  obtain ⟨v2, H2, e2, R2, d2, -, r2⟩ := w2 (nIm1 (by omega))
  rw [obd_s f1, e2]
  simp only [bd2_s, if_neg n10, gI R2.1.f mi40, r2, R2.1.ob, Option.bind_some]
  have w3 := R2.1.w hT hn h6 hN R2.2.2.2.2.2.2.2 (show 15 < 19 by decide) (show (427071202675 : Int64) = lN (w8 (kw 15)) by decide +kernel)
  by_cases q3 : wd t J S E (j + 1) = kw 15
  · obtain ⟨v3, H3, e3, R3, d3, -, -⟩ := w3.1 q3
    rw [cif_t q3, e3]
    simp only [bd2_s, if_neg n10, R3.1.ob, Option.bind_some]
    exact mOut.lf (kd := 0) (y := 0) hT hn (((R1.tr R2).tr R3).le (by omega)) hs ⟨fun z => iT, fun z => by omega, by omega, by omega, by omega⟩ ((d3.trans d2).trans d1)
  obtain ⟨v3, H3, e3, R3, s3, d3, -, -⟩ := w3.2 q3
  rw [cif_f q3, e3]
  simp only [bd2_s, if_true, R3.1.ob, Option.bind_some]
  have w4 := R3.1.w hT hn h6 hN R3.2.2.2.2.2.2.2 (show 16 < 19 by decide) (show (25209 : Int64) = lN (w8 (kw 16)) by decide +kernel)
  by_cases q4 : wd t J S E (j + 1) = kw 16
  · obtain ⟨v4, H4, e4, R4, d4, -, -⟩ := w4.1 q4
    rw [cif_t q4, e4]
    simp only [bd2_s, if_neg n10, R4.1.ob, Option.bind_some]
    have w5 := R4.1.nu hT hn h6 hN R4.2.2.2.2.2.2.2 (show 0 < 1000 by decide) (show 7 < 1000 by decide)
    rw [show nI 0 = (0 : Int32) from rfl, show nI 7 = (7 : Int32) from rfl] at w5
    by_cases q5 : isN t J S E (j + 1 + 1) 0 7
    rotate_left
    · obtain ⟨v5, H5, e5, R5, d5⟩ := w5.2 q5
      rw [cif_f q5, e5]
      simp only [bd2_s, if_true]
      exact mOut.no ((((R1.tr R2).tr R3).tr R4).tr R5) d5
    obtain ⟨v5, H5, e5, R5, d5, r5⟩ := w5.1 q5
    have l5 := nv_le q5
    rw [cif_t q5, e5]
    simp only [bd2_s, if_neg n10, gI R5.1.f mi39, r5, R5.1.ob, Option.bind_some]
    exact mOut.lf (kd := 1) hT hn (((((R1.tr R2).tr R3).tr R4).tr R5).le (by omega)) hs ⟨fun z => iT, fun z => by omega, by omega, by show nv t S E (j + 1 + 1) < 9; omega, by omega⟩ ((((d5.trans d4).trans d3).trans d2).trans d1)
  obtain ⟨v4, H4, e4, R4, s4, d4, -, -⟩ := w4.2 q4
  rw [cif_f q4, e4]
  simp only [bd2_s, if_true, R4.1.ob, Option.bind_some]
  have w5 := R4.1.w hT hn h6 hN R4.2.2.2.2.2.2.2 (show 17 < 19 by decide) (show (108187649798757 : Int64) = lN (w8 (kw 17)) by decide +kernel)
  by_cases q5 : wd t J S E (j + 1) = kw 17
  rotate_left
  · obtain ⟨v5, H5, e5, R5, d5, -⟩ := w5.2 q5
    rw [cif_f q5, e5]
    simp only [bd2_s, if_true]
    exact mOut.no ((((R1.tr R2).tr R3).tr R4).tr R5) d5
  obtain ⟨v5, H5, e5, R5, d5, -, -⟩ := w5.1 q5
  rw [cif_t q5, e5]
  simp only [bd2_s, if_neg n10, R5.1.ob, Option.bind_some]
  obtain ⟨w6, w6'⟩ := R5.1.th hT hn h6 hN R5.2.2.2.2.2.2.2 (nI i)
  rcases fnd_c T tn (wd t J S E (j + 1 + 1)) with ⟨u, g1, g2, g3⟩ | ⟨g1, g2⟩
  rotate_left
  · obtain ⟨v6, H6, e6, R6, d6⟩ := w6' g1
    rw [obd_n g1, e6]
    simp only [bd2_s, if_true]
    exact mOut.no (((((R1.tr R2).tr R3).tr R4).tr R5).tr R6) d6
  obtain ⟨uT, u5, j2, w6, w7⟩ := w6 u g1
  rw [obd_s g1]
  by_cases q6 : u = i
  · obtain ⟨v6, H6, e6, R6, d6⟩ := w7 (by rw [q6])
    rw [cif_t q6, e6]
    simp only [bd2_s, if_true]
    exact mOut.no (((((R1.tr R2).tr R3).tr R4).tr R5).tr R6) d6
  · obtain ⟨v6, H6, e6, R6, d6, -, r6⟩ := w6 (fun z => q6 ((nI_eq (by omega) (by omega)).mp z))
    rw [cif_f q6, e6]
    simp only [bd2_s, if_neg n10, gI R6.1.f mi40, r6, R6.1.ob, Option.bind_some]
    exact mOut.lf (kd := 2) hT hn ((((((R1.tr R2).tr R3).tr R4).tr R5).tr R6).le (by omega)) hs ⟨fun z => by omega, fun z => ⟨iT, uT⟩, by omega, by omega, by omega⟩ (((((d6.trans d5).trans d4).trans d3).trans d2).trans d1)
/-- a word is looked at -/
theorem zC.wo (hT : tkS t n J S E) (hn : n ≤ 1200) (h6 : ∀ q, t q < 256) (hN : 1200 < N) {j : Nat} (h : zC t S n T M tn mn m j v c sm H) (hj : j ≤ J) : ∃ v1, F_X12_word N (some m) H = some (lN (w8 (wd t J S E j)), mu m v1 H) ∧ ex4 v v1 ∧ v1 33 = nI (S j) ∧ v1 38 = nI (we t J S E j) ∧ zK t S n J T M tn mn m 0 j j v c sm H v1 c sm (mu m v1 H) := by
  obtain ⟨h0, hx, h32, p, h33, hp⟩ := h.1
  have w := M_word hT hn h6 hN hx hj hp h0 h32 h33
  generalize hv : upd (upd v 33 (nI (S j))) 38 (nI (we t J S E j)) = v1 at *
  have e1 : ex4 v v1 := by rw [← hv]; exact (ex4.u (by simp)).tr (ex4.u (by simp))
  have e32 : v1 32 = nI n := (e1 32 (by decide) (by decide) (by decide) (by decide)).trans h32
  have e33 : v1 33 = nI (S j) := by rw [← hv, pk_un (by decide), pk_us]
  exact ⟨v1, w, e1, e33, by rw [← hv, pk_us], zK.um h e1 (mP.mk hx e32 e33 gp_s) (Nat.le_refl _) hj (by omega)⟩
/-- its place and its depth are set -/
theorem zC.pd {j j' p : Nat} {x : Int32} (h : zC t S n T M tn mn m j v c sm H) (hp : gp t S p j') : zC t S n T M tn mn m j' (upd (upd v 34 x) 33 (nI p)) c sm (mu m (upd (upd v 34 x) 33 (nI p)) H) := by
  obtain ⟨⟨p1, p2, p3, p4⟩, ⟨⟨n1, n2, g, n3, n3'⟩, ⟨n4, n5, g', n6, n6'⟩, n7⟩, ⟨h3, h4, h5⟩, h6⟩ := h
  have u : ∀ i, i ≠ 33 → i ≠ 34 → upd (upd v 34 x) 33 (nI p) i = v i := fun i a b => by rw [pk_un a, pk_un b]
  refine ⟨⟨mu_at, p2.mu, (u 32 (by decide) (by decide)).trans p3, p, pk_us, hp⟩, ⟨⟨(u 23 (by decide) (by decide)).trans n1, n2, g, (mu_ne (by omega)).trans n3, n3'⟩, ⟨(u 24 (by decide) (by decide)).trans n4, n5, g', (mu_ne (by omega)).trans n6, n6'⟩, n7⟩, ⟨(mu_ne (by omega)).trans h3, (mu_ne (by omega)).trans h4, (mu_ne (by omega)).trans h5⟩, (u 28 (by decide) (by decide)).trans h6⟩
theorem zC.dp {j : Nat} {x : Int32} (h : zC t S n T M tn mn m j v c sm H) : zC t S n T M tn mn m j (upd v 34 x) c sm (mu m (upd v 34 x) H) := by
  obtain ⟨⟨p1, p2, p3, p, p4, p5⟩, ⟨⟨n1, n2, g, n3, n3'⟩, ⟨n4, n5, g', n6, n6'⟩, n7⟩, ⟨h3, h4, h5⟩, h6⟩ := h
  have u : ∀ i, i ≠ 34 → upd v 34 x i = v i := fun i b => pk_un b
  refine ⟨⟨mu_at, p2.mu, (u 32 (by decide)).trans p3, p, (u 33 (by decide)).trans p4, p5⟩, ⟨⟨(u 23 (by decide)).trans n1, n2, g, (mu_ne (by omega)).trans n3, n3'⟩, ⟨(u 24 (by decide)).trans n4, n5, g', (mu_ne (by omega)).trans n6, n6'⟩, n7⟩, ⟨(mu_ne (by omega)).trans h3, (mu_ne (by omega)).trans h4, (mu_ne (by omega)).trans h5⟩, (u 28 (by decide)).trans h6⟩
theorem zK.dp {k j j1 : Nat} {x : Int32} (h : zK t S n J T M tn mn m k j j1 v c sm H v1 c1 sm1 H1) : zK t S n J T M tn mn m k j j1 v c sm H (upd v1 34 x) c1 sm1 (mu m (upd v1 34 x) H1) := by
  obtain ⟨a1, a2, a3, a4, a5, a6, a7, a8⟩ := h
  exact ⟨a1.dp, a2.tr (Fr.u (Or.inl rfl)), a3.tr (fun i _ _ _ _ _ q => pk_un q), a4, a5, a6, a7, a8⟩
end
