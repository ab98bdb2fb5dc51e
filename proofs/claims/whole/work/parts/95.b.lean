/-! PURE: the reference reads statements: things, members, rules. -/
variable {stf : Nat → Nat} {N K b m : Nat} {β : sB} {δ : sD} {H : xH}
variable {t S E : Nat → Nat} {n J : Nat} {τ : tS}
variable {v v1 v2 : Nat → Int32} {c c1 c2 : cod} {sm sm1 sm2 : Nat} {H1 H2 : xH} {Γ Γ1 Γ2 : Nat → Nat → Int32}
/-- the arrays' places in the object -/
theorem zC.ar {T M j : Nat} {tn mn : Nat → List Nat} (h : zC t S n T M tn mn m j v c sm H) : xgA H (some m) 11 6 = some (some (m + 1)) ∧ xgA H (some m) 11 7 = some (some (m + 2)) ∧ xgA H (some m) 11 8 = some (some (m + 3)) ∧ xgA H (some m) 11 9 = some (some (m + 4)) ∧ xgA H (some m) 11 10 = some (some (m + 5)) ∧ xgA H (some m) 11 11 = some (some (m + 6)) ∧ xgA H (some m) 11 12 = some (some (m + 7)) ∧ xgA H (some m) 11 13 = some (some (m + 8)) ∧ xgA H (some m) 11 14 = some (some (m + 9)) ∧ xgA H (some m) 11 15 = some (some (m + 10)) ∧ xgA H (some m) 11 16 = some (some (m + 11)) ∧ xgA H (some m) 11 17 = some (some (m + 12)) ∧ xgA H (some m) 11 18 = some (some (m + 13)) ∧ xgA H (some m) 11 19 = some (some (m + 14)) := by
  have f := h.f
  exact ⟨gA f ma6, gA f ma7, gA f ma8, gA f ma9, gA f ma10, gA f ma11, gA f ma12, gA f ma13, gA f ma14, gA f ma15, gA f ma16, gA f ma17, gA f ma18, gA f ma19⟩
theorem n5k (k : Nat) : (5 : Int32) + nI k = nI (5 + k) := by rw [show (5 : Int32) = nI 5 from rfl, nI_add]
theorem n12k (k : Nat) : (12 : Int32) + nI k = nI (12 + k) := by rw [show (12 : Int32) = nI 12 from rfl, nI_add]
theorem n40k (k : Nat) : (40 : Int32) + nI k = nI (40 + k) := by rw [show (40 : Int32) = nI 40 from rfl, nI_add]
/-- a thing is taken up -/
theorem M_122 {j0 j f u : Nat} {W : List Nat} {v0 : Nat → Int32} {Γ0 : Nat → Nat → Int32} {H0 : xH} (g : mW t S n J m j0 j v0 Γ0 H0 v Γ H) (h : zC t S n (yT τ) (yM τ) (ytn τ) (ymn τ) m j v c sm H) (h5 : v 25 = nI (yW τ) ∧ v 26 = nI (yS τ) ∧ v 27 = nI (yR τ)) (hG : yG τ c sm Γ) (hs : rmS S sm j) (h7 : 700 ≤ sm) (hk : yW τ ≤ 12 ∧ yR τ ≤ 40 ∧ yS τ ≤ 40) (hT5 : yT τ < 5) (hW : wdo W) (hf : isNw τ W) (h1 : Γ 1 (5 + yT τ) = nI f) (h2 : Γ 2 (5 + yT τ) = nI u) : mOs t S n J m (some (tadT τ W f u), j) j0 v0 Γ0 H0 (F_X12_thingTold_J122 N (some m) (lN (w8 W)) H) := by
  obtain ⟨⟨p1, ⟨tx, p2, p2'⟩, p3, p4⟩, ⟨⟨n1, n2, gn, n3, n3'⟩, ⟨n4, n5, gm, n6, n6'⟩, n7, n8⟩, ⟨c1', c2', c3'⟩, c4'⟩ := id h
  obtain ⟨⟨T', M', tn', mn', c', sm', w1⟩, w2, w3, w4, w5, w6, w7⟩ := g
  have e1 := stJ (v := lN (w8 W)) n3 hT5 (by decide)
  generalize x1 : xup H (m + 18) (aJ 5 (vp_updL gn (yT τ) (lN (w8 W)))) = A at *
  have am : A.1 m = some (mo m v) := by rw [← x1, xup_ne _ (by omega)]; exact p1
  have ne : ∀ q, q ≠ m → q ≠ m + 18 → (mu m (upd v 23 (nI (yT τ + 1))) A).1 q = H.1 q := fun q q1 q2 => by rw [mu_ne q1, ← x1, xup_ne _ q2]
  have e2 : xpI A (some m) 11 23 (nI (yT τ + 1)) = some (mu m (upd v 23 (nI (yT τ + 1))) A) := mpI am (by decide) _ ms23
  have e : F_X12_thingTold_J122 N (some m) (lN (w8 W)) H = some (1, mu m (upd v 23 (nI (yT τ + 1))) A) := by
    unfold F_X12_thingTold_J122
    simp only [gA p1 ma29, gI p1 mi23, n1, e1, gI am mi23, nI_1, e2, Option.bind_some]
  rw [e]
  have uu : ∀ i, i ≠ 23 → upd v 23 (nI (yT τ + 1)) i = v i := fun i hi => pk_un hi
  have hC : zC t S n (yT τ + 1) (yM τ) (ins (ytn τ) (yT τ) W) (ymn τ) m j (upd v 23 (nI (yT τ + 1))) c sm (mu m (upd v 23 (nI (yT τ + 1))) A) := by
    refine ⟨⟨mu_at, ⟨tx, (ne _ (by omega) (by omega)).trans p2, p2'⟩, (uu 32 (by decide)).trans p3, ?_⟩, ⟨⟨pk_us, by omega, _, ?_, gN1 n3'⟩, ⟨(uu 24 (by decide)).trans n4, n5, gm, (ne _ (by omega) (by omega)).trans n6, n6'⟩, n7.ins hW hf.1 hf.2.2.1, n8⟩, ⟨(ne _ (by omega) (by omega)).trans c1', (ne _ (by omega) (by omega)).trans c2', (ne _ (by omega) (by omega)).trans c3'⟩, (uu 28 (by decide)).trans c4'⟩
    · rw [uu 33 (by decide)]; exact p4
    · rw [mu_ne (by omega), ← x1, xup_at]
  have hw : mW t S n J m j0 j v0 Γ0 H0 (upd v 23 (nI (yT τ + 1))) Γ (mu m (upd v 23 (nI (yT τ + 1))) A) := by
    refine ⟨⟨_, _, _, _, _, _, hC⟩, w2.fr (fun a z1 z2 => ne _ (by omega) (by omega)), w3, w4.tr ⟨?_, fun q hq => ne q (fun z => hq (by rw [z]; unfold sY; omega)) (fun z => hq (by rw [z]; unfold sY; omega))⟩, w5.tr (vk.u (by omega)), w6, w7⟩
    show A.2 = H.2
    rw [← x1]; rfl
  obtain ⟨y1, y2, y3, y4⟩ := hG
  refine mOs.ok hw ⟨hC, ⟨(uu 25 (by decide)).trans h5.1, (uu 26 (by decide)).trans h5.2.1, (uu 27 (by decide)).trans h5.2.2⟩, hw.2.1, ⟨fun i hi => ?_, y2, y3, fun w hw => ?_⟩, hs, h7, hk⟩
  · show Γ 1 (5 + i) = nI (ins (yf τ) (yT τ) f i) ∧ Γ 2 (5 + i) = nI (ins (yu τ) (yT τ) u i)
    by_cases q : i = yT τ
    · rw [q, ins_s, ins_s]; exact ⟨h1, h2⟩
    · rw [ins_n q, ins_n q]; exact y1 i (by have : i < yT τ + 1 := hi; omega)
  · obtain ⟨s0, s1, s2, s3, a0, a1, a2, a3, b0, b1, b2, b3, b4, q1, q2, q3⟩ := y4 w hw
    exact ⟨s0, s1, s2, s3, a0, a1, a2, a3, b0, b1, b2, b3, b4, q1.fr (Nat.le_succ _) (fun _ _ _ => ⟨rfl, rfl, rfl⟩), q2.fr (Nat.le_succ _) (fun _ _ _ => ⟨rfl, rfl, rfl⟩), q3.fr (Nat.le_succ _) (fun _ _ _ => ⟨rfl, rfl, rfl⟩)⟩
/-- a statement under way: its draft cells may be set -/
def mD (t S : Nat → Nat) (n J m : Nat) (τ : tS) (j0 j : Nat) (v0 : Nat → Int32) (Γ0 : Nat → Nat → Int32) (H0 : xH) (v : Nat → Int32) (c : cod) (sm : Nat) (Γ : Nat → Nat → Int32) (H : xH) : Prop := mW t S n J m j0 j v0 Γ0 H0 v Γ H ∧ zC t S n (yT τ) (yM τ) (ytn τ) (ymn τ) m j v c sm H ∧ (v 25 = nI (yW τ) ∧ v 26 = nI (yS τ) ∧ v 27 = nI (yR τ)) ∧ yG τ c sm Γ ∧ rmS S sm j ∧ 700 ≤ sm ∧ yW τ ≤ 12 ∧ yR τ ≤ 40 ∧ yS τ ≤ 40
theorem mY.d {j : Nat} (h : mY t S n m τ j v c sm Γ H) (hj : j ≤ J) : mD t S n J m τ j j v Γ H v c sm Γ H := ⟨⟨⟨_, _, _, _, _, _, h.1⟩, h.2.2.1, lv.rf, Fr.rf, vk.rf, Nat.le_refl _, hj⟩, h.1, h.2.1, h.2.2.2⟩
section
variable {j0 j : Nat} {v0 : Nat → Int32} {Γ0 : Nat → Nat → Int32} {H0 : xH}
theorem mD.k {k j1 : Nat} (h : mD t S n J m τ j0 j v0 Γ0 H0 v c sm Γ H) (g : zK t S n J (yT τ) (yM τ) (ytn τ) (ymn τ) m k j j1 v c sm H v1 c1 sm1 H1) : mD t S n J m τ j0 j1 v0 Γ0 H0 v1 c1 sm1 Γ H1 := by
  obtain ⟨h1, h2, h3, h4, h5, h6, h7⟩ := h
  have y := (show mY t S n m τ j v c sm Γ H from ⟨h2, h3, h1.2.1, h4, h5, h6, h7⟩).k g
  exact ⟨h1.tr (g.w h1.2.1), y.1, y.2.1, y.2.2.2⟩
theorem mD.y (h : mD t S n J m τ j0 j v0 Γ0 H0 v c sm Γ H) : mY t S n m τ j v c sm Γ H := ⟨h.2.1, h.2.2.1, h.1.2.1, h.2.2.2⟩
/-- a draft cell is set -/
theorem mD.el {a i : Nat} {x : Int32} (h : mD t S n J m τ j0 j v0 Γ0 H0 v c sm Γ H) (h1 : 1 ≤ a) (h2 : a ≤ 14) (hi : sz a ≤ 2 * i) (hf : (a ≤ 2 → i = 5 + yT τ) ∧ (3 ≤ a → a ≤ 6 → i = 12 + yW τ) ∧ (7 ≤ a → a ≤ 10 → i = 40 + yR τ) ∧ (11 ≤ a → i = 12 + yW τ)) : mD t S n J m τ j0 j v0 Γ0 H0 v c sm (up2 Γ a i x) (xup H (m + a) (aI (sz a) (upd (Γ a) i x))) := by
  obtain ⟨g1, g2, g3, ⟨y1, y2, y3, y4⟩, g5⟩ := h
  refine ⟨g1.el h1 h2 hi, g2.el h1 h2, g3, ⟨fun k hk => ?_, fun k hk => ?_, fun k hk => ?_, fun k hk => ?_⟩, g5⟩
  · have e : ∀ a', a' ≤ 2 → up2 Γ a i x a' (5 + k) = Γ a' (5 + k) := fun a' ha => by
      by_cases q : a' = a
      · subst q; exact up2_i (by have := hf.1 ha; omega)
      · rw [up2_a q]
    rw [e 1 (by decide), e 2 (by decide)]; exact y1 k hk
  · have e : ∀ a', 3 ≤ a' → a' ≤ 6 → up2 Γ a i x a' (12 + k) = Γ a' (12 + k) := fun a' ha hb => by
      by_cases q : a' = a
      · subst q; exact up2_i (by have := hf.2.1 ha hb; omega)
      · rw [up2_a q]
    rw [e 3 (by decide) (by decide), e 4 (by decide) (by decide), e 5 (by decide) (by decide), e 6 (by decide) (by decide)]; exact y2 k hk
  · have e : ∀ a', 7 ≤ a' → a' ≤ 10 → up2 Γ a i x a' (40 + k) = Γ a' (40 + k) := fun a' ha hb => by
      by_cases q : a' = a
      · subst q; exact up2_i (by have := hf.2.2.1 ha hb; omega)
      · rw [up2_a q]
    rw [e 7 (by decide) (by decide), e 8 (by decide) (by decide), e 9 (by decide) (by decide), e 10 (by decide) (by decide)]; exact y3 k hk
  · have e : ∀ a', 11 ≤ a' → up2 Γ a i x a' (12 + k) = Γ a' (12 + k) := fun a' ha => by
      by_cases q : a' = a
      · subst q; exact up2_i (by have := hf.2.2.2 ha; omega)
      · rw [up2_a q]
    rw [e 11 (by decide), e 12 (by decide), e 13 (by decide), e 14 (by decide)]; exact y4 k hk
theorem M_85 (hT : tkS t n J S E) (hn : n ≤ 1200) (h6 : ∀ q, t q < 256) (hN : 1200 < N) {f : Nat} {W : List Nat} (h : mD t S n J m τ j0 j v0 Γ0 H0 v c sm Γ H) (hT5 : yT τ < 5) (hW : wdo W) (hf : isNw τ W) (f7 : f ≤ 7) (h1 : Γ 1 (5 + yT τ) = nI f) (h2 : Γ 2 (5 + yT τ) = nI 7) : mOs t S n J m (pTu t J S E τ W f j) j0 v0 Γ0 H0 (F_X12_thingTold_J85 N (some m) (lN (w8 W)) (nI (5 + yT τ)) H) := by
  have hj : j ≤ J := h.1.2.2.2.2.2.2
  have w1 := h.2.1.w hT hn h6 hN hj (show 2 < 19 by decide) (show (504364296556 : Int64) = lN (w8 (kw 2)) by decide +kernel)
  unfold F_X12_thingTold_J85 pTu
  simp only [h.2.1.ob, Option.bind_some]
  by_cases q1 : wd t J S E j = kw 2
  rotate_left
  · obtain ⟨v1, H1, e1, R1, -⟩ := w1.2 q1
    rw [cif_f q1, e1]
    simp only [bd2_s, if_true]
    obtain ⟨g1, g2, g3, g4, g5, g6, g7⟩ := h.k R1
    exact M_122 g1 g2 g3 g4 g5 g6 g7 hT5 hW hf h1 h2
  obtain ⟨v1, H1, e1, R1, -⟩ := w1.1 q1
  have d1 := h.k R1
  rw [cif_t q1, e1]
  simp only [bd2_s, if_neg n10, d1.2.1.ar.1, d1.1.2.1.rd (a := 1) (by decide) (by decide) (show 5 + yT τ < sz 1 by show 5 + yT τ < 10; omega), h1, d1.2.1.ob, Option.bind_some]
  have w2 := d1.2.1.nu hT hn h6 hN R1.2.2.2.2.2.2.2 (show f < 1000 by omega) (show 7 < 1000 by decide)
  rw [show nI 7 = (7 : Int32) from rfl] at w2
  by_cases q2 : isN t J S E (j + 1) f 7
  rotate_left
  · obtain ⟨v2, H2, e2, R2, d2⟩ := w2.2 q2
    rw [cif_f q2, e2]
    simp only [bd2_s, if_true]
    exact mOs.no (d1.k R2).1 d2
  obtain ⟨v2, H2, e2, R2, -, r2⟩ := w2.1 q2
  have d2 := d1.k R2
  have hi2 : 5 + yT τ < sz 2 := by show 5 + yT τ < 10; omega
  have st := d2.1.2.1.st (a := 2) (x := nI (nv t S E (j + 1))) (by decide) (by decide) hi2
  rw [cif_t q2, e2]
  simp only [bd2_s, if_neg n10, d2.2.1.ar.2.1, gI d2.2.1.f mi39, r2, st, Option.bind_some]
  obtain ⟨g1, g2, g3, g4, g5, g6, g7⟩ := d2.el (a := 2) (i := 5 + yT τ) (x := nI (nv t S E (j + 1))) (by decide) (by decide) (by show 10 ≤ 2 * (5 + yT τ); omega) ⟨fun _ => rfl, fun z => by omega, fun z => by omega, fun z => by omega⟩
  exact M_122 g1 g2 g3 g4 g5 g6 g7 hT5 hW hf ((congrFun (up2_a (by decide)) _).trans h1) up2_s
end
