/-! PURE: the reference reads statements: wagers. -/
variable {stf : Nat → Nat} {N K b m : Nat} {β : sB} {δ : sD} {H : xH}
variable {t S E : Nat → Nat} {n J : Nat} {τ : tS}
variable {v v1 v2 : Nat → Int32} {c c1 c2 : cod} {sm sm1 sm2 : Nat} {H1 H2 : xH} {Γ Γ1 Γ2 : Nat → Nat → Int32}
theorem zC.me (hT : tkS t n J S E) (hn : n ≤ 1200) (h6 : ∀ q, t q < 256) (hN : 1200 < N) {T M j : Nat} {tn mn : Nat → List Nat} (h : zC t S n T M tn mn m j v c sm H) (hj : j ≤ J) (ot : Int32) :
    (∀ i, fnd M mn (wd t J S E j) = some i → i < M ∧ i < 6 ∧ j < J ∧ (nI i ≠ ot → ∃ v1 H1, F_X12_takesMember N (some m) ot H = some (1, H1) ∧ zK t S n J T M tn mn m 1 j (j + 1) v c sm H v1 c sm H1 ∧ v1 34 = v 34 ∧ v1 39 = v 39 ∧ v1 40 = nI i) ∧ (nI i = ot → ∃ v1 H1, F_X12_takesMember N (some m) ot H = some (0, H1) ∧ zK t S n J T M tn mn m 0 j j v c sm H v1 c sm H1 ∧ v1 33 = nI (S j))) ∧ (fnd M mn (wd t J S E j) = none → ∃ v1 H1, F_X12_takesMember N (some m) ot H = some (0, H1) ∧ zK t S n J T M tn mn m 0 j j v c sm H v1 c sm H1 ∧ v1 33 = nI (S j)) := by
  obtain ⟨e1, e2⟩ := M_tMember (ot := ot) hT hn h6 hN h.1 h.2.1 hj
  have hnm := h.2.1.2.2.2
  have hT5 := h.2.1.2.1.2.1
  have no : (∀ i, i < M → mn i = wd t J S E j → nI i = ot) → ∃ v1 H1, F_X12_takesMember N (some m) ot H = some (0, H1) ∧ zK t S n J T M tn mn m 0 j j v c sm H v1 c sm H1 ∧ v1 33 = nI (S j) := by
    intro q
    obtain ⟨v', a1, a2, a3, a4⟩ := e2 q
    exact ⟨v', _, a1, zK.um h a2 a4 (by omega) (by omega) (by omega), a3⟩
  rcases fnd_c M mn (wd t J S E j) with ⟨i, f1, f2, f3⟩ | ⟨f1, f2⟩
  · refine ⟨fun k hk => ?_, fun z => by rw [f1] at z; cases z⟩
    have : i = k := Option.some.inj (f1.symm.trans hk)
    subst this
    have j1 := (wd_j hT hn h6 hN (j := j) (by rw [← f3]; exact (hnm.1 i f2).2)).1
    refine ⟨f2, by omega, j1, fun z => ?_, fun z => no (fun k k1 k2 => ?_)⟩
    · obtain ⟨v', a1, a2, a3, a4, a5⟩ := e1 i f2 f3 z
      have := hT.2.1 j j1
      exact ⟨v', _, a1, zK.um h a2 a5 (by omega) (by omega) (by omega), a2 34 (by decide) (by decide) (by decide) (by decide), a3, a4⟩
    · rw [hnm.2 k i k1 f2 (k2.trans f3.symm)]; exact z
  · exact ⟨fun k hk => (by rw [f1] at hk; cases hk), fun _ => no (fun i i1 i2 => absurd i2 (f2 i i1))⟩
section
variable {j0 j : Nat} {v0 : Nat → Int32} {Γ0 : Nat → Nat → Int32} {H0 : xH}
/-- where a wager's draft lies -/
theorem dr_b {W T R : Nat} (hW : W < 12) {a : Nat} (h : (3 ≤ a ∧ a ≤ 6) ∨ (11 ≤ a ∧ a ≤ 14)) : 12 + W < sz a ∧ sz a ≤ 2 * (12 + W) ∧ (a ≤ 2 → 12 + W = 5 + T) ∧ (3 ≤ a → a ≤ 6 → 12 + W = 12 + W) ∧ (7 ≤ a → a ≤ 10 → 12 + W = 40 + R) ∧ (11 ≤ a → 12 + W = 12 + W) := by
  have : sz a = 24 := by
    unfold sz
    rw [if_neg (by omega)]
    split
    · rfl
    · rw [if_neg (by omega)]
  exact ⟨by omega, by omega, fun z => by omega, fun _ _ => rfl, fun z z2 => by omega, fun _ => rfl⟩
theorem mD.e2 {a : Nat} {x : Int32} (h : mD t S n J m τ j0 j v0 Γ0 H0 v c sm Γ H) (hW : yW τ < 12) (ha : (3 ≤ a ∧ a ≤ 6) ∨ (11 ≤ a ∧ a ≤ 14)) : xsI .int H (some (m + a)) (nI (12 + yW τ)) x = some (xup H (m + a) (aI (sz a) (upd (Γ a) (12 + yW τ) x))) ∧ mD t S n J m τ j0 j v0 Γ0 H0 v c sm (up2 Γ a (12 + yW τ) x) (xup H (m + a) (aI (sz a) (upd (Γ a) (12 + yW τ) x))) := by
  obtain ⟨b1, b2, b3⟩ := dr_b (T := yT τ) (R := yR τ) hW ha
  exact ⟨h.1.2.1.st (by omega) (by omega) b1, h.el (by omega) (by omega) b2 b3⟩
def dB4 (Γ : Nat → Nat → Int32) (k : Nat) (a o x y : Nat) : Prop := Γ 3 k = nI a ∧ Γ 4 k = nI o ∧ Γ 5 k = nI x ∧ Γ 6 k = nI y
theorem dB4.u {k a o x y i : Nat} {z : Int32} (h : dB4 Γ k a o x y) (hi : 7 ≤ i) : dB4 (up2 Γ i k z) k a o x y := ⟨(congrFun (up2_a (by omega)) _).trans h.1, (congrFun (up2_a (by omega)) _).trans h.2.1, (congrFun (up2_a (by omega)) _).trans h.2.2.1, (congrFun (up2_a (by omega)) _).trans h.2.2.2⟩
theorem M_198 {a o x y s0 s1 s2 : Nat} {σ : sem} {f g : Option sem} (h : mD t S n J m τ j0 j v0 Γ0 H0 v c sm Γ H) (hW : yW τ < 12) (h4 : dB4 Γ (12 + yW τ) a o x y) (k1 : Γ 11 (12 + yW τ) = nI s0) (k2 : Γ 12 (12 + yW τ) = nI s1) (k3 : Γ 13 (12 + yW τ) = nI s2) (l0 : 700 ≤ s0) (l1 : s0 ≤ s1) (l2 : s1 ≤ s2) (l3 : s2 ≤ sm) (p1 : PF (yT τ) c s0 s1 21 σ) (p2 : pO (yT τ) c s1 s2 f) (p3 : pO (yT τ) c s2 sm g) : mOs t S n J m (some (tadB τ (a, o, x, y, σ, f, g)), j) j0 v0 Γ0 H0 (F_X12_betTold_J198 N (some m) (nI (12 + yW τ)) H) := by
  obtain ⟨s1', d1⟩ := h.e2 (a := 14) (x := nI sm) hW (by decide)
  have h28 := h.2.1.2.2.2
  unfold F_X12_betTold_J198
  have q4 := h4.u (i := 14) (z := nI sm) (by decide)
  have q1 : up2 Γ 14 (12 + yW τ) (nI sm) 11 (12 + yW τ) = nI s0 := (congrFun (up2_a (by decide)) _).trans k1
  have q2 : up2 Γ 14 (12 + yW τ) (nI sm) 12 (12 + yW τ) = nI s1 := (congrFun (up2_a (by decide)) _).trans k2
  have q3 : up2 Γ 14 (12 + yW τ) (nI sm) 13 (12 + yW τ) = nI s2 := (congrFun (up2_a (by decide)) _).trans k3
  have q5 : up2 Γ 14 (12 + yW τ) (nI sm) 14 (12 + yW τ) = nI sm := up2_s
  simp only [h.2.1.ar.2.2.2.2.2.2.2.2.2.2.2.2.2, gI h.2.1.f mi28, h28, s1', Option.bind_some]
  generalize up2 Γ 14 (12 + yW τ) (nI sm) = Γ1 at *
  generalize xup H (m + 14) (aI (sz 14) (upd (Γ 14) (12 + yW τ) (nI sm))) = H1 at *
  obtain ⟨⟨g1, g1'⟩, hC, ⟨g3, g4, g5⟩, ⟨y1, y2, y3, y4⟩, g6, g7, g8, g9, g10⟩ := d1
  have e2 : xpI H1 (some m) 11 25 (nI (yW τ + 1)) = some (mu m (upd v 25 (nI (yW τ + 1))) H1) := mpI hC.f (by decide) _ ms25
  have uu : ∀ i, i ≠ 25 → upd v 25 (nI (yW τ + 1)) i = v i := fun i hi => pk_un hi
  simp only [gI hC.f mi25, g3, nI_1, e2, Option.bind_some]
  have hC' := hC.fd (k := 25) (x := nI (yW τ + 1)) (by decide)
  obtain ⟨w2, w3, w4, w5, w6, w7⟩ := g1'
  have hw : mW t S n J m j0 j v0 Γ0 H0 (upd v 25 (nI (yW τ + 1))) Γ1 (mu m (upd v 25 (nI (yW τ + 1))) H1) := ⟨⟨_, _, _, _, _, _, hC'⟩, w2.um, w3, w4.tr Fr.um, w5.tr (vk.u (by omega)), w6, w7⟩
  refine mOs.ok hw ⟨hC', ⟨pk_us, (uu 26 (by decide)).trans g4, (uu 27 (by decide)).trans g5⟩, hw.2.1, ⟨y1, fun i hi => ?_, y3, fun i hi => ?_⟩, g6, g7, by show yW τ + 1 ≤ 12; omega, g9, g10⟩
  · show Γ1 3 (12 + i) = nI (ins (yb τ) (yW τ) (a, o, x, y, σ, f, g) i).1 ∧ Γ1 4 (12 + i) = nI (ins (yb τ) (yW τ) (a, o, x, y, σ, f, g) i).2.1 ∧ Γ1 5 (12 + i) = nI (ins (yb τ) (yW τ) (a, o, x, y, σ, f, g) i).2.2.1 ∧ Γ1 6 (12 + i) = nI (ins (yb τ) (yW τ) (a, o, x, y, σ, f, g) i).2.2.2.1
    by_cases q : i = yW τ
    · rw [q, ins_s]; exact q4
    · rw [ins_n q]; exact y2 i (by have : i < yW τ + 1 := hi; omega)
  · show ∃ s0 s1 s2 s3, Γ1 11 (12 + i) = nI s0 ∧ Γ1 12 (12 + i) = nI s1 ∧ Γ1 13 (12 + i) = nI s2 ∧ Γ1 14 (12 + i) = nI s3 ∧ 700 ≤ s0 ∧ s0 ≤ s1 ∧ s1 ≤ s2 ∧ s2 ≤ s3 ∧ s3 ≤ sm ∧ PF (yT τ) c s0 s1 21 (ins (yb τ) (yW τ) (a, o, x, y, σ, f, g) i).2.2.2.2.1 ∧ pO (yT τ) c s1 s2 (ins (yb τ) (yW τ) (a, o, x, y, σ, f, g) i).2.2.2.2.2.1 ∧ pO (yT τ) c s2 s3 (ins (yb τ) (yW τ) (a, o, x, y, σ, f, g) i).2.2.2.2.2.2
    by_cases q : i = yW τ
    · rw [q, ins_s]; exact ⟨s0, s1, s2, sm, q1, q2, q3, q5, l0, l1, l2, l3, Nat.le_refl _, p1, p2, p3⟩
    · rw [ins_n q]; exact y4 i (by have : i < yW τ + 1 := hi; omega)
theorem agr_le {k j1 : Nat} (g : zK t S n J (yT τ) (yM τ) (ytn τ) (ymn τ) m k j j1 v c sm H v1 c1 sm1 H1) {e : Nat} (he : e ≤ sm) : ∀ q, q < e → c1.1 q = c.1 q ∧ c1.2.1 q = c.2.1 q ∧ c1.2.2 q = c.2.2 q := fun q hq => g.2.2.2.1 q (by omega)
theorem M_169 (hT : tkS t n J S E) (hn : n ≤ 1200) (h6 : ∀ q, t q < 256) (hN : 1200 < N) {a o x y s0 s1 : Nat} {σ : sem} {f : Option sem} (h : mD t S n J m τ j0 j v0 Γ0 H0 v c sm Γ H) (h34 : v 34 = nI 0) (hW : yW τ < 12) (h4 : dB4 Γ (12 + yW τ) a o x y) (k1 : Γ 11 (12 + yW τ) = nI s0) (k2 : Γ 12 (12 + yW τ) = nI s1) (l0 : 700 ≤ s0) (l1 : s0 ≤ s1) (l2 : s1 ≤ sm) (p1 : PF (yT τ) c s0 s1 21 σ) (p2 : pO (yT τ) c s1 sm f) : mOs t S n J m (pTd t J S E τ a o x y σ f j) j0 v0 Γ0 H0 (F_X12_betTold_J169 N (some m) (nI (12 + yW τ)) H) := by
  obtain ⟨st, d1⟩ := h.e2 (a := 13) (x := nI sm) hW (by decide)
  have h28 := h.2.1.2.2.2
  unfold F_X12_betTold_J169 pTd
  have q4 := h4.u (i := 13) (z := nI sm) (by decide)
  have q1 : up2 Γ 13 (12 + yW τ) (nI sm) 11 (12 + yW τ) = nI s0 := (congrFun (up2_a (by decide)) _).trans k1
  have q2 : up2 Γ 13 (12 + yW τ) (nI sm) 12 (12 + yW τ) = nI s1 := (congrFun (up2_a (by decide)) _).trans k2
  have q3 : up2 Γ 13 (12 + yW τ) (nI sm) 13 (12 + yW τ) = nI sm := up2_s
  simp only [h.2.1.ar.2.2.2.2.2.2.2.2.2.2.2.2.1, gI h.2.1.f mi28, h28, st, d1.2.1.ob, Option.bind_some]
  generalize up2 Γ 13 (12 + yW τ) (nI sm) = Γ1 at *
  generalize xup H (m + 13) (aI (sz 13) (upd (Γ 13) (12 + yW τ) (nI sm))) = H1 at *
  have hj : j ≤ J := h.1.2.2.2.2.2.2
  have w1 := d1.2.1.w hT hn h6 hN hj (show 11 < 19 by decide) (show (110429873532005 : Int64) = lN (w8 (kw 11)) by decide +kernel)
  by_cases q5 : wd t J S E j = kw 11
  rotate_left
  · obtain ⟨v2, H2, e2, R2, -⟩ := w1.2 q5
    rw [cif_f q5, e2]
    simp only [bd2_s, if_true]
    exact M_198 (d1.k R2) hW q4 q1 q2 q3 l0 l1 l2 (Nat.le_refl _) p1 p2 ⟨fun _ => rfl, fun ρ hρ => by cases hρ⟩
  obtain ⟨v2, H2, e2, R2, s2, -, -⟩ := w1.1 q5
  have d2 := d1.k R2
  rw [cif_t q5, e2]
  simp only [bd2_s, if_neg n10, d2.2.1.ob, Option.bind_some]
  obtain ⟨r, v3, c3, sm3, H3, u1, u2, u3, u4⟩ := M_claim hT hn h6 hN d2.2.1 R2.2.2.2.2.2.2.2 d2.2.2.2.2.1 (s2.trans h34)
  have d3 := d2.k u2
  rw [show pAn t J S E (pSi t J S E (yT τ) (ytn τ) 9) (j + 1) = pCl t J S E τ (j + 1) from rfl] at u2 u3 u4 d3
  simp only [u1, bd2_s]
  cases hp : (pCl t J S E τ (j + 1)).1 with
  | none =>
    rw [qbd_n hp, (u3 hp).1]
    simp only [if_true]
    exact mOs.no d3.1 (u3 hp).2
  | some ρ =>
    rw [qbd_s hp, (u4 ρ hp).1]
    obtain ⟨-, z1, z2⟩ := u4 ρ hp
    simp only [if_neg n10]
    exact M_198 d3 hW q4 q1 q2 q3 l0 l1 l2 u2.2.2.2.2.1 (p1.fr (Nat.le_refl _) (fun q _ q2 => agr_le u2 l2 q q2)) (p2.fr (Nat.le_refl _) (fun q _ q2 => agr_le u2 (Nat.le_refl _) q q2)) ⟨fun z => (by cases z), fun κ hκ => by cases hκ; exact z2⟩
end
theorem M_betTold (hT : tkS t n J S E) (hn : n ≤ 1200) (h6 : ∀ q, t q < 256) (hN : 1200 < N) {j : Nat} (h : mY t S n m τ j v c sm Γ H) (hj : j ≤ J) (h34 : v 34 = nI 0) (hW : yW τ < 12) : mOs t S n J m (pTb t J S E τ j) j v Γ H (F_X12_betTold N (some m) H) := by
  have d0 := h.d hj
  unfold F_X12_betTold pTb
  simp only [gI h.1.f mi25, h.2.1.1, h.1.ob, n12k, Option.bind_some]
  obtain ⟨t1, t1'⟩ := d0.2.1.me hT hn h6 hN hj (-1)
  rcases fnd_c (yM τ) (ymn τ) (wd t J S E j) with ⟨i, f1, f2, f3⟩ | ⟨f1, f2⟩
  rotate_left
  · obtain ⟨v1, H1, e1, R1, s1⟩ := t1' f1
    rw [obd_n f1, e1]
    simp only [bd2_s, if_true]
    exact mOs.no (d0.k R1).1 s1
  obtain ⟨iT, i6, j1, t1, -⟩ := t1 i f1
  obtain ⟨v1, H1, e1, R1, a1, -, r1⟩ := t1 (nIm1 (by omega))
  have d1 := d0.k R1
  obtain ⟨st1, d2⟩ := d1.e2 (a := 3) (x := nI i) hW (by decide)
  rw [obd_s f1, e1]
  simp only [bd2_s, if_neg n10, d1.2.1.ar.2.2.1, gI d1.2.1.f mi40, r1, st1, d2.2.1.ob, Option.bind_some]
  have k3 : up2 Γ 3 (12 + yW τ) (nI i) 3 (12 + yW τ) = nI i := up2_s
  generalize up2 Γ 3 (12 + yW τ) (nI i) = Γ2 at *
  generalize xup H1 (m + 3) (aI (sz 3) (upd (Γ 3) (12 + yW τ) (nI i))) = H2 at *
  have w2 := d2.2.1.nu hT hn h6 hN R1.2.2.2.2.2.2.2 (show 1 < 1000 by decide) (show 999 < 1000 by decide)
  rw [show nI 1 = (1 : Int32) from rfl, show nI 999 = (999 : Int32) from rfl] at w2
  by_cases q1 : isN t J S E (j + 1) 1 999
  rotate_left
  · obtain ⟨v3, H3, e3, R3, s3⟩ := w2.2 q1
    rw [cif_f q1, e3]
    simp only [bd2_s, if_true]
    exact mOs.no (d2.k R3).1 s3
  obtain ⟨v3, H3, e3, R3, a3, r3⟩ := w2.1 q1
  have d3 := d2.k R3
  obtain ⟨st3, d4⟩ := d3.e2 (a := 5) (x := nI (nv t S E (j + 1))) hW (by decide)
  rw [cif_t q1, e3]
  simp only [bd2_s, if_neg n10, d3.2.1.ar.2.2.2.2.1, gI d3.2.1.f mi39, r3, st3, d4.2.1.ob, Option.bind_some]
  have k5 : up2 Γ2 5 (12 + yW τ) (nI (nv t S E (j + 1))) 5 (12 + yW τ) = nI (nv t S E (j + 1)) := up2_s
  have k3 : up2 Γ2 5 (12 + yW τ) (nI (nv t S E (j + 1))) 3 (12 + yW τ) = nI i := (congrFun (up2_a (by decide)) _).trans k3
  generalize up2 Γ2 5 (12 + yW τ) (nI (nv t S E (j + 1))) = Γ4 at *
  generalize xup H3 (m + 5) (aI (sz 5) (upd (Γ2 5) (12 + yW τ) (nI (nv t S E (j + 1))))) = H4 at *
  have w4 := d4.2.1.w hT hn h6 hN R3.2.2.2.2.2.2.2 (show 8 < 19 by decide) (show (29807 : Int64) = lN (w8 (kw 8)) by decide +kernel)
  by_cases q2 : wd t J S E (j + 1 + 1) = kw 8
  rotate_left
  · obtain ⟨v5, H5, e5, R5, s5, -⟩ := w4.2 q2
    rw [cif_f q2, e5]
    simp only [bd2_s, if_true]
    exact mOs.no (d4.k R5).1 s5
  obtain ⟨v5, H5, e5, R5, a5, -, -⟩ := w4.1 q2
  have d5 := d4.k R5
  rw [cif_t q2, e5]
  simp only [bd2_s, if_neg n10, d5.2.1.ob, Option.bind_some]
  have w5 := d5.2.1.nu hT hn h6 hN R5.2.2.2.2.2.2.2 (show 1 < 1000 by decide) (show 999 < 1000 by decide)
  rw [show nI 1 = (1 : Int32) from rfl, show nI 999 = (999 : Int32) from rfl] at w5
  by_cases q3 : isN t J S E (j + 1 + 1 + 1) 1 999
  rotate_left
  · obtain ⟨v6, H6, e6, R6, s6⟩ := w5.2 q3
    rw [cif_f q3, e6]
    simp only [bd2_s, if_true]
    exact mOs.no (d5.k R6).1 s6
  obtain ⟨v6, H6, e6, R6, a6, r6⟩ := w5.1 q3
  have d6 := d5.k R6
  obtain ⟨st6, d7⟩ := d6.e2 (a := 6) (x := nI (nv t S E (j + 1 + 1 + 1))) hW (by decide)
  rw [cif_t q3, e6]
  have k6 : up2 Γ4 6 (12 + yW τ) (nI (nv t S E (j + 1 + 1 + 1))) 6 (12 + yW τ) = nI (nv t S E (j + 1 + 1 + 1)) := up2_s
  have k5 : up2 Γ4 6 (12 + yW τ) (nI (nv t S E (j + 1 + 1 + 1))) 5 (12 + yW τ) = nI (nv t S E (j + 1)) := (congrFun (up2_a (by decide)) _).trans k5
  have k3 : up2 Γ4 6 (12 + yW τ) (nI (nv t S E (j + 1 + 1 + 1))) 3 (12 + yW τ) = nI i := (congrFun (up2_a (by decide)) _).trans k3
  have rd3 := d7.1.2.1.rd (a := 3) (by decide) (by decide) (dr_b (T := 0) (R := 0) hW (by decide)).1
  rw [k3] at rd3
  simp only [bd2_s, if_neg n10, d6.2.1.ar.2.2.2.2.2.1, gI d6.2.1.f mi39, r6, st6, d7.2.1.ar.2.2.1, rd3, d7.2.1.ob, Option.bind_some]
  clear rd3
  generalize up2 Γ4 6 (12 + yW τ) (nI (nv t S E (j + 1 + 1 + 1))) = Γ7 at *
  generalize xup H6 (m + 6) (aI (sz 6) (upd (Γ4 6) (12 + yW τ) (nI (nv t S E (j + 1 + 1 + 1))))) = H7 at *
  obtain ⟨t7, t7'⟩ := d7.2.1.me hT hn h6 hN R6.2.2.2.2.2.2.2 (nI i)
  rcases fnd_c (yM τ) (ymn τ) (wd t J S E (j + 1 + 1 + 1 + 1)) with ⟨u, g1, g2, g3⟩ | ⟨g1, g2⟩
  rotate_left
  · obtain ⟨v8, H8, e8, R8, s8⟩ := t7' g1
    rw [obd_n g1, e8]
    simp only [bd2_s, if_true]
    exact mOs.no (d7.k R8).1 s8
  obtain ⟨uT, u6, j2, t7, t8⟩ := t7 u g1
  rw [obd_s g1]
  by_cases q4 : u = i
  · obtain ⟨v8, H8, e8, R8, s8⟩ := t8 (by rw [q4])
    rw [cif_t q4, e8]
    simp only [bd2_s, if_true]
    exact mOs.no (d7.k R8).1 s8
  obtain ⟨v8, H8, e8, R8, a8, -, r8⟩ := t7 (fun z => q4 ((nI_eq (by omega) (by omega)).mp z))
  have d8 := d7.k R8
  obtain ⟨st8, d9⟩ := d8.e2 (a := 4) (x := nI u) hW (by decide)
  rw [cif_f q4, e8]
  simp only [bd2_s, if_neg n10, d8.2.1.ar.2.2.2.1, gI d8.2.1.f mi40, r8, st8, d9.2.1.ob, Option.bind_some]
  have k4 : dB4 (up2 Γ7 4 (12 + yW τ) (nI u)) (12 + yW τ) i u (nv t S E (j + 1)) (nv t S E (j + 1 + 1 + 1)) := ⟨(congrFun (up2_a (by decide)) _).trans k3, up2_s, (congrFun (up2_a (by decide)) _).trans k5, (congrFun (up2_a (by decide)) _).trans k6⟩
  generalize up2 Γ7 4 (12 + yW τ) (nI u) = Γ9 at *
  generalize xup H8 (m + 4) (aI (sz 4) (upd (Γ7 4) (12 + yW τ) (nI u))) = H9 at *
  have w9 := d9.2.1.w hT hn h6 hN R8.2.2.2.2.2.2.2 (show 9 < 19 by decide) (show (1952997748 : Int64) = lN (w8 (kw 9)) by decide +kernel)
  by_cases q5 : wd t J S E (j + 1 + 1 + 1 + 1 + 1) = kw 9
  rotate_left
  · obtain ⟨v10, H10, e10, R10, s10, -⟩ := w9.2 q5
    rw [cif_f q5, e10]
    simp only [bd2_s, if_true]
    exact mOs.no (d9.k R10).1 s10
  obtain ⟨v10, H10, e10, R10, a10, -, -⟩ := w9.1 q5
  have d10 := d9.k R10
  obtain ⟨st10, d11⟩ := d10.e2 (a := 11) (x := nI sm) hW (by decide)
  rw [cif_t q5, e10]
  simp only [bd2_s, if_neg n10, d10.2.1.ar.2.2.2.2.2.2.2.2.2.2.1, gI d10.2.1.f mi28, d10.2.1.2.2.2, st10, d11.2.1.ob, Option.bind_some]
  have k4 := k4.u (i := 11) (z := nI sm) (by decide)
  have k11 : up2 Γ9 11 (12 + yW τ) (nI sm) 11 (12 + yW τ) = nI sm := up2_s
  generalize up2 Γ9 11 (12 + yW τ) (nI sm) = Γ11 at *
  generalize xup H10 (m + 11) (aI (sz 11) (upd (Γ9 11) (12 + yW τ) (nI sm))) = H11 at *
  have h34' : v10 34 = nI 0 := (((((a10.trans a8).trans a6).trans a5).trans a3).trans a1).trans h34
  obtain ⟨r, v12, c12, sm12, H12, u1, u2, u3, u4⟩ := M_claim hT hn h6 hN d11.2.1 R10.2.2.2.2.2.2.2 d11.2.2.2.2.1 h34'
  have d12 := d11.k u2
  rw [show pAn t J S E (pSi t J S E (yT τ) (ytn τ) 9) (j + 1 + 1 + 1 + 1 + 1 + 1) = pCl t J S E τ (j + 1 + 1 + 1 + 1 + 1 + 1) from rfl] at u2 u3 u4 d12
  simp only [u1, bd2_s]
  cases hp : (pCl t J S E τ (j + 1 + 1 + 1 + 1 + 1 + 1)).1 with
  | none =>
    rw [qbd_n hp, (u3 hp).1]
    simp only [if_true]
    exact mOs.no d12.1 (u3 hp).2
  | some σ =>
    rw [qbd_s hp, (u4 σ hp).1]
    obtain ⟨-, z1, z2⟩ := u4 σ hp
    clear u3 u4
    have sm7 := h.2.2.2.2.2.1
    have smm := u2.2.2.2.2.1
    obtain ⟨st12, d13⟩ := d12.e2 (a := 12) (x := nI sm12) hW (by decide)
    simp only [if_neg n10, d12.2.1.ar.2.2.2.2.2.2.2.2.2.2.2.1, gI d12.2.1.f mi28, d12.2.1.2.2.2, st12, d13.2.1.ob, Option.bind_some]
    have k4 := k4.u (i := 12) (z := nI sm12) (by decide)
    have k11 : up2 Γ11 12 (12 + yW τ) (nI sm12) 11 (12 + yW τ) = nI sm := (congrFun (up2_a (by decide)) _).trans k11
    have k12 : up2 Γ11 12 (12 + yW τ) (nI sm12) 12 (12 + yW τ) = nI sm12 := up2_s
    generalize up2 Γ11 12 (12 + yW τ) (nI sm12) = Γ13 at *
    generalize xup H12 (m + 12) (aI (sz 12) (upd (Γ11 12) (12 + yW τ) (nI sm12))) = H13 at *
    have h34'' : v12 34 = nI 0 := z1.trans h34'
    unfold pTo
    generalize (pCl t J S E τ (j + 1 + 1 + 1 + 1 + 1 + 1)).2 = j12 at *
    have w13 := d13.2.1.w hT hn h6 hN u2.2.2.2.2.2.2.2 (show 10 < 19 by decide) (show (7300710 : Int64) = lN (w8 (kw 10)) by decide +kernel)
    by_cases q6 : wd t J S E j12 = kw 10
    rotate_left
    · obtain ⟨v14, H14, e14, R14, s14, a14, -⟩ := w13.2 q6
      rw [cif_f q6, e14]
      simp only [bd2_s, if_true]
      exact M_169 hT hn h6 hN (d13.k R14) (a14.trans h34'') hW k4 k11 k12 sm7 smm (Nat.le_refl _) z2 ⟨fun _ => rfl, fun ρ hρ => by cases hρ⟩
    obtain ⟨v14, H14, e14, R14, a14, -, -⟩ := w13.1 q6
    have d14 := d13.k R14
    rw [cif_t q6, e14]
    simp only [bd2_s, if_neg n10, d14.2.1.ob, Option.bind_some]
    obtain ⟨r, v15, c15, sm15, H15, x1, x2, x3, x4⟩ := M_claim hT hn h6 hN d14.2.1 R14.2.2.2.2.2.2.2 d14.2.2.2.2.1 (a14.trans h34'')
    have d15 := d14.k x2
    rw [show pAn t J S E (pSi t J S E (yT τ) (ytn τ) 9) (j12 + 1) = pCl t J S E τ (j12 + 1) from rfl] at x2 x3 x4 d15
    simp only [x1, bd2_s]
    cases hp2 : (pCl t J S E τ (j12 + 1)).1 with
    | none =>
      rw [qbd_n hp2, (x3 hp2).1]
      simp only [if_true]
      exact mOs.no d15.1 (x3 hp2).2
    | some ρ =>
      rw [qbd_s hp2, (x4 ρ hp2).1]
      obtain ⟨-, z3, z4⟩ := x4 ρ hp2
      simp only [if_neg n10]
      exact M_169 hT hn h6 hN d15 (z3.trans (a14.trans h34'')) hW k4 k11 k12 sm7 smm x2.2.2.2.2.1 (z2.fr (Nat.le_refl _) (fun q _ q2 => agr_le x2 (Nat.le_refl _) q q2)) ⟨fun z => (by cases z), fun κ hκ => by cases hκ; exact z4⟩
