/-! PURE: the reference's state as it reads a claim. -/
variable {stf : Nat → Nat} {N K b m : Nat} {β : sB} {δ : sD} {H : xH}
variable {t S E : Nat → Nat} {n J : Nat} {T M : Nat} {tn mn : Nat → List Nat}
def mcd (m : Nat) (c : cod) (H : xH) : Prop := H.1 (m + 15) = some (aI 1400 c.1) ∧ H.1 (m + 16) = some (aI 1400 c.2.1) ∧ H.1 (m + 17) = some (aI 1400 c.2.2)
def zC (t : Nat → Nat) (S : Nat → Nat) (n T M : Nat) (tn mn : Nat → List Nat) (m j : Nat) (v : Nat → Int32) (c : cod) (sm : Nat) (H : xH) : Prop := mP t n S j m v H ∧ mNm T M tn mn m v H ∧ mcd m c H ∧ v 28 = nI sm
def ex6 (v v' : Nat → Int32) : Prop := ∀ i, i ≠ 33 → i ≠ 38 → i ≠ 39 → i ≠ 40 → i ≠ 28 → i ≠ 34 → v' i = v i
theorem ex4.six {v v' : Nat → Int32} (h : ex4 v v') : ex6 v v' := fun i a b c d _ _ => h i a b c d
theorem ex6.rf {v : Nat → Int32} : ex6 v v := fun _ _ _ _ _ _ _ => rfl
theorem ex6.tr {v v' v'' : Nat → Int32} (h : ex6 v v') (k : ex6 v' v'') : ex6 v v'' := fun i a b c d e f => (k i a b c d e f).trans (h i a b c d e f)
def sC (m q : Nat) : Prop := q = m ∨ q = m + 15 ∨ q = m + 16 ∨ q = m + 17
/-- from token j to token j': what it has done (k bytes to spare) -/
def zK (t : Nat → Nat) (S : Nat → Nat) (n J T M : Nat) (tn mn : Nat → List Nat) (m k j j' : Nat) (v : Nat → Int32) (c : cod) (sm : Nat) (H : xH) (v' : Nat → Int32) (c' : cod) (sm' : Nat) (H' : xH) : Prop := zC t S n T M tn mn m j' v' c' sm' H' ∧ Fr (sC m) H H' ∧ ex6 v v' ∧ (∀ q, q < sm → c'.1 q = c.1 q ∧ c'.2.1 q = c.2.1 q ∧ c'.2.2 q = c.2.2 q) ∧ sm ≤ sm' ∧ 2 * sm' + S j + k ≤ 2 * sm + S j' ∧ j ≤ j' ∧ j' ≤ J
variable {v v1 v2 : Nat → Int32} {c c1 c2 : cod} {sm sm1 sm2 : Nat} {H1 H2 : xH}
theorem zK.rf {j : Nat} (h : zC t S n T M tn mn m j v c sm H) (hj : j ≤ J) : zK t S n J T M tn mn m 0 j j v c sm H v c sm H := ⟨h, Fr.rf, ex6.rf, fun _ _ => ⟨rfl, rfl, rfl⟩, Nat.le_refl _, by omega, Nat.le_refl _, hj⟩
theorem zK.tr {k k' j j1 j2 : Nat} (h : zK t S n J T M tn mn m k j j1 v c sm H v1 c1 sm1 H1) (g : zK t S n J T M tn mn m k' j1 j2 v1 c1 sm1 H1 v2 c2 sm2 H2) : zK t S n J T M tn mn m (k + k') j j2 v c sm H v2 c2 sm2 H2 := by
  obtain ⟨-, a2, a3, a4, a5, a6, a7, a8⟩ := h
  obtain ⟨b1, b2, b3, b4, b5, b6, b7, b8⟩ := g
  refine ⟨b1, a2.tr b2, a3.tr b3, fun q hq => ?_, by omega, by omega, by omega, b8⟩
  obtain ⟨x1, x2, x3⟩ := b4 q (by omega)
  obtain ⟨y1, y2, y3⟩ := a4 q hq
  exact ⟨x1.trans y1, x2.trans y2, x3.trans y3⟩
theorem zK.le {k k' j j1 : Nat} (h : zK t S n J T M tn mn m k j j1 v c sm H v1 c1 sm1 H1) (hk : k' ≤ k) : zK t S n J T M tn mn m k' j j1 v c sm H v1 c1 sm1 H1 := by
  obtain ⟨a1, a2, a3, a4, a5, a6, a7, a8⟩ := h
  exact ⟨a1, a2, a3, a4, a5, by omega, a7, a8⟩
theorem zC.um {j j' : Nat} (h : zC t S n T M tn mn m j v c sm H) (he : ex4 v v1) (hp : mP t n S j' m v1 (mu m v1 H)) : zC t S n T M tn mn m j' v1 c sm (mu m v1 H) := by
  obtain ⟨h1, h2, ⟨h3, h4, h5⟩, h6⟩ := h
  exact ⟨hp, h2.mu he, ⟨(mu_ne (by omega)).trans h3, (mu_ne (by omega)).trans h4, (mu_ne (by omega)).trans h5⟩, (he 28 (by decide) (by decide) (by decide) (by decide)).trans h6⟩
theorem zK.um {k j j' : Nat} (h : zC t S n T M tn mn m j v c sm H) (he : ex4 v v1) (hp : mP t n S j' m v1 (mu m v1 H)) (hj : j ≤ j') (hJ : j' ≤ J) (hk : S j + k ≤ S j') : zK t S n J T M tn mn m k j j' v c sm H v1 c sm (mu m v1 H) := ⟨h.um he hp, Fr.u (Or.inl rfl), he.six, fun _ _ => ⟨rfl, rfl, rfl⟩, Nat.le_refl _, by omega, hj, hJ⟩
/-- a word's bytes -/
theorem kw_2b (hT : tkS t n J S E) {j k : Nat} (h : wd t J S E j = kw k) (hk : k < 19) (hj : j < J) : S j + 2 ≤ S (j + 1) := by
  have k2 := (kw_ok k hk).2.2
  have h1 := hT.2.1 j hj
  rw [← h] at k2
  unfold wd at k2
  split at k2
  · rw [wl_len] at k2; omega
  · simp at k2
theorem zC.w (hT : tkS t n J S E) (hn : n ≤ 1200) (h6 : ∀ q, t q < 256) (hN : 1200 < N) {j k : Nat} {x : Int64} (h : zC t S n T M tn mn m j v c sm H) (hj : j ≤ J) (hk : k < 19) (hx : x = lN (w8 (kw k))) :
    (wd t J S E j = kw k → ∃ v1 H1, F_X12_takes N (some m) x H = some (1, H1) ∧ zK t S n J T M tn mn m 2 j (j + 1) v c sm H v1 c sm H1 ∧ v1 34 = v 34 ∧ v1 39 = v 39 ∧ v1 40 = v 40) ∧ (wd t J S E j ≠ kw k → ∃ v1 H1, F_X12_takes N (some m) x H = some (0, H1) ∧ zK t S n J T M tn mn m 0 j j v c sm H v1 c sm H1 ∧ v1 33 = nI (S j) ∧ v1 34 = v 34 ∧ v1 39 = v 39 ∧ v1 40 = v 40) := by
  obtain ⟨e1, e2⟩ := M_takes hT hn h6 hN h.1 hj hk hx
  refine ⟨fun q => ?_, fun q => ?_⟩
  · obtain ⟨v', a1, a2, a3, a4, a5⟩ := e1 q
    have j1 := kw_J hT hn h6 hN q hk
    exact ⟨v', _, a1, zK.um h a2 a5 (by omega) (by omega) (kw_2b hT q hk j1), a2 34 (by decide) (by decide) (by decide) (by decide), a3, a4⟩
  · obtain ⟨v', a1, a2, a3, a4, a5, a6⟩ := e2 q
    exact ⟨v', _, a1, zK.um h a2 a6 (by omega) (by omega) (by omega), a5, a2 34 (by decide) (by decide) (by decide) (by decide), a3, a4⟩
theorem zC.nu (hT : tkS t n J S E) (hn : n ≤ 1200) (h6 : ∀ q, t q < 256) (hN : 1200 < N) {j lo hi : Nat} (h : zC t S n T M tn mn m j v c sm H) (hj : j ≤ J) (hlo : lo < 1000) (hhi : hi < 1000) :
    (isN t J S E j lo hi → ∃ v1 H1, F_X12_takesNumber N (some m) (nI lo) (nI hi) H = some (1, H1) ∧ zK t S n J T M tn mn m 1 j (j + 1) v c sm H v1 c sm H1 ∧ v1 34 = v 34 ∧ v1 39 = nI (nv t S E j)) ∧ (¬ isN t J S E j lo hi → ∃ v1 H1, F_X12_takesNumber N (some m) (nI lo) (nI hi) H = some (0, H1) ∧ zK t S n J T M tn mn m 0 j j v c sm H v1 c sm H1 ∧ v1 33 = nI (S j)) := by
  obtain ⟨e1, e2⟩ := M_num hT hn h6 hN h.1 hj hlo hhi
  refine ⟨fun q => ?_, fun q => ?_⟩
  · obtain ⟨v', a1, a2, a3, a4⟩ := e1 q
    have j1 := q.1
    have := hT.2.1 j j1
    exact ⟨v', _, a1, zK.um h a2 a4 (by omega) (by omega) (by omega), a2 34 (by decide) (by decide) (by decide) (by decide), a3⟩
  · obtain ⟨v', a1, a2, a3, a4⟩ := e2 q
    exact ⟨v', _, a1, zK.um h a2 a4 (by omega) (by omega) (by omega), a3⟩
theorem zC.s (hT : tkS t n J S E) (hn : n ≤ 1200) (h6 : ∀ q, t q < 256) (hN : 1200 < N) {j s : Nat} (h : zC t S n T M tn mn m j v c sm H) (hj : j ≤ J) (hs : s = 40 ∨ s = 41 ∨ s = 59) :
    (sg t J S j = s → ∃ v1 H1, F_X12_takesSign N (some m) (nI s) H = some (1, H1) ∧ zK t S n J T M tn mn m 1 j (j + 1) v c sm H v1 c sm H1 ∧ v1 34 = v 34) ∧ (sg t J S j ≠ s → ∃ v1 H1, F_X12_takesSign N (some m) (nI s) H = some (0, H1) ∧ zK t S n J T M tn mn m 0 j j v c sm H v1 c sm H1 ∧ v1 33 = nI (S j)) := by
  obtain ⟨e1, e2⟩ := M_sign hT hn h6 hN h.1 hj hs
  refine ⟨fun q => ?_, fun q => ?_⟩
  · obtain ⟨v', a1, a2, a4⟩ := e1 q
    have j1 : j < J := by
      unfold sg at q
      split at q
      · assumption
      · omega
    have := hT.2.1 j j1
    exact ⟨v', _, a1, zK.um h a2 a4 (by omega) (by omega) (by omega), a2 34 (by decide) (by decide) (by decide) (by decide)⟩
  · obtain ⟨v', a1, a2, a3, a4⟩ := e2 q
    exact ⟨v', _, a1, zK.um h a2 a4 (by omega) (by omega) (by omega), a3⟩
theorem zC.th (hT : tkS t n J S E) (hn : n ≤ 1200) (h6 : ∀ q, t q < 256) (hN : 1200 < N) {j : Nat} (h : zC t S n T M tn mn m j v c sm H) (hj : j ≤ J) (ot : Int32) :
    (∀ i, fnd T tn (wd t J S E j) = some i → i < T ∧ i < 5 ∧ j < J ∧ (nI i ≠ ot → ∃ v1 H1, F_X12_takesThing N (some m) ot H = some (1, H1) ∧ zK t S n J T M tn mn m 1 j (j + 1) v c sm H v1 c sm H1 ∧ v1 34 = v 34 ∧ v1 39 = v 39 ∧ v1 40 = nI i) ∧ (nI i = ot → ∃ v1 H1, F_X12_takesThing N (some m) ot H = some (0, H1) ∧ zK t S n J T M tn mn m 0 j j v c sm H v1 c sm H1 ∧ v1 33 = nI (S j))) ∧ (fnd T tn (wd t J S E j) = none → ∃ v1 H1, F_X12_takesThing N (some m) ot H = some (0, H1) ∧ zK t S n J T M tn mn m 0 j j v c sm H v1 c sm H1 ∧ v1 33 = nI (S j)) := by
  obtain ⟨e1, e2⟩ := M_tThing (ot := ot) hT hn h6 hN h.1 h.2.1 hj
  have hnm := h.2.1.2.2.1
  have hT5 := h.2.1.1.2.1
  have no : (∀ i, i < T → tn i = wd t J S E j → nI i = ot) → ∃ v1 H1, F_X12_takesThing N (some m) ot H = some (0, H1) ∧ zK t S n J T M tn mn m 0 j j v c sm H v1 c sm H1 ∧ v1 33 = nI (S j) := by
    intro q
    obtain ⟨v', a1, a2, a3, a4⟩ := e2 q
    exact ⟨v', _, a1, zK.um h a2 a4 (by omega) (by omega) (by omega), a3⟩
  rcases fnd_c T tn (wd t J S E j) with ⟨i, f1, f2, f3⟩ | ⟨f1, f2⟩
  · refine ⟨fun k hk => ?_, fun z => by rw [f1] at z; cases z⟩
    have : i = k := Option.some.inj (f1.symm.trans hk)
    subst this
    have j1 := (wd_j hT hn h6 hN (j := j) (by rw [← f3]; exact (hnm.1 i f2).2)).1
    refine ⟨f2, by omega, j1, fun z => ?_, fun z => no (fun k k1 k2 => ?_)⟩
    · obtain ⟨v', a1, a2, a3, a4, a5⟩ := e1 i f2 f3 z
      have := hT.2.1 j j1
      exact ⟨v', _, a1, zK.um h a2 a5 (by omega) (by omega) (by omega), a2 34 (by decide) (by decide) (by decide) (by decide), a3, a4⟩
    · rw [hnm.2 k i k1 f2 (k2.trans f3.symm)]; exact z
  · exact ⟨fun k hk => (by rw [f1] at hk; cases hk), fun _ => no (fun i i1 i2 => absurd i2 (f2 i i1))⟩
theorem zC.ob {j : Nat} (h : zC t S n T M tn mn m j v c sm H) : xob H (some m) 11 = some m := obx h.1.1
theorem zC.f {j : Nat} (h : zC t S n T M tn mn m j v c sm H) : H.1 m = some (mo m v) := h.1.1
/-- a step is put -/
theorem M_puts {j : Nat} (h : zC t S n T M tn mn m j v c sm H) (hs : sm < 1400) (x y z : Int32) : ∃ H1, F_X12_puts N (some m) x y z H = some H1 ∧ zC t S n T M tn mn m j (upd v 28 (nI (sm + 1))) (upd c.1 sm x, upd c.2.1 sm y, upd c.2.2 sm z) (sm + 1) H1 ∧ Fr (sC m) H H1 := by
  obtain ⟨⟨p1, p2, p3, p4⟩, h2, ⟨h3, h4, h5⟩, h6⟩ := h
  have st1 := stI (v := x) h3 hs (by decide)
  rw [vnI] at st1
  generalize g1 : xup H (m + 15) (aI 1400 (upd c.1 sm x)) = Ha at *
  have am : Ha.1 m = some (mo m v) := by rw [← g1, xup_ne _ (by omega)]; exact p1
  have a4 : Ha.1 (m + 16) = some (aI 1400 c.2.1) := by rw [← g1, xup_ne _ (by omega)]; exact h4
  have st2 := stI (v := y) a4 hs (by decide)
  rw [vnI] at st2
  generalize g2 : xup Ha (m + 16) (aI 1400 (upd c.2.1 sm y)) = Hb at *
  have bm : Hb.1 m = some (mo m v) := by rw [← g2, xup_ne _ (by omega)]; exact am
  have b5 : Hb.1 (m + 17) = some (aI 1400 c.2.2) := by rw [← g2, xup_ne _ (by omega), ← g1, xup_ne _ (by omega)]; exact h5
  have st3 := stI (v := z) b5 hs (by decide)
  rw [vnI] at st3
  generalize g3 : xup Hb (m + 17) (aI 1400 (upd c.2.2 sm z)) = Hc at *
  have cm : Hc.1 m = some (mo m v) := by rw [← g3, xup_ne _ (by omega)]; exact bm
  have st4 : xpI Hc (some m) 11 28 (nI (sm + 1)) = some (mu m (upd v 28 (nI (sm + 1))) Hc) := mpI cm (by decide) _ ms28
  have ne : ∀ q, ¬ sC m q → (mu m (upd v 28 (nI (sm + 1))) Hc).1 q = H.1 q := by
    intro q hq
    unfold sC at hq
    rw [mu_ne (by omega), ← g3, xup_ne _ (by omega), ← g2, xup_ne _ (by omega), ← g1, xup_ne _ (by omega)]
  have ns : ∀ a, 18 ≤ a → ¬ sC m (m + a) := fun a ha => by unfold sC; omega
  obtain ⟨⟨n1, n2, n3⟩, ⟨n4, n5, n6⟩, n7⟩ := h2
  have u : ∀ i, i ≠ 28 → upd v 28 (nI (sm + 1)) i = v i := fun i hi => pk_un hi
  refine ⟨mu m (upd v 28 (nI (sm + 1))) Hc, ?_, ⟨⟨mu_at, ?_, (u 32 (by decide)).trans p3, ?_⟩, ⟨⟨(u 23 (by decide)).trans n1, n2, ?_⟩, ⟨(u 24 (by decide)).trans n4, n5, ?_⟩, n7⟩, ⟨?_, ?_, ?_⟩, pk_us⟩, ⟨?_, ne⟩⟩
  · unfold F_X12_puts
    simp only [gA p1 ma20, gI p1 mi28, h6, st1, gA am ma21, gI am mi28, st2, gA bm ma22, gI bm mi28, st3, gI cm mi28, nI_1, st4, Option.bind_some]
  · obtain ⟨g, gg, gh⟩ := p2
    exact ⟨g, (ne _ (ns 21 (by decide))).trans gg, gh⟩
  · rw [u 33 (by decide)]; exact p4
  · obtain ⟨g, gg, gh⟩ := n3
    exact ⟨g, (ne _ (ns 18 (by decide))).trans gg, gh⟩
  · obtain ⟨g, gg, gh⟩ := n6
    exact ⟨g, (ne _ (ns 19 (by decide))).trans gg, gh⟩
  · rw [mu_ne (by omega), ← g3, xup_ne _ (by omega), ← g2, xup_ne _ (by omega), ← g1, xup_at]
  · rw [mu_ne (by omega), ← g3, xup_ne _ (by omega), ← g2, xup_at]
  · rw [mu_ne (by omega), ← g3, xup_at]
  · show Hc.2 = H.2
    rw [← g3, ← g2, ← g1]; rfl
/-- room for steps -/
def rmS (S : Nat → Nat) (sm j : Nat) : Prop := 2 * sm ≤ 1400 + S j
theorem zK.rm {k j j1 : Nat} (h : zK t S n J T M tn mn m k j j1 v c sm H v1 c1 sm1 H1) (hs : rmS S sm j) : rmS S sm1 j1 := by
  obtain ⟨a1, a2, a3, a4, a5, a6, a7, a8⟩ := h
  unfold rmS at *
  omega
theorem zK.put (hT : tkS t n J S E) (hn : n ≤ 1200) {k j j1 : Nat} (h : zK t S n J T M tn mn m (k + 2) j j1 v c sm H v1 c1 sm1 H1) (hs : rmS S sm j) (x y z : Int32) : ∃ H2, F_X12_puts N (some m) x y z H1 = some H2 ∧ zK t S n J T M tn mn m k j j1 v c sm H (upd v1 28 (nI (sm1 + 1))) (upd c1.1 sm1 x, upd c1.2.1 sm1 y, upd c1.2.2 sm1 z) (sm1 + 1) H2 := by
  have r := h.rm hs
  obtain ⟨a1, a2, a3, a4, a5, a6, a7, a8⟩ := h
  have hl := hT.le a8
  unfold rmS at r
  obtain ⟨H2, e1, e2, e3⟩ := M_puts (N := N) a1 (by omega) x y z
  refine ⟨H2, e1, e2, a2.tr e3, a3.tr (fun i _ _ _ _ q _ => pk_un q), fun q hq => ?_, by omega, by omega, a7, a8⟩
  obtain ⟨x1, x2, x3⟩ := a4 q hq
  exact ⟨(pk_un (by omega)).trans x1, (pk_un (by omega)).trans x2, (pk_un (by omega)).trans x3⟩
/-- how a try ends -/
def mOut (t : Nat → Nat) (S : Nat → Nat) (n J T M : Nat) (tn mn : Nat → List Nat) (m h : Nat) (p : pr) (j : Nat) (v : Nat → Int32) (c : cod) (sm : Nat) (H : xH) (x : Option (Int32 × xH)) : Prop := ∃ (r : Int32) (v' : Nat → Int32) (c' : cod) (sm' : Nat) (H' : xH), x = some (r, H') ∧ zK t S n J T M tn mn m 0 j p.2 v c sm H v' c' sm' H' ∧ (p.1 = none → r = 0 ∧ v' 33 = nI (S p.2)) ∧ ∀ σ, p.1 = some σ → r = 1 ∧ v' 34 = v 34 ∧ PF T c' sm sm' h σ
theorem mOut.no {h k j j' : Nat} (g : zK t S n J T M tn mn m k j j' v c sm H v1 c1 sm1 H1) (h3 : v1 33 = nI (S j')) : mOut t S n J T M tn mn m h (none, j') j v c sm H (some (0, H1)) := ⟨0, v1, c1, sm1, H1, rfl, g.le (Nat.zero_le _), fun _ => ⟨rfl, h3⟩, fun σ hσ => by cases hσ⟩
theorem mOut.lf (hT : tkS t n J S E) (hn : n ≤ 1200) {j j' kd w y : Nat} (g : zK t S n J T M tn mn m 2 j j' v c sm H v1 c sm H1) (hs : rmS S sm j) (hl : lok T kd w y) (h4 : v1 34 = v 34) : mOut t S n J T M tn mn m 1 (some (lsm kd w y), j') j v c sm H ((F_X12_puts N (some m) (nI kd) (nI w) (nI y) H1).bind fun H2 => some ((1 : Int32), H2)) := by
  obtain ⟨H2, e1, e2⟩ := zK.put (N := N) (k := 0) hT hn g hs (nI kd) (nI w) (nI y)
  rw [e1]
  refine ⟨1, _, _, _, H2, rfl, e2, (fun q => by cases q), fun σ hσ => ⟨rfl, (pk_un (by decide)).trans h4, ?_⟩⟩
  cases hσ
  exact PF.leaf (T := T) pk_us pk_us pk_us hl
