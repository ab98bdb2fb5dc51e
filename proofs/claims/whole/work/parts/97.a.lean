/-! PURE: the reference reads a book's text; a book refused. -/
variable {stf : Nat → Nat} {N K b m : Nat} {β : sB} {δ : sD} {H : xH}
variable {t S E : Nat → Nat} {q J : Nat} {τ : tS} {v : Nat → Int32}
theorem aG.ofR (h : mR m v β δ H) : ∃ Γ, aG m Γ H := by
  obtain ⟨⟨c1, -, -, -, -, -, ⟨g5, n5, -⟩, ⟨g6, n6, -⟩⟩, -, ⟨g1, n1, -⟩, ⟨g2, n2, -⟩, ⟨g12, g13, g14, n12, n13, n14, -⟩, -, -, -, -, -, s1, s2, -⟩ := h
  have key : ∀ a : Nat, ∃ g, 1 ≤ a → a ≤ 14 → H.1 (m + a) = some (aI (sz a) g) := by
    intro a
    by_cases h : 1 ≤ a ∧ a ≤ 14
    · have e24 : ∀ a, a = 3 ∨ a = 4 ∨ a = 11 → ∃ g, H.1 (m + a) = some (aI 24 g) := s1
      have : a = 1 ∨ a = 2 ∨ a = 3 ∨ a = 4 ∨ a = 5 ∨ a = 6 ∨ (7 ≤ a ∧ a ≤ 10) ∨ a = 11 ∨ a = 12 ∨ a = 13 ∨ a = 14 := by omega
      rcases this with rfl | rfl | rfl | rfl | rfl | rfl | ⟨h7, h10⟩ | rfl | rfl | rfl | rfl
      · exact ⟨g1, fun _ _ => n1⟩
      · exact ⟨g2, fun _ _ => n2⟩
      · obtain ⟨g, hg⟩ := e24 3 (by decide); exact ⟨g, fun _ _ => hg⟩
      · obtain ⟨g, hg⟩ := e24 4 (by decide); exact ⟨g, fun _ _ => hg⟩
      · exact ⟨g5, fun _ _ => n5⟩
      · exact ⟨g6, fun _ _ => n6⟩
      · obtain ⟨g, hg⟩ := s2 a h7 h10
        have : sz a = 80 := by unfold sz; rw [if_neg (by omega), if_neg (by omega), if_pos h10]
        exact ⟨g, fun _ _ => by rw [this]; exact hg⟩
      · obtain ⟨g, hg⟩ := e24 11 (by decide); exact ⟨g, fun _ _ => hg⟩
      · exact ⟨g12, fun _ _ => n12⟩
      · exact ⟨g13, fun _ _ => n13⟩
      · exact ⟨g14, fun _ _ => n14⟩
    · exact ⟨fun _ => 0, fun a1 a2 => absurd ⟨a1, a2⟩ h⟩
  obtain ⟨Γ, hΓ⟩ := Classical.axiomOfChoice key
  exact ⟨Γ, fun a a1 a2 => hΓ a a1 a2⟩
theorem M_reads (hT : tkS t q J S E) (h6 : ∀ i, t i < 256) (hN : 1200 < N) (h : mR m v β δ H) (hq : q ≤ dN δ) (hq12 : q ≤ 1200) (ht : ∀ k, k < q → t k = ub (dT δ k)) {Γ0 : Nat → Nat → Int32} (hG : aG m Γ0 H) : ∃ (r : Int32) (v' : Nat → Int32) (c' : cod) (sm' : Nat) (Γ' : Nat → Nat → Int32) (H1 : xH), F_X12_reads N (some m) (nI q) H = F_X12_reads_J148 N (some m) r H1 ∧ mW t S q J m 0 (pTx t J S E (J + 1) tS0 0).2 (upd v 31 0) Γ0 H v' Γ' H1 ∧ v' 33 = nI (S (pTx t J S E (J + 1) tS0 0).2) ∧ ((pTx t J S E (J + 1) tS0 0).1 = none → r = 0) ∧ ∀ τ', (pTx t J S E (J + 1) tS0 0).1 = some τ' → r = 1 ∧ mY t S q m τ' (pTx t J S E (J + 1) tS0 0).2 v' c' sm' Γ' H1 := by
  obtain ⟨⟨n1, -⟩, -, -, -, -, ⟨g20, n20, n20'⟩, -, -, -, -, s1, s2, s3, ⟨g18, n18⟩, ⟨g19, n19⟩, ⟨g21, n21⟩, -⟩ := id h
  obtain ⟨g15, n15⟩ := s3 15 (by decide) (by decide)
  obtain ⟨g16, n16⟩ := s3 16 (by decide) (by decide)
  obtain ⟨g17, n17⟩ := s3 17 (by decide) (by decide)
  have loop : ∀ k i, i ≤ q → q - i < k → ∀ g : Nat → Int32, (∀ j, j < i → g j = sb (t j)) → ∃ g', F_X12_reads_L2 N (F_X12_reads_J25 N) k (some m) (nI q) (nI i) (xup H (m + 21) (aB 1200 g)) = F_X12_reads_J25 N (some m) (nI q) (xup H (m + 21) (aB 1200 g')) ∧ ∀ j, j < q → g' j = sb (t j) := by
    refine upto (P := fun k i => ∀ g : Nat → Int32, (∀ j, j < i → g j = sb (t j)) → ∃ g', F_X12_reads_L2 N (F_X12_reads_J25 N) k (some m) (nI q) (nI i) (xup H (m + 21) (aB 1200 g)) = F_X12_reads_J25 N (some m) (nI q) (xup H (m + 21) (aB 1200 g')) ∧ ∀ j, j < q → g' j = sb (t j)) ?_ ?_
    · intro k g hg
      rw [show F_X12_reads_L2 N (F_X12_reads_J25 N) (k + 1) = F_X12_reads_J2 N (F_X12_reads_L2 N (F_X12_reads_J25 N) k) (F_X12_reads_J25 N) from rfl]
      refine ⟨g, ?_, hg⟩
      simp only [F_X12_reads_J2, Int32.le_refl, if_true]
    · intro k i hi ih g hg
      rw [show F_X12_reads_L2 N (F_X12_reads_J25 N) (k + 1) = F_X12_reads_J2 N (F_X12_reads_L2 N (F_X12_reads_J25 N) k) (F_X12_reads_J25 N) from rfl]
      have a1 : (xup H (m + 21) (aB 1200 g)).1 m = some (mo m v) := (xup_ne _ (by omega)).trans n1
      have a2 : (xup H (m + 21) (aB 1200 g)).1 (m + 20) = some (aB 1200 g20) := (xup_ne _ (by omega)).trans n20
      have st := stI (v := g20 i) (xup_at (H := H) (a := m + 21) (aB 1200 g)) (show i < 1200 by omega) (by decide)
      rw [xup_up] at st
      simp only [F_X12_reads_J2, nI_ge hi (show q < 2 ^ 31 by omega), if_false, gA a1 ma37, gA a1 ma36, rdI a2 (show i < 1200 by omega) (by decide), st, nI_1, Option.bind_some]
      refine ih _ (fun j hj => ?_)
      by_cases e : j = i
      · rw [e, pk_us, ub_s, ht i hi, n20' i (by omega)]
      · rw [pk_un e]; exact hg j (by omega)
  obtain ⟨gt, e1, e2⟩ := loop N 0 (Nat.zero_le _) (by omega) g21 (fun j hj => absurd hj (Nat.not_lt_zero _))
  rw [xup_id n21] at e1
  have a0 : (xup H (m + 21) (aB 1200 gt)).1 m = some (mo m v) := (xup_ne _ (by omega)).trans n1
  have at21 : (xup H (m + 21) (aB 1200 gt)).1 (m + 21) = some (aB 1200 gt) := xup_at _
  have ne : ∀ a, a ≠ m + 21 → (xup H (m + 21) (aB 1200 gt)).1 a = H.1 a := fun a ha => xup_ne _ ha
  have top : (xup H (m + 21) (aB 1200 gt)).2 = H.2 := rfl
  generalize xup H (m + 21) (aB 1200 gt) = Ha at *
  have p1 : xpI Ha (some m) 11 32 (nI q) = some (mu m (upd v 32 (nI q)) Ha) := mpI a0 (by decide) _ ms32
  have p2 := mu_p (m := m) (H := Ha) (v' := upd v 32 (nI q)) (k := 31) (x := 0) (by decide) ms31
  have p3 := mu_p (m := m) (H := Ha) (v' := upd (upd v 32 (nI q)) 31 0) (k := 33) (x := 0) (by decide) ms33
  have p4 := mu_p (m := m) (H := Ha) (v' := upd (upd (upd v 32 (nI q)) 31 0) 33 0) (k := 23) (x := 0) (by decide) ms23
  have p5 := mu_p (m := m) (H := Ha) (v' := upd (upd (upd (upd v 32 (nI q)) 31 0) 33 0) 23 0) (k := 24) (x := 0) (by decide) ms24
  have p6 := mu_p (m := m) (H := Ha) (v' := upd (upd (upd (upd (upd v 32 (nI q)) 31 0) 33 0) 23 0) 24 0) (k := 25) (x := 0) (by decide) ms25
  have p7 := mu_p (m := m) (H := Ha) (v' := upd (upd (upd (upd (upd (upd v 32 (nI q)) 31 0) 33 0) 23 0) 24 0) 25 0) (k := 26) (x := 0) (by decide) ms26
  have p8 := mu_p (m := m) (H := Ha) (v' := upd (upd (upd (upd (upd (upd (upd v 32 (nI q)) 31 0) 33 0) 23 0) 24 0) 25 0) 26 0) (k := 27) (x := 0) (by decide) ms27
  have p9 := mu_p (m := m) (H := Ha) (v' := upd (upd (upd (upd (upd (upd (upd (upd v 32 (nI q)) 31 0) 33 0) 23 0) 24 0) 25 0) 26 0) 27 0) (k := 28) (x := 700) (by decide) ms28
  unfold F_X12_reads
  rw [show (0 : Int32) = nI 0 from rfl, e1, show nI 0 = (0 : Int32) from rfl]
  unfold F_X12_reads_J25
  simp only [p1, p2, p3, p4, p5, p6, p7, p8, p9, obx (mu_at (m := m) (H := Ha)), Option.bind_some]
  generalize hv : upd (upd (upd (upd (upd (upd (upd (upd (upd v 32 (nI q)) 31 0) 33 0) 23 0) 24 0) 25 0) 26 0) 27 0) 28 700 = v1
  have f32 : v1 32 = nI q := by rw [← hv]; simp [upd]
  have f33 : v1 33 = nI 0 := by rw [← hv]; simp [upd]; rfl
  have f23 : v1 23 = nI 0 := by rw [← hv]; simp [upd]; rfl
  have f24 : v1 24 = nI 0 := by rw [← hv]; simp [upd]; rfl
  have f25 : v1 25 = nI 0 := by rw [← hv]; simp [upd]; rfl
  have f26 : v1 26 = nI 0 := by rw [← hv]; simp [upd]; rfl
  have f27 : v1 27 = nI 0 := by rw [← hv]; simp [upd]; rfl
  have f28 : v1 28 = nI 700 := by rw [← hv]; simp [upd]; rfl
  have vk1 : vk (upd v 31 0) v1 := fun i h1 h2 h3 => by
    rw [← hv]
    by_cases e : i = 31
    · rw [e]; simp [upd]
    · simp only [upd]
      rw [if_neg (by omega), if_neg (by omega), if_neg (by omega), if_neg (by omega), if_neg (by omega), if_neg (by omega), if_neg (by omega), if_neg e, if_neg (by omega), if_neg e]
  clear hv p1 p2 p3 p4 p5 p6 p7 p8 p9
  have hx : mTx t q m (mu m v1 Ha) := ⟨gt, (mu_ne (by omega)).trans at21, e2⟩
  have nn : ∀ a, a ≠ m → a ≠ m + 21 → (mu m v1 Ha).1 a = H.1 a := fun a h1 h2 => (mu_ne h1).trans (ne a h2)
  have gp0 : gp t S 0 0 := ⟨Nat.zero_le _, fun i _ hi => hT.2.2.2.1 i hi⟩
  have eb := M_blanks hT hq12 h6 hN hx (Nat.zero_le J) gp0 mu_at f32 f33
  have hC1 : zC t S q (yT tS0) (yM tS0) (ytn tS0) (ymn tS0) m 0 v1 (g15, g16, g17) 700 (mu m v1 Ha) := by
    refine ⟨⟨mu_at, hx, f32, 0, f33, gp0⟩, ⟨⟨f23, Nat.zero_le _, g18, (nn _ (by omega) (by omega)).trans n18, fun i hi => absurd hi (Nat.not_lt_zero _)⟩, ⟨f24, Nat.zero_le _, g19, (nn _ (by omega) (by omega)).trans n19, fun i hi => absurd hi (Nat.not_lt_zero _)⟩, ⟨fun i hi => absurd hi (Nat.not_lt_zero _), fun i k hi => absurd hi (Nat.not_lt_zero _)⟩, ⟨fun i hi => absurd hi (Nat.not_lt_zero _), fun i k hi => absurd hi (Nat.not_lt_zero _)⟩⟩, ⟨(nn _ (by omega) (by omega)).trans n15, (nn _ (by omega) (by omega)).trans n16, (nn _ (by omega) (by omega)).trans n17⟩, f28⟩
  have hC2 := hC1.p33 (j' := 0) (p := S 0) gp_s
  have Fr0 : Fr (sY m) H (mu m v1 Ha) := ⟨top, fun a ha => nn a (fun z => ha (by rw [z]; unfold sY; omega)) (fun z => ha (by rw [z]; unfold sY; omega))⟩
  have hG1 : aG m Γ0 (mu m v1 Ha) := hG.fr (fun a h1 h2 => nn _ (by omega) (by omega))
  rw [mu_mu] at hC2 eb
  have Fr1 : Fr (sY m) H (mu m (upd v1 33 (nI (S 0))) Ha) := by
    have := Fr0.tr (Fr.um (v := upd v1 33 (nI (S 0))))
    rwa [mu_mu] at this
  have hG2 : aG m Γ0 (mu m (upd v1 33 (nI (S 0))) Ha) := by
    have := hG1.um (v := upd v1 33 (nI (S 0)))
    rwa [mu_mu] at this
  have u : ∀ i, i ≠ 33 → upd v1 33 (nI (S 0)) i = v1 i := fun i a => pk_un a
  have hY : mY t S q m tS0 0 (upd v1 33 (nI (S 0))) (g15, g16, g17) 700 Γ0 (mu m (upd v1 33 (nI (S 0))) Ha) := ⟨hC2, ⟨(u 25 (by decide)).trans f25, (u 26 (by decide)).trans f26, (u 27 (by decide)).trans f27⟩, hG2, ⟨fun i hi => absurd hi (Nat.not_lt_zero _), fun i hi => absurd hi (Nat.not_lt_zero _), fun i hi => absurd hi (Nat.not_lt_zero _), fun i hi => absurd hi (Nat.not_lt_zero _)⟩, by show 2 * 700 ≤ 1400 + S 0; omega, Nat.le_refl _, Nat.zero_le _, Nat.zero_le _, Nat.zero_le _⟩
  have hW : mW t S q J m 0 0 (upd v 31 0) Γ0 H (upd v1 33 (nI (S 0))) Γ0 (mu m (upd v1 33 (nI (S 0))) Ha) := ⟨⟨_, _, _, _, _, _, hC2⟩, hG2, lv.rf, Fr1, vk1.tr (vk.u (by omega)), Nat.le_refl _, Nat.zero_le _⟩
  have hJ := hT.le (Nat.zero_le J)
  simp only [eb, Option.bind_some]
  exact M_text hT hq12 h6 hN (J + 1) N tS0 0 _ _ _ _ _ (by omega) (by omega) hY hW pk_us (Nat.le_refl _)
/-- the reference's book refused -/
theorem M_no {j : Nat} {v' : Nat → Int32} {Γ0 Γ' : Nat → Nat → Int32} {H1 : xH} {f : Int32} (h : mR m v β δ H) (hB : bOk β) (hG : aG m Γ0 H) (w : mW t S q J m 0 j (upd v 31 0) Γ0 H v' Γ' H1) : mR m (upd v' 35 f) β (dNo δ f) (mu m (upd v' 35 f) H1) := by
  obtain ⟨⟨n1, ⟨e0, e1, e2, e3, e41, e46⟩, ⟨cb, c1, c2, c3⟩, n26, n23, n24, ⟨g5, n5, n5'⟩, ⟨g6, n6, n6'⟩⟩, ⟨f5, f31, f35, f51, f62⟩, ⟨g1, m1, m1'⟩, ⟨g2, m2, m2'⟩, ⟨g12, g13, g14, m12, m13, m14, m15⟩, ⟨g20, m20, m20'⟩, m28, m29, m34, m35, s1, s2, s3, s18, s19, s21, s22, s25, s27, s30, s31, s32, s33⟩ := h
  obtain ⟨⟨T, M, tn, mn, c', sm', hC⟩, w2, w3, w4, w5, -, -⟩ := w
  obtain ⟨⟨p1, ⟨gx, p2, -⟩, -⟩, ⟨⟨-, -, gn, q1, -⟩, ⟨-, -, gm, q2, -⟩, -⟩, ⟨q3, q4, q5⟩, -⟩ := hC
  have vv : ∀ i, ¬ (23 ≤ i ∧ i ≤ 28) → ¬ (32 ≤ i ∧ i ≤ 34) → ¬ (38 ≤ i ∧ i ≤ 40) → i ≠ 31 → i ≠ 35 → upd v' 35 f i = v i := fun i a1 a2 a3 a4 a5 => by rw [pk_un a5, w5 i a1 a2 a3, pk_un a4]
  have nn : ∀ a, 22 ≤ a ∨ a = 20 → (mu m (upd v' 35 f) H1).1 (m + a) = H.1 (m + a) := fun a ha => (mu_ne (by omega)).trans (w4.2 _ (by unfold sY; omega))
  have n1' : ∀ a, 1 ≤ a → (mu m (upd v' 35 f) H1).1 (m + a) = H1.1 (m + a) := fun a ha => mu_ne (by omega)
  have ar : ∀ a, 1 ≤ a → a ≤ 14 → (mu m (upd v' 35 f) H1).1 (m + a) = some (aI (sz a) (Γ' a)) := fun a a1 a2 => (n1' a a1).trans (w2 a a1 a2)
  have same : ∀ a, 1 ≤ a → a ≤ 14 → ∀ (k : Nat) (g : Nat → Int32), H.1 (m + a) = some (aI k g) → ∀ i, 2 * i < sz a → Γ' a i = g i := fun a a1 a2 k g hg i hi => by
    rw [w3 a i hi]
    have := (hG a a1 a2).symm.trans hg
    simp only [Option.some.injEq, Prod.mk.injEq, Sum.inl.injEq, true_and] at this
    rw [this.2]
  obtain ⟨hT5, hM6, hW12, -⟩ := hB
  refine ⟨⟨mu_at, ⟨(vv 0 (by omega) (by omega) (by omega) (by omega) (by omega)).trans e0, (vv 1 (by omega) (by omega) (by omega) (by omega) (by omega)).trans e1, (vv 2 (by omega) (by omega) (by omega) (by omega) (by omega)).trans e2, (vv 3 (by omega) (by omega) (by omega) (by omega) (by omega)).trans e3, (vv 41 (by omega) (by omega) (by omega) (by omega) (by omega)).trans e41, (vv 46 (by omega) (by omega) (by omega) (by omega) (by omega)).trans e46⟩, ⟨cb, c1, (vv 47 (by omega) (by omega) (by omega) (by omega) (by omega)).trans c2, c3⟩, ?_, ?_, ?_, ⟨_, ar 5 (by decide) (by decide), fun w hw => ?_⟩, ⟨_, ar 6 (by decide) (by decide), fun w hw => ?_⟩⟩, ⟨(vv 5 (by omega) (by omega) (by omega) (by omega) (by omega)).trans f5, ?_, pk_us, (vv 51 (by omega) (by omega) (by omega) (by omega) (by omega)).trans f51, (vv 62 (by omega) (by omega) (by omega) (by omega) (by omega)).trans f62⟩, ⟨_, ar 1 (by decide) (by decide), fun j hj => ?_⟩, ⟨_, ar 2 (by decide) (by decide), fun j hj => ?_⟩, ⟨_, _, _, ar 12 (by decide) (by decide), ar 13 (by decide) (by decide), ar 14 (by decide) (by decide), fun w hw => ?_⟩, ⟨g20, (nn 20 (Or.inr rfl)).trans m20, fun j hj => absurd hj (Nat.not_lt_zero _)⟩, ?_, ?_, ?_, ?_, ?_⟩
  · rw [nn 26 (by omega)]; exact n26
  · rw [nn 23 (by omega)]; exact n23
  · rw [nn 24 (by omega)]; exact n24
  · rw [same 5 (by decide) (by decide) 24 g5 n5 w (by show 2 * w < 24; omega)]; exact n5' w hw
  · rw [same 6 (by decide) (by decide) 24 g6 n6 w (by show 2 * w < 24; omega)]; exact n6' w hw
  · rw [pk_un (by decide), w5 31 (by omega) (by omega) (by omega), pk_us]; rfl
  · rw [same 1 (by decide) (by decide) 10 g1 m1 j (by show 2 * j < 10; omega)]; exact m1' j hj
  · rw [same 2 (by decide) (by decide) 10 g2 m2 j (by show 2 * j < 10; omega)]; exact m2' j hj
  · rw [same 12 (by decide) (by decide) 24 g12 m12 w (by show 2 * w < 24; omega), same 13 (by decide) (by decide) 24 g13 m13 w (by show 2 * w < 24; omega), same 14 (by decide) (by decide) 24 g14 m14 w (by show 2 * w < 24; omega)]; exact m15 w hw
  · rw [nn 28 (by omega)]; exact m28
  · rw [nn 29 (by omega)]; exact m29
  · rw [nn 34 (by omega)]; exact m34
  · rw [nn 35 (by omega)]; exact m35
  · refine ⟨fun a ha => ?_, fun a a1 a2 => ?_, fun a a1 a2 => ?_, ⟨_, (n1' 18 (by decide)).trans q1⟩, ⟨_, (n1' 19 (by decide)).trans q2⟩, ⟨_, (n1' 21 (by decide)).trans p2⟩, ?_, ?_, ?_, ?_, ?_, ?_, ?_⟩
    · rcases ha with rfl | rfl | rfl
      · exact ⟨_, ar 3 (by decide) (by decide)⟩
      · exact ⟨_, ar 4 (by decide) (by decide)⟩
      · exact ⟨_, ar 11 (by decide) (by decide)⟩
    · have : sz a = 80 := by unfold sz; rw [if_neg (by omega), if_neg (by omega), if_pos a2]
      exact ⟨_, by rw [← this]; exact ar a (by omega) (by omega)⟩
    · have : a = 15 ∨ a = 16 ∨ a = 17 := by omega
      rcases this with rfl | rfl | rfl
      · exact ⟨_, (n1' 15 (by decide)).trans q3⟩
      · exact ⟨_, (n1' 16 (by decide)).trans q4⟩
      · exact ⟨_, (n1' 17 (by decide)).trans q5⟩
    · rw [nn 22 (by omega)]; exact s22
    · rw [nn 25 (by omega)]; exact s25
    · rw [nn 27 (by omega)]; exact s27
    · rw [nn 30 (by omega)]; exact s30
    · rw [nn 31 (by omega)]; exact s31
    · rw [nn 32 (by omega)]; exact s32
    · rw [nn 33 (by omega)]; exact s33
