/-! PURE: the reference's book. -/
variable {stf : Nat → Nat} {N K b m : Nat} {β : sB} {δ : sD} {H : xH}
variable {t S E : Nat → Nat} {q J : Nat} {τ : tS} {v : Nat → Int32}
theorem M_in (h : mR m v β δ H) (hq : q ≤ dN δ) (h12 : dN δ ≤ 1200) : xgI H (some m) 11 31 = some (nI (dN δ)) ∧ F_X12_isIn N (nI q) 0 (nI (dN δ)) H = some (1, H) := by
  refine ⟨(gI h.1.1 mi31).trans (by rw [h.2.1.2.1]), ?_⟩
  rw [S_in, bI_t]
  exact ⟨nI_pos (by omega), nI_nlt hq (by omega)⟩
theorem M_148 {r : Int32} {T M j : Nat} {tn mn : Nat → List Nat} {v' : Nat → Int32} {c' : cod} {sm' : Nat} {H1 : xH} (h : zC t S q T M tn mn m j v' c' sm' H1) (hr : r = 0 ∨ r = 1) : F_X12_reads_J148 N (some m) r H1 = some (r, mu m (upd v' 35 (if r = 0 then v' 33 else -1)) H1) := by
  have st : ∀ x, xpI H1 (some m) 11 35 x = some (mu m (upd v' 35 x) H1) := fun x => mpI h.f (by decide) _ ms35
  unfold F_X12_reads_J148 F_X12_reads_J161
  rcases hr with rfl | rfl
  · simp only [if_true, gI h.f mi33, st, true_or, Option.bind_some]
  · simp only [if_neg n10, st, or_true, if_true, Option.bind_some]
theorem M_bookN (h : mR m v β δ H) (hB : bOk β) (hq : q ≤ dN δ) (h12 : dN δ ≤ 1200) {Γ0 Γ' : Nat → Nat → Int32} {j : Nat} {v' : Nat → Int32} {H1 : xH} (hG : aG m Γ0 H) (e : F_X12_reads N (some m) (nI q) H = F_X12_reads_J148 N (some m) 0 H1) (w : mW t S q J m 0 j (upd v 31 0) Γ0 H v' Γ' H1) (f33 : v' 33 = nI (S j)) : ∃ v2 H2, F_X12_book N (some m) (nI q) H = some (-1, H2) ∧ mR m v2 β (dNo δ (nI (S j))) H2 ∧ Fr (fun a => m ≤ a ∧ a < m + 36) H H2 := by
  obtain ⟨i1, i2⟩ := M_in (N := N) h hq h12
  have hm := M_no (f := nI (S j)) h hB hG w
  obtain ⟨⟨T, M, tn, mn, c', sm', hC⟩, -, -, w4, -⟩ := w
  have e2 := M_148 (N := N) hC (Or.inl rfl)
  rw [if_pos rfl, f33] at e2
  refine ⟨_, mu m (upd v' 35 (nI (S j))) H1, ?_, hm, (w4.mono (fun a ha => by unfold sY at ha; omega)).tr (Fr.u ⟨by omega, by omega⟩)⟩
  unfold F_X12_book
  simp only [i1, i2, bd2_s, if_neg n10, obx h.1.1, e, e2, if_true, Option.bind_some]
theorem nIlt {a k : Nat} (ha : a < 2 ^ 31) (hk : k < 2 ^ 31) : nI a < nI k ↔ a < k := nI_ltI ha hk
theorem M_bookS (hN : 59049 < N) (h : mR m v β δ H) (hq : q ≤ dN δ) (h12 : dN δ ≤ 1200) (hT : tkS t q J S E) {Γ0 Γ' : Nat → Nat → Int32} {j : Nat} {v' : Nat → Int32} {c' : cod} {sm' : Nat} {H1 : xH} (e : F_X12_reads N (some m) (nI q) H = F_X12_reads_J148 N (some m) 1 H1) (w : mW t S q J m 0 j (upd v 31 0) Γ0 H v' Γ' H1) (y : mY t S q m τ j v' c' sm' Γ' H1) (ho : yOk τ) : ∃ v2 H2, F_X12_book N (some m) (nI q) H = some (nI (yW τ), H2) ∧ mR m v2 (bet τ) (dYes δ τ) H2 ∧ Fr (fun a => m ≤ a ∧ a < m + 36) H H2 := by
  obtain ⟨i1, i2⟩ := M_in (N := N) h hq h12
  have e2 := M_148 (N := N) y.1 (Or.inr rfl)
  rw [if_neg n10] at e2
  obtain ⟨hC, ⟨f25, f26, f27⟩, hG, yg, hrm, sm7, hW12, hR40, hS40⟩ := y
  obtain ⟨⟨p1, ⟨gx, p2, -⟩, p3, -⟩, ⟨⟨f23, hT5, gn, q1, -⟩, ⟨f24, hM6, gm, q2, -⟩, -⟩, hcd, f28⟩ := hC
  have hl := hT.le w.2.2.2.2.2.2
  have sm14 : sm' ≤ 1400 := by unfold rmS at hrm; omega
  obtain ⟨-, -, -, w4, w5, -, -⟩ := w
  obtain ⟨⟨n1, -, -, n26, ⟨g23, n23, -⟩, ⟨g24, n24, -⟩, -, -⟩, ⟨f5, f31, f35, f51, f62⟩, -, -, -, ⟨g20, m20, -⟩, ⟨g28, m28, m28'⟩, ⟨g29, m29, -⟩, ⟨g34, m34, -⟩, ⟨g35, m35, -⟩, s1, s2, s3, s18, s19, s21, ⟨g22, s22⟩, ⟨g25, s25⟩, s27, s30, s31, s32, s33⟩ := id h
  have kp : ∀ a, 22 ≤ a ∨ a = 20 → H1.1 (m + a) = H.1 (m + a) := fun a ha => w4.2 _ (by unfold sY; omega)
  have vv : ∀ i, ¬ (23 ≤ i ∧ i ≤ 28) → ¬ (32 ≤ i ∧ i ≤ 34) → ¬ (38 ≤ i ∧ i ≤ 40) → i ≠ 31 → v' i = v i := fun i a1 a2 a3 a4 => by rw [w5 i a1 a2 a3, pk_un a4]
  -- the fields
  have r23 : xgI (mu m (upd v' 35 (-1)) H1) (some m) 11 23 = some (nI (yT τ)) := (gI mu_at mi23).trans (by rw [pk_un (by decide), f23])
  have st0 := mu_p (m := m) (H := H1) (v' := upd v' 35 (-1)) (k := 0) (x := nI (yT τ)) (by decide) ms0
  have r24 : xgI (mu m (upd (upd v' 35 (-1)) 0 (nI (yT τ))) H1) (some m) 11 24 = some (nI (yM τ)) := (gI mu_at mi24).trans (by rw [pk_un (by decide), pk_un (by decide), f24])
  have st1 := mu_p (m := m) (H := H1) (v' := upd (upd v' 35 (-1)) 0 (nI (yT τ))) (k := 1) (x := nI (yM τ)) (by decide) ms1
  have r25 : xgI (mu m (upd (upd (upd v' 35 (-1)) 0 (nI (yT τ))) 1 (nI (yM τ))) H1) (some m) 11 25 = some (nI (yW τ)) := (gI mu_at mi25).trans (by rw [pk_un (by decide), pk_un (by decide), pk_un (by decide), f25])
  have st2 := mu_p (m := m) (H := H1) (v' := upd (upd (upd v' 35 (-1)) 0 (nI (yT τ))) 1 (nI (yM τ))) (k := 2) (x := nI (yW τ)) (by decide) ms2
  have r26 : xgI (mu m (upd (upd (upd (upd v' 35 (-1)) 0 (nI (yT τ))) 1 (nI (yM τ))) 2 (nI (yW τ))) H1) (some m) 11 26 = some (nI (yS τ)) := (gI mu_at mi26).trans (by rw [pk_un (by decide), pk_un (by decide), pk_un (by decide), pk_un (by decide), f26])
  have st3 := mu_p (m := m) (H := H1) (v' := upd (upd (upd (upd v' 35 (-1)) 0 (nI (yT τ))) 1 (nI (yM τ))) 2 (nI (yW τ))) (k := 3) (x := nI (yS τ)) (by decide) ms3
  have r27 : xgI (mu m (upd (upd (upd (upd (upd v' 35 (-1)) 0 (nI (yT τ))) 1 (nI (yM τ))) 2 (nI (yW τ))) 3 (nI (yS τ))) H1) (some m) 11 27 = some (nI (yR τ)) := (gI mu_at mi27).trans (by rw [pk_un (by decide), pk_un (by decide), pk_un (by decide), pk_un (by decide), pk_un (by decide), f27])
  have st4 := mu_p (m := m) (H := H1) (v' := upd (upd (upd (upd (upd v' 35 (-1)) 0 (nI (yT τ))) 1 (nI (yM τ))) 2 (nI (yW τ))) 3 (nI (yS τ))) (k := 4) (x := nI (yR τ)) (by decide) ms4
  unfold F_X12_book
  simp only [i1, i2, bd2_s, if_neg n10, obx n1, e, e2, r23, st0, r24, st1, r25, st2, r26, st3, r27, st4, Option.bind_some]
  generalize hv5 : upd (upd (upd (upd (upd (upd v' 35 (-1)) 0 (nI (yT τ))) 1 (nI (yM τ))) 2 (nI (yW τ))) 3 (nI (yS τ))) 4 (nI (yR τ)) = v5
  have V0 : v5 0 = nI (yT τ) := by rw [← hv5]; simp [upd]
  have V1 : v5 1 = nI (yM τ) := by rw [← hv5]; simp [upd]
  have V2 : v5 2 = nI (yW τ) := by rw [← hv5]; simp [upd]
  have V3 : v5 3 = nI (yS τ) := by rw [← hv5]; simp [upd]
  have V4 : v5 4 = nI (yR τ) := by rw [← hv5]; simp [upd]
  have V35 : v5 35 = -1 := by rw [← hv5]; simp [upd]
  have Vo : ∀ i, 5 ≤ i → i ≠ 35 → v5 i = v' i := fun i h1 h2 => by
    rw [← hv5, pk_un (by omega), pk_un (by omega), pk_un (by omega), pk_un (by omega), pk_un (by omega), pk_un h2]
  clear hv5 r23 st0 r24 st1 r25 st2 r26 st3 r27 st4 e2
  have B0 : gB m v5 Γ' c' (mu m v5 H1) := by
    obtain ⟨a, b, d⟩ := hcd
    exact ⟨mu_at, hG.um, (mu_ne (by omega)).trans a, (mu_ne (by omega)).trans b, (mu_ne (by omega)).trans d⟩
  have F0 : Fr (fun a => a = m) H1 (mu m v5 H1) := Fr.u rfl
  generalize mu m v5 H1 = X0 at *
  obtain ⟨Γ1, X1, x1, B1, F1, m1, m1'⟩ := M_67 (N := N) (Γ0 := Γ') hT5 V0 N 0 (Nat.zero_le _) (by omega) Γ' X0 B0 (fun j hj => absurd hj (Nat.not_lt_zero _)) yg.1 (fun _ _ => rfl)
  rw [show (0 : Int32) = nI 0 from rfl, x1]
  unfold F_X12_book_J109
  obtain ⟨Γ2, X2, x2, B2, F2, m2, m2'⟩ := M_111 (N := N) (Γ0 := Γ1) hR40 V4 N 0 (Nat.zero_le _) (by omega) Γ1 X1 B1 (fun j hj => absurd hj (Nat.not_lt_zero _)) (fun _ _ _ => rfl) (fun _ _ => rfl)
  rw [show (0 : Int32) = nI 0 from rfl, x2]
  unfold F_X12_book_J185
  have h28X : X2.1 (m + 28) = some (aI 24 g28) := (F2.2 _ (by unfold sB1; omega)).trans ((F1.2 _ (by unfold sB1; omega)).trans ((F0.2 _ (by omega)).trans ((kp 28 (by omega)).trans m28)))
  obtain ⟨Γ3, X3, gh, x3, B3, F3, h28', mh, m3, m3'⟩ := M_187 (N := N) (Γ0 := Γ2) (h0 := lH (dL δ)) hW12 V2 (fun w hw => by
    rw [m2' 3 (by omega), m2' 4 (by omega), m1' 3 (by decide), m1' 4 (by decide)]
    obtain ⟨z1, z2, -⟩ := yg.2.1 w hw
    exact ⟨z1, z2⟩) N 0 (Nat.zero_le _) (by omega) Γ2 X2 g28 B2 h28X (fun j hj => by rw [if_neg (by omega)]; exact m28' j hj) (fun w hw => absurd hw (Nat.not_lt_zero _)) (fun _ _ _ _ => rfl) (fun _ _ => rfl)
  rw [show (0 : Int32) = nI 0 from rfl, x3]
  unfold F_X12_book_J210
  obtain ⟨c4, X4, x4, B4, F4, mc⟩ := M_214 (N := N) (c0 := c') (Γ := Γ3) sm7 sm14 ((Vo 28 (by decide) (by decide)).trans f28) N 700 sm7 (by omega) (Nat.le_refl _) c' X3 B3 (fun i hi => by omega) (fun _ _ => ⟨rfl, rfl, rfl⟩)
  rw [show (700 : Int32) = nI 700 from rfl, x4]
  obtain ⟨hD, hco⟩ := yG.D (c' := c4) yg sm14 m1 m1' m2 m2' m3 m3' mc
  have fr4 : ∀ a, ¬ sB7 m a → a ≠ m → X4.1 a = H1.1 a := fun a h1 h2 => by
    unfold sB7 at h1
    exact (F4.2 a (fun z => h1 (Or.inl z))).trans ((F3.2 a h1).trans ((F2.2 a (fun z => h1 (Or.inl z))).trans ((F1.2 a (fun z => h1 (Or.inl z))).trans (F0.2 a h2))))
  have t4 : X4.2 = H1.2 := by rw [F4.1, F3.1, F2.1, F1.1, F0.1]
  have h284 : X4.1 (m + 28) = some (aI 24 gh) := (F4.2 _ (by unfold sB1; omega)).trans h28'
  have e34 : X4.1 (m + 34) = some (aI 45 g34) := (fr4 _ (by unfold sB7 sB1; omega) (by omega)).trans ((kp 34 (by omega)).trans m34)
  have e29 : X4.1 (m + 29) = some (aI 6 g29) := (fr4 _ (by unfold sB7 sB1; omega) (by omega)).trans ((kp 29 (by omega)).trans m29)
  unfold F_X12_book_J276
  obtain ⟨gc, x5, mc0⟩ := M_278 (N := N) B4.1 N 0 (Nat.zero_le _) (by omega) g34 (fun j hj => absurd hj (Nat.not_lt_zero _))
  rw [xup_id e34] at x5
  rw [show (0 : Int32) = nI 0 from rfl, x5]
  have n5 : ∀ a, a ≠ m + 34 → (xup X4 (m + 34) (aI 45 gc)).1 a = X4.1 a := fun a ha => xup_ne _ ha
  have a5 : (xup X4 (m + 34) (aI 45 gc)).1 (m + 34) = some (aI 45 gc) := xup_at _
  have t5 : (xup X4 (m + 34) (aI 45 gc)).2 = X4.2 := rfl
  generalize xup X4 (m + 34) (aI 45 gc) = X5 at *
  unfold F_X12_book_J297
  obtain ⟨gb, x6, mb0⟩ := M_299 (N := N) ((n5 m (by omega)).trans B4.1) N 0 (Nat.zero_le _) (by omega) g29 (fun j hj => absurd hj (Nat.not_lt_zero _))
  rw [xup_id ((n5 _ (by omega)).trans e29)] at x6
  rw [show (0 : Int32) = nI 0 from rfl, x6]
  have n6 : ∀ a, a ≠ m + 29 → (xup X5 (m + 29) (aI 6 gb)).1 a = X5.1 a := fun a ha => xup_ne _ ha
  have a6 : (xup X5 (m + 29) (aI 6 gb)).1 (m + 29) = some (aI 6 gb) := xup_at _
  have t6 : (xup X5 (m + 29) (aI 6 gb)).2 = X5.2 := rfl
  generalize xup X5 (m + 29) (aI 6 gb) = X6 at *
  have B6 : gB m v5 Γ3 c4 X6 := by
    obtain ⟨z1, z2, z3, z4, z5⟩ := B4
    have k : ∀ a, a < 18 → X6.1 (m + a) = X4.1 (m + a) := fun a ha => (n6 _ (by omega)).trans (n5 _ (by omega))
    exact ⟨(k 0 (by decide)).trans z1, z2.fr (fun a _ _ => k a (by omega)), (k 15 (by decide)).trans z3, (k 16 (by decide)).trans z4, (k 17 (by decide)).trans z5⟩
  unfold F_X12_book_J318
  have u46 : xpI X6 (some m) 11 46 (0 : Int32) = some (mu m (upd v5 46 0) X6) := mpI B6.1 (by decide) _ ms46
  have u47 := mu_p (m := m) (H := X6) (v' := upd v5 46 0) (k := 47) (x := 0) (by decide) ms47
  have u51 := mu_p (m := m) (H := X6) (v' := upd (upd v5 46 0) 47 0) (k := 51) (x := 0) (by decide) ms51
  have u62 := mu_p (m := m) (H := X6) (v' := upd (upd (upd v5 46 0) 47 0) 51 0) (k := 62) (x := 0) (by decide) ms62
  have r5 : xgI (mu m (upd (upd (upd (upd v5 46 0) 47 0) 51 0) 62 0) X6) (some m) 11 5 = some (dB δ) := (gI mu_at mi5).trans (by rw [pk_un (by decide), pk_un (by decide), pk_un (by decide), pk_un (by decide), Vo 5 (by decide) (by decide), vv 5 (by omega) (by omega) (by omega) (by omega), f5])
  have u5 := mu_p (m := m) (H := X6) (v' := upd (upd (upd (upd v5 46 0) 47 0) 51 0) 62 0) (k := 5) (x := dB δ + 1) (by decide) ms5
  simp only [show nI 0 = (0 : Int32) from rfl, u46, u47, u51, u62, r5, u5, Option.bind_some]
  generalize hv7 : upd (upd (upd (upd (upd v5 46 0) 47 0) 51 0) 62 0) 5 (dB δ + 1) = v7
  have W46 : v7 46 = 0 := by rw [← hv7]; simp [upd]
  have W47 : v7 47 = 0 := by rw [← hv7]; simp [upd]
  have W51 : v7 51 = 0 := by rw [← hv7]; simp [upd]
  have W62 : v7 62 = 0 := by rw [← hv7]; simp [upd]
  have W5 : v7 5 = dB δ + 1 := by rw [← hv7]; simp [upd]
  have Wo : ∀ i, i ≠ 5 → i ≠ 46 → i ≠ 47 → i ≠ 51 → i ≠ 62 → v7 i = v5 i := fun i h1 h2 h3 h4 h5 => by rw [← hv7, pk_un h1, pk_un h5, pk_un h4, pk_un h3, pk_un h2]
  clear hv7 u46 u47 u51 u62 r5 u5 x1 x2 x3 x4 x5 x6
  have B7 : gB m v7 Γ3 c4 (mu m v7 X6) := by
    obtain ⟨_, z2, z3, z4, z5⟩ := B6
    exact ⟨mu_at, z2.um, (mu_ne (by omega)).trans z3, (mu_ne (by omega)).trans z4, (mu_ne (by omega)).trans z5⟩
  have n7 : ∀ a, a ≠ m → (mu m v7 X6).1 a = X6.1 a := fun a ha => mu_ne ha
  have t7 : (mu m v7 X6).2 = X6.2 := rfl
  generalize mu m v7 X6 = X7 at *
  have old : ∀ a, 18 ≤ a → a ≠ 28 → a ≠ 29 → a ≠ 34 → X7.1 (m + a) = H1.1 (m + a) := fun a h1 h2 h3 h4 => (n7 _ (by omega)).trans ((n6 _ (by omega)).trans ((n5 _ (by omega)).trans (fr4 _ (by unfold sB7 sB1; omega) (by omega))))
  obtain ⟨X8, k22, k23, k24, k25, x8, z0, F8, z22, z23, z24, z25, z23', z24'⟩ := M_makes (N := N) hN B7 hD ho ((Wo 0 (by decide) (by decide) (by decide) (by decide) (by decide)).trans V0) ((Wo 2 (by decide) (by decide) (by decide) (by decide) (by decide)).trans V2) ((Wo 4 (by decide) (by decide) (by decide) (by decide) (by decide)).trans V4) hT5 hW12 hR40 ((old 22 (by decide) (by decide) (by decide) (by decide)).trans ((kp 22 (by omega)).trans s22)) ((old 23 (by decide) (by decide) (by decide) (by decide)).trans ((kp 23 (by omega)).trans n23)) ((old 24 (by decide) (by decide) (by decide) (by decide)).trans ((kp 24 (by omega)).trans n24)) ((old 25 (by decide) (by decide) (by decide) (by decide)).trans ((kp 25 (by omega)).trans s25))
  have r2 : xgI X8 (some m) 11 2 = some (nI (yW τ)) := (gI z0 mi2).trans (by rw [pk_un (by decide), Wo 2 (by decide) (by decide) (by decide) (by decide) (by decide), V2])
  simp only [obx B7.1, x8, r2, Option.bind_some]
  have k8 : ∀ a, 1 ≤ a → ¬ (22 ≤ a ∧ a ≤ 25) → X8.1 (m + a) = X7.1 (m + a) := fun a h1 h2 => F8.2 _ (by unfold sB4; omega)
  have aX : ∀ a, 1 ≤ a → a ≤ 14 → X8.1 (m + a) = some (aI (sz a) (Γ3 a)) := fun a h1 h2 => (k8 a h1 (by omega)).trans (B7.2.1 a h1 h2)
  have oX : ∀ a, 18 ≤ a → ¬ (22 ≤ a ∧ a ≤ 25) → a ≠ 28 → a ≠ 29 → a ≠ 34 → X8.1 (m + a) = H1.1 (m + a) := fun a h1 h2 h3 h4 h5 => (k8 a (by omega) h2).trans (old a h1 h3 h4 h5)
  have kX : ∀ a, 26 ≤ a ∨ a = 20 → a ≠ 28 → a ≠ 29 → a ≠ 34 → X8.1 (m + a) = H.1 (m + a) := fun a h1 h3 h4 h5 => (oX a (by omega) (by omega) h3 h4 h5).trans (kp a (by omega))
  have VV : ∀ i, i ≠ 41 → upd v7 41 (nI (9 ^ yT τ)) i = v7 i := fun i hi => pk_un hi
  refine ⟨_, X8, rfl, ⟨⟨z0, ⟨(VV 0 (by decide)).trans ((Wo 0 (by decide) (by decide) (by decide) (by decide) (by decide)).trans V0), (VV 1 (by decide)).trans ((Wo 1 (by decide) (by decide) (by decide) (by decide) (by decide)).trans V1), (VV 2 (by decide)).trans ((Wo 2 (by decide) (by decide) (by decide) (by decide) (by decide)).trans V2), (VV 3 (by decide)).trans ((Wo 3 (by decide) (by decide) (by decide) (by decide) (by decide)).trans V3), pk_us, (VV 46 (by decide)).trans W46⟩, ⟨0, by decide, (VV 47 (by decide)).trans W47, fun j _ => by simp [dYes, newL, dL, lC]⟩, ?_, ⟨k23, z23, z23'⟩, ⟨k24, z24, z24'⟩, ⟨_, aX 5 (by decide) (by decide), fun w hw => (hco w hw).1⟩, ⟨_, aX 6 (by decide) (by decide), fun w hw => (hco w hw).2⟩⟩, ⟨(VV 5 (by decide)).trans W5, ?_, ?_, (VV 51 (by decide)).trans W51, (VV 62 (by decide)).trans W62⟩, ⟨_, aX 1 (by decide) (by decide), fun j hj => (hD.1 j hj).1⟩, ⟨_, aX 2 (by decide) (by decide), fun j hj => (hD.1 j hj).2⟩, ⟨_, _, _, aX 12 (by decide) (by decide), aX 13 (by decide) (by decide), aX 14 (by decide) (by decide), fun w hw => ?_⟩, ⟨g20, (kX 20 (by omega) (by decide) (by decide) (by decide)).trans m20, fun j hj => absurd hj (Nat.not_lt_zero _)⟩, ⟨gh, ?_, mh⟩, ⟨gb, ?_, mb0⟩, ⟨gc, ?_, mc0⟩, ⟨g35, (kX 35 (by omega) (by decide) (by decide) (by decide)).trans m35, fun k hk => absurd hk (Nat.not_lt_zero _)⟩, ?_⟩, ?_⟩
  · obtain ⟨g26, z26, -⟩ := n26
    exact ⟨g26, (kX 26 (by omega) (by decide) (by decide) (by decide)).trans z26, fun j _ hj => absurd rfl hj⟩
  · rw [VV 31 (by decide), Wo 31 (by decide) (by decide) (by decide) (by decide) (by decide), Vo 31 (by decide) (by decide), w5 31 (by omega) (by omega) (by omega), pk_us]; rfl
  · rw [VV 35 (by decide), Wo 35 (by decide) (by decide) (by decide) (by decide) (by decide), V35]; rfl
  · obtain ⟨s0, s1', s2', s3', a1, a2, a3, a4, b1, b2, b3, b4, -, b5, b6⟩ := hD.2.2 w hw
    rw [a2, a3, a4, nIlt (by omega) (by omega), nIlt (by omega) (by omega)]
    exact ⟨b5.oS, b6.oS⟩
  · exact (k8 28 (by decide) (by decide)).trans ((n7 _ (by omega)).trans ((n6 _ (by omega)).trans ((n5 _ (by omega)).trans h284)))
  · exact (k8 29 (by decide) (by decide)).trans ((n7 _ (by omega)).trans a6)
  · exact (k8 34 (by decide) (by decide)).trans ((n7 _ (by omega)).trans ((n6 _ (by omega)).trans a5))
  · have cX : ∀ a, 15 ≤ a → a ≤ 17 → ∃ g, X8.1 (m + a) = some (aI 1400 g) := fun a h1 h2 => by
      obtain ⟨-, -, z3, z4, z5⟩ := B7
      have : a = 15 ∨ a = 16 ∨ a = 17 := by omega
      rcases this with rfl | rfl | rfl
      · exact ⟨_, (k8 15 (by decide) (by decide)).trans z3⟩
      · exact ⟨_, (k8 16 (by decide) (by decide)).trans z4⟩
      · exact ⟨_, (k8 17 (by decide) (by decide)).trans z5⟩
    refine ⟨fun a ha => ?_, fun a a1 a2 => ?_, cX, ⟨_, (oX 18 (by decide) (by decide) (by decide) (by decide) (by decide)).trans q1⟩, ⟨_, (oX 19 (by decide) (by decide) (by decide) (by decide) (by decide)).trans q2⟩, ⟨_, (oX 21 (by decide) (by decide) (by decide) (by decide) (by decide)).trans p2⟩, ⟨_, z22⟩, ⟨_, z25⟩, ?_, ?_, ?_, ?_, ?_⟩
    · rcases ha with rfl | rfl | rfl
      · exact ⟨_, aX 3 (by decide) (by decide)⟩
      · exact ⟨_, aX 4 (by decide) (by decide)⟩
      · exact ⟨_, aX 11 (by decide) (by decide)⟩
    · have : sz a = 80 := by unfold sz; rw [if_neg (by omega), if_neg (by omega), if_pos a2]
      exact ⟨_, by rw [← this]; exact aX a (by omega) (by omega)⟩
    · rw [kX 27 (by omega) (by decide) (by decide) (by decide)]; exact s27
    · rw [kX 30 (by omega) (by decide) (by decide) (by decide)]; exact s30
    · rw [kX 31 (by omega) (by decide) (by decide) (by decide)]; exact s31
    · rw [kX 32 (by omega) (by decide) (by decide) (by decide)]; exact s32
    · rw [kX 33 (by omega) (by decide) (by decide) (by decide)]; exact s33
  · refine ⟨by rw [F8.1, t7, t6, t5, t4, w4.1], fun a ha => ?_⟩
    have h1 : ¬ sB4 m a := by unfold sB4; omega
    have h2 : a ≠ m := by omega
    exact (F8.2 a (fun z => z.elim h2 h1)).trans ((n7 a h2).trans ((n6 a (by omega)).trans ((n5 a (by omega)).trans ((fr4 a (by unfold sB7 sB1; omega) h2).trans (w4.2 a (by unfold sY; omega))))))
