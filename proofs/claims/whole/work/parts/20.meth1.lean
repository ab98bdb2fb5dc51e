/-! BettingBook$Bet.init(IIIILBettingBook$Claim;LBettingBook$Claim;LBettingBook$Claim;)V -/
noncomputable def F_X0_init (N : Nat) (a0 : (Option Nat)) (a1 : Int32) (a2 : Int32) (a3 : Int32) (a4 : Int32) (a5 : (Option Nat)) (a6 : (Option Nat)) (a7 : (Option Nat)) (H : xH) : Option xH :=
  (a0).bind fun b1 =>
  (xpI H a0 0 0 a1).bind fun H2 =>
  (xpI H2 a0 0 1 a2).bind fun H3 =>
  (xpI H3 a0 0 2 a3).bind fun H4 =>
  (xpI H4 a0 0 3 a4).bind fun H5 =>
  (xpA H5 a0 0 4 a5).bind fun H6 =>
  (xpA H6 a0 0 5 a6).bind fun H7 =>
  (xpA H7 a0 0 6 a7).bind fun H8 =>
  some H8
set_option maxRecDepth 20000 in
set_option maxHeartbeats 4000000 in
theorem P_X0_init {N : Nat} {Z : xZ} {Hf : xH} (hZ : Z = xZm cX0_init yX0_init 8 2 none none Hf) : ∀ (a0 : (Option Nat)) (a1 : Int32) (a2 : Int32) (a3 : Int32) (a4 : Int32) (a5 : (Option Nat)) (a6 : (Option Nat)) (a7 : (Option Nat)) (H : xH), F_X0_init N a0 a1 a2 a3 a4 a5 a6 a7 H = some Hf → xWq Z H 0 [xA a0, xI a1, xI a2, xI a3, xI a4, xA a5, xA a6, xA a7] [] := by
  have hz : Z.1 = (cX0_init, yX0_init, 8) := by rw [hZ]; rfl
  have hδ : Z.2.1 = 2 := by rw [hZ]; rfl
  intro a0 a1 a2 a3 a4 a5 a6 a7 H h
  unfold F_X0_init at h
  refine x_aload_n hz dX0_init_0 rfl ?_
  obtain ⟨b1, e_b1, h⟩ := x_bnd h
  refine x_objInit e_b1 hz (by omega) (by decide) ol_X0_3 oi_1 oi_2 dX0_init_1 ?_
  refine x_aload_n hz dX0_init_4 rfl ?_
  refine x_iload_n hz dX0_init_5 rfl ?_
  obtain ⟨H2, e_H2, h⟩ := x_bnd h
  refine x_putF (v := .int a1) hz rfl dX0_init_6 fs_X0_9F rfl rfl e_H2 ?_
  refine x_aload_n hz dX0_init_9 rfl ?_
  refine x_iload_n hz dX0_init_10 rfl ?_
  obtain ⟨H3, e_H3, h⟩ := x_bnd h
  refine x_putF (v := .int a2) hz rfl dX0_init_11 fs_X0_15F rfl rfl e_H3 ?_
  refine x_aload_n hz dX0_init_14 rfl ?_
  refine x_iload_n hz dX0_init_15 rfl ?_
  obtain ⟨H4, e_H4, h⟩ := x_bnd h
  refine x_putF (v := .int a3) hz rfl dX0_init_16 fs_X0_18F rfl rfl e_H4 ?_
  refine x_aload_n hz dX0_init_19 rfl ?_
  refine x_iload hz dX0_init_20 rfl ?_
  obtain ⟨H5, e_H5, h⟩ := x_bnd h
  refine x_putF (v := .int a4) hz rfl dX0_init_22 fs_X0_21F rfl rfl e_H5 ?_
  refine x_aload_n hz dX0_init_25 rfl ?_
  refine x_aload hz dX0_init_26 rfl ?_
  obtain ⟨H6, e_H6, h⟩ := x_bnd h
  refine x_putF (v := va_rf a5) hz rfl dX0_init_28 fs_X0_24F (x_nro _ _) (x_fto _ _) e_H6 ?_
  refine x_aload_n hz dX0_init_31 rfl ?_
  refine x_aload hz dX0_init_32 rfl ?_
  obtain ⟨H7, e_H7, h⟩ := x_bnd h
  refine x_putF (v := va_rf a6) hz rfl dX0_init_34 fs_X0_28F (x_nro _ _) (x_fto _ _) e_H7 ?_
  refine x_aload_n hz dX0_init_37 rfl ?_
  refine x_aload hz dX0_init_38 rfl ?_
  obtain ⟨H8, e_H8, h⟩ := x_bnd h
  refine x_putF (v := va_rf a7) hz rfl dX0_init_40 fs_X0_31F (x_nro _ _) (x_fto _ _) e_H8 ?_
  cases h
  exact x_vret hZ dX0_init_43
theorem M_X0_init {N : Nat} {a0 : (Option Nat)} {a1 : Int32} {a2 : Int32} {a3 : Int32} {a4 : Int32} {a5 : (Option Nat)} {a6 : (Option Nat)} {a7 : (Option Nat)} {H H1 : xH} (h : F_X0_init N a0 a1 a2 a3 a4 a5 a6 a7 H = some H1) : xM yX0_init cX0_init 8 none 2 [.inr (.inr a0), .inl a1, .inl a2, .inl a3, .inl a4, .inr (.inr a5), .inr (.inr a6), .inr (.inr a7)] H none H1 :=
  xM_of (by decide +kernel) (xT_tb 573 (by decide +kernel) (by decide +kernel)) (by simp [xargs, x2]) rfl (P_X0_init rfl a0 a1 a2 a3 a4 a5 a6 a7 H h)
/-! BettingBook$Bet.stake(I)I -/
noncomputable def F_X0_stake (N : Nat) (a0 : (Option Nat)) (a1 : Int32) (H : xH) : Option (Int32 × xH) :=
  if a1 = 0 then ((xgI H a0 0 2).bind fun v3 =>
  some (v3, H)) else ((xgI H a0 0 3).bind fun v2 =>
  some (v2, H))
set_option maxRecDepth 20000 in
set_option maxHeartbeats 4000000 in
theorem P_X0_stake {N : Nat} {Z : xZ} {rv : Int32} {Hf : xH} (hZ : Z = xZm cX0_stake yX0_stake 2 1 (some .int) (some (.int rv)) Hf) : ∀ (a0 : (Option Nat)) (a1 : Int32) (H : xH), F_X0_stake N a0 a1 H = some (rv, Hf) → xWq Z H 0 [xA a0, xI a1] [] := by
  have hz : Z.1 = (cX0_stake, yX0_stake, 2) := by rw [hZ]; rfl
  have hδ : Z.2.1 = 1 := by rw [hZ]; rfl
  intro a0 a1 H h
  unfold F_X0_stake at h
  refine x_iload_n hz dX0_stake_0 rfl ?_
  refine x_if_ne (t := 11) hz dX0_stake_1 (by decide) (fun c1 => ?_) (fun c1 => ?_)
  · replace h := x_in c1 h
    refine x_aload_n hz dX0_stake_11 rfl ?_
    obtain ⟨v2, e_v2, h⟩ := x_bnd h
    refine x_getI hz dX0_stake_12 fs_X0_21 e_v2 ?_
    cases h
    exact x_iret hZ dX0_stake_15
  · replace h := x_ip c1 h
    refine x_aload_n hz dX0_stake_4 rfl ?_
    obtain ⟨v3, e_v3, h⟩ := x_bnd h
    refine x_getI hz dX0_stake_5 fs_X0_18 e_v3 ?_
    refine x_goto (t := 15) hz dX0_stake_8 (by decide) ?_
    cases h
    exact x_iret hZ dX0_stake_15
theorem M_X0_stake {N : Nat} {a0 : (Option Nat)} {a1 : Int32} {H H1 : xH} {r1 : Int32} (h : F_X0_stake N a0 a1 H = some (r1, H1)) : xM yX0_stake cX0_stake 2 (some .int) 1 [.inr (.inr a0), .inl a1] H (some (.int r1)) H1 :=
  xM_of (by decide +kernel) (xT_tb 649 (by decide +kernel) (by decide +kernel)) (by simp [xargs, x2]) rfl (P_X0_stake rfl a0 a1 H h)
/-! BettingBook.at([II)I -/
noncomputable def F_X11_at (N : Nat) (a0 : (Option Nat)) (a1 : Int32) (H : xH) : Option (Int32 × xH) :=
  if a0 = none then (some ((0 : Int32), H)) else (if a1 < 0 then (some ((0 : Int32), H)) else ((xal .int H a0).bind fun v3 =>
  if v3 ≤ a1 then (some ((0 : Int32), H)) else ((xlI .int H a0 a1).bind fun v5 =>
  some (v5, H))))
set_option maxRecDepth 20000 in
set_option maxHeartbeats 4000000 in
theorem P_X11_at {N : Nat} {Z : xZ} {rv : Int32} {Hf : xH} (hZ : Z = xZm cX11_at yX11_at 2 1 (some .int) (some (.int rv)) Hf) : ∀ (a0 : (Option Nat)) (a1 : Int32) (H : xH), F_X11_at N a0 a1 H = some (rv, Hf) → xWq Z H 0 [xA a0, xI a1] [] := by
  have hz : Z.1 = (cX11_at, yX11_at, 2) := by rw [hZ]; rfl
  have hδ : Z.2.1 = 1 := by rw [hZ]; rfl
  intro a0 a1 H h
  unfold F_X11_at at h
  refine x_aload_n hz dX11_at_0 rfl ?_
  refine x_ifnull (t := 20) hz dX11_at_1 (by decide) (fun c1 => ?_) (fun c1 => ?_)
  · replace h := x_ip c1 h
    refine x_iconst (v := (0 : Int32)) hz dX11_at_20 (by decide) ?_
    cases h
    exact x_iret hZ dX11_at_21
  · replace h := x_in c1 h
    refine x_iload_n hz dX11_at_4 rfl ?_
    refine x_if_lt (t := 20) hz dX11_at_5 (by decide) (fun c2 => ?_) (fun c2 => ?_)
    · replace h := x_ip c2 h
      refine x_iconst (v := (0 : Int32)) hz dX11_at_20 (by decide) ?_
      cases h
      exact x_iret hZ dX11_at_21
    · replace h := x_in c2 h
      refine x_iload_n hz dX11_at_8 rfl ?_
      refine x_aload_n hz dX11_at_9 rfl ?_
      obtain ⟨v3, e_v3, h⟩ := x_bnd h
      refine x_alen (t0 := 0) (fun _ => rfl) hz dX11_at_10 e_v3 ?_
      refine x_icmp_ge (t := 20) hz dX11_at_11 (by decide) (fun c4 => ?_) (fun c4 => ?_)
      · replace h := x_ip c4 h
        refine x_iconst (v := (0 : Int32)) hz dX11_at_20 (by decide) ?_
        cases h
        exact x_iret hZ dX11_at_21
      · replace h := x_in c4 h
        refine x_aload_n hz dX11_at_14 rfl ?_
        refine x_iload_n hz dX11_at_15 rfl ?_
        obtain ⟨v5, e_v5, h⟩ := x_bnd h
        refine x_iald hz dX11_at_16 e_v5 ?_
        refine x_goto (t := 21) hz dX11_at_17 (by decide) ?_
        cases h
        exact x_iret hZ dX11_at_21
theorem M_X11_at {N : Nat} {a0 : (Option Nat)} {a1 : Int32} {H H1 : xH} {r1 : Int32} (h : F_X11_at N a0 a1 H = some (r1, H1)) : xM yX11_at cX11_at 2 (some .int) 1 [.inr (.inr a0), .inl a1] H (some (.int r1)) H1 :=
  xM_of (by decide +kernel) (xT_tb 253 (by decide +kernel) (by decide +kernel)) (by simp [xargs, x2]) rfl (P_X11_at rfl a0 a1 H h)
/-! BettingBook$Claim.comesBy(II)Z -/
noncomputable def F_X1_comesBy (N : Nat) (a0 : Int32) (a1 : Int32) (H : xH) : Option (Int32 × xH) :=
  if a0 = 0 then (some ((0 : Int32), H)) else (if (a1 + (1 : Int32)) < a0 then (some ((0 : Int32), H)) else (some ((1 : Int32), H)))
set_option maxRecDepth 20000 in
set_option maxHeartbeats 4000000 in
theorem P_X1_comesBy {N : Nat} {Z : xZ} {rv : Int32} {Hf : xH} (hZ : Z = xZm cX1_comesBy yX1_comesBy 2 1 (some .boolean) (some (.int rv)) Hf) : ∀ (a0 : Int32) (a1 : Int32) (H : xH), F_X1_comesBy N a0 a1 H = some (rv, Hf) → xWq Z H 0 [xI a0, xI a1] [] := by
  have hz : Z.1 = (cX1_comesBy, yX1_comesBy, 2) := by rw [hZ]; rfl
  have hδ : Z.2.1 = 1 := by rw [hZ]; rfl
  intro a0 a1 H h
  unfold F_X1_comesBy at h
  refine x_iload_n hz dX1_comesBy_0 rfl ?_
  refine x_if_eq (t := 15) hz dX1_comesBy_1 (by decide) (fun c1 => ?_) (fun c1 => ?_)
  · replace h := x_ip c1 h
    refine x_iconst (v := (0 : Int32)) hz dX1_comesBy_15 (by decide) ?_
    cases h
    exact x_zret01 hZ (Or.inl rfl) dX1_comesBy_16
  · replace h := x_in c1 h
    refine x_iload_n hz dX1_comesBy_4 rfl ?_
    refine x_iload_n hz dX1_comesBy_5 rfl ?_
    refine x_iconst (v := (1 : Int32)) hz dX1_comesBy_6 (by decide) ?_
    refine x_iadd hz dX1_comesBy_7 ?_
    refine x_icmp_gt (t := 15) hz dX1_comesBy_8 (by decide) (fun c2 => ?_) (fun c2 => ?_)
    · replace h := x_ip c2 h
      refine x_iconst (v := (0 : Int32)) hz dX1_comesBy_15 (by decide) ?_
      cases h
      exact x_zret01 hZ (Or.inl rfl) dX1_comesBy_16
    · replace h := x_in c2 h
      refine x_iconst (v := (1 : Int32)) hz dX1_comesBy_11 (by decide) ?_
      refine x_goto (t := 16) hz dX1_comesBy_12 (by decide) ?_
      cases h
      exact x_zret01 hZ (Or.inr rfl) dX1_comesBy_16
theorem M_X1_comesBy {N : Nat} {a0 : Int32} {a1 : Int32} {H H1 : xH} {r1 : Int32} (h : F_X1_comesBy N a0 a1 H = some (r1, H1)) : xM yX1_comesBy cX1_comesBy 2 (some .boolean) 1 [.inl a0, .inl a1] H (some (.int r1)) H1 :=
  xM_of (by decide +kernel) (xT_tb 273 (by decide +kernel) (by decide +kernel)) (by simp [xargs, x2]) rfl (P_X1_comesBy rfl a0 a1 H h)
/-! BettingBook$Claim.comesBefore(II)Z -/
noncomputable def F_X1_comesBefore (N : Nat) (a0 : Int32) (a1 : Int32) (H : xH) : Option (Int32 × xH) :=
  if a0 = 0 then (some ((0 : Int32), H)) else (if a1 = 0 then (some ((1 : Int32), H)) else (if a1 ≤ a0 then (some ((0 : Int32), H)) else (some ((1 : Int32), H))))
set_option maxRecDepth 20000 in
set_option maxHeartbeats 4000000 in
theorem P_X1_comesBefore {N : Nat} {Z : xZ} {rv : Int32} {Hf : xH} (hZ : Z = xZm cX1_comesBefore yX1_comesBefore 2 1 (some .boolean) (some (.int rv)) Hf) : ∀ (a0 : Int32) (a1 : Int32) (H : xH), F_X1_comesBefore N a0 a1 H = some (rv, Hf) → xWq Z H 0 [xI a0, xI a1] [] := by
  have hz : Z.1 = (cX1_comesBefore, yX1_comesBefore, 2) := by rw [hZ]; rfl
  have hδ : Z.2.1 = 1 := by rw [hZ]; rfl
  intro a0 a1 H h
  unfold F_X1_comesBefore at h
  refine x_iload_n hz dX1_comesBefore_0 rfl ?_
  refine x_if_eq (t := 17) hz dX1_comesBefore_1 (by decide) (fun c1 => ?_) (fun c1 => ?_)
  · replace h := x_ip c1 h
    refine x_iconst (v := (0 : Int32)) hz dX1_comesBefore_17 (by decide) ?_
    cases h
    exact x_zret01 hZ (Or.inl rfl) dX1_comesBefore_18
  · replace h := x_in c1 h
    refine x_iload_n hz dX1_comesBefore_4 rfl ?_
    refine x_if_eq (t := 13) hz dX1_comesBefore_5 (by decide) (fun c2 => ?_) (fun c2 => ?_)
    · replace h := x_ip c2 h
      refine x_iconst (v := (1 : Int32)) hz dX1_comesBefore_13 (by decide) ?_
      refine x_goto (t := 18) hz dX1_comesBefore_14 (by decide) ?_
      cases h
      exact x_zret01 hZ (Or.inr rfl) dX1_comesBefore_18
    · replace h := x_in c2 h
      refine x_iload_n hz dX1_comesBefore_8 rfl ?_
      refine x_iload_n hz dX1_comesBefore_9 rfl ?_
      refine x_icmp_ge (t := 17) hz dX1_comesBefore_10 (by decide) (fun c3 => ?_) (fun c3 => ?_)
      · replace h := x_ip c3 h
        refine x_iconst (v := (0 : Int32)) hz dX1_comesBefore_17 (by decide) ?_
        cases h
        exact x_zret01 hZ (Or.inl rfl) dX1_comesBefore_18
      · replace h := x_in c3 h
        refine x_iconst (v := (1 : Int32)) hz dX1_comesBefore_13 (by decide) ?_
        refine x_goto (t := 18) hz dX1_comesBefore_14 (by decide) ?_
        cases h
        exact x_zret01 hZ (Or.inr rfl) dX1_comesBefore_18
theorem M_X1_comesBefore {N : Nat} {a0 : Int32} {a1 : Int32} {H H1 : xH} {r1 : Int32} (h : F_X1_comesBefore N a0 a1 H = some (r1, H1)) : xM yX1_comesBefore cX1_comesBefore 2 (some .boolean) 1 [.inl a0, .inl a1] H (some (.int r1)) H1 :=
  xM_of (by decide +kernel) (xT_tb 276 (by decide +kernel) (by decide +kernel)) (by simp [xargs, x2]) rfl (P_X1_comesBefore rfl a0 a1 H h)
/-! BettingBook$Claim.countBy([II)I -/
noncomputable def F_X1_countBy_J36 (N : Nat) (k11 : Int32 → Int32 → (Option Nat) → Int32 → Int32 → xH → Option (Int32 × xH)) (x1 : Int32) (x2 : Int32) (x3 : (Option Nat)) (x4 : Int32) (x5 : Int32) (H : xH) : Option (Int32 × xH) :=
  k11 x1 x2 x3 x4 (x5 + 1) H
set_option maxRecDepth 20000 in
set_option maxHeartbeats 4000000 in
theorem P_X1_countBy_J36 {N : Nat} {Z : xZ} {rv : Int32} {Hf : xH} (hZ : Z = xZm cX1_countBy yX1_countBy 7 2 (some .int) (some (.int rv)) Hf) {k11 : Int32 → Int32 → (Option Nat) → Int32 → Int32 → xH → Option (Int32 × xH)} (hk11 : ∀ (x1 : Int32) (x2 : Int32) (x3 : (Option Nat)) (x4 : Int32) (x5 : Int32) (H : xH), k11 x1 x2 x3 x4 x5 H = some (rv, Hf) → xWq Z H 11 [xN, xI x1, xI x2, xA x3, xI x4, xI x5, xN] []) : ∀ (x1 : Int32) (x2 : Int32) (x3 : (Option Nat)) (x4 : Int32) (x5 : Int32) (H : xH), F_X1_countBy_J36 N k11 x1 x2 x3 x4 x5 H = some (rv, Hf) → xWq Z H 36 [xN, xI x1, xI x2, xA x3, xI x4, xI x5, xN] [] := by
  have hz : Z.1 = (cX1_countBy, yX1_countBy, 7) := by rw [hZ]; rfl
  have hδ : Z.2.1 = 2 := by rw [hZ]; rfl
  intro x1 x2 x3 x4 x5 H h
  unfold F_X1_countBy_J36 at h
  refine x_iinc (w := (x5 + 1)) (pl' := [xN, xI x1, xI x2, xA x3, xI x4, xI (x5 + 1), xN]) hz dX1_countBy_36 rfl rfl (by decide) rfl ?_
  refine x_goto (t := 11) hz dX1_countBy_39 (by decide) ?_
  exact x_wk (xwk_n (xwk_c (xwk_c (xwk_c (xwk_c (xwk_c (xwk_n xwk_0))))))) (hk11 x1 x2 x3 x4 (x5 + 1) H h)
noncomputable def F_X1_countBy_J11 (N : Nat) (k11 : Int32 → Int32 → (Option Nat) → Int32 → Int32 → xH → Option (Int32 × xH)) (x1 : Int32) (x2 : Int32) (x3 : (Option Nat)) (x4 : Int32) (x5 : Int32) (H : xH) : Option (Int32 × xH) :=
  if x4 ≤ x5 then (some (x2, H)) else ((xlI .int H x3 x5).bind fun v2 =>
  x_bd2 (F_X1_comesBy N v2 x1 H) fun v4 H3 =>
  if v4 = 0 then ((F_X1_countBy_J36 N k11) x1 x2 x3 x4 x5 H3) else ((F_X1_countBy_J36 N k11) x1 (x2 + 1) x3 x4 x5 H3))
set_option maxRecDepth 20000 in
set_option maxHeartbeats 4000000 in
theorem P_X1_countBy_J11 {N : Nat} {Z : xZ} {rv : Int32} {Hf : xH} (hZ : Z = xZm cX1_countBy yX1_countBy 7 2 (some .int) (some (.int rv)) Hf) {k11 : Int32 → Int32 → (Option Nat) → Int32 → Int32 → xH → Option (Int32 × xH)} (hk11 : ∀ (x1 : Int32) (x2 : Int32) (x3 : (Option Nat)) (x4 : Int32) (x5 : Int32) (H : xH), k11 x1 x2 x3 x4 x5 H = some (rv, Hf) → xWq Z H 11 [xN, xI x1, xI x2, xA x3, xI x4, xI x5, xN] []) : ∀ (x1 : Int32) (x2 : Int32) (x3 : (Option Nat)) (x4 : Int32) (x5 : Int32) (H : xH), F_X1_countBy_J11 N k11 x1 x2 x3 x4 x5 H = some (rv, Hf) → xWq Z H 11 [xN, xI x1, xI x2, xA x3, xI x4, xI x5, xN] [] := by
  have hz : Z.1 = (cX1_countBy, yX1_countBy, 7) := by rw [hZ]; rfl
  have hδ : Z.2.1 = 2 := by rw [hZ]; rfl
  intro x1 x2 x3 x4 x5 H h
  unfold F_X1_countBy_J11 at h
  refine x_iload hz dX1_countBy_11 rfl ?_
  refine x_iload hz dX1_countBy_13 rfl ?_
  refine x_icmp_ge (t := 42) hz dX1_countBy_15 (by decide) (fun c1 => ?_) (fun c1 => ?_)
  · replace h := x_ip c1 h
    refine x_iload_n hz dX1_countBy_42 rfl ?_
    cases h
    exact x_iret hZ dX1_countBy_43
  · replace h := x_in c1 h
    refine x_aload_n hz dX1_countBy_18 rfl ?_
    refine x_iload hz dX1_countBy_19 rfl ?_
    obtain ⟨v2, e_v2, h⟩ := x_bnd h
    refine x_iald hz dX1_countBy_21 e_v2 ?_
    refine x_istore (pl' := [xN, xI x1, xI x2, xA x3, xI x4, xI x5, xI v2]) hz dX1_countBy_22 (by decide) rfl ?_
    refine x_iload hz dX1_countBy_24 rfl ?_
    refine x_iload_n hz dX1_countBy_26 rfl ?_
    obtain ⟨v4, H3, e_H3, h⟩ := x_b2 h
    refine x_callSi (as := [.inl v2, .inl x1]) (st := []) cs_X1_32 rfl rfl hz (by omega) (by decide) dX1_countBy_27 (M_X1_comesBy e_H3) ?_
    refine x_if_eq (t := 36) hz dX1_countBy_30 (by decide) (fun c5 => ?_) (fun c5 => ?_)
    · replace h := x_ip c5 h
      exact x_wk (xwk_n (xwk_c (xwk_c (xwk_c (xwk_c (xwk_c (xwk_n xwk_0))))))) ((P_X1_countBy_J36 hZ hk11) x1 x2 x3 x4 x5 H3 h)
    · replace h := x_in c5 h
      refine x_iinc (w := (x2 + 1)) (pl' := [xN, xI x1, xI (x2 + 1), xA x3, xI x4, xI x5, xI v2]) hz dX1_countBy_33 rfl rfl (by decide) rfl ?_
      exact x_wk (xwk_n (xwk_c (xwk_c (xwk_c (xwk_c (xwk_c (xwk_n xwk_0))))))) ((P_X1_countBy_J36 hZ hk11) x1 (x2 + 1) x3 x4 x5 H3 h)
noncomputable def F_X1_countBy_L11 (N : Nat) : Nat → Int32 → Int32 → (Option Nat) → Int32 → Int32 → xH → Option (Int32 × xH)
  | 0 => fun _ _ _ _ _ _ => none
  | n + 1 => F_X1_countBy_J11 N (F_X1_countBy_L11 N n)
theorem P_X1_countBy_L11 {N : Nat} {Z : xZ} {rv : Int32} {Hf : xH} (hZ : Z = xZm cX1_countBy yX1_countBy 7 2 (some .int) (some (.int rv)) Hf) : ∀ (n : Nat) (x1 : Int32) (x2 : Int32) (x3 : (Option Nat)) (x4 : Int32) (x5 : Int32) (H : xH), F_X1_countBy_L11 N n x1 x2 x3 x4 x5 H = some (rv, Hf) → xWq Z H 11 [xN, xI x1, xI x2, xA x3, xI x4, xI x5, xN] [] := by
  intro n
  induction n with
  | zero => intro _ _ _ _ _ _ h; cases h
  | succ n ih => exact P_X1_countBy_J11 hZ ih
noncomputable def F_X1_countBy (N : Nat) (a0 : (Option Nat)) (a1 : Int32) (H : xH) : Option (Int32 × xH) :=
  (xal .int H a0).bind fun v1 =>
  (F_X1_countBy_L11 N N) a1 (0 : Int32) a0 v1 (0 : Int32) H
set_option maxRecDepth 20000 in
set_option maxHeartbeats 4000000 in
theorem P_X1_countBy {N : Nat} {Z : xZ} {rv : Int32} {Hf : xH} (hZ : Z = xZm cX1_countBy yX1_countBy 7 2 (some .int) (some (.int rv)) Hf) : ∀ (a0 : (Option Nat)) (a1 : Int32) (H : xH), F_X1_countBy N a0 a1 H = some (rv, Hf) → xWq Z H 0 [xA a0, xI a1, xN, xN, xN, xN, xN] [] := by
  have hz : Z.1 = (cX1_countBy, yX1_countBy, 7) := by rw [hZ]; rfl
  have hδ : Z.2.1 = 2 := by rw [hZ]; rfl
  intro a0 a1 H h
  unfold F_X1_countBy at h
  refine x_iconst (v := (0 : Int32)) hz dX1_countBy_0 (by decide) ?_
  refine x_istore_n (pl' := [xA a0, xI a1, xI (0 : Int32), xN, xN, xN, xN]) hz dX1_countBy_1 (by decide) rfl ?_
  refine x_aload_n hz dX1_countBy_2 rfl ?_
  refine x_astore_n (pl' := [xA a0, xI a1, xI (0 : Int32), xA a0, xN, xN, xN]) hz dX1_countBy_3 (by decide) rfl ?_
  refine x_aload_n hz dX1_countBy_4 rfl ?_
  obtain ⟨v1, e_v1, h⟩ := x_bnd h
  refine x_alen (t0 := 0) (fun _ => rfl) hz dX1_countBy_5 e_v1 ?_
  refine x_istore (pl' := [xA a0, xI a1, xI (0 : Int32), xA a0, xI v1, xN, xN]) hz dX1_countBy_6 (by decide) rfl ?_
  refine x_iconst (v := (0 : Int32)) hz dX1_countBy_8 (by decide) ?_
  refine x_istore (pl' := [xA a0, xI a1, xI (0 : Int32), xA a0, xI v1, xI (0 : Int32), xN]) hz dX1_countBy_9 (by decide) rfl ?_
  exact x_wk (xwk_n (xwk_c (xwk_c (xwk_c (xwk_c (xwk_c (xwk_n xwk_0))))))) ((P_X1_countBy_L11 hZ N) a1 (0 : Int32) a0 v1 (0 : Int32) H h)
theorem M_X1_countBy {N : Nat} {a0 : (Option Nat)} {a1 : Int32} {H H1 : xH} {r1 : Int32} (h : F_X1_countBy N a0 a1 H = some (r1, H1)) : xM yX1_countBy cX1_countBy 7 (some .int) 2 [.inr (.inr a0), .inl a1] H (some (.int r1)) H1 :=
  xM_of (by decide +kernel) (xT_tb 279 (by decide +kernel) (by decide +kernel)) (by simp [xargs, x2]) rfl (P_X1_countBy rfl a0 a1 H h)
/-! BettingBook$Claim.isTrue(LBettingBook$Claim;[II)Z -/
noncomputable def F_X1_isTrue_J145 (N : Nat) (c_X1_isTrue : (Option Nat) → (Option Nat) → Int32 → xH → Option (Int32 × xH)) (k145 : (Option Nat) → Int32 → Int32 → (Option Nat) → xH → Option (Int32 × xH)) (k175 : Int32 → xH → Option (Int32 × xH)) (x1 : (Option Nat)) (x2 : Int32) (x3 : Int32) (x4 : (Option Nat)) (H : xH) : Option (Int32 × xH) :=
  if x4 = none then (k175 x3 H) else (x_bd2 (c_X1_isTrue x4 x1 (x2 + (1 : Int32)) H) fun v3 H2 =>
  if v3 = x3 then (if x3 = 0 ∨ x3 = 1 then some (x3, H2) else none) else ((xgA H2 x4 1 4).bind fun v5 =>
  k145 x1 x2 x3 v5 H2))
set_option maxRecDepth 20000 in
set_option maxHeartbeats 4000000 in
theorem P_X1_isTrue_J145 {N : Nat} {Z : xZ} {rv : Int32} {Hf : xH} {δ : Nat} (hZ : Z = xZm cX1_isTrue yX1_isTrue 5 (δ + 1) (some .boolean) (some (.int rv)) Hf) (hb : 2 ≤ δ) {c_X1_isTrue : (Option Nat) → (Option Nat) → Int32 → xH → Option (Int32 × xH)} (hc_X1_isTrue : ∀ {a0 : (Option Nat)} {a1 : (Option Nat)} {a2 : Int32} {H H1 : xH} {r1 : Int32}, c_X1_isTrue a0 a1 a2 H = some (r1, H1) → xM yX1_isTrue cX1_isTrue 5 (some .boolean) δ [.inr (.inr a0), .inr (.inr a1), .inl a2] H (some (.int r1)) H1) {k145 : (Option Nat) → Int32 → Int32 → (Option Nat) → xH → Option (Int32 × xH)} (hk145 : ∀ (x1 : (Option Nat)) (x2 : Int32) (x3 : Int32) (x4 : (Option Nat)) (H : xH), k145 x1 x2 x3 x4 H = some (rv, Hf) → xWq Z H 145 [xN, xA x1, xI x2, xI x3, xA x4] []) {k175 : Int32 → xH → Option (Int32 × xH)} (hk175 : ∀ (x3 : Int32) (H : xH), k175 x3 H = some (rv, Hf) → xWq Z H 175 [xN, xN, xN, xI x3, xN] []) : ∀ (x1 : (Option Nat)) (x2 : Int32) (x3 : Int32) (x4 : (Option Nat)) (H : xH), F_X1_isTrue_J145 N c_X1_isTrue k145 k175 x1 x2 x3 x4 H = some (rv, Hf) → xWq Z H 145 [xN, xA x1, xI x2, xI x3, xA x4] [] := by
  have hz : Z.1 = (cX1_isTrue, yX1_isTrue, 5) := by rw [hZ]; rfl
  have hδ : Z.2.1 = (δ + 1) := by rw [hZ]; rfl
  intro x1 x2 x3 x4 H h
  unfold F_X1_isTrue_J145 at h
  refine x_aload hz dX1_isTrue_145 rfl ?_
  refine x_ifnull (t := 175) hz dX1_isTrue_147 (by decide) (fun c1 => ?_) (fun c1 => ?_)
  · replace h := x_ip c1 h
    exact x_wk (xwk_n (xwk_n (xwk_n (xwk_c (xwk_n xwk_0))))) (hk175 x3 H h)
  · replace h := x_in c1 h
    refine x_aload hz dX1_isTrue_150 rfl ?_
    refine x_aload_n hz dX1_isTrue_152 rfl ?_
    refine x_iload_n hz dX1_isTrue_153 rfl ?_
    refine x_iconst (v := (1 : Int32)) hz dX1_isTrue_154 (by decide) ?_
    refine x_iadd hz dX1_isTrue_155 ?_
    obtain ⟨v3, H2, e_H2, h⟩ := x_b2 h
    refine x_callSi (as := [.inr (.inr x4), .inr (.inr x1), .inl (x2 + (1 : Int32))]) (st := []) cs_X1_42 rfl rfl hz (by omega) (by decide) dX1_isTrue_156 (hc_X1_isTrue e_H2) ?_
    refine x_iload_n hz dX1_isTrue_159 rfl ?_
    refine x_icmp_ne (t := 165) hz dX1_isTrue_160 (by decide) (fun c4 => ?_) (fun c4 => ?_)
    · replace h := x_in c4 h
      refine x_aload hz dX1_isTrue_165 rfl ?_
      obtain ⟨v5, e_v5, h⟩ := x_bnd h
      refine x_getA hz dX1_isTrue_167 fs_X1_46 e_v5 ?_
      refine x_astore (pl' := [xN, xA x1, xI x2, xI x3, xA v5]) hz dX1_isTrue_170 (by decide) rfl ?_
      refine x_goto (t := 145) hz dX1_isTrue_172 (by decide) ?_
      exact x_wk (xwk_n (xwk_c (xwk_c (xwk_c (xwk_c xwk_0))))) (hk145 x1 x2 x3 v5 H2 h)
    · replace h := x_ip c4 h
      refine x_iload_n hz dX1_isTrue_163 rfl ?_
      obtain ⟨c6, h⟩ := x_inv h
      cases h
      exact x_zret01 hZ c6 dX1_isTrue_164
noncomputable def F_X1_isTrue_L145 (N : Nat) (c_X1_isTrue : (Option Nat) → (Option Nat) → Int32 → xH → Option (Int32 × xH)) (k175 : Int32 → xH → Option (Int32 × xH)) : Nat → (Option Nat) → Int32 → Int32 → (Option Nat) → xH → Option (Int32 × xH)
  | 0 => fun _ _ _ _ _ => none
  | n + 1 => F_X1_isTrue_J145 N c_X1_isTrue (F_X1_isTrue_L145 N c_X1_isTrue k175 n) k175
theorem P_X1_isTrue_L145 {N : Nat} {Z : xZ} {rv : Int32} {Hf : xH} {δ : Nat} (hZ : Z = xZm cX1_isTrue yX1_isTrue 5 (δ + 1) (some .boolean) (some (.int rv)) Hf) (hb : 2 ≤ δ) {c_X1_isTrue : (Option Nat) → (Option Nat) → Int32 → xH → Option (Int32 × xH)} (hc_X1_isTrue : ∀ {a0 : (Option Nat)} {a1 : (Option Nat)} {a2 : Int32} {H H1 : xH} {r1 : Int32}, c_X1_isTrue a0 a1 a2 H = some (r1, H1) → xM yX1_isTrue cX1_isTrue 5 (some .boolean) δ [.inr (.inr a0), .inr (.inr a1), .inl a2] H (some (.int r1)) H1) {k175 : Int32 → xH → Option (Int32 × xH)} (hk175 : ∀ (x3 : Int32) (H : xH), k175 x3 H = some (rv, Hf) → xWq Z H 175 [xN, xN, xN, xI x3, xN] []) : ∀ (n : Nat) (x1 : (Option Nat)) (x2 : Int32) (x3 : Int32) (x4 : (Option Nat)) (H : xH), F_X1_isTrue_L145 N c_X1_isTrue k175 n x1 x2 x3 x4 H = some (rv, Hf) → xWq Z H 145 [xN, xA x1, xI x2, xI x3, xA x4] [] := by
  intro n
  induction n with
  | zero => intro _ _ _ _ _ h; cases h
  | succ n ih => exact P_X1_isTrue_J145 hZ hb hc_X1_isTrue ih hk175
noncomputable def F_X1_isTrue_J175 (N : Nat) (c_X1_isTrue : (Option Nat) → (Option Nat) → Int32 → xH → Option (Int32 × xH)) (x3 : Int32) (H : xH) : Option (Int32 × xH) :=
  if x3 = 0 then (some ((1 : Int32), H)) else (some ((0 : Int32), H))
set_option maxRecDepth 20000 in
set_option maxHeartbeats 4000000 in
theorem P_X1_isTrue_J175 {N : Nat} {Z : xZ} {rv : Int32} {Hf : xH} {δ : Nat} (hZ : Z = xZm cX1_isTrue yX1_isTrue 5 (δ + 1) (some .boolean) (some (.int rv)) Hf) (hb : 2 ≤ δ) {c_X1_isTrue : (Option Nat) → (Option Nat) → Int32 → xH → Option (Int32 × xH)} (hc_X1_isTrue : ∀ {a0 : (Option Nat)} {a1 : (Option Nat)} {a2 : Int32} {H H1 : xH} {r1 : Int32}, c_X1_isTrue a0 a1 a2 H = some (r1, H1) → xM yX1_isTrue cX1_isTrue 5 (some .boolean) δ [.inr (.inr a0), .inr (.inr a1), .inl a2] H (some (.int r1)) H1) : ∀ (x3 : Int32) (H : xH), F_X1_isTrue_J175 N c_X1_isTrue x3 H = some (rv, Hf) → xWq Z H 175 [xN, xN, xN, xI x3, xN] [] := by
  have hz : Z.1 = (cX1_isTrue, yX1_isTrue, 5) := by rw [hZ]; rfl
  have hδ : Z.2.1 = (δ + 1) := by rw [hZ]; rfl
  intro x3 H h
  unfold F_X1_isTrue_J175 at h
  refine x_iload_n hz dX1_isTrue_175 rfl ?_
  refine x_if_ne (t := 183) hz dX1_isTrue_176 (by decide) (fun c1 => ?_) (fun c1 => ?_)
  · replace h := x_in c1 h
    refine x_iconst (v := (0 : Int32)) hz dX1_isTrue_183 (by decide) ?_
    cases h
    exact x_zret01 hZ (Or.inl rfl) dX1_isTrue_184
  · replace h := x_ip c1 h
    refine x_iconst (v := (1 : Int32)) hz dX1_isTrue_179 (by decide) ?_
    refine x_goto (t := 184) hz dX1_isTrue_180 (by decide) ?_
    cases h
    exact x_zret01 hZ (Or.inr rfl) dX1_isTrue_184
noncomputable def F_X1_isTrue_J138 (N : Nat) (c_X1_isTrue : (Option Nat) → (Option Nat) → Int32 → xH → Option (Int32 × xH)) (x0 : (Option Nat)) (x1 : (Option Nat)) (x2 : Int32) (s0 : Int32) (H : xH) : Option (Int32 × xH) :=
  (xgA H x0 1 3).bind fun v1 =>
  (F_X1_isTrue_L145 N c_X1_isTrue (F_X1_isTrue_J175 N c_X1_isTrue) N) x1 x2 s0 v1 H
set_option maxRecDepth 20000 in
set_option maxHeartbeats 4000000 in
theorem P_X1_isTrue_J138 {N : Nat} {Z : xZ} {rv : Int32} {Hf : xH} {δ : Nat} (hZ : Z = xZm cX1_isTrue yX1_isTrue 5 (δ + 1) (some .boolean) (some (.int rv)) Hf) (hb : 2 ≤ δ) {c_X1_isTrue : (Option Nat) → (Option Nat) → Int32 → xH → Option (Int32 × xH)} (hc_X1_isTrue : ∀ {a0 : (Option Nat)} {a1 : (Option Nat)} {a2 : Int32} {H H1 : xH} {r1 : Int32}, c_X1_isTrue a0 a1 a2 H = some (r1, H1) → xM yX1_isTrue cX1_isTrue 5 (some .boolean) δ [.inr (.inr a0), .inr (.inr a1), .inl a2] H (some (.int r1)) H1) : ∀ (x0 : (Option Nat)) (x1 : (Option Nat)) (x2 : Int32) (s0 : Int32) (H : xH), F_X1_isTrue_J138 N c_X1_isTrue x0 x1 x2 s0 H = some (rv, Hf) → xWq Z H 138 [xA x0, xA x1, xI x2, xN, xN] [.int s0] := by
  have hz : Z.1 = (cX1_isTrue, yX1_isTrue, 5) := by rw [hZ]; rfl
  have hδ : Z.2.1 = (δ + 1) := by rw [hZ]; rfl
  intro x0 x1 x2 s0 H h
  unfold F_X1_isTrue_J138 at h
  refine x_istore_n (pl' := [xA x0, xA x1, xI x2, xI s0, xN]) hz dX1_isTrue_138 (by decide) rfl ?_
  refine x_aload_n hz dX1_isTrue_139 rfl ?_
  obtain ⟨v1, e_v1, h⟩ := x_bnd h
  refine x_getA hz dX1_isTrue_140 fs_X1_19 e_v1 ?_
  refine x_astore (pl' := [xA x0, xA x1, xI x2, xI s0, xA v1]) hz dX1_isTrue_143 (by decide) rfl ?_
  exact x_wk (xwk_n (xwk_c (xwk_c (xwk_c (xwk_c xwk_0))))) ((P_X1_isTrue_L145 hZ hb hc_X1_isTrue (P_X1_isTrue_J175 hZ hb hc_X1_isTrue) N) x1 x2 s0 v1 H h)
noncomputable def B_X1_isTrue (N : Nat) (c_X1_isTrue : (Option Nat) → (Option Nat) → Int32 → xH → Option (Int32 × xH)) (a0 : (Option Nat)) (a1 : (Option Nat)) (a2 : Int32) (H : xH) : Option (Int32 × xH) :=
  if a0 = none then (some ((0 : Int32), H)) else (if a2 ≤ (40 : Int32) then ((xgI H a0 1 0).bind fun v3 =>
  if v3 = 0 then ((xgI H a0 1 1).bind fun v5 =>
  x_bd2 (F_X11_at N a1 v5 H) fun v7 H6 =>
  (xgI H6 a0 1 2).bind fun v8 =>
  x_bd2 (F_X1_comesBy N v7 v8 H6) fun v10 H9 =>
  if v10 = 0 ∨ v10 = 1 then some (v10, H9) else none) else (if v3 = 1 then ((xgI H a0 1 1).bind fun v13 =>
  x_bd2 (F_X11_at N a1 v13 H) fun v15 H14 =>
  (xgI H14 a0 1 2).bind fun v16 =>
  x_bd2 (F_X11_at N a1 v16 H14) fun v18 H17 =>
  x_bd2 (F_X1_comesBefore N v15 v18 H17) fun v20 H19 =>
  if v20 = 0 ∨ v20 = 1 then some (v20, H19) else none) else (if v3 = 2 then ((xgI H a0 1 2).bind fun v23 =>
  x_bd2 (F_X1_countBy N a1 v23 H) fun v25 H24 =>
  (xgI H24 a0 1 1).bind fun v26 =>
  if v25 < v26 then (some ((0 : Int32), H24)) else (some ((1 : Int32), H24))) else (if v3 = 3 then ((xgA H a0 1 3).bind fun v29 =>
  x_bd2 (c_X1_isTrue v29 a1 (a2 + (1 : Int32)) H) fun v31 H30 =>
  if v31 = 0 then (some ((1 : Int32), H30)) else (some ((0 : Int32), H30))) else ((xgI H a0 1 0).bind fun v33 =>
  if v33 = (5 : Int32) then ((F_X1_isTrue_J138 N c_X1_isTrue) a0 a1 a2 (1 : Int32) H) else ((F_X1_isTrue_J138 N c_X1_isTrue) a0 a1 a2 (0 : Int32) H)))))) else (some ((0 : Int32), H)))
set_option maxRecDepth 20000 in
set_option maxHeartbeats 4000000 in
theorem P_X1_isTrue {N : Nat} {Z : xZ} {rv : Int32} {Hf : xH} {δ : Nat} (hZ : Z = xZm cX1_isTrue yX1_isTrue 5 (δ + 1) (some .boolean) (some (.int rv)) Hf) (hb : 2 ≤ δ) {c_X1_isTrue : (Option Nat) → (Option Nat) → Int32 → xH → Option (Int32 × xH)} (hc_X1_isTrue : ∀ {a0 : (Option Nat)} {a1 : (Option Nat)} {a2 : Int32} {H H1 : xH} {r1 : Int32}, c_X1_isTrue a0 a1 a2 H = some (r1, H1) → xM yX1_isTrue cX1_isTrue 5 (some .boolean) δ [.inr (.inr a0), .inr (.inr a1), .inl a2] H (some (.int r1)) H1) : ∀ (a0 : (Option Nat)) (a1 : (Option Nat)) (a2 : Int32) (H : xH), B_X1_isTrue N c_X1_isTrue a0 a1 a2 H = some (rv, Hf) → xWq Z H 0 [xA a0, xA a1, xI a2, xN, xN] [] := by
  have hz : Z.1 = (cX1_isTrue, yX1_isTrue, 5) := by rw [hZ]; rfl
  have hδ : Z.2.1 = (δ + 1) := by rw [hZ]; rfl
  intro a0 a1 a2 H h
  unfold B_X1_isTrue at h
  refine x_aload_n hz dX1_isTrue_0 rfl ?_
  refine x_ifnull (t := 10) hz dX1_isTrue_1 (by decide) (fun c1 => ?_) (fun c1 => ?_)
  · replace h := x_ip c1 h
    refine x_iconst (v := (0 : Int32)) hz dX1_isTrue_10 (by decide) ?_
    cases h
    exact x_zret01 hZ (Or.inl rfl) dX1_isTrue_11
  · replace h := x_in c1 h
    refine x_iload_n hz dX1_isTrue_4 rfl ?_
    refine x_bipush (v := (40 : Int32)) hz dX1_isTrue_5 (by decide) ?_
    refine x_icmp_le (t := 12) hz dX1_isTrue_7 (by decide) (fun c2 => ?_) (fun c2 => ?_)
    · replace h := x_ip c2 h
      refine x_aload_n hz dX1_isTrue_12 rfl ?_
      obtain ⟨v3, e_v3, h⟩ := x_bnd h
      refine x_getI hz dX1_isTrue_13 fs_X1_7 e_v3 ?_
      by_cases c4 : v3 = 0
      · replace h := x_ip c4 h
        refine x_tsIn (t := 48) (off := 32) hz dX1_isTrue_16 (by rw [c4]; decide) (by rw [c4]; decide) (by rw [c4]; decide) (by decide) ?_
        refine x_aload_n hz dX1_isTrue_48 rfl ?_
        refine x_aload_n hz dX1_isTrue_49 rfl ?_
        obtain ⟨v5, e_v5, h⟩ := x_bnd h
        refine x_getI hz dX1_isTrue_50 fs_X1_13 e_v5 ?_
        obtain ⟨v7, H6, e_H6, h⟩ := x_b2 h
        refine x_callSi (as := [.inr (.inr a1), .inl v5]) (st := []) cs_X1_26 rfl rfl hz (by omega) (by decide) dX1_isTrue_53 (M_X11_at e_H6) ?_
        refine x_aload_n hz dX1_isTrue_56 rfl ?_
        obtain ⟨v8, e_v8, h⟩ := x_bnd h
        refine x_getI hz dX1_isTrue_57 fs_X1_16 e_v8 ?_
        obtain ⟨v10, H9, e_H9, h⟩ := x_b2 h
        refine x_callSi (as := [.inl v7, .inl v8]) (st := []) cs_X1_32 rfl rfl hz (by omega) (by decide) dX1_isTrue_60 (M_X1_comesBy e_H9) ?_
        obtain ⟨c11, h⟩ := x_inv h
        cases h
        exact x_zret01 hZ c11 dX1_isTrue_63
      replace h := x_in c4 h
      by_cases c12 : v3 = 1
      · replace h := x_ip c12 h
        refine x_tsIn (t := 64) (off := 48) hz dX1_isTrue_16 (by rw [c12]; decide) (by rw [c12]; decide) (by rw [c12]; decide) (by decide) ?_
        refine x_aload_n hz dX1_isTrue_64 rfl ?_
        refine x_aload_n hz dX1_isTrue_65 rfl ?_
        obtain ⟨v13, e_v13, h⟩ := x_bnd h
        refine x_getI hz dX1_isTrue_66 fs_X1_13 e_v13 ?_
        obtain ⟨v15, H14, e_H14, h⟩ := x_b2 h
        refine x_callSi (as := [.inr (.inr a1), .inl v13]) (st := []) cs_X1_26 rfl rfl hz (by omega) (by decide) dX1_isTrue_69 (M_X11_at e_H14) ?_
        refine x_aload_n hz dX1_isTrue_72 rfl ?_
        refine x_aload_n hz dX1_isTrue_73 rfl ?_
        obtain ⟨v16, e_v16, h⟩ := x_bnd h
        refine x_getI hz dX1_isTrue_74 fs_X1_16 e_v16 ?_
        obtain ⟨v18, H17, e_H17, h⟩ := x_b2 h
        refine x_callSi (as := [.inr (.inr a1), .inl v16]) (st := [.int v15]) cs_X1_26 rfl rfl hz (by omega) (Nat.le_trans (x_sm1 rfl x_sm0) (by decide)) dX1_isTrue_77 (M_X11_at e_H17) ?_
        obtain ⟨v20, H19, e_H19, h⟩ := x_b2 h
        refine x_callSi (as := [.inl v15, .inl v18]) (st := []) cs_X1_36 rfl rfl hz (by omega) (by decide) dX1_isTrue_80 (M_X1_comesBefore e_H19) ?_
        obtain ⟨c21, h⟩ := x_inv h
        cases h
        exact x_zret01 hZ c21 dX1_isTrue_83
      replace h := x_in c12 h
      by_cases c22 : v3 = 2
      · replace h := x_ip c22 h
        refine x_tsIn (t := 84) (off := 68) hz dX1_isTrue_16 (by rw [c22]; decide) (by rw [c22]; decide) (by rw [c22]; decide) (by decide) ?_
        refine x_aload_n hz dX1_isTrue_84 rfl ?_
        refine x_aload_n hz dX1_isTrue_85 rfl ?_
        obtain ⟨v23, e_v23, h⟩ := x_bnd h
        refine x_getI hz dX1_isTrue_86 fs_X1_16 e_v23 ?_
        obtain ⟨v25, H24, e_H24, h⟩ := x_b2 h
        refine x_callSi (as := [.inr (.inr a1), .inl v23]) (st := []) cs_X1_39 rfl rfl hz (by omega) (by decide) dX1_isTrue_89 (M_X1_countBy e_H24) ?_
        refine x_aload_n hz dX1_isTrue_92 rfl ?_
        obtain ⟨v26, e_v26, h⟩ := x_bnd h
        refine x_getI hz dX1_isTrue_93 fs_X1_13 e_v26 ?_
        refine x_icmp_lt (t := 103) hz dX1_isTrue_96 (by decide) (fun c27 => ?_) (fun c27 => ?_)
        · replace h := x_ip c27 h
          refine x_iconst (v := (0 : Int32)) hz dX1_isTrue_103 (by decide) ?_
          cases h
          exact x_zret01 hZ (Or.inl rfl) dX1_isTrue_104
        · replace h := x_in c27 h
          refine x_iconst (v := (1 : Int32)) hz dX1_isTrue_99 (by decide) ?_
          refine x_goto (t := 104) hz dX1_isTrue_100 (by decide) ?_
          cases h
          exact x_zret01 hZ (Or.inr rfl) dX1_isTrue_104
      replace h := x_in c22 h
      by_cases c28 : v3 = 3
      · replace h := x_ip c28 h
        refine x_tsIn (t := 105) (off := 89) hz dX1_isTrue_16 (by rw [c28]; decide) (by rw [c28]; decide) (by rw [c28]; decide) (by decide) ?_
        refine x_aload_n hz dX1_isTrue_105 rfl ?_
        obtain ⟨v29, e_v29, h⟩ := x_bnd h
        refine x_getA hz dX1_isTrue_106 fs_X1_19 e_v29 ?_
        refine x_aload_n hz dX1_isTrue_109 rfl ?_
        refine x_iload_n hz dX1_isTrue_110 rfl ?_
        refine x_iconst (v := (1 : Int32)) hz dX1_isTrue_111 (by decide) ?_
        refine x_iadd hz dX1_isTrue_112 ?_
        obtain ⟨v31, H30, e_H30, h⟩ := x_b2 h
        refine x_callSi (as := [.inr (.inr v29), .inr (.inr a1), .inl (a2 + (1 : Int32))]) (st := []) cs_X1_42 rfl rfl hz (by omega) (by decide) dX1_isTrue_113 (hc_X1_isTrue e_H30) ?_
        refine x_if_ne (t := 123) hz dX1_isTrue_116 (by decide) (fun c32 => ?_) (fun c32 => ?_)
        · replace h := x_in c32 h
          refine x_iconst (v := (0 : Int32)) hz dX1_isTrue_123 (by decide) ?_
          cases h
          exact x_zret01 hZ (Or.inl rfl) dX1_isTrue_124
        · replace h := x_ip c32 h
          refine x_iconst (v := (1 : Int32)) hz dX1_isTrue_119 (by decide) ?_
          refine x_goto (t := 124) hz dX1_isTrue_120 (by decide) ?_
          cases h
          exact x_zret01 hZ (Or.inr rfl) dX1_isTrue_124
      replace h := x_in c28 h
      refine x_tsOut (t := 125) hz dX1_isTrue_16 (x_tsN v3 (0) (3) (by decide) (by decide) (fun i h1 h2 => ?_)) (by decide) ?_
      · (have h3 : i = 0 ∨ i = 1 ∨ i = 2 ∨ i = 3 := by omega); rcases h3 with rfl | rfl | rfl | rfl <;> intro e <;> first | exact c4 (Int32.toInt_inj.mp (e.trans rfl)) | exact c12 (Int32.toInt_inj.mp (e.trans rfl)) | exact c22 (Int32.toInt_inj.mp (e.trans rfl)) | exact c28 (Int32.toInt_inj.mp (e.trans rfl))
      refine x_aload_n hz dX1_isTrue_125 rfl ?_
      obtain ⟨v33, e_v33, h⟩ := x_bnd h
      refine x_getI hz dX1_isTrue_126 fs_X1_7 e_v33 ?_
      refine x_iconst (v := (5 : Int32)) hz dX1_isTrue_129 (by decide) ?_
      refine x_icmp_ne (t := 137) hz dX1_isTrue_130 (by decide) (fun c34 => ?_) (fun c34 => ?_)
      · replace h := x_in c34 h
        refine x_iconst (v := (0 : Int32)) hz dX1_isTrue_137 (by decide) ?_
        exact x_wk (xwk_c (xwk_c (xwk_c (xwk_n (xwk_n xwk_0))))) ((P_X1_isTrue_J138 hZ hb hc_X1_isTrue) a0 a1 a2 (0 : Int32) H h)
      · replace h := x_ip c34 h
        refine x_iconst (v := (1 : Int32)) hz dX1_isTrue_133 (by decide) ?_
        refine x_goto (t := 138) hz dX1_isTrue_134 (by decide) ?_
        exact x_wk (xwk_c (xwk_c (xwk_c (xwk_n (xwk_n xwk_0))))) ((P_X1_isTrue_J138 hZ hb hc_X1_isTrue) a0 a1 a2 (1 : Int32) H h)
    · replace h := x_in c2 h
      refine x_iconst (v := (0 : Int32)) hz dX1_isTrue_10 (by decide) ?_
      cases h
      exact x_zret01 hZ (Or.inl rfl) dX1_isTrue_11
theorem MB_X1_isTrue {N : Nat} {δ : Nat} (hb : 2 ≤ δ) {c_X1_isTrue : (Option Nat) → (Option Nat) → Int32 → xH → Option (Int32 × xH)} (hc_X1_isTrue : ∀ {a0 : (Option Nat)} {a1 : (Option Nat)} {a2 : Int32} {H H1 : xH} {r1 : Int32}, c_X1_isTrue a0 a1 a2 H = some (r1, H1) → xM yX1_isTrue cX1_isTrue 5 (some .boolean) δ [.inr (.inr a0), .inr (.inr a1), .inl a2] H (some (.int r1)) H1) {a0 : (Option Nat)} {a1 : (Option Nat)} {a2 : Int32} {H H1 : xH} {r1 : Int32} (h : B_X1_isTrue N c_X1_isTrue a0 a1 a2 H = some (r1, H1)) : xM yX1_isTrue cX1_isTrue 5 (some .boolean) (δ + 1) [.inr (.inr a0), .inr (.inr a1), .inl a2] H (some (.int r1)) H1 :=
  xM_of (by decide +kernel) (xT_tb 269 (by decide +kernel) (by decide +kernel)) (by simp [xargs, x2]) rfl (P_X1_isTrue rfl hb hc_X1_isTrue a0 a1 a2 H h)
noncomputable def R_X1_isTrue (N : Nat) : Nat → ((Option Nat) → (Option Nat) → Int32 → xH → Option (Int32 × xH))
  | 0 => (fun _ _ _ _ => none)
  | n + 1 => (B_X1_isTrue N ((R_X1_isTrue N n)))
theorem MR_X1_isTrue (N : Nat) : ∀ n : Nat, (∀ {a0 : (Option Nat)} {a1 : (Option Nat)} {a2 : Int32} {H H1 : xH} {r1 : Int32}, ((R_X1_isTrue N n)) a0 a1 a2 H = some (r1, H1) → xM yX1_isTrue cX1_isTrue 5 (some .boolean) (2 + n) [.inr (.inr a0), .inr (.inr a1), .inl a2] H (some (.int r1)) H1) := by
  intro n
  induction n with
  | zero => exact fun h => by cases h
  | succ n ih => exact fun h => MB_X1_isTrue (by omega) (ih) h
noncomputable def F_X1_isTrue (N : Nat) : (Option Nat) → (Option Nat) → Int32 → xH → Option (Int32 × xH) := (R_X1_isTrue N 45)
theorem M_X1_isTrue {N : Nat} {a0 : (Option Nat)} {a1 : (Option Nat)} {a2 : Int32} {H H1 : xH} {r1 : Int32} (h : F_X1_isTrue N a0 a1 a2 H = some (r1, H1)) : xM yX1_isTrue cX1_isTrue 5 (some .boolean) 47 [.inr (.inr a0), .inr (.inr a1), .inl a2] H (some (.int r1)) H1 := (MR_X1_isTrue N 45) h
/-! BettingBook$Bet.outcomeIn([I)I -/
noncomputable def F_X0_outcomeIn_J45 (N : Nat) (x0 : (Option Nat)) (x1 : (Option Nat)) (s0 : Int32) (H : xH) : Option (Int32 × xH) :=
  (xgA H x0 0 4).bind fun v1 =>
  x_bd2 (F_X1_isTrue N v1 x1 (0 : Int32) H) fun v3 H2 =>
  if v3 = 0 then (if s0 = 0 then (some ((1 : Int32), H2)) else (some ((2 : Int32), H2))) else (if s0 = 0 then (some ((3 : Int32), H2)) else (some ((4 : Int32), H2)))
set_option maxRecDepth 20000 in
set_option maxHeartbeats 4000000 in
theorem P_X0_outcomeIn_J45 {N : Nat} {Z : xZ} {rv : Int32} {Hf : xH} (hZ : Z = xZm cX0_outcomeIn yX0_outcomeIn 3 48 (some .int) (some (.int rv)) Hf) : ∀ (x0 : (Option Nat)) (x1 : (Option Nat)) (s0 : Int32) (H : xH), F_X0_outcomeIn_J45 N x0 x1 s0 H = some (rv, Hf) → xWq Z H 45 [xA x0, xA x1, xN] [.int s0] := by
  have hz : Z.1 = (cX0_outcomeIn, yX0_outcomeIn, 3) := by rw [hZ]; rfl
  have hδ : Z.2.1 = 48 := by rw [hZ]; rfl
  intro x0 x1 s0 H h
  unfold F_X0_outcomeIn_J45 at h
  refine x_istore_n (pl' := [xA x0, xA x1, xI s0]) hz dX0_outcomeIn_45 (by decide) rfl ?_
  refine x_aload_n hz dX0_outcomeIn_46 rfl ?_
  obtain ⟨v1, e_v1, h⟩ := x_bnd h
  refine x_getA hz dX0_outcomeIn_47 fs_X0_24 e_v1 ?_
  refine x_aload_n hz dX0_outcomeIn_50 rfl ?_
  refine x_iconst (v := (0 : Int32)) hz dX0_outcomeIn_51 (by decide) ?_
  obtain ⟨v3, H2, e_H2, h⟩ := x_b2 h
  refine x_callSi (as := [.inr (.inr v1), .inr (.inr x1), .inl (0 : Int32)]) (st := []) cs_X0_34 rfl rfl hz (by omega) (by decide) dX0_outcomeIn_52 (M_X1_isTrue e_H2) ?_
  refine x_if_eq (t := 68) hz dX0_outcomeIn_55 (by decide) (fun c4 => ?_) (fun c4 => ?_)
  · replace h := x_ip c4 h
    refine x_iload_n hz dX0_outcomeIn_68 rfl ?_
    refine x_if_eq (t := 76) hz dX0_outcomeIn_69 (by decide) (fun c5 => ?_) (fun c5 => ?_)
    · replace h := x_ip c5 h
      refine x_iconst (v := (1 : Int32)) hz dX0_outcomeIn_76 (by decide) ?_
      cases h
      exact x_iret hZ dX0_outcomeIn_77
    · replace h := x_in c5 h
      refine x_iconst (v := (2 : Int32)) hz dX0_outcomeIn_72 (by decide) ?_
      refine x_goto (t := 77) hz dX0_outcomeIn_73 (by decide) ?_
      cases h
      exact x_iret hZ dX0_outcomeIn_77
  · replace h := x_in c4 h
    refine x_iload_n hz dX0_outcomeIn_58 rfl ?_
    refine x_if_eq (t := 66) hz dX0_outcomeIn_59 (by decide) (fun c6 => ?_) (fun c6 => ?_)
    · replace h := x_ip c6 h
      refine x_iconst (v := (3 : Int32)) hz dX0_outcomeIn_66 (by decide) ?_
      cases h
      exact x_iret hZ dX0_outcomeIn_67
    · replace h := x_in c6 h
      refine x_iconst (v := (4 : Int32)) hz dX0_outcomeIn_62 (by decide) ?_
      refine x_goto (t := 67) hz dX0_outcomeIn_63 (by decide) ?_
      cases h
      exact x_iret hZ dX0_outcomeIn_67
noncomputable def F_X0_outcomeIn_J44 (N : Nat) (x0 : (Option Nat)) (x1 : (Option Nat)) (H : xH) : Option (Int32 × xH) :=
  (F_X0_outcomeIn_J45 N) x0 x1 (0 : Int32) H
set_option maxRecDepth 20000 in
set_option maxHeartbeats 4000000 in
theorem P_X0_outcomeIn_J44 {N : Nat} {Z : xZ} {rv : Int32} {Hf : xH} (hZ : Z = xZm cX0_outcomeIn yX0_outcomeIn 3 48 (some .int) (some (.int rv)) Hf) : ∀ (x0 : (Option Nat)) (x1 : (Option Nat)) (H : xH), F_X0_outcomeIn_J44 N x0 x1 H = some (rv, Hf) → xWq Z H 44 [xA x0, xA x1, xN] [] := by
  have hz : Z.1 = (cX0_outcomeIn, yX0_outcomeIn, 3) := by rw [hZ]; rfl
  have hδ : Z.2.1 = 48 := by rw [hZ]; rfl
  intro x0 x1 H h
  unfold F_X0_outcomeIn_J44 at h
  refine x_iconst (v := (0 : Int32)) hz dX0_outcomeIn_44 (by decide) ?_
  exact x_wk (xwk_c (xwk_c (xwk_n xwk_0))) ((P_X0_outcomeIn_J45 hZ) x0 x1 (0 : Int32) H h)
noncomputable def F_X0_outcomeIn_J21 (N : Nat) (x0 : (Option Nat)) (x1 : (Option Nat)) (H : xH) : Option (Int32 × xH) :=
  (xgA H x0 0 6).bind fun v1 =>
  if v1 = none then ((F_X0_outcomeIn_J44 N) x0 x1 H) else ((xgA H x0 0 6).bind fun v3 =>
  x_bd2 (F_X1_isTrue N v3 x1 (0 : Int32) H) fun v5 H4 =>
  if v5 = 0 then ((F_X0_outcomeIn_J44 N) x0 x1 H4) else ((F_X0_outcomeIn_J45 N) x0 x1 (1 : Int32) H4))
set_option maxRecDepth 20000 in
set_option maxHeartbeats 4000000 in
theorem P_X0_outcomeIn_J21 {N : Nat} {Z : xZ} {rv : Int32} {Hf : xH} (hZ : Z = xZm cX0_outcomeIn yX0_outcomeIn 3 48 (some .int) (some (.int rv)) Hf) : ∀ (x0 : (Option Nat)) (x1 : (Option Nat)) (H : xH), F_X0_outcomeIn_J21 N x0 x1 H = some (rv, Hf) → xWq Z H 21 [xA x0, xA x1, xN] [] := by
  have hz : Z.1 = (cX0_outcomeIn, yX0_outcomeIn, 3) := by rw [hZ]; rfl
  have hδ : Z.2.1 = 48 := by rw [hZ]; rfl
  intro x0 x1 H h
  unfold F_X0_outcomeIn_J21 at h
  refine x_aload_n hz dX0_outcomeIn_21 rfl ?_
  obtain ⟨v1, e_v1, h⟩ := x_bnd h
  refine x_getA hz dX0_outcomeIn_22 fs_X0_31 e_v1 ?_
  refine x_ifnull (t := 44) hz dX0_outcomeIn_25 (by decide) (fun c2 => ?_) (fun c2 => ?_)
  · replace h := x_ip c2 h
    exact x_wk (xwk_c (xwk_c (xwk_n xwk_0))) ((P_X0_outcomeIn_J44 hZ) x0 x1 H h)
  · replace h := x_in c2 h
    refine x_aload_n hz dX0_outcomeIn_28 rfl ?_
    obtain ⟨v3, e_v3, h⟩ := x_bnd h
    refine x_getA hz dX0_outcomeIn_29 fs_X0_31 e_v3 ?_
    refine x_aload_n hz dX0_outcomeIn_32 rfl ?_
    refine x_iconst (v := (0 : Int32)) hz dX0_outcomeIn_33 (by decide) ?_
    obtain ⟨v5, H4, e_H4, h⟩ := x_b2 h
    refine x_callSi (as := [.inr (.inr v3), .inr (.inr x1), .inl (0 : Int32)]) (st := []) cs_X0_34 rfl rfl hz (by omega) (by decide) dX0_outcomeIn_34 (M_X1_isTrue e_H4) ?_
    refine x_if_eq (t := 44) hz dX0_outcomeIn_37 (by decide) (fun c6 => ?_) (fun c6 => ?_)
    · replace h := x_ip c6 h
      exact x_wk (xwk_c (xwk_c (xwk_n xwk_0))) ((P_X0_outcomeIn_J44 hZ) x0 x1 H4 h)
    · replace h := x_in c6 h
      refine x_iconst (v := (1 : Int32)) hz dX0_outcomeIn_40 (by decide) ?_
      refine x_goto (t := 45) hz dX0_outcomeIn_41 (by decide) ?_
      exact x_wk (xwk_c (xwk_c (xwk_n xwk_0))) ((P_X0_outcomeIn_J45 hZ) x0 x1 (1 : Int32) H4 h)
noncomputable def F_X0_outcomeIn (N : Nat) (a0 : (Option Nat)) (a1 : (Option Nat)) (H : xH) : Option (Int32 × xH) :=
  (xgA H a0 0 5).bind fun v1 =>
  if v1 = none then ((F_X0_outcomeIn_J21 N) a0 a1 H) else ((xgA H a0 0 5).bind fun v3 =>
  x_bd2 (F_X1_isTrue N v3 a1 (0 : Int32) H) fun v5 H4 =>
  if v5 = 0 then ((F_X0_outcomeIn_J21 N) a0 a1 H4) else (some ((0 : Int32), H4)))
set_option maxRecDepth 20000 in
set_option maxHeartbeats 4000000 in
theorem P_X0_outcomeIn {N : Nat} {Z : xZ} {rv : Int32} {Hf : xH} (hZ : Z = xZm cX0_outcomeIn yX0_outcomeIn 3 48 (some .int) (some (.int rv)) Hf) : ∀ (a0 : (Option Nat)) (a1 : (Option Nat)) (H : xH), F_X0_outcomeIn N a0 a1 H = some (rv, Hf) → xWq Z H 0 [xA a0, xA a1, xN] [] := by
  have hz : Z.1 = (cX0_outcomeIn, yX0_outcomeIn, 3) := by rw [hZ]; rfl
  have hδ : Z.2.1 = 48 := by rw [hZ]; rfl
  intro a0 a1 H h
  unfold F_X0_outcomeIn at h
  refine x_aload_n hz dX0_outcomeIn_0 rfl ?_
  obtain ⟨v1, e_v1, h⟩ := x_bnd h
  refine x_getA hz dX0_outcomeIn_1 fs_X0_28 e_v1 ?_
  refine x_ifnull (t := 21) hz dX0_outcomeIn_4 (by decide) (fun c2 => ?_) (fun c2 => ?_)
  · replace h := x_ip c2 h
    exact x_wk (xwk_c (xwk_c (xwk_n xwk_0))) ((P_X0_outcomeIn_J21 hZ) a0 a1 H h)
  · replace h := x_in c2 h
    refine x_aload_n hz dX0_outcomeIn_7 rfl ?_
    obtain ⟨v3, e_v3, h⟩ := x_bnd h
    refine x_getA hz dX0_outcomeIn_8 fs_X0_28 e_v3 ?_
    refine x_aload_n hz dX0_outcomeIn_11 rfl ?_
    refine x_iconst (v := (0 : Int32)) hz dX0_outcomeIn_12 (by decide) ?_
    obtain ⟨v5, H4, e_H4, h⟩ := x_b2 h
    refine x_callSi (as := [.inr (.inr v3), .inr (.inr a1), .inl (0 : Int32)]) (st := []) cs_X0_34 rfl rfl hz (by omega) (by decide) dX0_outcomeIn_13 (M_X1_isTrue e_H4) ?_
    refine x_if_eq (t := 21) hz dX0_outcomeIn_16 (by decide) (fun c6 => ?_) (fun c6 => ?_)
    · replace h := x_ip c6 h
      exact x_wk (xwk_c (xwk_c (xwk_n xwk_0))) ((P_X0_outcomeIn_J21 hZ) a0 a1 H4 h)
    · replace h := x_in c6 h
      refine x_iconst (v := (0 : Int32)) hz dX0_outcomeIn_19 (by decide) ?_
      cases h
      exact x_iret hZ dX0_outcomeIn_20
theorem M_X0_outcomeIn {N : Nat} {a0 : (Option Nat)} {a1 : (Option Nat)} {H H1 : xH} {r1 : Int32} (h : F_X0_outcomeIn N a0 a1 H = some (r1, H1)) : xM yX0_outcomeIn cX0_outcomeIn 3 (some .int) 48 [.inr (.inr a0), .inr (.inr a1)] H (some (.int r1)) H1 :=
  xM_of (by decide +kernel) (xT_tb 266 (by decide +kernel) (by decide +kernel)) (by simp [xargs, x2]) rfl (P_X0_outcomeIn rfl a0 a1 H h)
/-! BettingBook$Bet.coinOf(I)I -/
noncomputable def F_X0_coinOf (N : Nat) (a0 : (Option Nat)) (a1 : Int32) (H : xH) : Option (Int32 × xH) :=
  if a1 = 1 then ((xgI H a0 0 2).bind fun v2 =>
  some ((-v2), H)) else (if a1 = 2 then ((xgI H a0 0 2).bind fun v4 =>
  some (((-2 : Int32) * v4), H)) else (if a1 = 3 then ((xgI H a0 0 3).bind fun v6 =>
  some (v6, H)) else (if a1 = 4 then ((xgI H a0 0 3).bind fun v8 =>
  some (((2 : Int32) * v8), H)) else (some ((0 : Int32), H)))))
set_option maxRecDepth 20000 in
set_option maxHeartbeats 4000000 in
theorem P_X0_coinOf {N : Nat} {Z : xZ} {rv : Int32} {Hf : xH} (hZ : Z = xZm cX0_coinOf yX0_coinOf 2 1 (some .int) (some (.int rv)) Hf) : ∀ (a0 : (Option Nat)) (a1 : Int32) (H : xH), F_X0_coinOf N a0 a1 H = some (rv, Hf) → xWq Z H 0 [xA a0, xI a1] [] := by
  have hz : Z.1 = (cX0_coinOf, yX0_coinOf, 2) := by rw [hZ]; rfl
  have hδ : Z.2.1 = 1 := by rw [hZ]; rfl
  intro a0 a1 H h
  unfold F_X0_coinOf at h
  refine x_iload_n hz dX0_coinOf_0 rfl ?_
  by_cases c1 : a1 = 1
  · replace h := x_ip c1 h
    refine x_tsIn (t := 32) (off := 31) hz dX0_coinOf_1 (by rw [c1]; decide) (by rw [c1]; decide) (by rw [c1]; decide) (by decide) ?_
    refine x_aload_n hz dX0_coinOf_32 rfl ?_
    obtain ⟨v2, e_v2, h⟩ := x_bnd h
    refine x_getI hz dX0_coinOf_33 fs_X0_18 e_v2 ?_
    refine x_ineg hz dX0_coinOf_36 ?_
    cases h
    exact x_iret hZ dX0_coinOf_37
  replace h := x_in c1 h
  by_cases c3 : a1 = 2
  · replace h := x_ip c3 h
    refine x_tsIn (t := 38) (off := 37) hz dX0_coinOf_1 (by rw [c3]; decide) (by rw [c3]; decide) (by rw [c3]; decide) (by decide) ?_
    refine x_bipush (v := (-2 : Int32)) hz dX0_coinOf_38 (by decide) ?_
    refine x_aload_n hz dX0_coinOf_40 rfl ?_
    obtain ⟨v4, e_v4, h⟩ := x_bnd h
    refine x_getI hz dX0_coinOf_41 fs_X0_18 e_v4 ?_
    refine x_imul hz dX0_coinOf_44 ?_
    cases h
    exact x_iret hZ dX0_coinOf_45
  replace h := x_in c3 h
  by_cases c5 : a1 = 3
  · replace h := x_ip c5 h
    refine x_tsIn (t := 46) (off := 45) hz dX0_coinOf_1 (by rw [c5]; decide) (by rw [c5]; decide) (by rw [c5]; decide) (by decide) ?_
    refine x_aload_n hz dX0_coinOf_46 rfl ?_
    obtain ⟨v6, e_v6, h⟩ := x_bnd h
    refine x_getI hz dX0_coinOf_47 fs_X0_21 e_v6 ?_
    cases h
    exact x_iret hZ dX0_coinOf_50
  replace h := x_in c5 h
  by_cases c7 : a1 = 4
  · replace h := x_ip c7 h
    refine x_tsIn (t := 51) (off := 50) hz dX0_coinOf_1 (by rw [c7]; decide) (by rw [c7]; decide) (by rw [c7]; decide) (by decide) ?_
    refine x_iconst (v := (2 : Int32)) hz dX0_coinOf_51 (by decide) ?_
    refine x_aload_n hz dX0_coinOf_52 rfl ?_
    obtain ⟨v8, e_v8, h⟩ := x_bnd h
    refine x_getI hz dX0_coinOf_53 fs_X0_21 e_v8 ?_
    refine x_imul hz dX0_coinOf_56 ?_
    cases h
    exact x_iret hZ dX0_coinOf_57
  replace h := x_in c7 h
  refine x_tsOut (t := 58) hz dX0_coinOf_1 (x_tsN a1 (1) (4) (by decide) (by decide) (fun i h1 h2 => ?_)) (by decide) ?_
  · (have h3 : i = 1 ∨ i = 2 ∨ i = 3 ∨ i = 4 := by omega); rcases h3 with rfl | rfl | rfl | rfl <;> intro e <;> first | exact c1 (Int32.toInt_inj.mp (e.trans rfl)) | exact c3 (Int32.toInt_inj.mp (e.trans rfl)) | exact c5 (Int32.toInt_inj.mp (e.trans rfl)) | exact c7 (Int32.toInt_inj.mp (e.trans rfl))
  refine x_iconst (v := (0 : Int32)) hz dX0_coinOf_58 (by decide) ?_
  cases h
  exact x_iret hZ dX0_coinOf_59
theorem M_X0_coinOf {N : Nat} {a0 : (Option Nat)} {a1 : Int32} {H H1 : xH} {r1 : Int32} (h : F_X0_coinOf N a0 a1 H = some (r1, H1)) : xM yX0_coinOf cX0_coinOf 2 (some .int) 1 [.inr (.inr a0), .inl a1] H (some (.int r1)) H1 :=
  xM_of (by decide +kernel) (xT_tb 729 (by decide +kernel) (by decide +kernel)) (by simp [xargs, x2]) rfl (P_X0_coinOf rfl a0 a1 H h)
/-! BettingBook$Claim.init(IIILBettingBook$Claim;)V -/
noncomputable def F_X1_init (N : Nat) (a0 : (Option Nat)) (a1 : Int32) (a2 : Int32) (a3 : Int32) (a4 : (Option Nat)) (H : xH) : Option xH :=
  (a0).bind fun b1 =>
  (xpI H a0 1 0 a1).bind fun H2 =>
  (xpI H2 a0 1 1 a2).bind fun H3 =>
  (xpI H3 a0 1 2 a3).bind fun H4 =>
  (xpA H4 a0 1 3 a4).bind fun H5 =>
  some H5
set_option maxRecDepth 20000 in
set_option maxHeartbeats 4000000 in
theorem P_X1_init {N : Nat} {Z : xZ} {Hf : xH} (hZ : Z = xZm cX1_init yX1_init 5 2 none none Hf) : ∀ (a0 : (Option Nat)) (a1 : Int32) (a2 : Int32) (a3 : Int32) (a4 : (Option Nat)) (H : xH), F_X1_init N a0 a1 a2 a3 a4 H = some Hf → xWq Z H 0 [xA a0, xI a1, xI a2, xI a3, xA a4] [] := by
  have hz : Z.1 = (cX1_init, yX1_init, 5) := by rw [hZ]; rfl
  have hδ : Z.2.1 = 2 := by rw [hZ]; rfl
  intro a0 a1 a2 a3 a4 H h
  unfold F_X1_init at h
  refine x_aload_n hz dX1_init_0 rfl ?_
  obtain ⟨b1, e_b1, h⟩ := x_bnd h
  refine x_objInit e_b1 hz (by omega) (by decide) ol_X1_1 oi_1 oi_2 dX1_init_1 ?_
  refine x_aload_n hz dX1_init_4 rfl ?_
  refine x_iload_n hz dX1_init_5 rfl ?_
  obtain ⟨H2, e_H2, h⟩ := x_bnd h
  refine x_putF (v := .int a1) hz rfl dX1_init_6 fs_X1_7F rfl rfl e_H2 ?_
  refine x_aload_n hz dX1_init_9 rfl ?_
  refine x_iload_n hz dX1_init_10 rfl ?_
  obtain ⟨H3, e_H3, h⟩ := x_bnd h
  refine x_putF (v := .int a2) hz rfl dX1_init_11 fs_X1_13F rfl rfl e_H3 ?_
  refine x_aload_n hz dX1_init_14 rfl ?_
  refine x_iload_n hz dX1_init_15 rfl ?_
  obtain ⟨H4, e_H4, h⟩ := x_bnd h
  refine x_putF (v := .int a3) hz rfl dX1_init_16 fs_X1_16F rfl rfl e_H4 ?_
  refine x_aload_n hz dX1_init_19 rfl ?_
  refine x_aload hz dX1_init_20 rfl ?_
  obtain ⟨H5, e_H5, h⟩ := x_bnd h
  refine x_putF (v := va_rf a4) hz rfl dX1_init_22 fs_X1_19F (x_nro _ _) (x_fto _ _) e_H5 ?_
  cases h
  exact x_vret hZ dX1_init_25
theorem M_X1_init {N : Nat} {a0 : (Option Nat)} {a1 : Int32} {a2 : Int32} {a3 : Int32} {a4 : (Option Nat)} {H H1 : xH} (h : F_X1_init N a0 a1 a2 a3 a4 H = some H1) : xM yX1_init cX1_init 5 none 2 [.inr (.inr a0), .inl a1, .inl a2, .inl a3, .inr (.inr a4)] H none H1 :=
  xM_of (by decide +kernel) (xT_tb 533 (by decide +kernel) (by decide +kernel)) (by simp [xargs, x2]) rfl (P_X1_init rfl a0 a1 a2 a3 a4 H h)
/-! BettingBook$Claim.of(III)LBettingBook$Claim; -/
noncomputable def F_X1_of (N : Nat) (a0 : Int32) (a1 : Int32) (a2 : Int32) (H : xH) : Option ((Option Nat) × xH) :=
  x_lt (xno 1 5 xdf_1 H) fun H1 =>
  (F_X1_init N (some H.2.1) a0 a1 a2 none H1).bind fun H2 =>
  some ((some H.2.1), H2)
set_option maxRecDepth 20000 in
set_option maxHeartbeats 4000000 in
theorem P_X1_of {N : Nat} {Z : xZ} {rv : (Option Nat)} {Hf : xH} (hZ : Z = xZm cX1_of yX1_of 3 3 (some (.object "BettingBook$Claim")) (some (va_rf rv)) Hf) : ∀ (a0 : Int32) (a1 : Int32) (a2 : Int32) (H : xH), F_X1_of N a0 a1 a2 H = some (rv, Hf) → xWq Z H 0 [xI a0, xI a1, xI a2] [] := by
  have hz : Z.1 = (cX1_of, yX1_of, 3) := by rw [hZ]; rfl
  have hδ : Z.2.1 = 3 := by rw [hZ]; rfl
  intro a0 a1 a2 H h
  unfold F_X1_of at h
  obtain ⟨H1, e_H1, h⟩ := x_ltE h
  refine x_new hz dX1_of_0 ns_X1_8 ?_
  rw [e_H1]
  refine x_dup hz dX1_of_3 (x_rfc _) ?_
  refine x_iload_n hz dX1_of_4 rfl ?_
  refine x_iload_n hz dX1_of_5 rfl ?_
  refine x_iload_n hz dX1_of_6 rfl ?_
  refine x_null hz dX1_of_7 ?_
  obtain ⟨H2, e_H2, h⟩ := x_bnd h
  refine x_callIv (as := [.inl a0, .inl a1, .inl a2, .inr (.inr none)]) (st := [va_rf (some H.2.1)]) cs_X1_23 rfl rfl rfl rfl hz (by omega) (Nat.le_trans (x_sm1 (x_rfc _) x_sm0) (by decide)) dX1_of_8 (M_X1_init e_H2) ?_
  cases h
  exact x_aret hZ dX1_of_11
theorem M_X1_of {N : Nat} {a0 : Int32} {a1 : Int32} {a2 : Int32} {H H1 : xH} {r1 : (Option Nat)} (h : F_X1_of N a0 a1 a2 H = some (r1, H1)) : xM yX1_of cX1_of 3 (some (.object "BettingBook$Claim")) 3 [.inl a0, .inl a1, .inl a2] H (some (va_rf r1)) H1 :=
  xM_of (by decide +kernel) (xT_tb 528 (by decide +kernel) (by decide +kernel)) (by simp [xargs, x2]) rfl (P_X1_of rfl a0 a1 a2 H h)
/-! BettingBook$Claim.over(ILBettingBook$Claim;)LBettingBook$Claim; -/
noncomputable def F_X1_over (N : Nat) (a0 : Int32) (a1 : (Option Nat)) (H : xH) : Option ((Option Nat) × xH) :=
  x_lt (xno 1 5 xdf_1 H) fun H1 =>
  (F_X1_init N (some H.2.1) a0 (0 : Int32) (0 : Int32) a1 H1).bind fun H2 =>
  some ((some H.2.1), H2)
set_option maxRecDepth 20000 in
set_option maxHeartbeats 4000000 in
theorem P_X1_over {N : Nat} {Z : xZ} {rv : (Option Nat)} {Hf : xH} (hZ : Z = xZm cX1_over yX1_over 2 3 (some (.object "BettingBook$Claim")) (some (va_rf rv)) Hf) : ∀ (a0 : Int32) (a1 : (Option Nat)) (H : xH), F_X1_over N a0 a1 H = some (rv, Hf) → xWq Z H 0 [xI a0, xA a1] [] := by
  have hz : Z.1 = (cX1_over, yX1_over, 2) := by rw [hZ]; rfl
  have hδ : Z.2.1 = 3 := by rw [hZ]; rfl
  intro a0 a1 H h
  unfold F_X1_over at h
  obtain ⟨H1, e_H1, h⟩ := x_ltE h
  refine x_new hz dX1_over_0 ns_X1_8 ?_
  rw [e_H1]
  refine x_dup hz dX1_over_3 (x_rfc _) ?_
  refine x_iload_n hz dX1_over_4 rfl ?_
  refine x_iconst (v := (0 : Int32)) hz dX1_over_5 (by decide) ?_
  refine x_iconst (v := (0 : Int32)) hz dX1_over_6 (by decide) ?_
  refine x_aload_n hz dX1_over_7 rfl ?_
  obtain ⟨H2, e_H2, h⟩ := x_bnd h
  refine x_callIv (as := [.inl a0, .inl (0 : Int32), .inl (0 : Int32), .inr (.inr a1)]) (st := [va_rf (some H.2.1)]) cs_X1_23 rfl rfl rfl rfl hz (by omega) (Nat.le_trans (x_sm1 (x_rfc _) x_sm0) (by decide)) dX1_over_8 (M_X1_init e_H2) ?_
  cases h
  exact x_aret hZ dX1_over_11
theorem M_X1_over {N : Nat} {a0 : Int32} {a1 : (Option Nat)} {H H1 : xH} {r1 : (Option Nat)} (h : F_X1_over N a0 a1 H = some (r1, H1)) : xM yX1_over cX1_over 2 (some (.object "BettingBook$Claim")) 3 [.inl a0, .inr (.inr a1)] H (some (va_rf r1)) H1 :=
  xM_of (by decide +kernel) (xT_tb 562 (by decide +kernel) (by decide +kernel)) (by simp [xargs, x2]) rfl (P_X1_over rfl a0 a1 H h)
/-! BettingBook$Club.init()V -/
noncomputable def F_X2_init (N : Nat) (a0 : (Option Nat)) (H : xH) : Option xH :=
  (a0).bind fun b1 =>
  (xnJ H (5 : Int32)).bind fun H2 =>
  (xpA H2 a0 2 5 (some H.2.1)).bind fun H3 =>
  (xnI .int H3 (5 : Int32)).bind fun H4 =>
  (xpA H4 a0 2 6 (some H3.2.1)).bind fun H5 =>
  (xnI .int H5 (5 : Int32)).bind fun H6 =>
  (xpA H6 a0 2 7 (some H5.2.1)).bind fun H7 =>
  (xnJ H7 (6 : Int32)).bind fun H8 =>
  (xpA H8 a0 2 8 (some H7.2.1)).bind fun H9 =>
  (xnI .int H9 (40 : Int32)).bind fun H10 =>
  (xpA H10 a0 2 9 (some H9.2.1)).bind fun H11 =>
  (xnI .int H11 (40 : Int32)).bind fun H12 =>
  (xpA H12 a0 2 10 (some H11.2.1)).bind fun H13 =>
  (xnI .int H13 (40 : Int32)).bind fun H14 =>
  (xpA H14 a0 2 11 (some H13.2.1)).bind fun H15 =>
  (xnA (.object "BettingBook$Bet") H15 (12 : Int32)).bind fun H16 =>
  (xpA H16 a0 2 12 (some H15.2.1)).bind fun H17 =>
  some H17
set_option maxRecDepth 20000 in
set_option maxHeartbeats 4000000 in
theorem P_X2_init {N : Nat} {Z : xZ} {Hf : xH} (hZ : Z = xZm cX2_init yX2_init 1 2 none none Hf) : ∀ (a0 : (Option Nat)) (H : xH), F_X2_init N a0 H = some Hf → xWq Z H 0 [xA a0] [] := by
  have hz : Z.1 = (cX2_init, yX2_init, 1) := by rw [hZ]; rfl
  have hδ : Z.2.1 = 2 := by rw [hZ]; rfl
  intro a0 H h
  unfold F_X2_init at h
  refine x_aload_n hz dX2_init_0 rfl ?_
  obtain ⟨b1, e_b1, h⟩ := x_bnd h
  refine x_objInit e_b1 hz (by omega) (by decide) ol_X2_3 oi_1 oi_2 dX2_init_1 ?_
  refine x_aload_n hz dX2_init_4 rfl ?_
  refine x_iconst (v := (5 : Int32)) hz dX2_init_5 (by decide) ?_
  obtain ⟨H2, e_H2, h⟩ := x_bnd h
  refine x_newJ aw_long hz dX2_init_6 e_H2 ?_
  obtain ⟨H3, e_H3, h⟩ := x_bnd h
  refine x_putF (v := va_rf (some H.2.1)) hz rfl dX2_init_8 fs_X2_9F (x_nra _ _) (x_fta _ _) e_H3 ?_
  refine x_aload_n hz dX2_init_11 rfl ?_
  refine x_iconst (v := (5 : Int32)) hz dX2_init_12 (by decide) ?_
  obtain ⟨H4, e_H4, h⟩ := x_bnd h
  refine x_newI aw_int hz dX2_init_13 e_H4 ?_
  obtain ⟨H5, e_H5, h⟩ := x_bnd h
  refine x_putF (v := va_rf (some H3.2.1)) hz rfl dX2_init_15 fs_X2_15F (x_nra _ _) (x_fta _ _) e_H5 ?_
  refine x_aload_n hz dX2_init_18 rfl ?_
  refine x_iconst (v := (5 : Int32)) hz dX2_init_19 (by decide) ?_
  obtain ⟨H6, e_H6, h⟩ := x_bnd h
  refine x_newI aw_int hz dX2_init_20 e_H6 ?_
  obtain ⟨H7, e_H7, h⟩ := x_bnd h
  refine x_putF (v := va_rf (some H5.2.1)) hz rfl dX2_init_22 fs_X2_19F (x_nra _ _) (x_fta _ _) e_H7 ?_
  refine x_aload_n hz dX2_init_25 rfl ?_
  refine x_bipush (v := (6 : Int32)) hz dX2_init_26 (by decide) ?_
  obtain ⟨H8, e_H8, h⟩ := x_bnd h
  refine x_newJ aw_long hz dX2_init_28 e_H8 ?_
  obtain ⟨H9, e_H9, h⟩ := x_bnd h
  refine x_putF (v := va_rf (some H7.2.1)) hz rfl dX2_init_30 fs_X2_22F (x_nra _ _) (x_fta _ _) e_H9 ?_
  refine x_aload_n hz dX2_init_33 rfl ?_
  refine x_bipush (v := (40 : Int32)) hz dX2_init_34 (by decide) ?_
  obtain ⟨H10, e_H10, h⟩ := x_bnd h
  refine x_newI aw_int hz dX2_init_36 e_H10 ?_
  obtain ⟨H11, e_H11, h⟩ := x_bnd h
  refine x_putF (v := va_rf (some H9.2.1)) hz rfl dX2_init_38 fs_X2_25F (x_nra _ _) (x_fta _ _) e_H11 ?_
  refine x_aload_n hz dX2_init_41 rfl ?_
  refine x_bipush (v := (40 : Int32)) hz dX2_init_42 (by decide) ?_
  obtain ⟨H12, e_H12, h⟩ := x_bnd h
  refine x_newI aw_int hz dX2_init_44 e_H12 ?_
  obtain ⟨H13, e_H13, h⟩ := x_bnd h
  refine x_putF (v := va_rf (some H11.2.1)) hz rfl dX2_init_46 fs_X2_28F (x_nra _ _) (x_fta _ _) e_H13 ?_
  refine x_aload_n hz dX2_init_49 rfl ?_
  refine x_bipush (v := (40 : Int32)) hz dX2_init_50 (by decide) ?_
  obtain ⟨H14, e_H14, h⟩ := x_bnd h
  refine x_newI aw_int hz dX2_init_52 e_H14 ?_
  obtain ⟨H15, e_H15, h⟩ := x_bnd h
  refine x_putF (v := va_rf (some H13.2.1)) hz rfl dX2_init_54 fs_X2_31F (x_nra _ _) (x_fta _ _) e_H15 ?_
  refine x_aload_n hz dX2_init_57 rfl ?_
  refine x_bipush (v := (12 : Int32)) hz dX2_init_58 (by decide) ?_
  obtain ⟨H16, e_H16, h⟩ := x_bnd h
  refine x_newA xTq_Bet (fun _ _ _ h9 => h9.2.1) (xT_tb 56 (by decide +kernel) (by decide +kernel)) hz dX2_init_60 e_H16 ?_
  obtain ⟨H17, e_H17, h⟩ := x_bnd h
  refine x_putF (v := va_rf (some H15.2.1)) hz rfl dX2_init_63 fs_X2_36F (x_nra _ _) (x_fta _ _) e_H17 ?_
  cases h
  exact x_vret hZ dX2_init_66
theorem M_X2_init {N : Nat} {a0 : (Option Nat)} {H H1 : xH} (h : F_X2_init N a0 H = some H1) : xM yX2_init cX2_init 1 none 2 [.inr (.inr a0)] H none H1 :=
  xM_of (by decide +kernel) (xT_tb 54 (by decide +kernel) (by decide +kernel)) (by simp [xargs, x2]) rfl (P_X2_init rfl a0 H h)
/-! BettingBook$Club.hasThing(I)Z -/
noncomputable def F_X2_hasThing (N : Nat) (a0 : (Option Nat)) (a1 : Int32) (H : xH) : Option (Int32 × xH) :=
  if a1 < 0 then (some ((0 : Int32), H)) else ((xgI H a0 2 0).bind fun v2 =>
  if v2 ≤ a1 then (some ((0 : Int32), H)) else (some ((1 : Int32), H)))
set_option maxRecDepth 20000 in
set_option maxHeartbeats 4000000 in
theorem P_X2_hasThing {N : Nat} {Z : xZ} {rv : Int32} {Hf : xH} (hZ : Z = xZm cX2_hasThing yX2_hasThing 2 1 (some .boolean) (some (.int rv)) Hf) : ∀ (a0 : (Option Nat)) (a1 : Int32) (H : xH), F_X2_hasThing N a0 a1 H = some (rv, Hf) → xWq Z H 0 [xA a0, xI a1] [] := by
  have hz : Z.1 = (cX2_hasThing, yX2_hasThing, 2) := by rw [hZ]; rfl
  have hδ : Z.2.1 = 1 := by rw [hZ]; rfl
  intro a0 a1 H h
  unfold F_X2_hasThing at h
  refine x_iload_n hz dX2_hasThing_0 rfl ?_
  refine x_if_lt (t := 16) hz dX2_hasThing_1 (by decide) (fun c1 => ?_) (fun c1 => ?_)
  · replace h := x_ip c1 h
    refine x_iconst (v := (0 : Int32)) hz dX2_hasThing_16 (by decide) ?_
    cases h
    exact x_zret01 hZ (Or.inl rfl) dX2_hasThing_17
  · replace h := x_in c1 h
    refine x_iload_n hz dX2_hasThing_4 rfl ?_
    refine x_aload_n hz dX2_hasThing_5 rfl ?_
    obtain ⟨v2, e_v2, h⟩ := x_bnd h
    refine x_getI hz dX2_hasThing_6 fs_X2_40 e_v2 ?_
    refine x_icmp_ge (t := 16) hz dX2_hasThing_9 (by decide) (fun c3 => ?_) (fun c3 => ?_)
    · replace h := x_ip c3 h
      refine x_iconst (v := (0 : Int32)) hz dX2_hasThing_16 (by decide) ?_
      cases h
      exact x_zret01 hZ (Or.inl rfl) dX2_hasThing_17
    · replace h := x_in c3 h
      refine x_iconst (v := (1 : Int32)) hz dX2_hasThing_12 (by decide) ?_
      refine x_goto (t := 17) hz dX2_hasThing_13 (by decide) ?_
      cases h
      exact x_zret01 hZ (Or.inr rfl) dX2_hasThing_17
theorem M_X2_hasThing {N : Nat} {a0 : (Option Nat)} {a1 : Int32} {H H1 : xH} {r1 : Int32} (h : F_X2_hasThing N a0 a1 H = some (r1, H1)) : xM yX2_hasThing cX2_hasThing 2 (some .boolean) 1 [.inr (.inr a0), .inl a1] H (some (.int r1)) H1 :=
  xM_of (by decide +kernel) (xT_tb 635 (by decide +kernel) (by decide +kernel)) (by simp [xargs, x2]) rfl (P_X2_hasThing rfl a0 a1 H h)
/-! BettingBook$Club.hasMember(I)Z -/
noncomputable def F_X2_hasMember (N : Nat) (a0 : (Option Nat)) (a1 : Int32) (H : xH) : Option (Int32 × xH) :=
  if a1 < 0 then (some ((0 : Int32), H)) else ((xgI H a0 2 1).bind fun v2 =>
  if v2 ≤ a1 then (some ((0 : Int32), H)) else (some ((1 : Int32), H)))
set_option maxRecDepth 20000 in
set_option maxHeartbeats 4000000 in
theorem P_X2_hasMember {N : Nat} {Z : xZ} {rv : Int32} {Hf : xH} (hZ : Z = xZm cX2_hasMember yX2_hasMember 2 1 (some .boolean) (some (.int rv)) Hf) : ∀ (a0 : (Option Nat)) (a1 : Int32) (H : xH), F_X2_hasMember N a0 a1 H = some (rv, Hf) → xWq Z H 0 [xA a0, xI a1] [] := by
  have hz : Z.1 = (cX2_hasMember, yX2_hasMember, 2) := by rw [hZ]; rfl
  have hδ : Z.2.1 = 1 := by rw [hZ]; rfl
  intro a0 a1 H h
  unfold F_X2_hasMember at h
  refine x_iload_n hz dX2_hasMember_0 rfl ?_
  refine x_if_lt (t := 16) hz dX2_hasMember_1 (by decide) (fun c1 => ?_) (fun c1 => ?_)
  · replace h := x_ip c1 h
    refine x_iconst (v := (0 : Int32)) hz dX2_hasMember_16 (by decide) ?_
    cases h
    exact x_zret01 hZ (Or.inl rfl) dX2_hasMember_17
  · replace h := x_in c1 h
    refine x_iload_n hz dX2_hasMember_4 rfl ?_
    refine x_aload_n hz dX2_hasMember_5 rfl ?_
    obtain ⟨v2, e_v2, h⟩ := x_bnd h
    refine x_getI hz dX2_hasMember_6 fs_X2_44 e_v2 ?_
    refine x_icmp_ge (t := 16) hz dX2_hasMember_9 (by decide) (fun c3 => ?_) (fun c3 => ?_)
    · replace h := x_ip c3 h
      refine x_iconst (v := (0 : Int32)) hz dX2_hasMember_16 (by decide) ?_
      cases h
      exact x_zret01 hZ (Or.inl rfl) dX2_hasMember_17
    · replace h := x_in c3 h
      refine x_iconst (v := (1 : Int32)) hz dX2_hasMember_12 (by decide) ?_
      refine x_goto (t := 17) hz dX2_hasMember_13 (by decide) ?_
      cases h
      exact x_zret01 hZ (Or.inr rfl) dX2_hasMember_17
theorem M_X2_hasMember {N : Nat} {a0 : (Option Nat)} {a1 : Int32} {H H1 : xH} {r1 : Int32} (h : F_X2_hasMember N a0 a1 H = some (r1, H1)) : xM yX2_hasMember cX2_hasMember 2 (some .boolean) 1 [.inr (.inr a0), .inl a1] H (some (.int r1)) H1 :=
  xM_of (by decide +kernel) (xT_tb 675 (by decide +kernel) (by decide +kernel)) (by simp [xargs, x2]) rfl (P_X2_hasMember rfl a0 a1 H h)
/-! BettingBook$Club.betAt(I)LBettingBook$Bet; -/
noncomputable def F_X2_betAt (N : Nat) (a0 : (Option Nat)) (a1 : Int32) (H : xH) : Option ((Option Nat) × xH) :=
  if a1 < 0 then (some (none, H)) else ((xgI H a0 2 2).bind fun v2 =>
  if v2 ≤ a1 then (some (none, H)) else ((xgA H a0 2 12).bind fun v4 =>
  (xal (.object "BettingBook$Bet") H v4).bind fun v5 =>
  if v5 ≤ a1 then (some (none, H)) else ((xgA H a0 2 12).bind fun v7 =>
  (xlA (.object "BettingBook$Bet") H v7 a1).bind fun v8 =>
  some (v8, H))))
set_option maxRecDepth 20000 in
set_option maxHeartbeats 4000000 in
theorem P_X2_betAt {N : Nat} {Z : xZ} {rv : (Option Nat)} {Hf : xH} (hZ : Z = xZm cX2_betAt yX2_betAt 2 1 (some (.object "BettingBook$Bet")) (some (va_rf rv)) Hf) : ∀ (a0 : (Option Nat)) (a1 : Int32) (H : xH), F_X2_betAt N a0 a1 H = some (rv, Hf) → xWq Z H 0 [xA a0, xI a1] [] := by
  have hz : Z.1 = (cX2_betAt, yX2_betAt, 2) := by rw [hZ]; rfl
  have hδ : Z.2.1 = 1 := by rw [hZ]; rfl
  intro a0 a1 H h
  unfold F_X2_betAt at h
  refine x_iload_n hz dX2_betAt_0 rfl ?_
  refine x_if_lt (t := 30) hz dX2_betAt_1 (by decide) (fun c1 => ?_) (fun c1 => ?_)
  · replace h := x_ip c1 h
    refine x_null hz dX2_betAt_30 ?_
    cases h
    exact x_aret hZ dX2_betAt_31
  · replace h := x_in c1 h
    refine x_iload_n hz dX2_betAt_4 rfl ?_
    refine x_aload_n hz dX2_betAt_5 rfl ?_
    obtain ⟨v2, e_v2, h⟩ := x_bnd h
    refine x_getI hz dX2_betAt_6 fs_X2_47 e_v2 ?_
    refine x_icmp_ge (t := 30) hz dX2_betAt_9 (by decide) (fun c3 => ?_) (fun c3 => ?_)
    · replace h := x_ip c3 h
      refine x_null hz dX2_betAt_30 ?_
      cases h
      exact x_aret hZ dX2_betAt_31
    · replace h := x_in c3 h
      refine x_iload_n hz dX2_betAt_12 rfl ?_
      refine x_aload_n hz dX2_betAt_13 rfl ?_
      obtain ⟨v4, e_v4, h⟩ := x_bnd h
      refine x_getA hz dX2_betAt_14 fs_X2_36 e_v4 ?_
      obtain ⟨v5, e_v5, h⟩ := x_bnd h
      refine x_alen (t0 := 4) (fun _ => rfl) hz dX2_betAt_17 e_v5 ?_
      refine x_icmp_ge (t := 30) hz dX2_betAt_18 (by decide) (fun c6 => ?_) (fun c6 => ?_)
      · replace h := x_ip c6 h
        refine x_null hz dX2_betAt_30 ?_
        cases h
        exact x_aret hZ dX2_betAt_31
      · replace h := x_in c6 h
        refine x_aload_n hz dX2_betAt_21 rfl ?_
        obtain ⟨v7, e_v7, h⟩ := x_bnd h
        refine x_getA hz dX2_betAt_22 fs_X2_36 e_v7 ?_
        refine x_iload_n hz dX2_betAt_25 rfl ?_
        obtain ⟨v8, e_v8, h⟩ := x_bnd h
        refine x_aald xTq_Bet hz dX2_betAt_26 e_v8 ?_
        refine x_goto (t := 31) hz dX2_betAt_27 (by decide) ?_
        cases h
        exact x_aret hZ dX2_betAt_31
theorem M_X2_betAt {N : Nat} {a0 : (Option Nat)} {a1 : Int32} {H H1 : xH} {r1 : (Option Nat)} (h : F_X2_betAt N a0 a1 H = some (r1, H1)) : xM yX2_betAt cX2_betAt 2 (some (.object "BettingBook$Bet")) 1 [.inr (.inr a0), .inl a1] H (some (va_rf r1)) H1 :=
  xM_of (by decide +kernel) (xT_tb 622 (by decide +kernel) (by decide +kernel)) (by simp [xargs, x2]) rfl (P_X2_betAt rfl a0 a1 H h)
/-! BettingBook$Club.isFree(J)Z -/
noncomputable def F_X2_isFree_J52 (N : Nat) (k15 : (Option Nat) → Int64 → Int32 → Int32 → xH → Option (Int32 × xH)) (x0 : (Option Nat)) (x1 : Int64) (x4 : Int32) (s0 : Int32) (s1 : Int32) (H : xH) : Option (Int32 × xH) :=
  k15 x0 x1 (s0 &&& s1) (x4 + 1) H
set_option maxRecDepth 20000 in
set_option maxHeartbeats 4000000 in
theorem P_X2_isFree_J52 {N : Nat} {Z : xZ} {rv : Int32} {Hf : xH} (hZ : Z = xZm cX2_isFree yX2_isFree 5 1 (some .boolean) (some (.int rv)) Hf) {k15 : (Option Nat) → Int64 → Int32 → Int32 → xH → Option (Int32 × xH)} (hk15 : ∀ (x0 : (Option Nat)) (x1 : Int64) (x3 : Int32) (x4 : Int32) (H : xH), k15 x0 x1 x3 x4 H = some (rv, Hf) → xWq Z H 15 [xA x0, xJ x1, xN, xI x3, xI x4] []) : ∀ (x0 : (Option Nat)) (x1 : Int64) (x4 : Int32) (s0 : Int32) (s1 : Int32) (H : xH), F_X2_isFree_J52 N k15 x0 x1 x4 s0 s1 H = some (rv, Hf) → xWq Z H 52 [xA x0, xJ x1, xN, xN, xI x4] [.int s1, .int s0] := by
  have hz : Z.1 = (cX2_isFree, yX2_isFree, 5) := by rw [hZ]; rfl
  have hδ : Z.2.1 = 1 := by rw [hZ]; rfl
  intro x0 x1 x4 s0 s1 H h
  unfold F_X2_isFree_J52 at h
  refine x_iand hz dX2_isFree_52 ?_
  refine x_istore_n (pl' := [xA x0, xJ x1, xN, xI (s0 &&& s1), xI x4]) hz dX2_isFree_53 (by decide) rfl ?_
  refine x_iinc (w := (x4 + 1)) (pl' := [xA x0, xJ x1, xN, xI (s0 &&& s1), xI (x4 + 1)]) hz dX2_isFree_54 rfl rfl (by decide) rfl ?_
  refine x_goto (t := 15) hz dX2_isFree_57 (by decide) ?_
  exact x_wk (xwk_c (xwk_c (xwk_n (xwk_c (xwk_c xwk_0))))) (hk15 x0 x1 (s0 &&& s1) (x4 + 1) H h)
noncomputable def F_X2_isFree_J15 (N : Nat) (k15 : (Option Nat) → Int64 → Int32 → Int32 → xH → Option (Int32 × xH)) (k60 : (Option Nat) → Int64 → Int32 → xH → Option (Int32 × xH)) (x0 : (Option Nat)) (x1 : Int64) (x3 : Int32) (x4 : Int32) (H : xH) : Option (Int32 × xH) :=
  (xgI H x0 2 0).bind fun v1 =>
  if v1 ≤ x4 then (k60 x0 x1 x3 H) else ((xgA H x0 2 5).bind fun v3 =>
  (xal .long H v3).bind fun v4 =>
  if v4 ≤ x4 then (k60 x0 x1 x3 H) else ((xgA H x0 2 5).bind fun v6 =>
  (xlJ H v6 x4).bind fun v7 =>
  if (lg_cmp v7 x1) = 0 then ((F_X2_isFree_J52 N k15) x0 x1 x4 x3 (0 : Int32) H) else ((F_X2_isFree_J52 N k15) x0 x1 x4 x3 (1 : Int32) H)))
set_option maxRecDepth 20000 in
set_option maxHeartbeats 4000000 in
theorem P_X2_isFree_J15 {N : Nat} {Z : xZ} {rv : Int32} {Hf : xH} (hZ : Z = xZm cX2_isFree yX2_isFree 5 1 (some .boolean) (some (.int rv)) Hf) {k15 : (Option Nat) → Int64 → Int32 → Int32 → xH → Option (Int32 × xH)} (hk15 : ∀ (x0 : (Option Nat)) (x1 : Int64) (x3 : Int32) (x4 : Int32) (H : xH), k15 x0 x1 x3 x4 H = some (rv, Hf) → xWq Z H 15 [xA x0, xJ x1, xN, xI x3, xI x4] []) {k60 : (Option Nat) → Int64 → Int32 → xH → Option (Int32 × xH)} (hk60 : ∀ (x0 : (Option Nat)) (x1 : Int64) (x3 : Int32) (H : xH), k60 x0 x1 x3 H = some (rv, Hf) → xWq Z H 60 [xA x0, xJ x1, xN, xI x3, xN] []) : ∀ (x0 : (Option Nat)) (x1 : Int64) (x3 : Int32) (x4 : Int32) (H : xH), F_X2_isFree_J15 N k15 k60 x0 x1 x3 x4 H = some (rv, Hf) → xWq Z H 15 [xA x0, xJ x1, xN, xI x3, xI x4] [] := by
  have hz : Z.1 = (cX2_isFree, yX2_isFree, 5) := by rw [hZ]; rfl
  have hδ : Z.2.1 = 1 := by rw [hZ]; rfl
  intro x0 x1 x3 x4 H h
  unfold F_X2_isFree_J15 at h
  refine x_iload hz dX2_isFree_15 rfl ?_
  refine x_aload_n hz dX2_isFree_17 rfl ?_
  obtain ⟨v1, e_v1, h⟩ := x_bnd h
  refine x_getI hz dX2_isFree_18 fs_X2_40 e_v1 ?_
  refine x_icmp_ge (t := 60) hz dX2_isFree_21 (by decide) (fun c2 => ?_) (fun c2 => ?_)
  · replace h := x_ip c2 h
    exact x_wk (xwk_c (xwk_c (xwk_n (xwk_c (xwk_n xwk_0))))) (hk60 x0 x1 x3 H h)
  · replace h := x_in c2 h
    refine x_iload hz dX2_isFree_24 rfl ?_
    refine x_aload_n hz dX2_isFree_26 rfl ?_
    obtain ⟨v3, e_v3, h⟩ := x_bnd h
    refine x_getA hz dX2_isFree_27 fs_X2_9 e_v3 ?_
    obtain ⟨v4, e_v4, h⟩ := x_bnd h
    refine x_alen (t0 := 1) (fun _ => rfl) hz dX2_isFree_30 e_v4 ?_
    refine x_icmp_ge (t := 60) hz dX2_isFree_31 (by decide) (fun c5 => ?_) (fun c5 => ?_)
    · replace h := x_ip c5 h
      exact x_wk (xwk_c (xwk_c (xwk_n (xwk_c (xwk_n xwk_0))))) (hk60 x0 x1 x3 H h)
    · replace h := x_in c5 h
      refine x_iload_n hz dX2_isFree_34 rfl ?_
      refine x_aload_n hz dX2_isFree_35 rfl ?_
      obtain ⟨v6, e_v6, h⟩ := x_bnd h
      refine x_getA hz dX2_isFree_36 fs_X2_9 e_v6 ?_
      refine x_iload hz dX2_isFree_39 rfl ?_
      obtain ⟨v7, e_v7, h⟩ := x_bnd h
      refine x_lald hz dX2_isFree_41 e_v7 ?_
      refine x_lload_n hz dX2_isFree_42 rfl ?_
      refine x_lcmp hz dX2_isFree_43 ?_
      refine x_if_eq (t := 51) hz dX2_isFree_44 (by decide) (fun c8 => ?_) (fun c8 => ?_)
      · replace h := x_ip c8 h
        refine x_iconst (v := (0 : Int32)) hz dX2_isFree_51 (by decide) ?_
        exact x_wk (xwk_c (xwk_c (xwk_n (xwk_n (xwk_c xwk_0))))) ((P_X2_isFree_J52 hZ hk15) x0 x1 x4 x3 (0 : Int32) H h)
      · replace h := x_in c8 h
        refine x_iconst (v := (1 : Int32)) hz dX2_isFree_47 (by decide) ?_
        refine x_goto (t := 52) hz dX2_isFree_48 (by decide) ?_
        exact x_wk (xwk_c (xwk_c (xwk_n (xwk_n (xwk_c xwk_0))))) ((P_X2_isFree_J52 hZ hk15) x0 x1 x4 x3 (1 : Int32) H h)
noncomputable def F_X2_isFree_L15 (N : Nat) (k60 : (Option Nat) → Int64 → Int32 → xH → Option (Int32 × xH)) : Nat → (Option Nat) → Int64 → Int32 → Int32 → xH → Option (Int32 × xH)
  | 0 => fun _ _ _ _ _ => none
  | n + 1 => F_X2_isFree_J15 N (F_X2_isFree_L15 N k60 n) k60
theorem P_X2_isFree_L15 {N : Nat} {Z : xZ} {rv : Int32} {Hf : xH} (hZ : Z = xZm cX2_isFree yX2_isFree 5 1 (some .boolean) (some (.int rv)) Hf) {k60 : (Option Nat) → Int64 → Int32 → xH → Option (Int32 × xH)} (hk60 : ∀ (x0 : (Option Nat)) (x1 : Int64) (x3 : Int32) (H : xH), k60 x0 x1 x3 H = some (rv, Hf) → xWq Z H 60 [xA x0, xJ x1, xN, xI x3, xN] []) : ∀ (n : Nat) (x0 : (Option Nat)) (x1 : Int64) (x3 : Int32) (x4 : Int32) (H : xH), F_X2_isFree_L15 N k60 n x0 x1 x3 x4 H = some (rv, Hf) → xWq Z H 15 [xA x0, xJ x1, xN, xI x3, xI x4] [] := by
  intro n
  induction n with
  | zero => intro _ _ _ _ _ h; cases h
  | succ n ih => exact P_X2_isFree_J15 hZ ih hk60
noncomputable def F_X2_isFree_J100 (N : Nat) (k63 : (Option Nat) → Int64 → Int32 → Int32 → xH → Option (Int32 × xH)) (x0 : (Option Nat)) (x1 : Int64) (x4 : Int32) (s0 : Int32) (s1 : Int32) (H : xH) : Option (Int32 × xH) :=
  k63 x0 x1 (s0 &&& s1) (x4 + 1) H
set_option maxRecDepth 20000 in
set_option maxHeartbeats 4000000 in
theorem P_X2_isFree_J100 {N : Nat} {Z : xZ} {rv : Int32} {Hf : xH} (hZ : Z = xZm cX2_isFree yX2_isFree 5 1 (some .boolean) (some (.int rv)) Hf) {k63 : (Option Nat) → Int64 → Int32 → Int32 → xH → Option (Int32 × xH)} (hk63 : ∀ (x0 : (Option Nat)) (x1 : Int64) (x3 : Int32) (x4 : Int32) (H : xH), k63 x0 x1 x3 x4 H = some (rv, Hf) → xWq Z H 63 [xA x0, xJ x1, xN, xI x3, xI x4] []) : ∀ (x0 : (Option Nat)) (x1 : Int64) (x4 : Int32) (s0 : Int32) (s1 : Int32) (H : xH), F_X2_isFree_J100 N k63 x0 x1 x4 s0 s1 H = some (rv, Hf) → xWq Z H 100 [xA x0, xJ x1, xN, xN, xI x4] [.int s1, .int s0] := by
  have hz : Z.1 = (cX2_isFree, yX2_isFree, 5) := by rw [hZ]; rfl
  have hδ : Z.2.1 = 1 := by rw [hZ]; rfl
  intro x0 x1 x4 s0 s1 H h
  unfold F_X2_isFree_J100 at h
  refine x_iand hz dX2_isFree_100 ?_
  refine x_istore_n (pl' := [xA x0, xJ x1, xN, xI (s0 &&& s1), xI x4]) hz dX2_isFree_101 (by decide) rfl ?_
  refine x_iinc (w := (x4 + 1)) (pl' := [xA x0, xJ x1, xN, xI (s0 &&& s1), xI (x4 + 1)]) hz dX2_isFree_102 rfl rfl (by decide) rfl ?_
  refine x_goto (t := 63) hz dX2_isFree_105 (by decide) ?_
  exact x_wk (xwk_c (xwk_c (xwk_n (xwk_c (xwk_c xwk_0))))) (hk63 x0 x1 (s0 &&& s1) (x4 + 1) H h)
noncomputable def F_X2_isFree_J63 (N : Nat) (k63 : (Option Nat) → Int64 → Int32 → Int32 → xH → Option (Int32 × xH)) (x0 : (Option Nat)) (x1 : Int64) (x3 : Int32) (x4 : Int32) (H : xH) : Option (Int32 × xH) :=
  (xgI H x0 2 1).bind fun v1 =>
  if v1 ≤ x4 then (if x3 = 0 ∨ x3 = 1 then some (x3, H) else none) else ((xgA H x0 2 8).bind fun v4 =>
  (xal .long H v4).bind fun v5 =>
  if v5 ≤ x4 then (if x3 = 0 ∨ x3 = 1 then some (x3, H) else none) else ((xgA H x0 2 8).bind fun v8 =>
  (xlJ H v8 x4).bind fun v9 =>
  if (lg_cmp v9 x1) = 0 then ((F_X2_isFree_J100 N k63) x0 x1 x4 x3 (0 : Int32) H) else ((F_X2_isFree_J100 N k63) x0 x1 x4 x3 (1 : Int32) H)))
set_option maxRecDepth 20000 in
set_option maxHeartbeats 4000000 in
theorem P_X2_isFree_J63 {N : Nat} {Z : xZ} {rv : Int32} {Hf : xH} (hZ : Z = xZm cX2_isFree yX2_isFree 5 1 (some .boolean) (some (.int rv)) Hf) {k63 : (Option Nat) → Int64 → Int32 → Int32 → xH → Option (Int32 × xH)} (hk63 : ∀ (x0 : (Option Nat)) (x1 : Int64) (x3 : Int32) (x4 : Int32) (H : xH), k63 x0 x1 x3 x4 H = some (rv, Hf) → xWq Z H 63 [xA x0, xJ x1, xN, xI x3, xI x4] []) : ∀ (x0 : (Option Nat)) (x1 : Int64) (x3 : Int32) (x4 : Int32) (H : xH), F_X2_isFree_J63 N k63 x0 x1 x3 x4 H = some (rv, Hf) → xWq Z H 63 [xA x0, xJ x1, xN, xI x3, xI x4] [] := by
  have hz : Z.1 = (cX2_isFree, yX2_isFree, 5) := by rw [hZ]; rfl
  have hδ : Z.2.1 = 1 := by rw [hZ]; rfl
  intro x0 x1 x3 x4 H h
  unfold F_X2_isFree_J63 at h
  refine x_iload hz dX2_isFree_63 rfl ?_
  refine x_aload_n hz dX2_isFree_65 rfl ?_
  obtain ⟨v1, e_v1, h⟩ := x_bnd h
  refine x_getI hz dX2_isFree_66 fs_X2_44 e_v1 ?_
  refine x_icmp_ge (t := 108) hz dX2_isFree_69 (by decide) (fun c2 => ?_) (fun c2 => ?_)
  · replace h := x_ip c2 h
    refine x_iload_n hz dX2_isFree_108 rfl ?_
    obtain ⟨c3, h⟩ := x_inv h
    cases h
    exact x_zret01 hZ c3 dX2_isFree_109
  · replace h := x_in c2 h
    refine x_iload hz dX2_isFree_72 rfl ?_
    refine x_aload_n hz dX2_isFree_74 rfl ?_
    obtain ⟨v4, e_v4, h⟩ := x_bnd h
    refine x_getA hz dX2_isFree_75 fs_X2_22 e_v4 ?_
    obtain ⟨v5, e_v5, h⟩ := x_bnd h
    refine x_alen (t0 := 1) (fun _ => rfl) hz dX2_isFree_78 e_v5 ?_
    refine x_icmp_ge (t := 108) hz dX2_isFree_79 (by decide) (fun c6 => ?_) (fun c6 => ?_)
    · replace h := x_ip c6 h
      refine x_iload_n hz dX2_isFree_108 rfl ?_
      obtain ⟨c7, h⟩ := x_inv h
      cases h
      exact x_zret01 hZ c7 dX2_isFree_109
    · replace h := x_in c6 h
      refine x_iload_n hz dX2_isFree_82 rfl ?_
      refine x_aload_n hz dX2_isFree_83 rfl ?_
      obtain ⟨v8, e_v8, h⟩ := x_bnd h
      refine x_getA hz dX2_isFree_84 fs_X2_22 e_v8 ?_
      refine x_iload hz dX2_isFree_87 rfl ?_
      obtain ⟨v9, e_v9, h⟩ := x_bnd h
      refine x_lald hz dX2_isFree_89 e_v9 ?_
      refine x_lload_n hz dX2_isFree_90 rfl ?_
      refine x_lcmp hz dX2_isFree_91 ?_
      refine x_if_eq (t := 99) hz dX2_isFree_92 (by decide) (fun c10 => ?_) (fun c10 => ?_)
      · replace h := x_ip c10 h
        refine x_iconst (v := (0 : Int32)) hz dX2_isFree_99 (by decide) ?_
        exact x_wk (xwk_c (xwk_c (xwk_n (xwk_n (xwk_c xwk_0))))) ((P_X2_isFree_J100 hZ hk63) x0 x1 x4 x3 (0 : Int32) H h)
      · replace h := x_in c10 h
        refine x_iconst (v := (1 : Int32)) hz dX2_isFree_95 (by decide) ?_
        refine x_goto (t := 100) hz dX2_isFree_96 (by decide) ?_
        exact x_wk (xwk_c (xwk_c (xwk_n (xwk_n (xwk_c xwk_0))))) ((P_X2_isFree_J100 hZ hk63) x0 x1 x4 x3 (1 : Int32) H h)
noncomputable def F_X2_isFree_L63 (N : Nat) : Nat → (Option Nat) → Int64 → Int32 → Int32 → xH → Option (Int32 × xH)
  | 0 => fun _ _ _ _ _ => none
  | n + 1 => F_X2_isFree_J63 N (F_X2_isFree_L63 N n)
theorem P_X2_isFree_L63 {N : Nat} {Z : xZ} {rv : Int32} {Hf : xH} (hZ : Z = xZm cX2_isFree yX2_isFree 5 1 (some .boolean) (some (.int rv)) Hf) : ∀ (n : Nat) (x0 : (Option Nat)) (x1 : Int64) (x3 : Int32) (x4 : Int32) (H : xH), F_X2_isFree_L63 N n x0 x1 x3 x4 H = some (rv, Hf) → xWq Z H 63 [xA x0, xJ x1, xN, xI x3, xI x4] [] := by
  intro n
  induction n with
  | zero => intro _ _ _ _ _ h; cases h
  | succ n ih => exact P_X2_isFree_J63 hZ ih
noncomputable def F_X2_isFree_J60 (N : Nat) (x0 : (Option Nat)) (x1 : Int64) (x3 : Int32) (H : xH) : Option (Int32 × xH) :=
  (F_X2_isFree_L63 N N) x0 x1 x3 (0 : Int32) H
set_option maxRecDepth 20000 in
set_option maxHeartbeats 4000000 in
theorem P_X2_isFree_J60 {N : Nat} {Z : xZ} {rv : Int32} {Hf : xH} (hZ : Z = xZm cX2_isFree yX2_isFree 5 1 (some .boolean) (some (.int rv)) Hf) : ∀ (x0 : (Option Nat)) (x1 : Int64) (x3 : Int32) (H : xH), F_X2_isFree_J60 N x0 x1 x3 H = some (rv, Hf) → xWq Z H 60 [xA x0, xJ x1, xN, xI x3, xN] [] := by
  have hz : Z.1 = (cX2_isFree, yX2_isFree, 5) := by rw [hZ]; rfl
  have hδ : Z.2.1 = 1 := by rw [hZ]; rfl
  intro x0 x1 x3 H h
  unfold F_X2_isFree_J60 at h
  refine x_iconst (v := (0 : Int32)) hz dX2_isFree_60 (by decide) ?_
  refine x_istore (pl' := [xA x0, xJ x1, xN, xI x3, xI (0 : Int32)]) hz dX2_isFree_61 (by decide) rfl ?_
  exact x_wk (xwk_c (xwk_c (xwk_n (xwk_c (xwk_c xwk_0))))) ((P_X2_isFree_L63 hZ N) x0 x1 x3 (0 : Int32) H h)
noncomputable def F_X2_isFree_J11 (N : Nat) (x0 : (Option Nat)) (x1 : Int64) (s0 : Int32) (H : xH) : Option (Int32 × xH) :=
  (F_X2_isFree_L15 N (F_X2_isFree_J60 N) N) x0 x1 s0 (0 : Int32) H
set_option maxRecDepth 20000 in
set_option maxHeartbeats 4000000 in
theorem P_X2_isFree_J11 {N : Nat} {Z : xZ} {rv : Int32} {Hf : xH} (hZ : Z = xZm cX2_isFree yX2_isFree 5 1 (some .boolean) (some (.int rv)) Hf) : ∀ (x0 : (Option Nat)) (x1 : Int64) (s0 : Int32) (H : xH), F_X2_isFree_J11 N x0 x1 s0 H = some (rv, Hf) → xWq Z H 11 [xA x0, xJ x1, xN, xN, xN] [.int s0] := by
  have hz : Z.1 = (cX2_isFree, yX2_isFree, 5) := by rw [hZ]; rfl
  have hδ : Z.2.1 = 1 := by rw [hZ]; rfl
  intro x0 x1 s0 H h
  unfold F_X2_isFree_J11 at h
  refine x_istore_n (pl' := [xA x0, xJ x1, xN, xI s0, xN]) hz dX2_isFree_11 (by decide) rfl ?_
  refine x_iconst (v := (0 : Int32)) hz dX2_isFree_12 (by decide) ?_
  refine x_istore (pl' := [xA x0, xJ x1, xN, xI s0, xI (0 : Int32)]) hz dX2_isFree_13 (by decide) rfl ?_
  exact x_wk (xwk_c (xwk_c (xwk_n (xwk_c (xwk_c xwk_0))))) ((P_X2_isFree_L15 hZ (P_X2_isFree_J60 hZ) N) x0 x1 s0 (0 : Int32) H h)
noncomputable def F_X2_isFree (N : Nat) (a0 : (Option Nat)) (a1 : Int64) (H : xH) : Option (Int32 × xH) :=
  if (lg_cmp a1 (0 : Int64)) = 0 then ((F_X2_isFree_J11 N) a0 a1 (0 : Int32) H) else ((F_X2_isFree_J11 N) a0 a1 (1 : Int32) H)
set_option maxRecDepth 20000 in
set_option maxHeartbeats 4000000 in
theorem P_X2_isFree {N : Nat} {Z : xZ} {rv : Int32} {Hf : xH} (hZ : Z = xZm cX2_isFree yX2_isFree 5 1 (some .boolean) (some (.int rv)) Hf) : ∀ (a0 : (Option Nat)) (a1 : Int64) (H : xH), F_X2_isFree N a0 a1 H = some (rv, Hf) → xWq Z H 0 [xA a0, xJ a1, xN, xN, xN] [] := by
  have hz : Z.1 = (cX2_isFree, yX2_isFree, 5) := by rw [hZ]; rfl
  have hδ : Z.2.1 = 1 := by rw [hZ]; rfl
  intro a0 a1 H h
  unfold F_X2_isFree at h
  refine x_lload_n hz dX2_isFree_0 rfl ?_
  refine x_lconst (v := (0 : Int64)) hz dX2_isFree_1 (by decide) ?_
  refine x_lcmp hz dX2_isFree_2 ?_
  refine x_if_eq (t := 10) hz dX2_isFree_3 (by decide) (fun c1 => ?_) (fun c1 => ?_)
  · replace h := x_ip c1 h
    refine x_iconst (v := (0 : Int32)) hz dX2_isFree_10 (by decide) ?_
    exact x_wk (xwk_c (xwk_c (xwk_n (xwk_n (xwk_n xwk_0))))) ((P_X2_isFree_J11 hZ) a0 a1 (0 : Int32) H h)
  · replace h := x_in c1 h
    refine x_iconst (v := (1 : Int32)) hz dX2_isFree_6 (by decide) ?_
    refine x_goto (t := 11) hz dX2_isFree_7 (by decide) ?_
    exact x_wk (xwk_c (xwk_c (xwk_n (xwk_n (xwk_n xwk_0))))) ((P_X2_isFree_J11 hZ) a0 a1 (1 : Int32) H h)
theorem M_X2_isFree {N : Nat} {a0 : (Option Nat)} {a1 : Int64} {H H1 : xH} {r1 : Int32} (h : F_X2_isFree N a0 a1 H = some (r1, H1)) : xM yX2_isFree cX2_isFree 5 (some .boolean) 1 [.inr (.inr a0), .inr (.inl a1)] H (some (.int r1)) H1 :=
  xM_of (by decide +kernel) (xT_tb 438 (by decide +kernel) (by decide +kernel)) (by simp [xargs, x2]) rfl (P_X2_isFree rfl a0 a1 H h)
/-! BettingBook.set([III)V -/
noncomputable def F_X11_set (N : Nat) (a0 : (Option Nat)) (a1 : Int32) (a2 : Int32) (H : xH) : Option xH :=
  if a0 = none then (some H) else (if a1 < 0 then (some H) else ((xal .int H a0).bind fun v3 =>
  if v3 ≤ a1 then (some H) else ((xsI .int H a0 a1 a2).bind fun H5 =>
  some H5)))
set_option maxRecDepth 20000 in
set_option maxHeartbeats 4000000 in
theorem P_X11_set {N : Nat} {Z : xZ} {Hf : xH} (hZ : Z = xZm cX11_set yX11_set 3 1 none none Hf) : ∀ (a0 : (Option Nat)) (a1 : Int32) (a2 : Int32) (H : xH), F_X11_set N a0 a1 a2 H = some Hf → xWq Z H 0 [xA a0, xI a1, xI a2] [] := by
  have hz : Z.1 = (cX11_set, yX11_set, 3) := by rw [hZ]; rfl
  have hδ : Z.2.1 = 1 := by rw [hZ]; rfl
  intro a0 a1 a2 H h
  unfold F_X11_set at h
  refine x_aload_n hz dX11_set_0 rfl ?_
  refine x_ifnull (t := 18) hz dX11_set_1 (by decide) (fun c1 => ?_) (fun c1 => ?_)
  · replace h := x_ip c1 h
    cases h
    exact x_vret hZ dX11_set_18
  · replace h := x_in c1 h
    refine x_iload_n hz dX11_set_4 rfl ?_
    refine x_if_lt (t := 18) hz dX11_set_5 (by decide) (fun c2 => ?_) (fun c2 => ?_)
    · replace h := x_ip c2 h
      cases h
      exact x_vret hZ dX11_set_18
    · replace h := x_in c2 h
      refine x_iload_n hz dX11_set_8 rfl ?_
      refine x_aload_n hz dX11_set_9 rfl ?_
      obtain ⟨v3, e_v3, h⟩ := x_bnd h
      refine x_alen (t0 := 0) (fun _ => rfl) hz dX11_set_10 e_v3 ?_
      refine x_icmp_ge (t := 18) hz dX11_set_11 (by decide) (fun c4 => ?_) (fun c4 => ?_)
      · replace h := x_ip c4 h
        cases h
        exact x_vret hZ dX11_set_18
      · replace h := x_in c4 h
        refine x_aload_n hz dX11_set_14 rfl ?_
        refine x_iload_n hz dX11_set_15 rfl ?_
        refine x_iload_n hz dX11_set_16 rfl ?_
        obtain ⟨H5, e_H5, h⟩ := x_bnd h
        refine x_iast hz dX11_set_17 e_H5 ?_
        cases h
        exact x_vret hZ dX11_set_18
theorem M_X11_set {N : Nat} {a0 : (Option Nat)} {a1 : Int32} {a2 : Int32} {H H1 : xH} (h : F_X11_set N a0 a1 a2 H = some H1) : xM yX11_set cX11_set 3 none 1 [.inr (.inr a0), .inl a1, .inl a2] H none H1 :=
  xM_of (by decide +kernel) (xT_tb 297 (by decide +kernel) (by decide +kernel)) (by simp [xargs, x2]) rfl (P_X11_set rfl a0 a1 a2 H h)
/-! BettingBook$Club.addThing(JII)V -/
noncomputable def F_X2_addThing (N : Nat) (a0 : (Option Nat)) (a1 : Int64) (a3 : Int32) (a4 : Int32) (H : xH) : Option xH :=
  (xgI H a0 2 0).bind fun v1 =>
  (xgA H a0 2 5).bind fun v2 =>
  (xal .long H v2).bind fun v3 =>
  if v3 ≤ v1 then (some H) else ((xgA H a0 2 5).bind fun v5 =>
  (xgI H a0 2 0).bind fun v6 =>
  (xsJ H v5 v6 a1).bind fun H7 =>
  (xgA H7 a0 2 6).bind fun v8 =>
  (xgI H7 a0 2 0).bind fun v9 =>
  (F_X11_set N v8 v9 a3 H7).bind fun H10 =>
  (xgA H10 a0 2 7).bind fun v11 =>
  (xgI H10 a0 2 0).bind fun v12 =>
  (F_X11_set N v11 v12 a4 H10).bind fun H13 =>
  (xgI H13 a0 2 0).bind fun v14 =>
  (xpI H13 a0 2 0 (v14 + (1 : Int32))).bind fun H15 =>
  some H15)
set_option maxRecDepth 20000 in
set_option maxHeartbeats 4000000 in
theorem P_X2_addThing {N : Nat} {Z : xZ} {Hf : xH} (hZ : Z = xZm cX2_addThing yX2_addThing 5 2 none none Hf) : ∀ (a0 : (Option Nat)) (a1 : Int64) (a3 : Int32) (a4 : Int32) (H : xH), F_X2_addThing N a0 a1 a3 a4 H = some Hf → xWq Z H 0 [xA a0, xJ a1, xN, xI a3, xI a4] [] := by
  have hz : Z.1 = (cX2_addThing, yX2_addThing, 5) := by rw [hZ]; rfl
  have hδ : Z.2.1 = 2 := by rw [hZ]; rfl
  intro a0 a1 a3 a4 H h
  unfold F_X2_addThing at h
  refine x_aload_n hz dX2_addThing_0 rfl ?_
  obtain ⟨v1, e_v1, h⟩ := x_bnd h
  refine x_getI hz dX2_addThing_1 fs_X2_40 e_v1 ?_
  refine x_aload_n hz dX2_addThing_4 rfl ?_
  obtain ⟨v2, e_v2, h⟩ := x_bnd h
  refine x_getA hz dX2_addThing_5 fs_X2_9 e_v2 ?_
  obtain ⟨v3, e_v3, h⟩ := x_bnd h
  refine x_alen (t0 := 1) (fun _ => rfl) hz dX2_addThing_8 e_v3 ?_
  refine x_icmp_ge (t := 57) hz dX2_addThing_9 (by decide) (fun c4 => ?_) (fun c4 => ?_)
  · replace h := x_ip c4 h
    cases h
    exact x_vret hZ dX2_addThing_57
  · replace h := x_in c4 h
    refine x_aload_n hz dX2_addThing_12 rfl ?_
    obtain ⟨v5, e_v5, h⟩ := x_bnd h
    refine x_getA hz dX2_addThing_13 fs_X2_9 e_v5 ?_
    refine x_aload_n hz dX2_addThing_16 rfl ?_
    obtain ⟨v6, e_v6, h⟩ := x_bnd h
    refine x_getI hz dX2_addThing_17 fs_X2_40 e_v6 ?_
    refine x_lload_n hz dX2_addThing_20 rfl ?_
    obtain ⟨H7, e_H7, h⟩ := x_bnd h
    refine x_last hz dX2_addThing_21 e_H7 ?_
    refine x_aload_n hz dX2_addThing_22 rfl ?_
    obtain ⟨v8, e_v8, h⟩ := x_bnd h
    refine x_getA hz dX2_addThing_23 fs_X2_15 e_v8 ?_
    refine x_aload_n hz dX2_addThing_26 rfl ?_
    obtain ⟨v9, e_v9, h⟩ := x_bnd h
    refine x_getI hz dX2_addThing_27 fs_X2_40 e_v9 ?_
    refine x_iload_n hz dX2_addThing_30 rfl ?_
    obtain ⟨H10, e_H10, h⟩ := x_bnd h
    refine x_callSv (as := [.inr (.inr v8), .inl v9, .inl a3]) (st := []) cs_X2_50 rfl rfl hz (by omega) (by decide) dX2_addThing_31 (M_X11_set e_H10) ?_
    refine x_aload_n hz dX2_addThing_34 rfl ?_
    obtain ⟨v11, e_v11, h⟩ := x_bnd h
    refine x_getA hz dX2_addThing_35 fs_X2_19 e_v11 ?_
    refine x_aload_n hz dX2_addThing_38 rfl ?_
    obtain ⟨v12, e_v12, h⟩ := x_bnd h
    refine x_getI hz dX2_addThing_39 fs_X2_40 e_v12 ?_
    refine x_iload hz dX2_addThing_42 rfl ?_
    obtain ⟨H13, e_H13, h⟩ := x_bnd h
    refine x_callSv (as := [.inr (.inr v11), .inl v12, .inl a4]) (st := []) cs_X2_50 rfl rfl hz (by omega) (by decide) dX2_addThing_44 (M_X11_set e_H13) ?_
    refine x_aload_n hz dX2_addThing_47 rfl ?_
    refine x_dup hz dX2_addThing_48 (x_rfc _) ?_
    obtain ⟨v14, e_v14, h⟩ := x_bnd h
    refine x_getI hz dX2_addThing_49 fs_X2_40 e_v14 ?_
    refine x_iconst (v := (1 : Int32)) hz dX2_addThing_52 (by decide) ?_
    refine x_iadd hz dX2_addThing_53 ?_
    obtain ⟨H15, e_H15, h⟩ := x_bnd h
    refine x_putV (v := .int (v14 + (1 : Int32))) hz dX2_addThing_54 fs_X2_40 rfl rfl e_H15 ?_
    cases h
    exact x_vret hZ dX2_addThing_57
theorem M_X2_addThing {N : Nat} {a0 : (Option Nat)} {a1 : Int64} {a3 : Int32} {a4 : Int32} {H H1 : xH} (h : F_X2_addThing N a0 a1 a3 a4 H = some H1) : xM yX2_addThing cX2_addThing 5 none 2 [.inr (.inr a0), .inr (.inl a1), .inl a3, .inl a4] H none H1 :=
  xM_of (by decide +kernel) (xT_tb 454 (by decide +kernel) (by decide +kernel)) (by simp [xargs, x2]) rfl (P_X2_addThing rfl a0 a1 a3 a4 H h)
/-! BettingBook$Club.addMember(J)V -/
noncomputable def F_X2_addMember (N : Nat) (a0 : (Option Nat)) (a1 : Int64) (H : xH) : Option xH :=
  (xgI H a0 2 1).bind fun v1 =>
  (xgA H a0 2 8).bind fun v2 =>
  (xal .long H v2).bind fun v3 =>
  if v3 ≤ v1 then (some H) else ((xgA H a0 2 8).bind fun v5 =>
  (xgI H a0 2 1).bind fun v6 =>
  (xsJ H v5 v6 a1).bind fun H7 =>
  (xgI H7 a0 2 1).bind fun v8 =>
  (xpI H7 a0 2 1 (v8 + (1 : Int32))).bind fun H9 =>
  some H9)
set_option maxRecDepth 20000 in
set_option maxHeartbeats 4000000 in
theorem P_X2_addMember {N : Nat} {Z : xZ} {Hf : xH} (hZ : Z = xZm cX2_addMember yX2_addMember 3 1 none none Hf) : ∀ (a0 : (Option Nat)) (a1 : Int64) (H : xH), F_X2_addMember N a0 a1 H = some Hf → xWq Z H 0 [xA a0, xJ a1, xN] [] := by
  have hz : Z.1 = (cX2_addMember, yX2_addMember, 3) := by rw [hZ]; rfl
  have hδ : Z.2.1 = 1 := by rw [hZ]; rfl
  intro a0 a1 H h
  unfold F_X2_addMember at h
  refine x_aload_n hz dX2_addMember_0 rfl ?_
  obtain ⟨v1, e_v1, h⟩ := x_bnd h
  refine x_getI hz dX2_addMember_1 fs_X2_44 e_v1 ?_
  refine x_aload_n hz dX2_addMember_4 rfl ?_
  obtain ⟨v2, e_v2, h⟩ := x_bnd h
  refine x_getA hz dX2_addMember_5 fs_X2_22 e_v2 ?_
  obtain ⟨v3, e_v3, h⟩ := x_bnd h
  refine x_alen (t0 := 1) (fun _ => rfl) hz dX2_addMember_8 e_v3 ?_
  refine x_icmp_ge (t := 32) hz dX2_addMember_9 (by decide) (fun c4 => ?_) (fun c4 => ?_)
  · replace h := x_ip c4 h
    cases h
    exact x_vret hZ dX2_addMember_32
  · replace h := x_in c4 h
    refine x_aload_n hz dX2_addMember_12 rfl ?_
    obtain ⟨v5, e_v5, h⟩ := x_bnd h
    refine x_getA hz dX2_addMember_13 fs_X2_22 e_v5 ?_
    refine x_aload_n hz dX2_addMember_16 rfl ?_
    obtain ⟨v6, e_v6, h⟩ := x_bnd h
    refine x_getI hz dX2_addMember_17 fs_X2_44 e_v6 ?_
    refine x_lload_n hz dX2_addMember_20 rfl ?_
    obtain ⟨H7, e_H7, h⟩ := x_bnd h
    refine x_last hz dX2_addMember_21 e_H7 ?_
    refine x_aload_n hz dX2_addMember_22 rfl ?_
    refine x_dup hz dX2_addMember_23 (x_rfc _) ?_
    obtain ⟨v8, e_v8, h⟩ := x_bnd h
    refine x_getI hz dX2_addMember_24 fs_X2_44 e_v8 ?_
    refine x_iconst (v := (1 : Int32)) hz dX2_addMember_27 (by decide) ?_
    refine x_iadd hz dX2_addMember_28 ?_
    obtain ⟨H9, e_H9, h⟩ := x_bnd h
    refine x_putV (v := .int (v8 + (1 : Int32))) hz dX2_addMember_29 fs_X2_44 rfl rfl e_H9 ?_
    cases h
    exact x_vret hZ dX2_addMember_32
theorem M_X2_addMember {N : Nat} {a0 : (Option Nat)} {a1 : Int64} {H H1 : xH} (h : F_X2_addMember N a0 a1 H = some H1) : xM yX2_addMember cX2_addMember 3 none 1 [.inr (.inr a0), .inr (.inl a1)] H none H1 :=
  xM_of (by decide +kernel) (xT_tb 465 (by decide +kernel) (by decide +kernel)) (by simp [xargs, x2]) rfl (P_X2_addMember rfl a0 a1 H h)
/-! BettingBook$Club.addRule(III)V -/
noncomputable def F_X2_addRule (N : Nat) (a0 : (Option Nat)) (a1 : Int32) (a2 : Int32) (a3 : Int32) (H : xH) : Option xH :=
  (xgA H a0 2 9).bind fun v1 =>
  (xgI H a0 2 3).bind fun v2 =>
  (F_X11_set N v1 v2 a1 H).bind fun H3 =>
  (xgA H3 a0 2 10).bind fun v4 =>
  (xgI H3 a0 2 3).bind fun v5 =>
  (F_X11_set N v4 v5 a2 H3).bind fun H6 =>
  (xgA H6 a0 2 11).bind fun v7 =>
  (xgI H6 a0 2 3).bind fun v8 =>
  (F_X11_set N v7 v8 a3 H6).bind fun H9 =>
  (xgI H9 a0 2 3).bind fun v10 =>
  (xpI H9 a0 2 3 (v10 + (1 : Int32))).bind fun H11 =>
  some H11
set_option maxRecDepth 20000 in
set_option maxHeartbeats 4000000 in
theorem P_X2_addRule {N : Nat} {Z : xZ} {Hf : xH} (hZ : Z = xZm cX2_addRule yX2_addRule 4 2 none none Hf) : ∀ (a0 : (Option Nat)) (a1 : Int32) (a2 : Int32) (a3 : Int32) (H : xH), F_X2_addRule N a0 a1 a2 a3 H = some Hf → xWq Z H 0 [xA a0, xI a1, xI a2, xI a3] [] := by
  have hz : Z.1 = (cX2_addRule, yX2_addRule, 4) := by rw [hZ]; rfl
  have hδ : Z.2.1 = 2 := by rw [hZ]; rfl
  intro a0 a1 a2 a3 H h
  unfold F_X2_addRule at h
  refine x_aload_n hz dX2_addRule_0 rfl ?_
  obtain ⟨v1, e_v1, h⟩ := x_bnd h
  refine x_getA hz dX2_addRule_1 fs_X2_25 e_v1 ?_
  refine x_aload_n hz dX2_addRule_4 rfl ?_
  obtain ⟨v2, e_v2, h⟩ := x_bnd h
  refine x_getI hz dX2_addRule_5 fs_X2_54 e_v2 ?_
  refine x_iload_n hz dX2_addRule_8 rfl ?_
  obtain ⟨H3, e_H3, h⟩ := x_bnd h
  refine x_callSv (as := [.inr (.inr v1), .inl v2, .inl a1]) (st := []) cs_X2_50 rfl rfl hz (by omega) (by decide) dX2_addRule_9 (M_X11_set e_H3) ?_
  refine x_aload_n hz dX2_addRule_12 rfl ?_
  obtain ⟨v4, e_v4, h⟩ := x_bnd h
  refine x_getA hz dX2_addRule_13 fs_X2_28 e_v4 ?_
  refine x_aload_n hz dX2_addRule_16 rfl ?_
  obtain ⟨v5, e_v5, h⟩ := x_bnd h
  refine x_getI hz dX2_addRule_17 fs_X2_54 e_v5 ?_
  refine x_iload_n hz dX2_addRule_20 rfl ?_
  obtain ⟨H6, e_H6, h⟩ := x_bnd h
  refine x_callSv (as := [.inr (.inr v4), .inl v5, .inl a2]) (st := []) cs_X2_50 rfl rfl hz (by omega) (by decide) dX2_addRule_21 (M_X11_set e_H6) ?_
  refine x_aload_n hz dX2_addRule_24 rfl ?_
  obtain ⟨v7, e_v7, h⟩ := x_bnd h
  refine x_getA hz dX2_addRule_25 fs_X2_31 e_v7 ?_
  refine x_aload_n hz dX2_addRule_28 rfl ?_
  obtain ⟨v8, e_v8, h⟩ := x_bnd h
  refine x_getI hz dX2_addRule_29 fs_X2_54 e_v8 ?_
  refine x_iload_n hz dX2_addRule_32 rfl ?_
  obtain ⟨H9, e_H9, h⟩ := x_bnd h
  refine x_callSv (as := [.inr (.inr v7), .inl v8, .inl a3]) (st := []) cs_X2_50 rfl rfl hz (by omega) (by decide) dX2_addRule_33 (M_X11_set e_H9) ?_
  refine x_aload_n hz dX2_addRule_36 rfl ?_
  refine x_dup hz dX2_addRule_37 (x_rfc _) ?_
  obtain ⟨v10, e_v10, h⟩ := x_bnd h
  refine x_getI hz dX2_addRule_38 fs_X2_54 e_v10 ?_
  refine x_iconst (v := (1 : Int32)) hz dX2_addRule_41 (by decide) ?_
  refine x_iadd hz dX2_addRule_42 ?_
  obtain ⟨H11, e_H11, h⟩ := x_bnd h
  refine x_putV (v := .int (v10 + (1 : Int32))) hz dX2_addRule_43 fs_X2_54 rfl rfl e_H11 ?_
  cases h
  exact x_vret hZ dX2_addRule_46
theorem M_X2_addRule {N : Nat} {a0 : (Option Nat)} {a1 : Int32} {a2 : Int32} {a3 : Int32} {H H1 : xH} (h : F_X2_addRule N a0 a1 a2 a3 H = some H1) : xM yX2_addRule cX2_addRule 4 none 2 [.inr (.inr a0), .inl a1, .inl a2, .inl a3] H none H1 :=
  xM_of (by decide +kernel) (xT_tb 481 (by decide +kernel) (by decide +kernel)) (by simp [xargs, x2]) rfl (P_X2_addRule rfl a0 a1 a2 a3 H h)
/-! BettingBook$Club.addBet(LBettingBook$Bet;)V -/
noncomputable def F_X2_addBet (N : Nat) (a0 : (Option Nat)) (a1 : (Option Nat)) (H : xH) : Option xH :=
  (xgI H a0 2 2).bind fun v1 =>
  (xgA H a0 2 12).bind fun v2 =>
  (xal (.object "BettingBook$Bet") H v2).bind fun v3 =>
  if v3 ≤ v1 then (some H) else ((xgA H a0 2 12).bind fun v5 =>
  (xgI H a0 2 2).bind fun v6 =>
  (xsA (.object "BettingBook$Bet") 0 H v5 v6 a1).bind fun H7 =>
  (xgI H7 a0 2 2).bind fun v8 =>
  (xpI H7 a0 2 2 (v8 + (1 : Int32))).bind fun H9 =>
  some H9)
set_option maxRecDepth 20000 in
set_option maxHeartbeats 4000000 in
theorem P_X2_addBet {N : Nat} {Z : xZ} {Hf : xH} (hZ : Z = xZm cX2_addBet yX2_addBet 2 1 none none Hf) : ∀ (a0 : (Option Nat)) (a1 : (Option Nat)) (H : xH), F_X2_addBet N a0 a1 H = some Hf → xWq Z H 0 [xA a0, xA a1] [] := by
  have hz : Z.1 = (cX2_addBet, yX2_addBet, 2) := by rw [hZ]; rfl
  have hδ : Z.2.1 = 1 := by rw [hZ]; rfl
  intro a0 a1 H h
  unfold F_X2_addBet at h
  refine x_aload_n hz dX2_addBet_0 rfl ?_
  obtain ⟨v1, e_v1, h⟩ := x_bnd h
  refine x_getI hz dX2_addBet_1 fs_X2_47 e_v1 ?_
  refine x_aload_n hz dX2_addBet_4 rfl ?_
  obtain ⟨v2, e_v2, h⟩ := x_bnd h
  refine x_getA hz dX2_addBet_5 fs_X2_36 e_v2 ?_
  obtain ⟨v3, e_v3, h⟩ := x_bnd h
  refine x_alen (t0 := 4) (fun _ => rfl) hz dX2_addBet_8 e_v3 ?_
  refine x_icmp_ge (t := 32) hz dX2_addBet_9 (by decide) (fun c4 => ?_) (fun c4 => ?_)
  · replace h := x_ip c4 h
    cases h
    exact x_vret hZ dX2_addBet_32
  · replace h := x_in c4 h
    refine x_aload_n hz dX2_addBet_12 rfl ?_
    obtain ⟨v5, e_v5, h⟩ := x_bnd h
    refine x_getA hz dX2_addBet_13 fs_X2_36 e_v5 ?_
    refine x_aload_n hz dX2_addBet_16 rfl ?_
    obtain ⟨v6, e_v6, h⟩ := x_bnd h
    refine x_getI hz dX2_addBet_17 fs_X2_47 e_v6 ?_
    refine x_aload_n hz dX2_addBet_20 rfl ?_
    obtain ⟨H7, e_H7, h⟩ := x_bnd h
    refine x_aast xTq_Bet (ci := 0) rfl rfl hz dX2_addBet_21 e_H7 ?_
    refine x_aload_n hz dX2_addBet_22 rfl ?_
    refine x_dup hz dX2_addBet_23 (x_rfc _) ?_
    obtain ⟨v8, e_v8, h⟩ := x_bnd h
    refine x_getI hz dX2_addBet_24 fs_X2_47 e_v8 ?_
    refine x_iconst (v := (1 : Int32)) hz dX2_addBet_27 (by decide) ?_
    refine x_iadd hz dX2_addBet_28 ?_
    obtain ⟨H9, e_H9, h⟩ := x_bnd h
    refine x_putV (v := .int (v8 + (1 : Int32))) hz dX2_addBet_29 fs_X2_47 rfl rfl e_H9 ?_
    cases h
    exact x_vret hZ dX2_addBet_32
theorem M_X2_addBet {N : Nat} {a0 : (Option Nat)} {a1 : (Option Nat)} {H H1 : xH} (h : F_X2_addBet N a0 a1 H = some H1) : xM yX2_addBet cX2_addBet 2 none 1 [.inr (.inr a0), .inr (.inr a1)] H none H1 :=
  xM_of (by decide +kernel) (xT_tb 604 (by decide +kernel) (by decide +kernel)) (by simp [xargs, x2]) rfl (P_X2_addBet rfl a0 a1 H h)
/-! BettingBook$Club.isInTime([I)Z -/
noncomputable def F_X2_isInTime_J48 (N : Nat) (k2 : (Option Nat) → (Option Nat) → Int32 → xH → Option (Int32 × xH)) (x0 : (Option Nat)) (x1 : (Option Nat)) (x2 : Int32) (H : xH) : Option (Int32 × xH) :=
  k2 x0 x1 (x2 + 1) H
set_option maxRecDepth 20000 in
set_option maxHeartbeats 4000000 in
theorem P_X2_isInTime_J48 {N : Nat} {Z : xZ} {rv : Int32} {Hf : xH} (hZ : Z = xZm cX2_isInTime yX2_isInTime 4 2 (some .boolean) (some (.int rv)) Hf) {k2 : (Option Nat) → (Option Nat) → Int32 → xH → Option (Int32 × xH)} (hk2 : ∀ (x0 : (Option Nat)) (x1 : (Option Nat)) (x2 : Int32) (H : xH), k2 x0 x1 x2 H = some (rv, Hf) → xWq Z H 2 [xA x0, xA x1, xI x2, xN] []) : ∀ (x0 : (Option Nat)) (x1 : (Option Nat)) (x2 : Int32) (H : xH), F_X2_isInTime_J48 N k2 x0 x1 x2 H = some (rv, Hf) → xWq Z H 48 [xA x0, xA x1, xI x2, xN] [] := by
  have hz : Z.1 = (cX2_isInTime, yX2_isInTime, 4) := by rw [hZ]; rfl
  have hδ : Z.2.1 = 2 := by rw [hZ]; rfl
  intro x0 x1 x2 H h
  unfold F_X2_isInTime_J48 at h
  refine x_iinc (w := (x2 + 1)) (pl' := [xA x0, xA x1, xI (x2 + 1), xN]) hz dX2_isInTime_48 rfl rfl (by decide) rfl ?_
  refine x_goto (t := 2) hz dX2_isInTime_51 (by decide) ?_
  exact x_wk (xwk_c (xwk_c (xwk_c (xwk_n xwk_0)))) (hk2 x0 x1 (x2 + 1) H h)
noncomputable def F_X2_isInTime_J2 (N : Nat) (k2 : (Option Nat) → (Option Nat) → Int32 → xH → Option (Int32 × xH)) (x0 : (Option Nat)) (x1 : (Option Nat)) (x2 : Int32) (H : xH) : Option (Int32 × xH) :=
  (xgI H x0 2 0).bind fun v1 =>
  if v1 ≤ x2 then (some ((1 : Int32), H)) else (x_bd2 (F_X11_at N x1 x2 H) fun v4 H3 =>
  if (v4 - (1 : Int32)) < 0 then ((F_X2_isInTime_J48 N k2) x0 x1 x2 H3) else ((xgA H3 x0 2 6).bind fun v6 =>
  x_bd2 (F_X11_at N v6 x2 H3) fun v8 H7 =>
  if (v4 - (1 : Int32)) < v8 then (some ((0 : Int32), H7)) else ((xgA H7 x0 2 7).bind fun v10 =>
  x_bd2 (F_X11_at N v10 x2 H7) fun v12 H11 =>
  if (v4 - (1 : Int32)) ≤ v12 then ((F_X2_isInTime_J48 N k2) x0 x1 x2 H11) else (some ((0 : Int32), H11)))))
set_option maxRecDepth 20000 in
set_option maxHeartbeats 4000000 in
theorem P_X2_isInTime_J2 {N : Nat} {Z : xZ} {rv : Int32} {Hf : xH} (hZ : Z = xZm cX2_isInTime yX2_isInTime 4 2 (some .boolean) (some (.int rv)) Hf) {k2 : (Option Nat) → (Option Nat) → Int32 → xH → Option (Int32 × xH)} (hk2 : ∀ (x0 : (Option Nat)) (x1 : (Option Nat)) (x2 : Int32) (H : xH), k2 x0 x1 x2 H = some (rv, Hf) → xWq Z H 2 [xA x0, xA x1, xI x2, xN] []) : ∀ (x0 : (Option Nat)) (x1 : (Option Nat)) (x2 : Int32) (H : xH), F_X2_isInTime_J2 N k2 x0 x1 x2 H = some (rv, Hf) → xWq Z H 2 [xA x0, xA x1, xI x2, xN] [] := by
  have hz : Z.1 = (cX2_isInTime, yX2_isInTime, 4) := by rw [hZ]; rfl
  have hδ : Z.2.1 = 2 := by rw [hZ]; rfl
  intro x0 x1 x2 H h
  unfold F_X2_isInTime_J2 at h
  refine x_iload_n hz dX2_isInTime_2 rfl ?_
  refine x_aload_n hz dX2_isInTime_3 rfl ?_
  obtain ⟨v1, e_v1, h⟩ := x_bnd h
  refine x_getI hz dX2_isInTime_4 fs_X2_40 e_v1 ?_
  refine x_icmp_ge (t := 54) hz dX2_isInTime_7 (by decide) (fun c2 => ?_) (fun c2 => ?_)
  · replace h := x_ip c2 h
    refine x_iconst (v := (1 : Int32)) hz dX2_isInTime_54 (by decide) ?_
    cases h
    exact x_zret01 hZ (Or.inr rfl) dX2_isInTime_55
  · replace h := x_in c2 h
    refine x_aload_n hz dX2_isInTime_10 rfl ?_
    refine x_iload_n hz dX2_isInTime_11 rfl ?_
    obtain ⟨v4, H3, e_H3, h⟩ := x_b2 h
    refine x_callSi (as := [.inr (.inr x1), .inl x2]) (st := []) cs_X2_72 rfl rfl hz (by omega) (by decide) dX2_isInTime_12 (M_X11_at e_H3) ?_
    refine x_iconst (v := (1 : Int32)) hz dX2_isInTime_15 (by decide) ?_
    refine x_isub hz dX2_isInTime_16 ?_
    refine x_istore_n (pl' := [xA x0, xA x1, xI x2, xI (v4 - (1 : Int32))]) hz dX2_isInTime_17 (by decide) rfl ?_
    refine x_iload_n hz dX2_isInTime_18 rfl ?_
    refine x_if_lt (t := 48) hz dX2_isInTime_19 (by decide) (fun c5 => ?_) (fun c5 => ?_)
    · replace h := x_ip c5 h
      exact x_wk (xwk_c (xwk_c (xwk_c (xwk_n xwk_0)))) ((P_X2_isInTime_J48 hZ hk2) x0 x1 x2 H3 h)
    · replace h := x_in c5 h
      refine x_iload_n hz dX2_isInTime_22 rfl ?_
      refine x_aload_n hz dX2_isInTime_23 rfl ?_
      obtain ⟨v6, e_v6, h⟩ := x_bnd h
      refine x_getA hz dX2_isInTime_24 fs_X2_15 e_v6 ?_
      refine x_iload_n hz dX2_isInTime_27 rfl ?_
      obtain ⟨v8, H7, e_H7, h⟩ := x_b2 h
      refine x_callSi (as := [.inr (.inr v6), .inl x2]) (st := [.int (v4 - (1 : Int32))]) cs_X2_72 rfl rfl hz (by omega) (Nat.le_trans (x_sm1 rfl x_sm0) (by decide)) dX2_isInTime_28 (M_X11_at e_H7) ?_
      refine x_icmp_lt (t := 46) hz dX2_isInTime_31 (by decide) (fun c9 => ?_) (fun c9 => ?_)
      · replace h := x_ip c9 h
        refine x_iconst (v := (0 : Int32)) hz dX2_isInTime_46 (by decide) ?_
        cases h
        exact x_zret01 hZ (Or.inl rfl) dX2_isInTime_47
      · replace h := x_in c9 h
        refine x_iload_n hz dX2_isInTime_34 rfl ?_
        refine x_aload_n hz dX2_isInTime_35 rfl ?_
        obtain ⟨v10, e_v10, h⟩ := x_bnd h
        refine x_getA hz dX2_isInTime_36 fs_X2_19 e_v10 ?_
        refine x_iload_n hz dX2_isInTime_39 rfl ?_
        obtain ⟨v12, H11, e_H11, h⟩ := x_b2 h
        refine x_callSi (as := [.inr (.inr v10), .inl x2]) (st := [.int (v4 - (1 : Int32))]) cs_X2_72 rfl rfl hz (by omega) (Nat.le_trans (x_sm1 rfl x_sm0) (by decide)) dX2_isInTime_40 (M_X11_at e_H11) ?_
        refine x_icmp_le (t := 48) hz dX2_isInTime_43 (by decide) (fun c13 => ?_) (fun c13 => ?_)
        · replace h := x_ip c13 h
          exact x_wk (xwk_c (xwk_c (xwk_c (xwk_n xwk_0)))) ((P_X2_isInTime_J48 hZ hk2) x0 x1 x2 H11 h)
        · replace h := x_in c13 h
          refine x_iconst (v := (0 : Int32)) hz dX2_isInTime_46 (by decide) ?_
          cases h
          exact x_zret01 hZ (Or.inl rfl) dX2_isInTime_47
noncomputable def F_X2_isInTime_L2 (N : Nat) : Nat → (Option Nat) → (Option Nat) → Int32 → xH → Option (Int32 × xH)
  | 0 => fun _ _ _ _ => none
  | n + 1 => F_X2_isInTime_J2 N (F_X2_isInTime_L2 N n)
theorem P_X2_isInTime_L2 {N : Nat} {Z : xZ} {rv : Int32} {Hf : xH} (hZ : Z = xZm cX2_isInTime yX2_isInTime 4 2 (some .boolean) (some (.int rv)) Hf) : ∀ (n : Nat) (x0 : (Option Nat)) (x1 : (Option Nat)) (x2 : Int32) (H : xH), F_X2_isInTime_L2 N n x0 x1 x2 H = some (rv, Hf) → xWq Z H 2 [xA x0, xA x1, xI x2, xN] [] := by
  intro n
  induction n with
  | zero => intro _ _ _ _ h; cases h
  | succ n ih => exact P_X2_isInTime_J2 hZ ih
noncomputable def F_X2_isInTime (N : Nat) (a0 : (Option Nat)) (a1 : (Option Nat)) (H : xH) : Option (Int32 × xH) :=
  (F_X2_isInTime_L2 N N) a0 a1 (0 : Int32) H
set_option maxRecDepth 20000 in
set_option maxHeartbeats 4000000 in
theorem P_X2_isInTime {N : Nat} {Z : xZ} {rv : Int32} {Hf : xH} (hZ : Z = xZm cX2_isInTime yX2_isInTime 4 2 (some .boolean) (some (.int rv)) Hf) : ∀ (a0 : (Option Nat)) (a1 : (Option Nat)) (H : xH), F_X2_isInTime N a0 a1 H = some (rv, Hf) → xWq Z H 0 [xA a0, xA a1, xN, xN] [] := by
  have hz : Z.1 = (cX2_isInTime, yX2_isInTime, 4) := by rw [hZ]; rfl
  have hδ : Z.2.1 = 2 := by rw [hZ]; rfl
  intro a0 a1 H h
  unfold F_X2_isInTime at h
  refine x_iconst (v := (0 : Int32)) hz dX2_isInTime_0 (by decide) ?_
  refine x_istore_n (pl' := [xA a0, xA a1, xI (0 : Int32), xN]) hz dX2_isInTime_1 (by decide) rfl ?_
  exact x_wk (xwk_c (xwk_c (xwk_c (xwk_n xwk_0)))) ((P_X2_isInTime_L2 hZ N) a0 a1 (0 : Int32) H h)
theorem M_X2_isInTime {N : Nat} {a0 : (Option Nat)} {a1 : (Option Nat)} {H H1 : xH} {r1 : Int32} (h : F_X2_isInTime N a0 a1 H = some (r1, H1)) : xM yX2_isInTime cX2_isInTime 4 (some .boolean) 2 [.inr (.inr a0), .inr (.inr a1)] H (some (.int r1)) H1 :=
  xM_of (by decide +kernel) (xT_tb 250 (by decide +kernel) (by decide +kernel)) (by simp [xargs, x2]) rfl (P_X2_isInTime rfl a0 a1 H h)
/-! BettingBook$Club.isKept(III)Z -/
noncomputable def F_X2_isKept (N : Nat) (a0 : Int32) (a1 : Int32) (a2 : Int32) (H : xH) : Option (Int32 × xH) :=
  if a2 = (-1 : Int32) then (if a0 < a1 then (some ((0 : Int32), H)) else (some ((1 : Int32), H))) else (if (8 : Int32) < (a0 + a2) then (some ((1 : Int32), H)) else (if a1 = 0 then (some ((0 : Int32), H)) else (if (a0 + a2) < a1 then (some ((0 : Int32), H)) else (some ((1 : Int32), H)))))
set_option maxRecDepth 20000 in
set_option maxHeartbeats 4000000 in
theorem P_X2_isKept {N : Nat} {Z : xZ} {rv : Int32} {Hf : xH} (hZ : Z = xZm cX2_isKept yX2_isKept 4 1 (some .boolean) (some (.int rv)) Hf) : ∀ (a0 : Int32) (a1 : Int32) (a2 : Int32) (H : xH), F_X2_isKept N a0 a1 a2 H = some (rv, Hf) → xWq Z H 0 [xI a0, xI a1, xI a2, xN] [] := by
  have hz : Z.1 = (cX2_isKept, yX2_isKept, 4) := by rw [hZ]; rfl
  have hδ : Z.2.1 = 1 := by rw [hZ]; rfl
  intro a0 a1 a2 H h
  unfold F_X2_isKept at h
  refine x_iload_n hz dX2_isKept_0 rfl ?_
  refine x_iconst (v := (-1 : Int32)) hz dX2_isKept_1 (by decide) ?_
  refine x_icmp_ne (t := 16) hz dX2_isKept_2 (by decide) (fun c1 => ?_) (fun c1 => ?_)
  · replace h := x_in c1 h
    refine x_iload_n hz dX2_isKept_16 rfl ?_
    refine x_iload_n hz dX2_isKept_17 rfl ?_
    refine x_iadd hz dX2_isKept_18 ?_
    refine x_istore_n (pl' := [xI a0, xI a1, xI a2, xI (a0 + a2)]) hz dX2_isKept_19 (by decide) rfl ?_
    refine x_iload_n hz dX2_isKept_20 rfl ?_
    refine x_bipush (v := (8 : Int32)) hz dX2_isKept_21 (by decide) ?_
    refine x_icmp_gt (t := 35) hz dX2_isKept_23 (by decide) (fun c2 => ?_) (fun c2 => ?_)
    · replace h := x_ip c2 h
      refine x_iconst (v := (1 : Int32)) hz dX2_isKept_35 (by decide) ?_
      refine x_goto (t := 40) hz dX2_isKept_36 (by decide) ?_
      cases h
      exact x_zret01 hZ (Or.inr rfl) dX2_isKept_40
    · replace h := x_in c2 h
      refine x_iload_n hz dX2_isKept_26 rfl ?_
      refine x_if_eq (t := 39) hz dX2_isKept_27 (by decide) (fun c3 => ?_) (fun c3 => ?_)
      · replace h := x_ip c3 h
        refine x_iconst (v := (0 : Int32)) hz dX2_isKept_39 (by decide) ?_
        cases h
        exact x_zret01 hZ (Or.inl rfl) dX2_isKept_40
      · replace h := x_in c3 h
        refine x_iload_n hz dX2_isKept_30 rfl ?_
        refine x_iload_n hz dX2_isKept_31 rfl ?_
        refine x_icmp_gt (t := 39) hz dX2_isKept_32 (by decide) (fun c4 => ?_) (fun c4 => ?_)
        · replace h := x_ip c4 h
          refine x_iconst (v := (0 : Int32)) hz dX2_isKept_39 (by decide) ?_
          cases h
          exact x_zret01 hZ (Or.inl rfl) dX2_isKept_40
        · replace h := x_in c4 h
          refine x_iconst (v := (1 : Int32)) hz dX2_isKept_35 (by decide) ?_
          refine x_goto (t := 40) hz dX2_isKept_36 (by decide) ?_
          cases h
          exact x_zret01 hZ (Or.inr rfl) dX2_isKept_40
  · replace h := x_ip c1 h
    refine x_iload_n hz dX2_isKept_5 rfl ?_
    refine x_iload_n hz dX2_isKept_6 rfl ?_
    refine x_icmp_gt (t := 14) hz dX2_isKept_7 (by decide) (fun c5 => ?_) (fun c5 => ?_)
    · replace h := x_ip c5 h
      refine x_iconst (v := (0 : Int32)) hz dX2_isKept_14 (by decide) ?_
      cases h
      exact x_zret01 hZ (Or.inl rfl) dX2_isKept_15
    · replace h := x_in c5 h
      refine x_iconst (v := (1 : Int32)) hz dX2_isKept_10 (by decide) ?_
      refine x_goto (t := 15) hz dX2_isKept_11 (by decide) ?_
      cases h
      exact x_zret01 hZ (Or.inr rfl) dX2_isKept_15
theorem M_X2_isKept {N : Nat} {a0 : Int32} {a1 : Int32} {a2 : Int32} {H H1 : xH} {r1 : Int32} (h : F_X2_isKept N a0 a1 a2 H = some (r1, H1)) : xM yX2_isKept cX2_isKept 4 (some .boolean) 1 [.inl a0, .inl a1, .inl a2] H (some (.int r1)) H1 :=
  xM_of (by decide +kernel) (xT_tb 260 (by decide +kernel) (by decide +kernel)) (by simp [xargs, x2]) rfl (P_X2_isKept rfl a0 a1 a2 H h)
/-! BettingBook$Club.isPossible([I)Z -/
noncomputable def F_X2_isPossible_J60 (N : Nat) (k2 : (Option Nat) → (Option Nat) → Int32 → xH → Option (Int32 × xH)) (x0 : (Option Nat)) (x1 : (Option Nat)) (x2 : Int32) (H : xH) : Option (Int32 × xH) :=
  k2 x0 x1 (x2 + 1) H
set_option maxRecDepth 20000 in
set_option maxHeartbeats 4000000 in
theorem P_X2_isPossible_J60 {N : Nat} {Z : xZ} {rv : Int32} {Hf : xH} (hZ : Z = xZm cX2_isPossible yX2_isPossible 5 2 (some .boolean) (some (.int rv)) Hf) {k2 : (Option Nat) → (Option Nat) → Int32 → xH → Option (Int32 × xH)} (hk2 : ∀ (x0 : (Option Nat)) (x1 : (Option Nat)) (x2 : Int32) (H : xH), k2 x0 x1 x2 H = some (rv, Hf) → xWq Z H 2 [xA x0, xA x1, xI x2, xN, xN] []) : ∀ (x0 : (Option Nat)) (x1 : (Option Nat)) (x2 : Int32) (H : xH), F_X2_isPossible_J60 N k2 x0 x1 x2 H = some (rv, Hf) → xWq Z H 60 [xA x0, xA x1, xI x2, xN, xN] [] := by
  have hz : Z.1 = (cX2_isPossible, yX2_isPossible, 5) := by rw [hZ]; rfl
  have hδ : Z.2.1 = 2 := by rw [hZ]; rfl
  intro x0 x1 x2 H h
  unfold F_X2_isPossible_J60 at h
  refine x_iinc (w := (x2 + 1)) (pl' := [xA x0, xA x1, xI (x2 + 1), xN, xN]) hz dX2_isPossible_60 rfl rfl (by decide) rfl ?_
  refine x_goto (t := 2) hz dX2_isPossible_63 (by decide) ?_
  exact x_wk (xwk_c (xwk_c (xwk_c (xwk_n (xwk_n xwk_0))))) (hk2 x0 x1 (x2 + 1) H h)
noncomputable def F_X2_isPossible_J2 (N : Nat) (k2 : (Option Nat) → (Option Nat) → Int32 → xH → Option (Int32 × xH)) (x0 : (Option Nat)) (x1 : (Option Nat)) (x2 : Int32) (H : xH) : Option (Int32 × xH) :=
  (xgI H x0 2 3).bind fun v1 =>
  if v1 ≤ x2 then (some ((1 : Int32), H)) else ((xgA H x0 2 9).bind fun v3 =>
  x_bd2 (F_X11_at N v3 x2 H) fun v5 H4 =>
  x_bd2 (F_X11_at N x1 v5 H4) fun v7 H6 =>
  (xgA H6 x0 2 10).bind fun v8 =>
  x_bd2 (F_X11_at N v8 x2 H6) fun v10 H9 =>
  x_bd2 (F_X11_at N x1 v10 H9) fun v12 H11 =>
  if v7 = 0 then ((F_X2_isPossible_J60 N k2) x0 x1 x2 H11) else ((xgA H11 x0 2 11).bind fun v14 =>
  x_bd2 (F_X11_at N v14 x2 H11) fun v16 H15 =>
  x_bd2 (F_X2_isKept N v7 v12 v16 H15) fun v18 H17 =>
  if v18 = 0 then (some ((0 : Int32), H17)) else ((F_X2_isPossible_J60 N k2) x0 x1 x2 H17)))
set_option maxRecDepth 20000 in
set_option maxHeartbeats 4000000 in
theorem P_X2_isPossible_J2 {N : Nat} {Z : xZ} {rv : Int32} {Hf : xH} (hZ : Z = xZm cX2_isPossible yX2_isPossible 5 2 (some .boolean) (some (.int rv)) Hf) {k2 : (Option Nat) → (Option Nat) → Int32 → xH → Option (Int32 × xH)} (hk2 : ∀ (x0 : (Option Nat)) (x1 : (Option Nat)) (x2 : Int32) (H : xH), k2 x0 x1 x2 H = some (rv, Hf) → xWq Z H 2 [xA x0, xA x1, xI x2, xN, xN] []) : ∀ (x0 : (Option Nat)) (x1 : (Option Nat)) (x2 : Int32) (H : xH), F_X2_isPossible_J2 N k2 x0 x1 x2 H = some (rv, Hf) → xWq Z H 2 [xA x0, xA x1, xI x2, xN, xN] [] := by
  have hz : Z.1 = (cX2_isPossible, yX2_isPossible, 5) := by rw [hZ]; rfl
  have hδ : Z.2.1 = 2 := by rw [hZ]; rfl
  intro x0 x1 x2 H h
  unfold F_X2_isPossible_J2 at h
  refine x_iload_n hz dX2_isPossible_2 rfl ?_
  refine x_aload_n hz dX2_isPossible_3 rfl ?_
  obtain ⟨v1, e_v1, h⟩ := x_bnd h
  refine x_getI hz dX2_isPossible_4 fs_X2_54 e_v1 ?_
  refine x_icmp_ge (t := 66) hz dX2_isPossible_7 (by decide) (fun c2 => ?_) (fun c2 => ?_)
  · replace h := x_ip c2 h
    refine x_iconst (v := (1 : Int32)) hz dX2_isPossible_66 (by decide) ?_
    cases h
    exact x_zret01 hZ (Or.inr rfl) dX2_isPossible_67
  · replace h := x_in c2 h
    refine x_aload_n hz dX2_isPossible_10 rfl ?_
    refine x_aload_n hz dX2_isPossible_11 rfl ?_
    obtain ⟨v3, e_v3, h⟩ := x_bnd h
    refine x_getA hz dX2_isPossible_12 fs_X2_25 e_v3 ?_
    refine x_iload_n hz dX2_isPossible_15 rfl ?_
    obtain ⟨v5, H4, e_H4, h⟩ := x_b2 h
    refine x_callSi (as := [.inr (.inr v3), .inl x2]) (st := [va_rf x1]) cs_X2_72 rfl rfl hz (by omega) (Nat.le_trans (x_sm1 (x_rfc _) x_sm0) (by decide)) dX2_isPossible_16 (M_X11_at e_H4) ?_
    obtain ⟨v7, H6, e_H6, h⟩ := x_b2 h
    refine x_callSi (as := [.inr (.inr x1), .inl v5]) (st := []) cs_X2_72 rfl rfl hz (by omega) (by decide) dX2_isPossible_19 (M_X11_at e_H6) ?_
    refine x_istore_n (pl' := [xA x0, xA x1, xI x2, xI v7, xN]) hz dX2_isPossible_22 (by decide) rfl ?_
    refine x_aload_n hz dX2_isPossible_23 rfl ?_
    refine x_aload_n hz dX2_isPossible_24 rfl ?_
    obtain ⟨v8, e_v8, h⟩ := x_bnd h
    refine x_getA hz dX2_isPossible_25 fs_X2_28 e_v8 ?_
    refine x_iload_n hz dX2_isPossible_28 rfl ?_
    obtain ⟨v10, H9, e_H9, h⟩ := x_b2 h
    refine x_callSi (as := [.inr (.inr v8), .inl x2]) (st := [va_rf x1]) cs_X2_72 rfl rfl hz (by omega) (Nat.le_trans (x_sm1 (x_rfc _) x_sm0) (by decide)) dX2_isPossible_29 (M_X11_at e_H9) ?_
    obtain ⟨v12, H11, e_H11, h⟩ := x_b2 h
    refine x_callSi (as := [.inr (.inr x1), .inl v10]) (st := []) cs_X2_72 rfl rfl hz (by omega) (by decide) dX2_isPossible_32 (M_X11_at e_H11) ?_
    refine x_istore (pl' := [xA x0, xA x1, xI x2, xI v7, xI v12]) hz dX2_isPossible_35 (by decide) rfl ?_
    refine x_iload_n hz dX2_isPossible_37 rfl ?_
    refine x_if_eq (t := 60) hz dX2_isPossible_38 (by decide) (fun c13 => ?_) (fun c13 => ?_)
    · replace h := x_ip c13 h
      exact x_wk (xwk_c (xwk_c (xwk_c (xwk_n (xwk_n xwk_0))))) ((P_X2_isPossible_J60 hZ hk2) x0 x1 x2 H11 h)
    · replace h := x_in c13 h
      refine x_iload_n hz dX2_isPossible_41 rfl ?_
      refine x_iload hz dX2_isPossible_42 rfl ?_
      refine x_aload_n hz dX2_isPossible_44 rfl ?_
      obtain ⟨v14, e_v14, h⟩ := x_bnd h
      refine x_getA hz dX2_isPossible_45 fs_X2_31 e_v14 ?_
      refine x_iload_n hz dX2_isPossible_48 rfl ?_
      obtain ⟨v16, H15, e_H15, h⟩ := x_b2 h
      refine x_callSi (as := [.inr (.inr v14), .inl x2]) (st := [.int v12, .int v7]) cs_X2_72 rfl rfl hz (by omega) (Nat.le_trans (x_sm1 rfl (x_sm1 rfl x_sm0)) (by decide)) dX2_isPossible_49 (M_X11_at e_H15) ?_
      obtain ⟨v18, H17, e_H17, h⟩ := x_b2 h
      refine x_callSi (as := [.inl v7, .inl v12, .inl v16]) (st := []) cs_X2_76 rfl rfl hz (by omega) (by decide) dX2_isPossible_52 (M_X2_isKept e_H17) ?_
      refine x_if_ne (t := 60) hz dX2_isPossible_55 (by decide) (fun c19 => ?_) (fun c19 => ?_)
      · replace h := x_in c19 h
        exact x_wk (xwk_c (xwk_c (xwk_c (xwk_n (xwk_n xwk_0))))) ((P_X2_isPossible_J60 hZ hk2) x0 x1 x2 H17 h)
      · replace h := x_ip c19 h
        refine x_iconst (v := (0 : Int32)) hz dX2_isPossible_58 (by decide) ?_
        cases h
        exact x_zret01 hZ (Or.inl rfl) dX2_isPossible_59
noncomputable def F_X2_isPossible_L2 (N : Nat) : Nat → (Option Nat) → (Option Nat) → Int32 → xH → Option (Int32 × xH)
  | 0 => fun _ _ _ _ => none
  | n + 1 => F_X2_isPossible_J2 N (F_X2_isPossible_L2 N n)
theorem P_X2_isPossible_L2 {N : Nat} {Z : xZ} {rv : Int32} {Hf : xH} (hZ : Z = xZm cX2_isPossible yX2_isPossible 5 2 (some .boolean) (some (.int rv)) Hf) : ∀ (n : Nat) (x0 : (Option Nat)) (x1 : (Option Nat)) (x2 : Int32) (H : xH), F_X2_isPossible_L2 N n x0 x1 x2 H = some (rv, Hf) → xWq Z H 2 [xA x0, xA x1, xI x2, xN, xN] [] := by
  intro n
  induction n with
  | zero => intro _ _ _ _ h; cases h
  | succ n ih => exact P_X2_isPossible_J2 hZ ih
noncomputable def F_X2_isPossible (N : Nat) (a0 : (Option Nat)) (a1 : (Option Nat)) (H : xH) : Option (Int32 × xH) :=
  (F_X2_isPossible_L2 N N) a0 a1 (0 : Int32) H
set_option maxRecDepth 20000 in
set_option maxHeartbeats 4000000 in
theorem P_X2_isPossible {N : Nat} {Z : xZ} {rv : Int32} {Hf : xH} (hZ : Z = xZm cX2_isPossible yX2_isPossible 5 2 (some .boolean) (some (.int rv)) Hf) : ∀ (a0 : (Option Nat)) (a1 : (Option Nat)) (H : xH), F_X2_isPossible N a0 a1 H = some (rv, Hf) → xWq Z H 0 [xA a0, xA a1, xN, xN, xN] [] := by
  have hz : Z.1 = (cX2_isPossible, yX2_isPossible, 5) := by rw [hZ]; rfl
  have hδ : Z.2.1 = 2 := by rw [hZ]; rfl
  intro a0 a1 H h
  unfold F_X2_isPossible at h
  refine x_iconst (v := (0 : Int32)) hz dX2_isPossible_0 (by decide) ?_
  refine x_istore_n (pl' := [xA a0, xA a1, xI (0 : Int32), xN, xN]) hz dX2_isPossible_1 (by decide) rfl ?_
  exact x_wk (xwk_c (xwk_c (xwk_c (xwk_n (xwk_n xwk_0))))) ((P_X2_isPossible_L2 hZ N) a0 a1 (0 : Int32) H h)
theorem M_X2_isPossible {N : Nat} {a0 : (Option Nat)} {a1 : (Option Nat)} {H H1 : xH} {r1 : Int32} (h : F_X2_isPossible N a0 a1 H = some (r1, H1)) : xM yX2_isPossible cX2_isPossible 5 (some .boolean) 2 [.inr (.inr a0), .inr (.inr a1)] H (some (.int r1)) H1 :=
  xM_of (by decide +kernel) (xT_tb 257 (by decide +kernel) (by decide +kernel)) (by simp [xargs, x2]) rfl (P_X2_isPossible rfl a0 a1 H h)
/-! BettingBook$Club.cellOf([I)J -/
noncomputable def F_X2_cellOf_J80 (N : Nat) (k31 : (Option Nat) → (Option Nat) → Int64 → Int32 → xH → Option (Int64 × xH)) (x0 : (Option Nat)) (x1 : (Option Nat)) (x2 : Int64) (x4 : Int32) (H : xH) : Option (Int64 × xH) :=
  k31 x0 x1 x2 (x4 + 1) H
set_option maxRecDepth 20000 in
set_option maxHeartbeats 4000000 in
theorem P_X2_cellOf_J80 {N : Nat} {Z : xZ} {rv : Int64} {Hf : xH} (hZ : Z = xZm cX2_cellOf yX2_cellOf 6 49 (some .long) (some (.long rv)) Hf) {k31 : (Option Nat) → (Option Nat) → Int64 → Int32 → xH → Option (Int64 × xH)} (hk31 : ∀ (x0 : (Option Nat)) (x1 : (Option Nat)) (x2 : Int64) (x4 : Int32) (H : xH), k31 x0 x1 x2 x4 H = some (rv, Hf) → xWq Z H 31 [xA x0, xA x1, xJ x2, xN, xI x4, xN] []) : ∀ (x0 : (Option Nat)) (x1 : (Option Nat)) (x2 : Int64) (x4 : Int32) (H : xH), F_X2_cellOf_J80 N k31 x0 x1 x2 x4 H = some (rv, Hf) → xWq Z H 80 [xA x0, xA x1, xJ x2, xN, xI x4, xN] [] := by
  have hz : Z.1 = (cX2_cellOf, yX2_cellOf, 6) := by rw [hZ]; rfl
  have hδ : Z.2.1 = 49 := by rw [hZ]; rfl
  intro x0 x1 x2 x4 H h
  unfold F_X2_cellOf_J80 at h
  refine x_iinc (w := (x4 + 1)) (pl' := [xA x0, xA x1, xJ x2, xN, xI (x4 + 1), xN]) hz dX2_cellOf_80 rfl rfl (by decide) rfl ?_
  refine x_goto (t := 31) hz dX2_cellOf_83 (by decide) ?_
  exact x_wk (xwk_c (xwk_c (xwk_c (xwk_n (xwk_c (xwk_n xwk_0)))))) (hk31 x0 x1 x2 (x4 + 1) H h)
noncomputable def F_X2_cellOf_J31 (N : Nat) (k31 : (Option Nat) → (Option Nat) → Int64 → Int32 → xH → Option (Int64 × xH)) (x0 : (Option Nat)) (x1 : (Option Nat)) (x2 : Int64) (x4 : Int32) (H : xH) : Option (Int64 × xH) :=
  (xgI H x0 2 2).bind fun v1 =>
  if v1 ≤ x4 then (some (x2, H)) else ((xgA H x0 2 12).bind fun v3 =>
  (xal (.object "BettingBook$Bet") H v3).bind fun v4 =>
  if v4 ≤ x4 then (some (x2, H)) else ((xgA H x0 2 12).bind fun v6 =>
  (xlA (.object "BettingBook$Bet") H v6 x4).bind fun v7 =>
  if v7 = none then ((F_X2_cellOf_J80 N k31) x0 x1 x2 x4 H) else ((xob H v7 0).bind fun b10 =>
  x_bd2 (F_X0_outcomeIn N v7 x1 H) fun v11 H9 =>
  (F_X2_cellOf_J80 N k31) x0 x1 (x2 ||| ((1 : Int64) <<< ((((5 : Int32) * x4) + v11).toInt64 &&& 63))) x4 H9)))
set_option maxRecDepth 20000 in
set_option maxHeartbeats 4000000 in
theorem P_X2_cellOf_J31 {N : Nat} {Z : xZ} {rv : Int64} {Hf : xH} (hZ : Z = xZm cX2_cellOf yX2_cellOf 6 49 (some .long) (some (.long rv)) Hf) {k31 : (Option Nat) → (Option Nat) → Int64 → Int32 → xH → Option (Int64 × xH)} (hk31 : ∀ (x0 : (Option Nat)) (x1 : (Option Nat)) (x2 : Int64) (x4 : Int32) (H : xH), k31 x0 x1 x2 x4 H = some (rv, Hf) → xWq Z H 31 [xA x0, xA x1, xJ x2, xN, xI x4, xN] []) : ∀ (x0 : (Option Nat)) (x1 : (Option Nat)) (x2 : Int64) (x4 : Int32) (H : xH), F_X2_cellOf_J31 N k31 x0 x1 x2 x4 H = some (rv, Hf) → xWq Z H 31 [xA x0, xA x1, xJ x2, xN, xI x4, xN] [] := by
  have hz : Z.1 = (cX2_cellOf, yX2_cellOf, 6) := by rw [hZ]; rfl
  have hδ : Z.2.1 = 49 := by rw [hZ]; rfl
  intro x0 x1 x2 x4 H h
  unfold F_X2_cellOf_J31 at h
  refine x_iload hz dX2_cellOf_31 rfl ?_
  refine x_aload_n hz dX2_cellOf_33 rfl ?_
  obtain ⟨v1, e_v1, h⟩ := x_bnd h
  refine x_getI hz dX2_cellOf_34 fs_X2_47 e_v1 ?_
  refine x_icmp_ge (t := 86) hz dX2_cellOf_37 (by decide) (fun c2 => ?_) (fun c2 => ?_)
  · replace h := x_ip c2 h
    refine x_lload_n hz dX2_cellOf_86 rfl ?_
    cases h
    exact x_lret hZ dX2_cellOf_87
  · replace h := x_in c2 h
    refine x_iload hz dX2_cellOf_40 rfl ?_
    refine x_aload_n hz dX2_cellOf_42 rfl ?_
    obtain ⟨v3, e_v3, h⟩ := x_bnd h
    refine x_getA hz dX2_cellOf_43 fs_X2_36 e_v3 ?_
    obtain ⟨v4, e_v4, h⟩ := x_bnd h
    refine x_alen (t0 := 4) (fun _ => rfl) hz dX2_cellOf_46 e_v4 ?_
    refine x_icmp_ge (t := 86) hz dX2_cellOf_47 (by decide) (fun c5 => ?_) (fun c5 => ?_)
    · replace h := x_ip c5 h
      refine x_lload_n hz dX2_cellOf_86 rfl ?_
      cases h
      exact x_lret hZ dX2_cellOf_87
    · replace h := x_in c5 h
      refine x_aload_n hz dX2_cellOf_50 rfl ?_
      obtain ⟨v6, e_v6, h⟩ := x_bnd h
      refine x_getA hz dX2_cellOf_51 fs_X2_36 e_v6 ?_
      refine x_iload hz dX2_cellOf_54 rfl ?_
      obtain ⟨v7, e_v7, h⟩ := x_bnd h
      refine x_aald xTq_Bet hz dX2_cellOf_56 e_v7 ?_
      refine x_astore (pl' := [xA x0, xA x1, xJ x2, xN, xI x4, xA v7]) hz dX2_cellOf_57 (by decide) rfl ?_
      refine x_aload hz dX2_cellOf_59 rfl ?_
      refine x_ifnull (t := 80) hz dX2_cellOf_61 (by decide) (fun c8 => ?_) (fun c8 => ?_)
      · replace h := x_ip c8 h
        exact x_wk (xwk_c (xwk_c (xwk_c (xwk_n (xwk_c (xwk_n xwk_0)))))) ((P_X2_cellOf_J80 hZ hk31) x0 x1 x2 x4 H h)
      · replace h := x_in c8 h
        refine x_lload_n hz dX2_cellOf_64 rfl ?_
        refine x_lconst (v := (1 : Int64)) hz dX2_cellOf_65 (by decide) ?_
        refine x_iconst (v := (5 : Int32)) hz dX2_cellOf_66 (by decide) ?_
        refine x_iload hz dX2_cellOf_67 rfl ?_
        refine x_imul hz dX2_cellOf_69 ?_
        refine x_aload hz dX2_cellOf_70 rfl ?_
        refine x_aload_n hz dX2_cellOf_72 rfl ?_
        obtain ⟨b10, e_b10, h⟩ := x_bnd h
        obtain ⟨v11, H9, e_H9, h⟩ := x_b2 h
        refine x_callVi (as := [.inr (.inr x1)]) (st := [.int ((5 : Int32) * x4), .long (1 : Int64), .long x2]) cs_X2_68 (ci := 0) ⟨rfl, rfl⟩ rfl rfl hz (by omega) (Nat.le_trans (x_sm1 rfl (x_sm2 rfl (x_sm2 rfl x_sm0))) (by decide)) dX2_cellOf_73 e_b10 (M_X0_outcomeIn e_H9) ?_
        refine x_iadd hz dX2_cellOf_76 ?_
        refine x_lshl hz dX2_cellOf_77 ?_
        refine x_lor hz dX2_cellOf_78 ?_
        refine x_lstore_n (pl' := [xA x0, xA x1, xJ (x2 ||| ((1 : Int64) <<< ((((5 : Int32) * x4) + v11).toInt64 &&& 63))), xN, xI x4, xA v7]) hz dX2_cellOf_79 (by decide) rfl ?_
        exact x_wk (xwk_c (xwk_c (xwk_c (xwk_n (xwk_c (xwk_n xwk_0)))))) ((P_X2_cellOf_J80 hZ hk31) x0 x1 (x2 ||| ((1 : Int64) <<< ((((5 : Int32) * x4) + v11).toInt64 &&& 63))) x4 H9 h)
noncomputable def F_X2_cellOf_L31 (N : Nat) : Nat → (Option Nat) → (Option Nat) → Int64 → Int32 → xH → Option (Int64 × xH)
  | 0 => fun _ _ _ _ _ => none
  | n + 1 => F_X2_cellOf_J31 N (F_X2_cellOf_L31 N n)
theorem P_X2_cellOf_L31 {N : Nat} {Z : xZ} {rv : Int64} {Hf : xH} (hZ : Z = xZm cX2_cellOf yX2_cellOf 6 49 (some .long) (some (.long rv)) Hf) : ∀ (n : Nat) (x0 : (Option Nat)) (x1 : (Option Nat)) (x2 : Int64) (x4 : Int32) (H : xH), F_X2_cellOf_L31 N n x0 x1 x2 x4 H = some (rv, Hf) → xWq Z H 31 [xA x0, xA x1, xJ x2, xN, xI x4, xN] [] := by
  intro n
  induction n with
  | zero => intro _ _ _ _ _ h; cases h
  | succ n ih => exact P_X2_cellOf_J31 hZ ih
noncomputable def F_X2_cellOf_J27 (N : Nat) (x0 : (Option Nat)) (x1 : (Option Nat)) (s0 : Int64) (H : xH) : Option (Int64 × xH) :=
  (F_X2_cellOf_L31 N N) x0 x1 s0 (0 : Int32) H
set_option maxRecDepth 20000 in
set_option maxHeartbeats 4000000 in
theorem P_X2_cellOf_J27 {N : Nat} {Z : xZ} {rv : Int64} {Hf : xH} (hZ : Z = xZm cX2_cellOf yX2_cellOf 6 49 (some .long) (some (.long rv)) Hf) : ∀ (x0 : (Option Nat)) (x1 : (Option Nat)) (s0 : Int64) (H : xH), F_X2_cellOf_J27 N x0 x1 s0 H = some (rv, Hf) → xWq Z H 27 [xA x0, xA x1, xN, xN, xN, xN] [.long s0] := by
  have hz : Z.1 = (cX2_cellOf, yX2_cellOf, 6) := by rw [hZ]; rfl
  have hδ : Z.2.1 = 49 := by rw [hZ]; rfl
  intro x0 x1 s0 H h
  unfold F_X2_cellOf_J27 at h
  refine x_lstore_n (pl' := [xA x0, xA x1, xJ s0, xN, xN, xN]) hz dX2_cellOf_27 (by decide) rfl ?_
  refine x_iconst (v := (0 : Int32)) hz dX2_cellOf_28 (by decide) ?_
  refine x_istore (pl' := [xA x0, xA x1, xJ s0, xN, xI (0 : Int32), xN]) hz dX2_cellOf_29 (by decide) rfl ?_
  exact x_wk (xwk_c (xwk_c (xwk_c (xwk_n (xwk_c (xwk_n xwk_0)))))) ((P_X2_cellOf_L31 hZ N) x0 x1 s0 (0 : Int32) H h)
noncomputable def F_X2_cellOf (N : Nat) (a0 : (Option Nat)) (a1 : (Option Nat)) (H : xH) : Option (Int64 × xH) :=
  (xob H a0 2).bind fun b2 =>
  x_bd2 (F_X2_isInTime N a0 a1 H) fun v3 H1 =>
  if v3 = 0 then (some ((0 : Int64), H1)) else ((xob H1 a0 2).bind fun b6 =>
  x_bd2 (F_X2_isPossible N a0 a1 H1) fun v7 H5 =>
  if v7 = 0 then ((F_X2_cellOf_J27 N) a0 a1 (1152921504606846976 : Int64) H5) else ((F_X2_cellOf_J27 N) a0 a1 (3458764513820540928 : Int64) H5))
set_option maxRecDepth 20000 in
set_option maxHeartbeats 4000000 in
theorem P_X2_cellOf {N : Nat} {Z : xZ} {rv : Int64} {Hf : xH} (hZ : Z = xZm cX2_cellOf yX2_cellOf 6 49 (some .long) (some (.long rv)) Hf) : ∀ (a0 : (Option Nat)) (a1 : (Option Nat)) (H : xH), F_X2_cellOf N a0 a1 H = some (rv, Hf) → xWq Z H 0 [xA a0, xA a1, xN, xN, xN, xN] [] := by
  have hz : Z.1 = (cX2_cellOf, yX2_cellOf, 6) := by rw [hZ]; rfl
  have hδ : Z.2.1 = 49 := by rw [hZ]; rfl
  intro a0 a1 H h
  unfold F_X2_cellOf at h
  refine x_aload_n hz dX2_cellOf_0 rfl ?_
  refine x_aload_n hz dX2_cellOf_1 rfl ?_
  obtain ⟨b2, e_b2, h⟩ := x_bnd h
  obtain ⟨v3, H1, e_H1, h⟩ := x_b2 h
  refine x_callVi (as := [.inr (.inr a1)]) (st := []) cs_X2_57 (ci := 2) ⟨rfl, rfl⟩ rfl rfl hz (by omega) (by decide) dX2_cellOf_2 e_b2 (M_X2_isInTime e_H1) ?_
  refine x_if_ne (t := 10) hz dX2_cellOf_5 (by decide) (fun c4 => ?_) (fun c4 => ?_)
  · replace h := x_in c4 h
    refine x_aload_n hz dX2_cellOf_10 rfl ?_
    refine x_aload_n hz dX2_cellOf_11 rfl ?_
    obtain ⟨b6, e_b6, h⟩ := x_bnd h
    obtain ⟨v7, H5, e_H5, h⟩ := x_b2 h
    refine x_callVi (as := [.inr (.inr a1)]) (st := []) cs_X2_61 (ci := 2) ⟨rfl, rfl⟩ rfl rfl hz (by omega) (by decide) dX2_cellOf_12 e_b6 (M_X2_isPossible e_H5) ?_
    refine x_if_eq (t := 24) hz dX2_cellOf_15 (by decide) (fun c8 => ?_) (fun c8 => ?_)
    · replace h := x_ip c8 h
      refine x_ldc2 (v := (1152921504606846976 : Int64)) hz dX2_cellOf_24 wc_X2_66 ?_
      exact x_wk (xwk_c (xwk_c (xwk_n (xwk_n (xwk_n (xwk_n xwk_0)))))) ((P_X2_cellOf_J27 hZ) a0 a1 (1152921504606846976 : Int64) H5 h)
    · replace h := x_in c8 h
      refine x_ldc2 (v := (3458764513820540928 : Int64)) hz dX2_cellOf_18 wc_X2_64 ?_
      refine x_goto (t := 27) hz dX2_cellOf_21 (by decide) ?_
      exact x_wk (xwk_c (xwk_c (xwk_n (xwk_n (xwk_n (xwk_n xwk_0)))))) ((P_X2_cellOf_J27 hZ) a0 a1 (3458764513820540928 : Int64) H5 h)
  · replace h := x_ip c4 h
    refine x_lconst (v := (0 : Int64)) hz dX2_cellOf_8 (by decide) ?_
    cases h
    exact x_lret hZ dX2_cellOf_9
theorem M_X2_cellOf {N : Nat} {a0 : (Option Nat)} {a1 : (Option Nat)} {H H1 : xH} {r1 : Int64} (h : F_X2_cellOf N a0 a1 H = some (r1, H1)) : xM yX2_cellOf cX2_cellOf 6 (some .long) 49 [.inr (.inr a0), .inr (.inr a1)] H (some (.long r1)) H1 :=
  xM_of (by decide +kernel) (xT_tb 246 (by decide +kernel) (by decide +kernel)) (by simp [xargs, x2]) rfl (P_X2_cellOf rfl a0 a1 H h)
/-! BettingBook$Gains.init()V -/
noncomputable def F_X3_init (N : Nat) (a0 : (Option Nat)) (H : xH) : Option xH :=
  (a0).bind fun b1 =>
  (xnI .int H (60 : Int32)).bind fun H2 =>
  (xpA H2 a0 3 0 (some H.2.1)).bind fun H3 =>
  some H3
set_option maxRecDepth 20000 in
set_option maxHeartbeats 4000000 in
theorem P_X3_init {N : Nat} {Z : xZ} {Hf : xH} (hZ : Z = xZm cX3_init yX3_init 1 2 none none Hf) : ∀ (a0 : (Option Nat)) (H : xH), F_X3_init N a0 H = some Hf → xWq Z H 0 [xA a0] [] := by
  have hz : Z.1 = (cX3_init, yX3_init, 1) := by rw [hZ]; rfl
  have hδ : Z.2.1 = 2 := by rw [hZ]; rfl
  intro a0 H h
  unfold F_X3_init at h
  refine x_aload_n hz dX3_init_0 rfl ?_
  obtain ⟨b1, e_b1, h⟩ := x_bnd h
  refine x_objInit e_b1 hz (by omega) (by decide) ol_X3_3 oi_1 oi_2 dX3_init_1 ?_
  refine x_aload_n hz dX3_init_4 rfl ?_
  refine x_bipush (v := (60 : Int32)) hz dX3_init_5 (by decide) ?_
  obtain ⟨H2, e_H2, h⟩ := x_bnd h
  refine x_newI aw_int hz dX3_init_7 e_H2 ?_
  obtain ⟨H3, e_H3, h⟩ := x_bnd h
  refine x_putF (v := va_rf (some H.2.1)) hz rfl dX3_init_9 fs_X3_9F (x_nra _ _) (x_fta _ _) e_H3 ?_
  cases h
  exact x_vret hZ dX3_init_12
theorem M_X3_init {N : Nat} {a0 : (Option Nat)} {H H1 : xH} (h : F_X3_init N a0 H = some H1) : xM yX3_init cX3_init 1 none 2 [.inr (.inr a0)] H none H1 :=
  xM_of (by decide +kernel) (xT_tb 196 (by decide +kernel) (by decide +kernel)) (by simp [xargs, x2]) rfl (P_X3_init rfl a0 H h)
/-! java/util/Arrays.fill([II)V -/
noncomputable def F_J7_fill_53178_J5 (N : Nat) (k5 : (Option Nat) → Int32 → Int32 → Int32 → xH → Option xH) (x0 : (Option Nat)) (x1 : Int32) (x2 : Int32) (x3 : Int32) (H : xH) : Option xH :=
  if x3 ≤ x2 then (some H) else ((xsI .int H x0 x2 x1).bind fun H2 =>
  k5 x0 x1 (x2 + 1) x3 H2)
set_option maxRecDepth 20000 in
set_option maxHeartbeats 4000000 in
theorem P_J7_fill_53178_J5 {N : Nat} {Z : xZ} {Hf : xH} (hZ : Z = xZm cJ7_fill_53178 yJ7_fill_53178 4 1 none none Hf) {k5 : (Option Nat) → Int32 → Int32 → Int32 → xH → Option xH} (hk5 : ∀ (x0 : (Option Nat)) (x1 : Int32) (x2 : Int32) (x3 : Int32) (H : xH), k5 x0 x1 x2 x3 H = some Hf → xWq Z H 5 [xA x0, xI x1, xI x2, xI x3] []) : ∀ (x0 : (Option Nat)) (x1 : Int32) (x2 : Int32) (x3 : Int32) (H : xH), F_J7_fill_53178_J5 N k5 x0 x1 x2 x3 H = some Hf → xWq Z H 5 [xA x0, xI x1, xI x2, xI x3] [] := by
  have hz : Z.1 = (cJ7_fill_53178, yJ7_fill_53178, 4) := by rw [hZ]; rfl
  have hδ : Z.2.1 = 1 := by rw [hZ]; rfl
  intro x0 x1 x2 x3 H h
  unfold F_J7_fill_53178_J5 at h
  refine x_iload_n hz dJ7_fill_53178_5 rfl ?_
  refine x_iload_n hz dJ7_fill_53178_6 rfl ?_
  refine x_icmp_ge (t := 20) hz dJ7_fill_53178_7 (by decide) (fun c1 => ?_) (fun c1 => ?_)
  · replace h := x_ip c1 h
    cases h
    exact x_vret hZ dJ7_fill_53178_20
  · replace h := x_in c1 h
    refine x_aload_n hz dJ7_fill_53178_10 rfl ?_
    refine x_iload_n hz dJ7_fill_53178_11 rfl ?_
    refine x_iload_n hz dJ7_fill_53178_12 rfl ?_
    obtain ⟨H2, e_H2, h⟩ := x_bnd h
    refine x_iast hz dJ7_fill_53178_13 e_H2 ?_
    refine x_iinc (w := (x2 + 1)) (pl' := [xA x0, xI x1, xI (x2 + 1), xI x3]) hz dJ7_fill_53178_14 rfl rfl (by decide) rfl ?_
    refine x_goto (t := 5) hz dJ7_fill_53178_17 (by decide) ?_
    exact x_wk (xwk_c (xwk_c (xwk_c (xwk_c xwk_0)))) (hk5 x0 x1 (x2 + 1) x3 H2 h)
noncomputable def F_J7_fill_53178_L5 (N : Nat) : Nat → (Option Nat) → Int32 → Int32 → Int32 → xH → Option xH
  | 0 => fun _ _ _ _ _ => none
  | n + 1 => F_J7_fill_53178_J5 N (F_J7_fill_53178_L5 N n)
theorem P_J7_fill_53178_L5 {N : Nat} {Z : xZ} {Hf : xH} (hZ : Z = xZm cJ7_fill_53178 yJ7_fill_53178 4 1 none none Hf) : ∀ (n : Nat) (x0 : (Option Nat)) (x1 : Int32) (x2 : Int32) (x3 : Int32) (H : xH), F_J7_fill_53178_L5 N n x0 x1 x2 x3 H = some Hf → xWq Z H 5 [xA x0, xI x1, xI x2, xI x3] [] := by
  intro n
  induction n with
  | zero => intro _ _ _ _ _ h; cases h
  | succ n ih => exact P_J7_fill_53178_J5 hZ ih
noncomputable def F_J7_fill_53178 (N : Nat) (a0 : (Option Nat)) (a1 : Int32) (H : xH) : Option xH :=
  (xal .int H a0).bind fun v1 =>
  (F_J7_fill_53178_L5 N N) a0 a1 (0 : Int32) v1 H
set_option maxRecDepth 20000 in
set_option maxHeartbeats 4000000 in
theorem P_J7_fill_53178 {N : Nat} {Z : xZ} {Hf : xH} (hZ : Z = xZm cJ7_fill_53178 yJ7_fill_53178 4 1 none none Hf) : ∀ (a0 : (Option Nat)) (a1 : Int32) (H : xH), F_J7_fill_53178 N a0 a1 H = some Hf → xWq Z H 0 [xA a0, xI a1, xN, xN] [] := by
  have hz : Z.1 = (cJ7_fill_53178, yJ7_fill_53178, 4) := by rw [hZ]; rfl
  have hδ : Z.2.1 = 1 := by rw [hZ]; rfl
  intro a0 a1 H h
  unfold F_J7_fill_53178 at h
  refine x_iconst (v := (0 : Int32)) hz dJ7_fill_53178_0 (by decide) ?_
  refine x_istore_n (pl' := [xA a0, xI a1, xI (0 : Int32), xN]) hz dJ7_fill_53178_1 (by decide) rfl ?_
  refine x_aload_n hz dJ7_fill_53178_2 rfl ?_
  obtain ⟨v1, e_v1, h⟩ := x_bnd h
  refine x_alen (t0 := 0) (fun _ => rfl) hz dJ7_fill_53178_3 e_v1 ?_
  refine x_istore_n (pl' := [xA a0, xI a1, xI (0 : Int32), xI v1]) hz dJ7_fill_53178_4 (by decide) rfl ?_
  exact x_wk (xwk_c (xwk_c (xwk_c (xwk_c xwk_0)))) ((P_J7_fill_53178_L5 hZ N) a0 a1 (0 : Int32) v1 H h)
theorem M_J7_fill_53178 {N : Nat} {a0 : (Option Nat)} {a1 : Int32} {H H1 : xH} (h : F_J7_fill_53178 N a0 a1 H = some H1) : xM yJ7_fill_53178 cJ7_fill_53178 4 none 1 [.inr (.inr a0), .inl a1] H none H1 :=
  xM_of (by decide +kernel) (xT_tb 242 (by decide +kernel) (by decide +kernel)) (by simp [xargs, x2]) rfl (P_J7_fill_53178 rfl a0 a1 H h)
/-! BettingBook$Gains.clear()V -/
noncomputable def F_X3_clear (N : Nat) (a0 : (Option Nat)) (H : xH) : Option xH :=
  (xgA H a0 3 0).bind fun v1 =>
  (F_J7_fill_53178 N v1 (0 : Int32) H).bind fun H2 =>
  some H2
set_option maxRecDepth 20000 in
set_option maxHeartbeats 4000000 in
theorem P_X3_clear {N : Nat} {Z : xZ} {Hf : xH} (hZ : Z = xZm cX3_clear yX3_clear 1 2 none none Hf) : ∀ (a0 : (Option Nat)) (H : xH), F_X3_clear N a0 H = some Hf → xWq Z H 0 [xA a0] [] := by
  have hz : Z.1 = (cX3_clear, yX3_clear, 1) := by rw [hZ]; rfl
  have hδ : Z.2.1 = 2 := by rw [hZ]; rfl
  intro a0 H h
  unfold F_X3_clear at h
  refine x_aload_n hz dX3_clear_0 rfl ?_
  obtain ⟨v1, e_v1, h⟩ := x_bnd h
  refine x_getA hz dX3_clear_1 fs_X3_9 e_v1 ?_
  refine x_iconst (v := (0 : Int32)) hz dX3_clear_4 (by decide) ?_
  obtain ⟨H2, e_H2, h⟩ := x_bnd h
  refine x_callSv (as := [.inr (.inr v1), .inl (0 : Int32)]) (st := []) cs_X3_15 rfl rfl hz (by omega) (by decide) dX3_clear_5 (M_J7_fill_53178 e_H2) ?_
  cases h
  exact x_vret hZ dX3_clear_8
theorem M_X3_clear {N : Nat} {a0 : (Option Nat)} {H H1 : xH} (h : F_X3_clear N a0 H = some H1) : xM yX3_clear cX3_clear 1 none 2 [.inr (.inr a0)] H none H1 :=
  xM_of (by decide +kernel) (xT_tb 830 (by decide +kernel) (by decide +kernel)) (by simp [xargs, x2]) rfl (P_X3_clear rfl a0 H h)
/-! BettingBook$Ledger.holder(II)I -/
noncomputable def F_X4_holder (N : Nat) (a0 : (Option Nat)) (a1 : Int32) (a2 : Int32) (H : xH) : Option (Int32 × xH) :=
  (xgA H a0 4 3).bind fun v1 =>
  x_bd2 (F_X11_at N v1 (((2 : Int32) * a1) + a2) H) fun v3 H2 =>
  some (v3, H2)
set_option maxRecDepth 20000 in
set_option maxHeartbeats 4000000 in
theorem P_X4_holder {N : Nat} {Z : xZ} {rv : Int32} {Hf : xH} (hZ : Z = xZm cX4_holder yX4_holder 3 2 (some .int) (some (.int rv)) Hf) : ∀ (a0 : (Option Nat)) (a1 : Int32) (a2 : Int32) (H : xH), F_X4_holder N a0 a1 a2 H = some (rv, Hf) → xWq Z H 0 [xA a0, xI a1, xI a2] [] := by
  have hz : Z.1 = (cX4_holder, yX4_holder, 3) := by rw [hZ]; rfl
  have hδ : Z.2.1 = 2 := by rw [hZ]; rfl
  intro a0 a1 a2 H h
  unfold F_X4_holder at h
  refine x_aload_n hz dX4_holder_0 rfl ?_
  obtain ⟨v1, e_v1, h⟩ := x_bnd h
  refine x_getA hz dX4_holder_1 fs_X4_15 e_v1 ?_
  refine x_iconst (v := (2 : Int32)) hz dX4_holder_4 (by decide) ?_
  refine x_iload_n hz dX4_holder_5 rfl ?_
  refine x_imul hz dX4_holder_6 ?_
  refine x_iload_n hz dX4_holder_7 rfl ?_
  refine x_iadd hz dX4_holder_8 ?_
  obtain ⟨v3, H2, e_H2, h⟩ := x_b2 h
  refine x_callSi (as := [.inr (.inr v1), .inl (((2 : Int32) * a1) + a2)]) (st := []) cs_X4_59 rfl rfl hz (by omega) (by decide) dX4_holder_9 (M_X11_at e_H2) ?_
  cases h
  exact x_iret hZ dX4_holder_12
theorem M_X4_holder {N : Nat} {a0 : (Option Nat)} {a1 : Int32} {a2 : Int32} {H H1 : xH} {r1 : Int32} (h : F_X4_holder N a0 a1 a2 H = some (r1, H1)) : xM yX4_holder cX4_holder 3 (some .int) 2 [.inr (.inr a0), .inl a1, .inl a2] H (some (.int r1)) H1 :=
  xM_of (by decide +kernel) (xT_tb 645 (by decide +kernel) (by decide +kernel)) (by simp [xargs, x2]) rfl (P_X4_holder rfl a0 a1 a2 H h)
/-! BettingBook$Gains.addSide(LBettingBook$Bet;II)V -/
noncomputable def F_X3_addSide_J57 (N : Nat) (k8 : (Option Nat) → (Option Nat) → Int32 → Int32 → Int32 → xH → Option xH) (x0 : (Option Nat)) (x1 : (Option Nat)) (x2 : Int32) (x3 : Int32) (x4 : Int32) (s0 : (Option Nat)) (s1 : Int32) (s2 : Int32) (s3 : Int32) (H : xH) : Option xH :=
  (F_X11_set N s0 s1 (s2 + s3) H).bind fun H1 =>
  k8 x0 x1 x2 x3 (x4 + 1) H1
set_option maxRecDepth 20000 in
set_option maxHeartbeats 4000000 in
theorem P_X3_addSide_J57 {N : Nat} {Z : xZ} {Hf : xH} (hZ : Z = xZm cX3_addSide yX3_addSide 7 2 none none Hf) {k8 : (Option Nat) → (Option Nat) → Int32 → Int32 → Int32 → xH → Option xH} (hk8 : ∀ (x0 : (Option Nat)) (x1 : (Option Nat)) (x2 : Int32) (x3 : Int32) (x4 : Int32) (H : xH), k8 x0 x1 x2 x3 x4 H = some Hf → xWq Z H 8 [xA x0, xA x1, xI x2, xI x3, xI x4, xN, xN] []) : ∀ (x0 : (Option Nat)) (x1 : (Option Nat)) (x2 : Int32) (x3 : Int32) (x4 : Int32) (s0 : (Option Nat)) (s1 : Int32) (s2 : Int32) (s3 : Int32) (H : xH), F_X3_addSide_J57 N k8 x0 x1 x2 x3 x4 s0 s1 s2 s3 H = some Hf → xWq Z H 57 [xA x0, xA x1, xI x2, xI x3, xI x4, xN, xN] [.int s3, .int s2, .int s1, va_rf s0] := by
  have hz : Z.1 = (cX3_addSide, yX3_addSide, 7) := by rw [hZ]; rfl
  have hδ : Z.2.1 = 2 := by rw [hZ]; rfl
  intro x0 x1 x2 x3 x4 s0 s1 s2 s3 H h
  unfold F_X3_addSide_J57 at h
  refine x_iadd hz dX3_addSide_57 ?_
  obtain ⟨H1, e_H1, h⟩ := x_bnd h
  refine x_callSv (as := [.inr (.inr s0), .inl s1, .inl (s2 + s3)]) (st := []) cs_X3_54 rfl rfl hz (by omega) (by decide) dX3_addSide_58 (M_X11_set e_H1) ?_
  refine x_iinc (w := (x4 + 1)) (pl' := [xA x0, xA x1, xI x2, xI x3, xI (x4 + 1), xN, xN]) hz dX3_addSide_61 rfl rfl (by decide) rfl ?_
  refine x_goto (t := 8) hz dX3_addSide_64 (by decide) ?_
  exact x_wk (xwk_c (xwk_c (xwk_c (xwk_c (xwk_c (xwk_n (xwk_n xwk_0))))))) (hk8 x0 x1 x2 x3 (x4 + 1) H1 h)
noncomputable def F_X3_addSide_J8 (N : Nat) (k8 : (Option Nat) → (Option Nat) → Int32 → Int32 → Int32 → xH → Option xH) (x0 : (Option Nat)) (x1 : (Option Nat)) (x2 : Int32) (x3 : Int32) (x4 : Int32) (H : xH) : Option xH :=
  if (5 : Int32) ≤ x4 then (some H) else ((xob H x1 0).bind fun b3 =>
  x_bd2 (F_X0_coinOf N x1 x4 H) fun v4 H2 =>
  (xgA H2 x0 3 0).bind fun v5 =>
  (xgA H2 x0 3 0).bind fun v6 =>
  x_bd2 (F_X11_at N v6 (((5 : Int32) * x2) + x4) H2) fun v8 H7 =>
  if x3 = 0 then ((F_X3_addSide_J57 N k8) x0 x1 x2 x3 x4 v5 (((5 : Int32) * x2) + x4) v8 v4 H7) else ((F_X3_addSide_J57 N k8) x0 x1 x2 x3 x4 v5 (((5 : Int32) * x2) + x4) v8 (-v4) H7))
set_option maxRecDepth 20000 in
set_option maxHeartbeats 4000000 in
theorem P_X3_addSide_J8 {N : Nat} {Z : xZ} {Hf : xH} (hZ : Z = xZm cX3_addSide yX3_addSide 7 2 none none Hf) {k8 : (Option Nat) → (Option Nat) → Int32 → Int32 → Int32 → xH → Option xH} (hk8 : ∀ (x0 : (Option Nat)) (x1 : (Option Nat)) (x2 : Int32) (x3 : Int32) (x4 : Int32) (H : xH), k8 x0 x1 x2 x3 x4 H = some Hf → xWq Z H 8 [xA x0, xA x1, xI x2, xI x3, xI x4, xN, xN] []) : ∀ (x0 : (Option Nat)) (x1 : (Option Nat)) (x2 : Int32) (x3 : Int32) (x4 : Int32) (H : xH), F_X3_addSide_J8 N k8 x0 x1 x2 x3 x4 H = some Hf → xWq Z H 8 [xA x0, xA x1, xI x2, xI x3, xI x4, xN, xN] [] := by
  have hz : Z.1 = (cX3_addSide, yX3_addSide, 7) := by rw [hZ]; rfl
  have hδ : Z.2.1 = 2 := by rw [hZ]; rfl
  intro x0 x1 x2 x3 x4 H h
  unfold F_X3_addSide_J8 at h
  refine x_iload hz dX3_addSide_8 rfl ?_
  refine x_iconst (v := (5 : Int32)) hz dX3_addSide_10 (by decide) ?_
  refine x_icmp_ge (t := 67) hz dX3_addSide_11 (by decide) (fun c1 => ?_) (fun c1 => ?_)
  · replace h := x_ip c1 h
    cases h
    exact x_vret hZ dX3_addSide_67
  · replace h := x_in c1 h
    refine x_iconst (v := (5 : Int32)) hz dX3_addSide_14 (by decide) ?_
    refine x_iload_n hz dX3_addSide_15 rfl ?_
    refine x_imul hz dX3_addSide_16 ?_
    refine x_iload hz dX3_addSide_17 rfl ?_
    refine x_iadd hz dX3_addSide_19 ?_
    refine x_istore (pl' := [xA x0, xA x1, xI x2, xI x3, xI x4, xI (((5 : Int32) * x2) + x4), xN]) hz dX3_addSide_20 (by decide) rfl ?_
    refine x_aload_n hz dX3_addSide_22 rfl ?_
    refine x_iload hz dX3_addSide_23 rfl ?_
    obtain ⟨b3, e_b3, h⟩ := x_bnd h
    obtain ⟨v4, H2, e_H2, h⟩ := x_b2 h
    refine x_callVi (as := [.inl x4]) (st := []) cs_X3_44 (ci := 0) ⟨rfl, rfl⟩ rfl rfl hz (by omega) (by decide) dX3_addSide_25 e_b3 (M_X0_coinOf e_H2) ?_
    refine x_istore (pl' := [xA x0, xA x1, xI x2, xI x3, xI x4, xI (((5 : Int32) * x2) + x4), xI v4]) hz dX3_addSide_28 (by decide) rfl ?_
    refine x_aload_n hz dX3_addSide_30 rfl ?_
    obtain ⟨v5, e_v5, h⟩ := x_bnd h
    refine x_getA hz dX3_addSide_31 fs_X3_9 e_v5 ?_
    refine x_iload hz dX3_addSide_34 rfl ?_
    refine x_aload_n hz dX3_addSide_36 rfl ?_
    obtain ⟨v6, e_v6, h⟩ := x_bnd h
    refine x_getA hz dX3_addSide_37 fs_X3_9 e_v6 ?_
    refine x_iload hz dX3_addSide_40 rfl ?_
    obtain ⟨v8, H7, e_H7, h⟩ := x_b2 h
    refine x_callSi (as := [.inr (.inr v6), .inl (((5 : Int32) * x2) + x4)]) (st := [.int (((5 : Int32) * x2) + x4), va_rf v5]) cs_X3_50 rfl rfl hz (by omega) (Nat.le_trans (x_sm1 rfl (x_sm1 (x_rfc _) x_sm0)) (by decide)) dX3_addSide_42 (M_X11_at e_H7) ?_
    refine x_iload_n hz dX3_addSide_45 rfl ?_
    refine x_if_ne (t := 54) hz dX3_addSide_46 (by decide) (fun c9 => ?_) (fun c9 => ?_)
    · replace h := x_in c9 h
      refine x_iload hz dX3_addSide_54 rfl ?_
      refine x_ineg hz dX3_addSide_56 ?_
      exact x_wk (xwk_c (xwk_c (xwk_c (xwk_c (xwk_c (xwk_n (xwk_n xwk_0))))))) ((P_X3_addSide_J57 hZ hk8) x0 x1 x2 x3 x4 v5 (((5 : Int32) * x2) + x4) v8 (-v4) H7 h)
    · replace h := x_ip c9 h
      refine x_iload hz dX3_addSide_49 rfl ?_
      refine x_goto (t := 57) hz dX3_addSide_51 (by decide) ?_
      exact x_wk (xwk_c (xwk_c (xwk_c (xwk_c (xwk_c (xwk_n (xwk_n xwk_0))))))) ((P_X3_addSide_J57 hZ hk8) x0 x1 x2 x3 x4 v5 (((5 : Int32) * x2) + x4) v8 v4 H7 h)
noncomputable def F_X3_addSide_L8 (N : Nat) : Nat → (Option Nat) → (Option Nat) → Int32 → Int32 → Int32 → xH → Option xH
  | 0 => fun _ _ _ _ _ _ => none
  | n + 1 => F_X3_addSide_J8 N (F_X3_addSide_L8 N n)
theorem P_X3_addSide_L8 {N : Nat} {Z : xZ} {Hf : xH} (hZ : Z = xZm cX3_addSide yX3_addSide 7 2 none none Hf) : ∀ (n : Nat) (x0 : (Option Nat)) (x1 : (Option Nat)) (x2 : Int32) (x3 : Int32) (x4 : Int32) (H : xH), F_X3_addSide_L8 N n x0 x1 x2 x3 x4 H = some Hf → xWq Z H 8 [xA x0, xA x1, xI x2, xI x3, xI x4, xN, xN] [] := by
  intro n
  induction n with
  | zero => intro _ _ _ _ _ _ h; cases h
  | succ n ih => exact P_X3_addSide_J8 hZ ih
noncomputable def F_X3_addSide (N : Nat) (a0 : (Option Nat)) (a1 : (Option Nat)) (a2 : Int32) (a3 : Int32) (H : xH) : Option xH :=
  if a1 = none then (some H) else ((F_X3_addSide_L8 N N) a0 a1 a2 a3 (0 : Int32) H)
set_option maxRecDepth 20000 in
set_option maxHeartbeats 4000000 in
theorem P_X3_addSide {N : Nat} {Z : xZ} {Hf : xH} (hZ : Z = xZm cX3_addSide yX3_addSide 7 2 none none Hf) : ∀ (a0 : (Option Nat)) (a1 : (Option Nat)) (a2 : Int32) (a3 : Int32) (H : xH), F_X3_addSide N a0 a1 a2 a3 H = some Hf → xWq Z H 0 [xA a0, xA a1, xI a2, xI a3, xN, xN, xN] [] := by
  have hz : Z.1 = (cX3_addSide, yX3_addSide, 7) := by rw [hZ]; rfl
  have hδ : Z.2.1 = 2 := by rw [hZ]; rfl
  intro a0 a1 a2 a3 H h
  unfold F_X3_addSide at h
  refine x_aload_n hz dX3_addSide_0 rfl ?_
  refine x_ifnonnull (t := 5) hz dX3_addSide_1 (by decide) (fun c1 => ?_) (fun c1 => ?_)
  · replace h := x_in c1 h
    refine x_iconst (v := (0 : Int32)) hz dX3_addSide_5 (by decide) ?_
    refine x_istore (pl' := [xA a0, xA a1, xI a2, xI a3, xI (0 : Int32), xN, xN]) hz dX3_addSide_6 (by decide) rfl ?_
    exact x_wk (xwk_c (xwk_c (xwk_c (xwk_c (xwk_c (xwk_n (xwk_n xwk_0))))))) ((P_X3_addSide_L8 hZ N) a0 a1 a2 a3 (0 : Int32) H h)
  · replace h := x_ip c1 h
    cases h
    exact x_vret hZ dX3_addSide_4
theorem M_X3_addSide {N : Nat} {a0 : (Option Nat)} {a1 : (Option Nat)} {a2 : Int32} {a3 : Int32} {H H1 : xH} (h : F_X3_addSide N a0 a1 a2 a3 H = some H1) : xM yX3_addSide cX3_addSide 7 none 2 [.inr (.inr a0), .inr (.inr a1), .inl a2, .inl a3] H none H1 :=
  xM_of (by decide +kernel) (xT_tb 837 (by decide +kernel) (by decide +kernel)) (by simp [xargs, x2]) rfl (P_X3_addSide rfl a0 a1 a2 a3 H h)
/-! BettingBook$Gains.ofMember(LBettingBook$Club;LBettingBook$Ledger;I)V -/
noncomputable def F_X3_ofMember_J51 (N : Nat) (k19 : (Option Nat) → (Option Nat) → (Option Nat) → Int32 → Int32 → Int32 → xH → Option xH) (x0 : (Option Nat)) (x1 : (Option Nat)) (x2 : (Option Nat)) (x3 : Int32) (x4 : Int32) (x5 : Int32) (H : xH) : Option xH :=
  k19 x0 x1 x2 x3 x4 (x5 + 1) H
set_option maxRecDepth 20000 in
set_option maxHeartbeats 4000000 in
theorem P_X3_ofMember_J51 {N : Nat} {Z : xZ} {Hf : xH} (hZ : Z = xZm cX3_ofMember yX3_ofMember 6 3 none none Hf) {k19 : (Option Nat) → (Option Nat) → (Option Nat) → Int32 → Int32 → Int32 → xH → Option xH} (hk19 : ∀ (x0 : (Option Nat)) (x1 : (Option Nat)) (x2 : (Option Nat)) (x3 : Int32) (x4 : Int32) (x5 : Int32) (H : xH), k19 x0 x1 x2 x3 x4 x5 H = some Hf → xWq Z H 19 [xA x0, xA x1, xA x2, xI x3, xI x4, xI x5] []) : ∀ (x0 : (Option Nat)) (x1 : (Option Nat)) (x2 : (Option Nat)) (x3 : Int32) (x4 : Int32) (x5 : Int32) (H : xH), F_X3_ofMember_J51 N k19 x0 x1 x2 x3 x4 x5 H = some Hf → xWq Z H 51 [xA x0, xA x1, xA x2, xI x3, xI x4, xI x5] [] := by
  have hz : Z.1 = (cX3_ofMember, yX3_ofMember, 6) := by rw [hZ]; rfl
  have hδ : Z.2.1 = 3 := by rw [hZ]; rfl
  intro x0 x1 x2 x3 x4 x5 H h
  unfold F_X3_ofMember_J51 at h
  refine x_iinc (w := (x5 + 1)) (pl' := [xA x0, xA x1, xA x2, xI x3, xI x4, xI (x5 + 1)]) hz dX3_ofMember_51 rfl rfl (by decide) rfl ?_
  refine x_goto (t := 19) hz dX3_ofMember_54 (by decide) ?_
  exact x_wk (xwk_c (xwk_c (xwk_c (xwk_c (xwk_c (xwk_c xwk_0)))))) (hk19 x0 x1 x2 x3 x4 (x5 + 1) H h)
noncomputable def F_X3_ofMember_J19 (N : Nat) (k19 : (Option Nat) → (Option Nat) → (Option Nat) → Int32 → Int32 → Int32 → xH → Option xH) (k57 : (Option Nat) → (Option Nat) → (Option Nat) → Int32 → Int32 → xH → Option xH) (x0 : (Option Nat)) (x1 : (Option Nat)) (x2 : (Option Nat)) (x3 : Int32) (x4 : Int32) (x5 : Int32) (H : xH) : Option xH :=
  if (2 : Int32) ≤ x5 then (k57 x0 x1 x2 x3 x4 H) else ((xob H x2 4).bind fun b3 =>
  x_bd2 (F_X4_holder N x2 x4 x5 H) fun v4 H2 =>
  if v4 = x3 then ((xob H2 x1 2).bind fun b7 =>
  x_bd2 (F_X2_betAt N x1 x4 H2) fun v8 H6 =>
  (xob H6 x0 3).bind fun b10 =>
  (F_X3_addSide N x0 v8 x4 x5 H6).bind fun H9 =>
  (F_X3_ofMember_J51 N k19) x0 x1 x2 x3 x4 x5 H9) else ((F_X3_ofMember_J51 N k19) x0 x1 x2 x3 x4 x5 H2))
set_option maxRecDepth 20000 in
set_option maxHeartbeats 4000000 in
theorem P_X3_ofMember_J19 {N : Nat} {Z : xZ} {Hf : xH} (hZ : Z = xZm cX3_ofMember yX3_ofMember 6 3 none none Hf) {k19 : (Option Nat) → (Option Nat) → (Option Nat) → Int32 → Int32 → Int32 → xH → Option xH} (hk19 : ∀ (x0 : (Option Nat)) (x1 : (Option Nat)) (x2 : (Option Nat)) (x3 : Int32) (x4 : Int32) (x5 : Int32) (H : xH), k19 x0 x1 x2 x3 x4 x5 H = some Hf → xWq Z H 19 [xA x0, xA x1, xA x2, xI x3, xI x4, xI x5] []) {k57 : (Option Nat) → (Option Nat) → (Option Nat) → Int32 → Int32 → xH → Option xH} (hk57 : ∀ (x0 : (Option Nat)) (x1 : (Option Nat)) (x2 : (Option Nat)) (x3 : Int32) (x4 : Int32) (H : xH), k57 x0 x1 x2 x3 x4 H = some Hf → xWq Z H 57 [xA x0, xA x1, xA x2, xI x3, xI x4, xN] []) : ∀ (x0 : (Option Nat)) (x1 : (Option Nat)) (x2 : (Option Nat)) (x3 : Int32) (x4 : Int32) (x5 : Int32) (H : xH), F_X3_ofMember_J19 N k19 k57 x0 x1 x2 x3 x4 x5 H = some Hf → xWq Z H 19 [xA x0, xA x1, xA x2, xI x3, xI x4, xI x5] [] := by
  have hz : Z.1 = (cX3_ofMember, yX3_ofMember, 6) := by rw [hZ]; rfl
  have hδ : Z.2.1 = 3 := by rw [hZ]; rfl
  intro x0 x1 x2 x3 x4 x5 H h
  unfold F_X3_ofMember_J19 at h
  refine x_iload hz dX3_ofMember_19 rfl ?_
  refine x_iconst (v := (2 : Int32)) hz dX3_ofMember_21 (by decide) ?_
  refine x_icmp_ge (t := 57) hz dX3_ofMember_22 (by decide) (fun c1 => ?_) (fun c1 => ?_)
  · replace h := x_ip c1 h
    exact x_wk (xwk_c (xwk_c (xwk_c (xwk_c (xwk_c (xwk_n xwk_0)))))) (hk57 x0 x1 x2 x3 x4 H h)
  · replace h := x_in c1 h
    refine x_aload_n hz dX3_ofMember_25 rfl ?_
    refine x_iload hz dX3_ofMember_26 rfl ?_
    refine x_iload hz dX3_ofMember_28 rfl ?_
    obtain ⟨b3, e_b3, h⟩ := x_bnd h
    obtain ⟨v4, H2, e_H2, h⟩ := x_b2 h
    refine x_callVi (as := [.inl x4, .inl x5]) (st := []) cs_X3_30 (ci := 4) ⟨rfl, rfl⟩ rfl rfl hz (by omega) (by decide) dX3_ofMember_30 e_b3 (M_X4_holder e_H2) ?_
    refine x_iload_n hz dX3_ofMember_33 rfl ?_
    refine x_icmp_ne (t := 51) hz dX3_ofMember_34 (by decide) (fun c5 => ?_) (fun c5 => ?_)
    · replace h := x_in c5 h
      exact x_wk (xwk_c (xwk_c (xwk_c (xwk_c (xwk_c (xwk_c xwk_0)))))) ((P_X3_ofMember_J51 hZ hk19) x0 x1 x2 x3 x4 x5 H2 h)
    · replace h := x_ip c5 h
      refine x_aload_n hz dX3_ofMember_37 rfl ?_
      refine x_aload_n hz dX3_ofMember_38 rfl ?_
      refine x_iload hz dX3_ofMember_39 rfl ?_
      obtain ⟨b7, e_b7, h⟩ := x_bnd h
      obtain ⟨v8, H6, e_H6, h⟩ := x_b2 h
      refine x_callVa (as := [.inl x4]) (st := [va_rf x0]) cs_X3_36 (ci := 2) ⟨rfl, rfl⟩ rfl rfl hz (by omega) (Nat.le_trans (x_sm1 (x_rfc _) x_sm0) (by decide)) dX3_ofMember_41 e_b7 (M_X2_betAt e_H6) ?_
      refine x_iload hz dX3_ofMember_44 rfl ?_
      refine x_iload hz dX3_ofMember_46 rfl ?_
      obtain ⟨b10, e_b10, h⟩ := x_bnd h
      obtain ⟨H9, e_H9, h⟩ := x_bnd h
      refine x_callVv (as := [.inr (.inr v8), .inl x4, .inl x5]) (st := []) cs_X3_40 (ci := 3) ⟨rfl, rfl⟩ rfl rfl hz (by omega) (by decide) dX3_ofMember_48 e_b10 (M_X3_addSide e_H9) ?_
      exact x_wk (xwk_c (xwk_c (xwk_c (xwk_c (xwk_c (xwk_c xwk_0)))))) ((P_X3_ofMember_J51 hZ hk19) x0 x1 x2 x3 x4 x5 H9 h)
noncomputable def F_X3_ofMember_L19 (N : Nat) (k57 : (Option Nat) → (Option Nat) → (Option Nat) → Int32 → Int32 → xH → Option xH) : Nat → (Option Nat) → (Option Nat) → (Option Nat) → Int32 → Int32 → Int32 → xH → Option xH
  | 0 => fun _ _ _ _ _ _ _ => none
  | n + 1 => F_X3_ofMember_J19 N (F_X3_ofMember_L19 N k57 n) k57
theorem P_X3_ofMember_L19 {N : Nat} {Z : xZ} {Hf : xH} (hZ : Z = xZm cX3_ofMember yX3_ofMember 6 3 none none Hf) {k57 : (Option Nat) → (Option Nat) → (Option Nat) → Int32 → Int32 → xH → Option xH} (hk57 : ∀ (x0 : (Option Nat)) (x1 : (Option Nat)) (x2 : (Option Nat)) (x3 : Int32) (x4 : Int32) (H : xH), k57 x0 x1 x2 x3 x4 H = some Hf → xWq Z H 57 [xA x0, xA x1, xA x2, xI x3, xI x4, xN] []) : ∀ (n : Nat) (x0 : (Option Nat)) (x1 : (Option Nat)) (x2 : (Option Nat)) (x3 : Int32) (x4 : Int32) (x5 : Int32) (H : xH), F_X3_ofMember_L19 N k57 n x0 x1 x2 x3 x4 x5 H = some Hf → xWq Z H 19 [xA x0, xA x1, xA x2, xI x3, xI x4, xI x5] [] := by
  intro n
  induction n with
  | zero => intro _ _ _ _ _ _ _ h; cases h
  | succ n ih => exact P_X3_ofMember_J19 hZ ih hk57
noncomputable def F_X3_ofMember_J57 (N : Nat) (k7 : (Option Nat) → (Option Nat) → (Option Nat) → Int32 → Int32 → xH → Option xH) (x0 : (Option Nat)) (x1 : (Option Nat)) (x2 : (Option Nat)) (x3 : Int32) (x4 : Int32) (H : xH) : Option xH :=
  k7 x0 x1 x2 x3 (x4 + 1) H
set_option maxRecDepth 20000 in
set_option maxHeartbeats 4000000 in
theorem P_X3_ofMember_J57 {N : Nat} {Z : xZ} {Hf : xH} (hZ : Z = xZm cX3_ofMember yX3_ofMember 6 3 none none Hf) {k7 : (Option Nat) → (Option Nat) → (Option Nat) → Int32 → Int32 → xH → Option xH} (hk7 : ∀ (x0 : (Option Nat)) (x1 : (Option Nat)) (x2 : (Option Nat)) (x3 : Int32) (x4 : Int32) (H : xH), k7 x0 x1 x2 x3 x4 H = some Hf → xWq Z H 7 [xA x0, xA x1, xA x2, xI x3, xI x4, xN] []) : ∀ (x0 : (Option Nat)) (x1 : (Option Nat)) (x2 : (Option Nat)) (x3 : Int32) (x4 : Int32) (H : xH), F_X3_ofMember_J57 N k7 x0 x1 x2 x3 x4 H = some Hf → xWq Z H 57 [xA x0, xA x1, xA x2, xI x3, xI x4, xN] [] := by
  have hz : Z.1 = (cX3_ofMember, yX3_ofMember, 6) := by rw [hZ]; rfl
  have hδ : Z.2.1 = 3 := by rw [hZ]; rfl
  intro x0 x1 x2 x3 x4 H h
  unfold F_X3_ofMember_J57 at h
  refine x_iinc (w := (x4 + 1)) (pl' := [xA x0, xA x1, xA x2, xI x3, xI (x4 + 1), xN]) hz dX3_ofMember_57 rfl rfl (by decide) rfl ?_
  refine x_goto (t := 7) hz dX3_ofMember_60 (by decide) ?_
  exact x_wk (xwk_c (xwk_c (xwk_c (xwk_c (xwk_c (xwk_n xwk_0)))))) (hk7 x0 x1 x2 x3 (x4 + 1) H h)
noncomputable def F_X3_ofMember_J7 (N : Nat) (k7 : (Option Nat) → (Option Nat) → (Option Nat) → Int32 → Int32 → xH → Option xH) (x0 : (Option Nat)) (x1 : (Option Nat)) (x2 : (Option Nat)) (x3 : Int32) (x4 : Int32) (H : xH) : Option xH :=
  (xgI H x1 2 2).bind fun v1 =>
  if v1 ≤ x4 then (some H) else ((F_X3_ofMember_L19 N (F_X3_ofMember_J57 N k7) N) x0 x1 x2 x3 x4 (0 : Int32) H)
set_option maxRecDepth 20000 in
set_option maxHeartbeats 4000000 in
theorem P_X3_ofMember_J7 {N : Nat} {Z : xZ} {Hf : xH} (hZ : Z = xZm cX3_ofMember yX3_ofMember 6 3 none none Hf) {k7 : (Option Nat) → (Option Nat) → (Option Nat) → Int32 → Int32 → xH → Option xH} (hk7 : ∀ (x0 : (Option Nat)) (x1 : (Option Nat)) (x2 : (Option Nat)) (x3 : Int32) (x4 : Int32) (H : xH), k7 x0 x1 x2 x3 x4 H = some Hf → xWq Z H 7 [xA x0, xA x1, xA x2, xI x3, xI x4, xN] []) : ∀ (x0 : (Option Nat)) (x1 : (Option Nat)) (x2 : (Option Nat)) (x3 : Int32) (x4 : Int32) (H : xH), F_X3_ofMember_J7 N k7 x0 x1 x2 x3 x4 H = some Hf → xWq Z H 7 [xA x0, xA x1, xA x2, xI x3, xI x4, xN] [] := by
  have hz : Z.1 = (cX3_ofMember, yX3_ofMember, 6) := by rw [hZ]; rfl
  have hδ : Z.2.1 = 3 := by rw [hZ]; rfl
  intro x0 x1 x2 x3 x4 H h
  unfold F_X3_ofMember_J7 at h
  refine x_iload hz dX3_ofMember_7 rfl ?_
  refine x_aload_n hz dX3_ofMember_9 rfl ?_
  obtain ⟨v1, e_v1, h⟩ := x_bnd h
  refine x_getI hz dX3_ofMember_10 fs_X3_24 e_v1 ?_
  refine x_icmp_ge (t := 63) hz dX3_ofMember_13 (by decide) (fun c2 => ?_) (fun c2 => ?_)
  · replace h := x_ip c2 h
    cases h
    exact x_vret hZ dX3_ofMember_63
  · replace h := x_in c2 h
    refine x_iconst (v := (0 : Int32)) hz dX3_ofMember_16 (by decide) ?_
    refine x_istore (pl' := [xA x0, xA x1, xA x2, xI x3, xI x4, xI (0 : Int32)]) hz dX3_ofMember_17 (by decide) rfl ?_
    exact x_wk (xwk_c (xwk_c (xwk_c (xwk_c (xwk_c (xwk_c xwk_0)))))) ((P_X3_ofMember_L19 hZ (P_X3_ofMember_J57 hZ hk7) N) x0 x1 x2 x3 x4 (0 : Int32) H h)
noncomputable def F_X3_ofMember_L7 (N : Nat) : Nat → (Option Nat) → (Option Nat) → (Option Nat) → Int32 → Int32 → xH → Option xH
  | 0 => fun _ _ _ _ _ _ => none
  | n + 1 => F_X3_ofMember_J7 N (F_X3_ofMember_L7 N n)
theorem P_X3_ofMember_L7 {N : Nat} {Z : xZ} {Hf : xH} (hZ : Z = xZm cX3_ofMember yX3_ofMember 6 3 none none Hf) : ∀ (n : Nat) (x0 : (Option Nat)) (x1 : (Option Nat)) (x2 : (Option Nat)) (x3 : Int32) (x4 : Int32) (H : xH), F_X3_ofMember_L7 N n x0 x1 x2 x3 x4 H = some Hf → xWq Z H 7 [xA x0, xA x1, xA x2, xI x3, xI x4, xN] [] := by
  intro n
  induction n with
  | zero => intro _ _ _ _ _ _ h; cases h
  | succ n ih => exact P_X3_ofMember_J7 hZ ih
noncomputable def F_X3_ofMember (N : Nat) (a0 : (Option Nat)) (a1 : (Option Nat)) (a2 : (Option Nat)) (a3 : Int32) (H : xH) : Option xH :=
  (xob H a0 3).bind fun b2 =>
  (F_X3_clear N a0 H).bind fun H1 =>
  (F_X3_ofMember_L7 N N) a0 a1 a2 a3 (0 : Int32) H1
set_option maxRecDepth 20000 in
set_option maxHeartbeats 4000000 in
theorem P_X3_ofMember {N : Nat} {Z : xZ} {Hf : xH} (hZ : Z = xZm cX3_ofMember yX3_ofMember 6 3 none none Hf) : ∀ (a0 : (Option Nat)) (a1 : (Option Nat)) (a2 : (Option Nat)) (a3 : Int32) (H : xH), F_X3_ofMember N a0 a1 a2 a3 H = some Hf → xWq Z H 0 [xA a0, xA a1, xA a2, xI a3, xN, xN] [] := by
  have hz : Z.1 = (cX3_ofMember, yX3_ofMember, 6) := by rw [hZ]; rfl
  have hδ : Z.2.1 = 3 := by rw [hZ]; rfl
  intro a0 a1 a2 a3 H h
  unfold F_X3_ofMember at h
  refine x_aload_n hz dX3_ofMember_0 rfl ?_
  obtain ⟨b2, e_b2, h⟩ := x_bnd h
  obtain ⟨H1, e_H1, h⟩ := x_bnd h
  refine x_callVv (as := []) (st := []) cs_X3_21 (ci := 3) ⟨rfl, rfl⟩ rfl rfl hz (by omega) (by decide) dX3_ofMember_1 e_b2 (M_X3_clear e_H1) ?_
  refine x_iconst (v := (0 : Int32)) hz dX3_ofMember_4 (by decide) ?_
  refine x_istore (pl' := [xA a0, xA a1, xA a2, xI a3, xI (0 : Int32), xN]) hz dX3_ofMember_5 (by decide) rfl ?_
  exact x_wk (xwk_c (xwk_c (xwk_c (xwk_c (xwk_c (xwk_n xwk_0)))))) ((P_X3_ofMember_L7 hZ N) a0 a1 a2 a3 (0 : Int32) H1 h)
theorem M_X3_ofMember {N : Nat} {a0 : (Option Nat)} {a1 : (Option Nat)} {a2 : (Option Nat)} {a3 : Int32} {H H1 : xH} (h : F_X3_ofMember N a0 a1 a2 a3 H = some H1) : xM yX3_ofMember cX3_ofMember 6 none 3 [.inr (.inr a0), .inr (.inr a1), .inr (.inr a2), .inl a3] H none H1 :=
  xM_of (by decide +kernel) (xT_tb 826 (by decide +kernel) (by decide +kernel)) (by simp [xargs, x2]) rfl (P_X3_ofMember rfl a0 a1 a2 a3 H h)
/-! java/lang/Integer.numberOfTrailingZeros(I)I -/
noncomputable def F_J6_numberOfTrailingZeros_0f7a4_J74 (N : Nat) (x0 : Int32) (x1 : Int32) (H : xH) : Option (Int32 × xH) :=
  some ((x1 + ((x0.toUInt32 >>> ((1 : Int32).toUInt32 &&& Int32.toUInt32 31)).toInt32)), H)
set_option maxRecDepth 20000 in
set_option maxHeartbeats 4000000 in
theorem P_J6_numberOfTrailingZeros_0f7a4_J74 {N : Nat} {Z : xZ} {rv : Int32} {Hf : xH} (hZ : Z = xZm cJ6_numberOfTrailingZeros_0f7a4 yJ6_numberOfTrailingZeros_0f7a4 2 1 (some .int) (some (.int rv)) Hf) : ∀ (x0 : Int32) (x1 : Int32) (H : xH), F_J6_numberOfTrailingZeros_0f7a4_J74 N x0 x1 H = some (rv, Hf) → xWq Z H 74 [xI x0, xI x1] [] := by
  have hz : Z.1 = (cJ6_numberOfTrailingZeros_0f7a4, yJ6_numberOfTrailingZeros_0f7a4, 2) := by rw [hZ]; rfl
  have hδ : Z.2.1 = 1 := by rw [hZ]; rfl
  intro x0 x1 H h
  unfold F_J6_numberOfTrailingZeros_0f7a4_J74 at h
  refine x_iload_n hz dJ6_numberOfTrailingZeros_0f7a4_74 rfl ?_
  refine x_iload_n hz dJ6_numberOfTrailingZeros_0f7a4_75 rfl ?_
  refine x_iconst (v := (1 : Int32)) hz dJ6_numberOfTrailingZeros_0f7a4_76 (by decide) ?_
  refine x_iushr hz dJ6_numberOfTrailingZeros_0f7a4_77 ?_
  refine x_iadd hz dJ6_numberOfTrailingZeros_0f7a4_78 ?_
  cases h
  exact x_iret hZ dJ6_numberOfTrailingZeros_0f7a4_79
noncomputable def F_J6_numberOfTrailingZeros_0f7a4_J62 (N : Nat) (x0 : Int32) (x1 : Int32) (H : xH) : Option (Int32 × xH) :=
  if x0 ≤ (4 : Int32) then ((F_J6_numberOfTrailingZeros_0f7a4_J74 N) x0 x1 H) else ((F_J6_numberOfTrailingZeros_0f7a4_J74 N) ((x0.toUInt32 >>> ((2 : Int32).toUInt32 &&& Int32.toUInt32 31)).toInt32) (x1 + 2) H)
set_option maxRecDepth 20000 in
set_option maxHeartbeats 4000000 in
theorem P_J6_numberOfTrailingZeros_0f7a4_J62 {N : Nat} {Z : xZ} {rv : Int32} {Hf : xH} (hZ : Z = xZm cJ6_numberOfTrailingZeros_0f7a4 yJ6_numberOfTrailingZeros_0f7a4 2 1 (some .int) (some (.int rv)) Hf) : ∀ (x0 : Int32) (x1 : Int32) (H : xH), F_J6_numberOfTrailingZeros_0f7a4_J62 N x0 x1 H = some (rv, Hf) → xWq Z H 62 [xI x0, xI x1] [] := by
  have hz : Z.1 = (cJ6_numberOfTrailingZeros_0f7a4, yJ6_numberOfTrailingZeros_0f7a4, 2) := by rw [hZ]; rfl
  have hδ : Z.2.1 = 1 := by rw [hZ]; rfl
  intro x0 x1 H h
  unfold F_J6_numberOfTrailingZeros_0f7a4_J62 at h
  refine x_iload_n hz dJ6_numberOfTrailingZeros_0f7a4_62 rfl ?_
  refine x_iconst (v := (4 : Int32)) hz dJ6_numberOfTrailingZeros_0f7a4_63 (by decide) ?_
  refine x_icmp_le (t := 74) hz dJ6_numberOfTrailingZeros_0f7a4_64 (by decide) (fun c1 => ?_) (fun c1 => ?_)
  · replace h := x_ip c1 h
    exact x_wk (xwk_c (xwk_c xwk_0)) ((P_J6_numberOfTrailingZeros_0f7a4_J74 hZ) x0 x1 H h)
  · replace h := x_in c1 h
    refine x_iinc (w := (x1 + 2)) (pl' := [xI x0, xI (x1 + 2)]) hz dJ6_numberOfTrailingZeros_0f7a4_67 rfl rfl (by decide) rfl ?_
    refine x_iload_n hz dJ6_numberOfTrailingZeros_0f7a4_70 rfl ?_
    refine x_iconst (v := (2 : Int32)) hz dJ6_numberOfTrailingZeros_0f7a4_71 (by decide) ?_
    refine x_iushr hz dJ6_numberOfTrailingZeros_0f7a4_72 ?_
    refine x_istore_n (pl' := [xI ((x0.toUInt32 >>> ((2 : Int32).toUInt32 &&& Int32.toUInt32 31)).toInt32), xI (x1 + 2)]) hz dJ6_numberOfTrailingZeros_0f7a4_73 (by decide) rfl ?_
    exact x_wk (xwk_c (xwk_c xwk_0)) ((P_J6_numberOfTrailingZeros_0f7a4_J74 hZ) ((x0.toUInt32 >>> ((2 : Int32).toUInt32 &&& Int32.toUInt32 31)).toInt32) (x1 + 2) H h)
noncomputable def F_J6_numberOfTrailingZeros_0f7a4_J49 (N : Nat) (x0 : Int32) (x1 : Int32) (H : xH) : Option (Int32 × xH) :=
  if x0 ≤ (16 : Int32) then ((F_J6_numberOfTrailingZeros_0f7a4_J62 N) x0 x1 H) else ((F_J6_numberOfTrailingZeros_0f7a4_J62 N) ((x0.toUInt32 >>> ((4 : Int32).toUInt32 &&& Int32.toUInt32 31)).toInt32) (x1 + 4) H)
set_option maxRecDepth 20000 in
set_option maxHeartbeats 4000000 in
theorem P_J6_numberOfTrailingZeros_0f7a4_J49 {N : Nat} {Z : xZ} {rv : Int32} {Hf : xH} (hZ : Z = xZm cJ6_numberOfTrailingZeros_0f7a4 yJ6_numberOfTrailingZeros_0f7a4 2 1 (some .int) (some (.int rv)) Hf) : ∀ (x0 : Int32) (x1 : Int32) (H : xH), F_J6_numberOfTrailingZeros_0f7a4_J49 N x0 x1 H = some (rv, Hf) → xWq Z H 49 [xI x0, xI x1] [] := by
  have hz : Z.1 = (cJ6_numberOfTrailingZeros_0f7a4, yJ6_numberOfTrailingZeros_0f7a4, 2) := by rw [hZ]; rfl
  have hδ : Z.2.1 = 1 := by rw [hZ]; rfl
  intro x0 x1 H h
  unfold F_J6_numberOfTrailingZeros_0f7a4_J49 at h
  refine x_iload_n hz dJ6_numberOfTrailingZeros_0f7a4_49 rfl ?_
  refine x_bipush (v := (16 : Int32)) hz dJ6_numberOfTrailingZeros_0f7a4_50 (by decide) ?_
  refine x_icmp_le (t := 62) hz dJ6_numberOfTrailingZeros_0f7a4_52 (by decide) (fun c1 => ?_) (fun c1 => ?_)
  · replace h := x_ip c1 h
    exact x_wk (xwk_c (xwk_c xwk_0)) ((P_J6_numberOfTrailingZeros_0f7a4_J62 hZ) x0 x1 H h)
  · replace h := x_in c1 h
    refine x_iinc (w := (x1 + 4)) (pl' := [xI x0, xI (x1 + 4)]) hz dJ6_numberOfTrailingZeros_0f7a4_55 rfl rfl (by decide) rfl ?_
    refine x_iload_n hz dJ6_numberOfTrailingZeros_0f7a4_58 rfl ?_
    refine x_iconst (v := (4 : Int32)) hz dJ6_numberOfTrailingZeros_0f7a4_59 (by decide) ?_
    refine x_iushr hz dJ6_numberOfTrailingZeros_0f7a4_60 ?_
    refine x_istore_n (pl' := [xI ((x0.toUInt32 >>> ((4 : Int32).toUInt32 &&& Int32.toUInt32 31)).toInt32), xI (x1 + 4)]) hz dJ6_numberOfTrailingZeros_0f7a4_61 (by decide) rfl ?_
    exact x_wk (xwk_c (xwk_c xwk_0)) ((P_J6_numberOfTrailingZeros_0f7a4_J62 hZ) ((x0.toUInt32 >>> ((4 : Int32).toUInt32 &&& Int32.toUInt32 31)).toInt32) (x1 + 4) H h)
noncomputable def F_J6_numberOfTrailingZeros_0f7a4_J34 (N : Nat) (x0 : Int32) (x1 : Int32) (H : xH) : Option (Int32 × xH) :=
  if x0 ≤ (256 : Int32) then ((F_J6_numberOfTrailingZeros_0f7a4_J49 N) x0 x1 H) else ((F_J6_numberOfTrailingZeros_0f7a4_J49 N) ((x0.toUInt32 >>> ((8 : Int32).toUInt32 &&& Int32.toUInt32 31)).toInt32) (x1 + 8) H)
set_option maxRecDepth 20000 in
set_option maxHeartbeats 4000000 in
theorem P_J6_numberOfTrailingZeros_0f7a4_J34 {N : Nat} {Z : xZ} {rv : Int32} {Hf : xH} (hZ : Z = xZm cJ6_numberOfTrailingZeros_0f7a4 yJ6_numberOfTrailingZeros_0f7a4 2 1 (some .int) (some (.int rv)) Hf) : ∀ (x0 : Int32) (x1 : Int32) (H : xH), F_J6_numberOfTrailingZeros_0f7a4_J34 N x0 x1 H = some (rv, Hf) → xWq Z H 34 [xI x0, xI x1] [] := by
  have hz : Z.1 = (cJ6_numberOfTrailingZeros_0f7a4, yJ6_numberOfTrailingZeros_0f7a4, 2) := by rw [hZ]; rfl
  have hδ : Z.2.1 = 1 := by rw [hZ]; rfl
  intro x0 x1 H h
  unfold F_J6_numberOfTrailingZeros_0f7a4_J34 at h
  refine x_iload_n hz dJ6_numberOfTrailingZeros_0f7a4_34 rfl ?_
  refine x_sipush (v := (256 : Int32)) hz dJ6_numberOfTrailingZeros_0f7a4_35 (by decide) ?_
  refine x_icmp_le (t := 49) hz dJ6_numberOfTrailingZeros_0f7a4_38 (by decide) (fun c1 => ?_) (fun c1 => ?_)
  · replace h := x_ip c1 h
    exact x_wk (xwk_c (xwk_c xwk_0)) ((P_J6_numberOfTrailingZeros_0f7a4_J49 hZ) x0 x1 H h)
  · replace h := x_in c1 h
    refine x_iinc (w := (x1 + 8)) (pl' := [xI x0, xI (x1 + 8)]) hz dJ6_numberOfTrailingZeros_0f7a4_41 rfl rfl (by decide) rfl ?_
    refine x_iload_n hz dJ6_numberOfTrailingZeros_0f7a4_44 rfl ?_
    refine x_bipush (v := (8 : Int32)) hz dJ6_numberOfTrailingZeros_0f7a4_45 (by decide) ?_
    refine x_iushr hz dJ6_numberOfTrailingZeros_0f7a4_47 ?_
    refine x_istore_n (pl' := [xI ((x0.toUInt32 >>> ((8 : Int32).toUInt32 &&& Int32.toUInt32 31)).toInt32), xI (x1 + 8)]) hz dJ6_numberOfTrailingZeros_0f7a4_48 (by decide) rfl ?_
    exact x_wk (xwk_c (xwk_c xwk_0)) ((P_J6_numberOfTrailingZeros_0f7a4_J49 hZ) ((x0.toUInt32 >>> ((8 : Int32).toUInt32 &&& Int32.toUInt32 31)).toInt32) (x1 + 8) H h)
noncomputable def F_J6_numberOfTrailingZeros_0f7a4 (N : Nat) (a0 : Int32) (H : xH) : Option (Int32 × xH) :=
  if 0 < ((a0 ^^^ (-1 : Int32)) &&& (a0 - (1 : Int32))) then (if ((a0 ^^^ (-1 : Int32)) &&& (a0 - (1 : Int32))) ≤ (65536 : Int32) then ((F_J6_numberOfTrailingZeros_0f7a4_J34 N) ((a0 ^^^ (-1 : Int32)) &&& (a0 - (1 : Int32))) (1 : Int32) H) else ((F_J6_numberOfTrailingZeros_0f7a4_J34 N) ((((a0 ^^^ (-1 : Int32)) &&& (a0 - (1 : Int32))).toUInt32 >>> ((16 : Int32).toUInt32 &&& Int32.toUInt32 31)).toInt32) ((1 : Int32) + 16) H)) else (some ((((a0 ^^^ (-1 : Int32)) &&& (a0 - (1 : Int32))) &&& (32 : Int32)), H))
set_option maxRecDepth 20000 in
set_option maxHeartbeats 4000000 in
theorem P_J6_numberOfTrailingZeros_0f7a4 {N : Nat} {Z : xZ} {rv : Int32} {Hf : xH} (hZ : Z = xZm cJ6_numberOfTrailingZeros_0f7a4 yJ6_numberOfTrailingZeros_0f7a4 2 1 (some .int) (some (.int rv)) Hf) : ∀ (a0 : Int32) (H : xH), F_J6_numberOfTrailingZeros_0f7a4 N a0 H = some (rv, Hf) → xWq Z H 0 [xI a0, xN] [] := by
  have hz : Z.1 = (cJ6_numberOfTrailingZeros_0f7a4, yJ6_numberOfTrailingZeros_0f7a4, 2) := by rw [hZ]; rfl
  have hδ : Z.2.1 = 1 := by rw [hZ]; rfl
  intro a0 H h
  unfold F_J6_numberOfTrailingZeros_0f7a4 at h
  refine x_iload_n hz dJ6_numberOfTrailingZeros_0f7a4_0 rfl ?_
  refine x_iconst (v := (-1 : Int32)) hz dJ6_numberOfTrailingZeros_0f7a4_1 (by decide) ?_
  refine x_ixor hz dJ6_numberOfTrailingZeros_0f7a4_2 ?_
  refine x_iload_n hz dJ6_numberOfTrailingZeros_0f7a4_3 rfl ?_
  refine x_iconst (v := (1 : Int32)) hz dJ6_numberOfTrailingZeros_0f7a4_4 (by decide) ?_
  refine x_isub hz dJ6_numberOfTrailingZeros_0f7a4_5 ?_
  refine x_iand hz dJ6_numberOfTrailingZeros_0f7a4_6 ?_
  refine x_istore_n (pl' := [xI ((a0 ^^^ (-1 : Int32)) &&& (a0 - (1 : Int32))), xN]) hz dJ6_numberOfTrailingZeros_0f7a4_7 (by decide) rfl ?_
  refine x_iload_n hz dJ6_numberOfTrailingZeros_0f7a4_8 rfl ?_
  refine x_if_gt (t := 17) hz dJ6_numberOfTrailingZeros_0f7a4_9 (by decide) (fun c1 => ?_) (fun c1 => ?_)
  · replace h := x_ip c1 h
    refine x_iconst (v := (1 : Int32)) hz dJ6_numberOfTrailingZeros_0f7a4_17 (by decide) ?_
    refine x_istore_n (pl' := [xI ((a0 ^^^ (-1 : Int32)) &&& (a0 - (1 : Int32))), xI (1 : Int32)]) hz dJ6_numberOfTrailingZeros_0f7a4_18 (by decide) rfl ?_
    refine x_iload_n hz dJ6_numberOfTrailingZeros_0f7a4_19 rfl ?_
    refine x_ldcw (v := (65536 : Int32)) hz dJ6_numberOfTrailingZeros_0f7a4_20 wc_J6_264 ?_
    refine x_icmp_le (t := 34) hz dJ6_numberOfTrailingZeros_0f7a4_23 (by decide) (fun c2 => ?_) (fun c2 => ?_)
    · replace h := x_ip c2 h
      exact x_wk (xwk_c (xwk_c xwk_0)) ((P_J6_numberOfTrailingZeros_0f7a4_J34 hZ) ((a0 ^^^ (-1 : Int32)) &&& (a0 - (1 : Int32))) (1 : Int32) H h)
    · replace h := x_in c2 h
      refine x_iinc (w := ((1 : Int32) + 16)) (pl' := [xI ((a0 ^^^ (-1 : Int32)) &&& (a0 - (1 : Int32))), xI ((1 : Int32) + 16)]) hz dJ6_numberOfTrailingZeros_0f7a4_26 rfl rfl (by decide) rfl ?_
      refine x_iload_n hz dJ6_numberOfTrailingZeros_0f7a4_29 rfl ?_
      refine x_bipush (v := (16 : Int32)) hz dJ6_numberOfTrailingZeros_0f7a4_30 (by decide) ?_
      refine x_iushr hz dJ6_numberOfTrailingZeros_0f7a4_32 ?_
      refine x_istore_n (pl' := [xI ((((a0 ^^^ (-1 : Int32)) &&& (a0 - (1 : Int32))).toUInt32 >>> ((16 : Int32).toUInt32 &&& Int32.toUInt32 31)).toInt32), xI ((1 : Int32) + 16)]) hz dJ6_numberOfTrailingZeros_0f7a4_33 (by decide) rfl ?_
      exact x_wk (xwk_c (xwk_c xwk_0)) ((P_J6_numberOfTrailingZeros_0f7a4_J34 hZ) ((((a0 ^^^ (-1 : Int32)) &&& (a0 - (1 : Int32))).toUInt32 >>> ((16 : Int32).toUInt32 &&& Int32.toUInt32 31)).toInt32) ((1 : Int32) + 16) H h)
  · replace h := x_in c1 h
    refine x_iload_n hz dJ6_numberOfTrailingZeros_0f7a4_12 rfl ?_
    refine x_bipush (v := (32 : Int32)) hz dJ6_numberOfTrailingZeros_0f7a4_13 (by decide) ?_
    refine x_iand hz dJ6_numberOfTrailingZeros_0f7a4_15 ?_
    cases h
    exact x_iret hZ dJ6_numberOfTrailingZeros_0f7a4_16
theorem M_J6_numberOfTrailingZeros_0f7a4 {N : Nat} {a0 : Int32} {H H1 : xH} {r1 : Int32} (h : F_J6_numberOfTrailingZeros_0f7a4 N a0 H = some (r1, H1)) : xM yJ6_numberOfTrailingZeros_0f7a4 cJ6_numberOfTrailingZeros_0f7a4 2 (some .int) 1 [.inl a0] H (some (.int r1)) H1 :=
  xM_of (by decide +kernel) (xT_tb 724 (by decide +kernel) (by decide +kernel)) (by simp [xargs, x2]) rfl (P_J6_numberOfTrailingZeros_0f7a4 rfl a0 H h)
/-! java/lang/Long.numberOfTrailingZeros(J)I -/
noncomputable def F_J13_numberOfTrailingZeros_95d88 (N : Nat) (a0 : Int64) (H : xH) : Option (Int32 × xH) :=
  if ((a0).toInt32) = 0 then (x_bd2 (F_J6_numberOfTrailingZeros_0f7a4 N ((((a0.toUInt64 >>> ((32 : Int32).toInt64.toUInt64 &&& Int64.toUInt64 63)).toInt64)).toInt32) H) fun v5 H4 =>
  some (((32 : Int32) + v5), H4)) else (x_bd2 (F_J6_numberOfTrailingZeros_0f7a4 N ((a0).toInt32) H) fun v3 H2 =>
  some (v3, H2))
set_option maxRecDepth 20000 in
set_option maxHeartbeats 4000000 in
theorem P_J13_numberOfTrailingZeros_95d88 {N : Nat} {Z : xZ} {rv : Int32} {Hf : xH} (hZ : Z = xZm cJ13_numberOfTrailingZeros_95d88 yJ13_numberOfTrailingZeros_95d88 3 2 (some .int) (some (.int rv)) Hf) : ∀ (a0 : Int64) (H : xH), F_J13_numberOfTrailingZeros_95d88 N a0 H = some (rv, Hf) → xWq Z H 0 [xJ a0, xN, xN] [] := by
  have hz : Z.1 = (cJ13_numberOfTrailingZeros_95d88, yJ13_numberOfTrailingZeros_95d88, 3) := by rw [hZ]; rfl
  have hδ : Z.2.1 = 2 := by rw [hZ]; rfl
  intro a0 H h
  unfold F_J13_numberOfTrailingZeros_95d88 at h
  refine x_lload_n hz dJ13_numberOfTrailingZeros_95d88_0 rfl ?_
  refine x_l2i hz dJ13_numberOfTrailingZeros_95d88_1 ?_
  refine x_istore_n (pl' := [xJ a0, xN, xI ((a0).toInt32)]) hz dJ13_numberOfTrailingZeros_95d88_2 (by decide) rfl ?_
  refine x_iload_n hz dJ13_numberOfTrailingZeros_95d88_3 rfl ?_
  refine x_if_ne (t := 21) hz dJ13_numberOfTrailingZeros_95d88_4 (by decide) (fun c1 => ?_) (fun c1 => ?_)
  · replace h := x_in c1 h
    refine x_iload_n hz dJ13_numberOfTrailingZeros_95d88_21 rfl ?_
    obtain ⟨v3, H2, e_H2, h⟩ := x_b2 h
    refine x_callSi (as := [.inl ((a0).toInt32)]) (st := []) cs_J13_311 rfl rfl hz (by omega) (by decide) dJ13_numberOfTrailingZeros_95d88_22 (M_J6_numberOfTrailingZeros_0f7a4 e_H2) ?_
    cases h
    exact x_iret hZ dJ13_numberOfTrailingZeros_95d88_25
  · replace h := x_ip c1 h
    refine x_bipush (v := (32 : Int32)) hz dJ13_numberOfTrailingZeros_95d88_7 (by decide) ?_
    refine x_lload_n hz dJ13_numberOfTrailingZeros_95d88_9 rfl ?_
    refine x_bipush (v := (32 : Int32)) hz dJ13_numberOfTrailingZeros_95d88_10 (by decide) ?_
    refine x_lushr hz dJ13_numberOfTrailingZeros_95d88_12 ?_
    refine x_l2i hz dJ13_numberOfTrailingZeros_95d88_13 ?_
    obtain ⟨v5, H4, e_H4, h⟩ := x_b2 h
    refine x_callSi (as := [.inl ((((a0.toUInt64 >>> ((32 : Int32).toInt64.toUInt64 &&& Int64.toUInt64 63)).toInt64)).toInt32)]) (st := [.int (32 : Int32)]) cs_J13_311 rfl rfl hz (by omega) (Nat.le_trans (x_sm1 rfl x_sm0) (by decide)) dJ13_numberOfTrailingZeros_95d88_14 (M_J6_numberOfTrailingZeros_0f7a4 e_H4) ?_
    refine x_iadd hz dJ13_numberOfTrailingZeros_95d88_17 ?_
    refine x_goto (t := 25) hz dJ13_numberOfTrailingZeros_95d88_18 (by decide) ?_
    cases h
    exact x_iret hZ dJ13_numberOfTrailingZeros_95d88_25
theorem M_J13_numberOfTrailingZeros_95d88 {N : Nat} {a0 : Int64} {H H1 : xH} {r1 : Int32} (h : F_J13_numberOfTrailingZeros_95d88 N a0 H = some (r1, H1)) : xM yJ13_numberOfTrailingZeros_95d88 cJ13_numberOfTrailingZeros_95d88 3 (some .int) 2 [.inr (.inl a0)] H (some (.int r1)) H1 :=
  xM_of (by decide +kernel) (xT_tb 848 (by decide +kernel) (by decide +kernel)) (by simp [xargs, x2]) rfl (P_J13_numberOfTrailingZeros_95d88 rfl a0 H h)
/-! BettingBook$Gains.sum(J)I -/
noncomputable def F_X3_sum_J12 (N : Nat) (k12 : (Option Nat) → Int32 → Int64 → Int32 → xH → Option (Int32 × xH)) (x0 : (Option Nat)) (x3 : Int32) (x4 : Int64) (x6 : Int32) (H : xH) : Option (Int32 × xH) :=
  if (12 : Int32) ≤ x6 then (some (x3, H)) else (if (lg_cmp x4 (0 : Int64)) = 0 then (some (x3, H)) else ((xgA H x0 3 0).bind fun v3 =>
  x_bd2 (F_J13_numberOfTrailingZeros_95d88 N x4 H) fun v5 H4 =>
  x_bd2 (F_X11_at N v3 v5 H4) fun v7 H6 =>
  k12 x0 (x3 + v7) (x4 &&& (x4 - (1 : Int64))) (x6 + 1) H6))
set_option maxRecDepth 20000 in
set_option maxHeartbeats 4000000 in
theorem P_X3_sum_J12 {N : Nat} {Z : xZ} {rv : Int32} {Hf : xH} (hZ : Z = xZm cX3_sum yX3_sum 7 3 (some .int) (some (.int rv)) Hf) {k12 : (Option Nat) → Int32 → Int64 → Int32 → xH → Option (Int32 × xH)} (hk12 : ∀ (x0 : (Option Nat)) (x3 : Int32) (x4 : Int64) (x6 : Int32) (H : xH), k12 x0 x3 x4 x6 H = some (rv, Hf) → xWq Z H 12 [xA x0, xN, xN, xI x3, xJ x4, xN, xI x6] []) : ∀ (x0 : (Option Nat)) (x3 : Int32) (x4 : Int64) (x6 : Int32) (H : xH), F_X3_sum_J12 N k12 x0 x3 x4 x6 H = some (rv, Hf) → xWq Z H 12 [xA x0, xN, xN, xI x3, xJ x4, xN, xI x6] [] := by
  have hz : Z.1 = (cX3_sum, yX3_sum, 7) := by rw [hZ]; rfl
  have hδ : Z.2.1 = 3 := by rw [hZ]; rfl
  intro x0 x3 x4 x6 H h
  unfold F_X3_sum_J12 at h
  refine x_iload hz dX3_sum_12 rfl ?_
  refine x_bipush (v := (12 : Int32)) hz dX3_sum_14 (by decide) ?_
  refine x_icmp_ge (t := 56) hz dX3_sum_16 (by decide) (fun c1 => ?_) (fun c1 => ?_)
  · replace h := x_ip c1 h
    refine x_iload_n hz dX3_sum_56 rfl ?_
    cases h
    exact x_iret hZ dX3_sum_57
  · replace h := x_in c1 h
    refine x_lload hz dX3_sum_19 rfl ?_
    refine x_lconst (v := (0 : Int64)) hz dX3_sum_21 (by decide) ?_
    refine x_lcmp hz dX3_sum_22 ?_
    refine x_if_eq (t := 56) hz dX3_sum_23 (by decide) (fun c2 => ?_) (fun c2 => ?_)
    · replace h := x_ip c2 h
      refine x_iload_n hz dX3_sum_56 rfl ?_
      cases h
      exact x_iret hZ dX3_sum_57
    · replace h := x_in c2 h
      refine x_iload_n hz dX3_sum_26 rfl ?_
      refine x_aload_n hz dX3_sum_27 rfl ?_
      obtain ⟨v3, e_v3, h⟩ := x_bnd h
      refine x_getA hz dX3_sum_28 fs_X3_9 e_v3 ?_
      refine x_lload hz dX3_sum_31 rfl ?_
      obtain ⟨v5, H4, e_H4, h⟩ := x_b2 h
      refine x_callSi (as := [.inr (.inl x4)]) (st := [va_rf v3, .int x3]) cs_X3_60 rfl rfl hz (by omega) (Nat.le_trans (x_sm1 (x_rfc _) (x_sm1 rfl x_sm0)) (by decide)) dX3_sum_33 (M_J13_numberOfTrailingZeros_95d88 e_H4) ?_
      obtain ⟨v7, H6, e_H6, h⟩ := x_b2 h
      refine x_callSi (as := [.inr (.inr v3), .inl v5]) (st := [.int x3]) cs_X3_50 rfl rfl hz (by omega) (Nat.le_trans (x_sm1 rfl x_sm0) (by decide)) dX3_sum_36 (M_X11_at e_H6) ?_
      refine x_iadd hz dX3_sum_39 ?_
      refine x_istore_n (pl' := [xA x0, xN, xN, xI (x3 + v7), xJ x4, xN, xI x6]) hz dX3_sum_40 (by decide) rfl ?_
      refine x_lload hz dX3_sum_41 rfl ?_
      refine x_lload hz dX3_sum_43 rfl ?_
      refine x_lconst (v := (1 : Int64)) hz dX3_sum_45 (by decide) ?_
      refine x_lsub hz dX3_sum_46 ?_
      refine x_land hz dX3_sum_47 ?_
      refine x_lstore (pl' := [xA x0, xN, xN, xI (x3 + v7), xJ (x4 &&& (x4 - (1 : Int64))), xN, xI x6]) hz dX3_sum_48 (by decide) rfl ?_
      refine x_iinc (w := (x6 + 1)) (pl' := [xA x0, xN, xN, xI (x3 + v7), xJ (x4 &&& (x4 - (1 : Int64))), xN, xI (x6 + 1)]) hz dX3_sum_50 rfl rfl (by decide) rfl ?_
      refine x_goto (t := 12) hz dX3_sum_53 (by decide) ?_
      exact x_wk (xwk_c (xwk_n (xwk_n (xwk_c (xwk_c (xwk_n (xwk_c xwk_0))))))) (hk12 x0 (x3 + v7) (x4 &&& (x4 - (1 : Int64))) (x6 + 1) H6 h)
noncomputable def F_X3_sum_L12 (N : Nat) : Nat → (Option Nat) → Int32 → Int64 → Int32 → xH → Option (Int32 × xH)
  | 0 => fun _ _ _ _ _ => none
  | n + 1 => F_X3_sum_J12 N (F_X3_sum_L12 N n)
theorem P_X3_sum_L12 {N : Nat} {Z : xZ} {rv : Int32} {Hf : xH} (hZ : Z = xZm cX3_sum yX3_sum 7 3 (some .int) (some (.int rv)) Hf) : ∀ (n : Nat) (x0 : (Option Nat)) (x3 : Int32) (x4 : Int64) (x6 : Int32) (H : xH), F_X3_sum_L12 N n x0 x3 x4 x6 H = some (rv, Hf) → xWq Z H 12 [xA x0, xN, xN, xI x3, xJ x4, xN, xI x6] [] := by
  intro n
  induction n with
  | zero => intro _ _ _ _ _ h; cases h
  | succ n ih => exact P_X3_sum_J12 hZ ih
noncomputable def F_X3_sum (N : Nat) (a0 : (Option Nat)) (a1 : Int64) (H : xH) : Option (Int32 × xH) :=
  (F_X3_sum_L12 N N) a0 (0 : Int32) (a1 &&& (1152921504606846975 : Int64)) (0 : Int32) H
set_option maxRecDepth 20000 in
set_option maxHeartbeats 4000000 in
theorem P_X3_sum {N : Nat} {Z : xZ} {rv : Int32} {Hf : xH} (hZ : Z = xZm cX3_sum yX3_sum 7 3 (some .int) (some (.int rv)) Hf) : ∀ (a0 : (Option Nat)) (a1 : Int64) (H : xH), F_X3_sum N a0 a1 H = some (rv, Hf) → xWq Z H 0 [xA a0, xJ a1, xN, xN, xN, xN, xN] [] := by
  have hz : Z.1 = (cX3_sum, yX3_sum, 7) := by rw [hZ]; rfl
  have hδ : Z.2.1 = 3 := by rw [hZ]; rfl
  intro a0 a1 H h
  unfold F_X3_sum at h
  refine x_iconst (v := (0 : Int32)) hz dX3_sum_0 (by decide) ?_
  refine x_istore_n (pl' := [xA a0, xJ a1, xN, xI (0 : Int32), xN, xN, xN]) hz dX3_sum_1 (by decide) rfl ?_
  refine x_lload_n hz dX3_sum_2 rfl ?_
  refine x_ldc2 (v := (1152921504606846975 : Int64)) hz dX3_sum_3 wc_X3_58 ?_
  refine x_land hz dX3_sum_6 ?_
  refine x_lstore (pl' := [xA a0, xJ a1, xN, xI (0 : Int32), xJ (a1 &&& (1152921504606846975 : Int64)), xN, xN]) hz dX3_sum_7 (by decide) rfl ?_
  refine x_iconst (v := (0 : Int32)) hz dX3_sum_9 (by decide) ?_
  refine x_istore (pl' := [xA a0, xJ a1, xN, xI (0 : Int32), xJ (a1 &&& (1152921504606846975 : Int64)), xN, xI (0 : Int32)]) hz dX3_sum_10 (by decide) rfl ?_
  exact x_wk (xwk_c (xwk_n (xwk_n (xwk_c (xwk_c (xwk_n (xwk_c xwk_0))))))) ((P_X3_sum_L12 hZ N) a0 (0 : Int32) (a1 &&& (1152921504606846975 : Int64)) (0 : Int32) H h)
theorem M_X3_sum {N : Nat} {a0 : (Option Nat)} {a1 : Int64} {H H1 : xH} {r1 : Int32} (h : F_X3_sum N a0 a1 H = some (r1, H1)) : xM yX3_sum cX3_sum 7 (some .int) 3 [.inr (.inr a0), .inr (.inl a1)] H (some (.int r1)) H1 :=
  xM_of (by decide +kernel) (xT_tb 844 (by decide +kernel) (by decide +kernel)) (by simp [xargs, x2]) rfl (P_X3_sum rfl a0 a1 H h)
/-! BettingBook$Ledger.init()V -/
noncomputable def F_X4_init (N : Nat) (a0 : (Option Nat)) (H : xH) : Option xH :=
  (a0).bind fun b1 =>
  (xnI .int H (5 : Int32)).bind fun H2 =>
  (xpA H2 a0 4 2 (some H.2.1)).bind fun H3 =>
  (xnI .int H3 (24 : Int32)).bind fun H4 =>
  (xpA H4 a0 4 3 (some H3.2.1)).bind fun H5 =>
  (xnI .int H5 (6 : Int32)).bind fun H6 =>
  (xpA H6 a0 4 4 (some H5.2.1)).bind fun H7 =>
  some H7
set_option maxRecDepth 20000 in
set_option maxHeartbeats 4000000 in
theorem P_X4_init {N : Nat} {Z : xZ} {Hf : xH} (hZ : Z = xZm cX4_init yX4_init 1 2 none none Hf) : ∀ (a0 : (Option Nat)) (H : xH), F_X4_init N a0 H = some Hf → xWq Z H 0 [xA a0] [] := by
  have hz : Z.1 = (cX4_init, yX4_init, 1) := by rw [hZ]; rfl
  have hδ : Z.2.1 = 2 := by rw [hZ]; rfl
  intro a0 H h
  unfold F_X4_init at h
  refine x_aload_n hz dX4_init_0 rfl ?_
  obtain ⟨b1, e_b1, h⟩ := x_bnd h
  refine x_objInit e_b1 hz (by omega) (by decide) ol_X4_3 oi_1 oi_2 dX4_init_1 ?_
  refine x_aload_n hz dX4_init_4 rfl ?_
  refine x_iconst (v := (5 : Int32)) hz dX4_init_5 (by decide) ?_
  obtain ⟨H2, e_H2, h⟩ := x_bnd h
  refine x_newI aw_int hz dX4_init_6 e_H2 ?_
  obtain ⟨H3, e_H3, h⟩ := x_bnd h
  refine x_putF (v := va_rf (some H.2.1)) hz rfl dX4_init_8 fs_X4_9F (x_nra _ _) (x_fta _ _) e_H3 ?_
  refine x_aload_n hz dX4_init_11 rfl ?_
  refine x_bipush (v := (24 : Int32)) hz dX4_init_12 (by decide) ?_
  obtain ⟨H4, e_H4, h⟩ := x_bnd h
  refine x_newI aw_int hz dX4_init_14 e_H4 ?_
  obtain ⟨H5, e_H5, h⟩ := x_bnd h
  refine x_putF (v := va_rf (some H3.2.1)) hz rfl dX4_init_16 fs_X4_15F (x_nra _ _) (x_fta _ _) e_H5 ?_
  refine x_aload_n hz dX4_init_19 rfl ?_
  refine x_bipush (v := (6 : Int32)) hz dX4_init_20 (by decide) ?_
  obtain ⟨H6, e_H6, h⟩ := x_bnd h
  refine x_newI aw_int hz dX4_init_22 e_H6 ?_
  obtain ⟨H7, e_H7, h⟩ := x_bnd h
  refine x_putF (v := va_rf (some H5.2.1)) hz rfl dX4_init_24 fs_X4_18F (x_nra _ _) (x_fta _ _) e_H7 ?_
  cases h
  exact x_vret hZ dX4_init_27
theorem M_X4_init {N : Nat} {a0 : (Option Nat)} {H H1 : xH} (h : F_X4_init N a0 H = some H1) : xM yX4_init cX4_init 1 none 2 [.inr (.inr a0)] H none H1 :=
  xM_of (by decide +kernel) (xT_tb 159 (by decide +kernel) (by decide +kernel)) (by simp [xargs, x2]) rfl (P_X4_init rfl a0 H h)
/-! BettingBook$Ledger.open(LBettingBook$Club;)V -/
noncomputable def F_X4_open_J76 (N : Nat) (k28 : (Option Nat) → (Option Nat) → Int32 → xH → Option xH) (x0 : (Option Nat)) (x1 : (Option Nat)) (x2 : Int32) (H : xH) : Option xH :=
  k28 x0 x1 (x2 + 1) H
set_option maxRecDepth 20000 in
set_option maxHeartbeats 4000000 in
theorem P_X4_open_J76 {N : Nat} {Z : xZ} {Hf : xH} (hZ : Z = xZm cX4_open yX4_open 4 2 none none Hf) {k28 : (Option Nat) → (Option Nat) → Int32 → xH → Option xH} (hk28 : ∀ (x0 : (Option Nat)) (x1 : (Option Nat)) (x2 : Int32) (H : xH), k28 x0 x1 x2 H = some Hf → xWq Z H 28 [xA x0, xA x1, xI x2, xN] []) : ∀ (x0 : (Option Nat)) (x1 : (Option Nat)) (x2 : Int32) (H : xH), F_X4_open_J76 N k28 x0 x1 x2 H = some Hf → xWq Z H 76 [xA x0, xA x1, xI x2, xN] [] := by
  have hz : Z.1 = (cX4_open, yX4_open, 4) := by rw [hZ]; rfl
  have hδ : Z.2.1 = 2 := by rw [hZ]; rfl
  intro x0 x1 x2 H h
  unfold F_X4_open_J76 at h
  refine x_iinc (w := (x2 + 1)) (pl' := [xA x0, xA x1, xI (x2 + 1), xN]) hz dX4_open_76 rfl rfl (by decide) rfl ?_
  refine x_goto (t := 28) hz dX4_open_79 (by decide) ?_
  exact x_wk (xwk_c (xwk_c (xwk_c (xwk_n xwk_0)))) (hk28 x0 x1 (x2 + 1) H h)
noncomputable def F_X4_open_J28 (N : Nat) (k28 : (Option Nat) → (Option Nat) → Int32 → xH → Option xH) (x0 : (Option Nat)) (x1 : (Option Nat)) (x2 : Int32) (H : xH) : Option xH :=
  (xgI H x1 2 2).bind fun v1 =>
  if v1 ≤ x2 then (some H) else ((xob H x1 2).bind fun b4 =>
  x_bd2 (F_X2_betAt N x1 x2 H) fun v5 H3 =>
  if v5 = none then ((F_X4_open_J76 N k28) x0 x1 x2 H3) else ((xgA H3 x0 4 3).bind fun v7 =>
  (xgI H3 v5 0 0).bind fun v8 =>
  (F_X11_set N v7 ((2 : Int32) * x2) v8 H3).bind fun H9 =>
  (xgA H9 x0 4 3).bind fun v10 =>
  (xgI H9 v5 0 1).bind fun v11 =>
  (F_X11_set N v10 (((2 : Int32) * x2) + (1 : Int32)) v11 H9).bind fun H12 =>
  (F_X4_open_J76 N k28) x0 x1 x2 H12))
set_option maxRecDepth 20000 in
set_option maxHeartbeats 4000000 in
theorem P_X4_open_J28 {N : Nat} {Z : xZ} {Hf : xH} (hZ : Z = xZm cX4_open yX4_open 4 2 none none Hf) {k28 : (Option Nat) → (Option Nat) → Int32 → xH → Option xH} (hk28 : ∀ (x0 : (Option Nat)) (x1 : (Option Nat)) (x2 : Int32) (H : xH), k28 x0 x1 x2 H = some Hf → xWq Z H 28 [xA x0, xA x1, xI x2, xN] []) : ∀ (x0 : (Option Nat)) (x1 : (Option Nat)) (x2 : Int32) (H : xH), F_X4_open_J28 N k28 x0 x1 x2 H = some Hf → xWq Z H 28 [xA x0, xA x1, xI x2, xN] [] := by
  have hz : Z.1 = (cX4_open, yX4_open, 4) := by rw [hZ]; rfl
  have hδ : Z.2.1 = 2 := by rw [hZ]; rfl
  intro x0 x1 x2 H h
  unfold F_X4_open_J28 at h
  refine x_iload_n hz dX4_open_28 rfl ?_
  refine x_aload_n hz dX4_open_29 rfl ?_
  obtain ⟨v1, e_v1, h⟩ := x_bnd h
  refine x_getI hz dX4_open_30 fs_X4_34 e_v1 ?_
  refine x_icmp_ge (t := 82) hz dX4_open_33 (by decide) (fun c2 => ?_) (fun c2 => ?_)
  · replace h := x_ip c2 h
    cases h
    exact x_vret hZ dX4_open_82
  · replace h := x_in c2 h
    refine x_aload_n hz dX4_open_36 rfl ?_
    refine x_iload_n hz dX4_open_37 rfl ?_
    obtain ⟨b4, e_b4, h⟩ := x_bnd h
    obtain ⟨v5, H3, e_H3, h⟩ := x_b2 h
    refine x_callVa (as := [.inl x2]) (st := []) cs_X4_39 (ci := 2) ⟨rfl, rfl⟩ rfl rfl hz (by omega) (by decide) dX4_open_38 e_b4 (M_X2_betAt e_H3) ?_
    refine x_astore_n (pl' := [xA x0, xA x1, xI x2, xA v5]) hz dX4_open_41 (by decide) rfl ?_
    refine x_aload_n hz dX4_open_42 rfl ?_
    refine x_ifnull (t := 76) hz dX4_open_43 (by decide) (fun c6 => ?_) (fun c6 => ?_)
    · replace h := x_ip c6 h
      exact x_wk (xwk_c (xwk_c (xwk_c (xwk_n xwk_0)))) ((P_X4_open_J76 hZ hk28) x0 x1 x2 H3 h)
    · replace h := x_in c6 h
      refine x_aload_n hz dX4_open_46 rfl ?_
      obtain ⟨v7, e_v7, h⟩ := x_bnd h
      refine x_getA hz dX4_open_47 fs_X4_15 e_v7 ?_
      refine x_iconst (v := (2 : Int32)) hz dX4_open_50 (by decide) ?_
      refine x_iload_n hz dX4_open_51 rfl ?_
      refine x_imul hz dX4_open_52 ?_
      refine x_aload_n hz dX4_open_53 rfl ?_
      obtain ⟨v8, e_v8, h⟩ := x_bnd h
      refine x_getI hz dX4_open_54 fs_X4_43 e_v8 ?_
      obtain ⟨H9, e_H9, h⟩ := x_bnd h
      refine x_callSv (as := [.inr (.inr v7), .inl ((2 : Int32) * x2), .inl v8]) (st := []) cs_X4_48 rfl rfl hz (by omega) (by decide) dX4_open_57 (M_X11_set e_H9) ?_
      refine x_aload_n hz dX4_open_60 rfl ?_
      obtain ⟨v10, e_v10, h⟩ := x_bnd h
      refine x_getA hz dX4_open_61 fs_X4_15 e_v10 ?_
      refine x_iconst (v := (2 : Int32)) hz dX4_open_64 (by decide) ?_
      refine x_iload_n hz dX4_open_65 rfl ?_
      refine x_imul hz dX4_open_66 ?_
      refine x_iconst (v := (1 : Int32)) hz dX4_open_67 (by decide) ?_
      refine x_iadd hz dX4_open_68 ?_
      refine x_aload_n hz dX4_open_69 rfl ?_
      obtain ⟨v11, e_v11, h⟩ := x_bnd h
      refine x_getI hz dX4_open_70 fs_X4_52 e_v11 ?_
      obtain ⟨H12, e_H12, h⟩ := x_bnd h
      refine x_callSv (as := [.inr (.inr v10), .inl (((2 : Int32) * x2) + (1 : Int32)), .inl v11]) (st := []) cs_X4_48 rfl rfl hz (by omega) (by decide) dX4_open_73 (M_X11_set e_H12) ?_
      exact x_wk (xwk_c (xwk_c (xwk_c (xwk_n xwk_0)))) ((P_X4_open_J76 hZ hk28) x0 x1 x2 H12 h)
noncomputable def F_X4_open_L28 (N : Nat) : Nat → (Option Nat) → (Option Nat) → Int32 → xH → Option xH
  | 0 => fun _ _ _ _ => none
  | n + 1 => F_X4_open_J28 N (F_X4_open_L28 N n)
theorem P_X4_open_L28 {N : Nat} {Z : xZ} {Hf : xH} (hZ : Z = xZm cX4_open yX4_open 4 2 none none Hf) : ∀ (n : Nat) (x0 : (Option Nat)) (x1 : (Option Nat)) (x2 : Int32) (H : xH), F_X4_open_L28 N n x0 x1 x2 H = some Hf → xWq Z H 28 [xA x0, xA x1, xI x2, xN] [] := by
  intro n
  induction n with
  | zero => intro _ _ _ _ h; cases h
  | succ n ih => exact P_X4_open_J28 hZ ih
noncomputable def F_X4_open (N : Nat) (a0 : (Option Nat)) (a1 : (Option Nat)) (H : xH) : Option xH :=
  (xpI H a0 4 0 (0 : Int32)).bind fun H1 =>
  (xpI H1 a0 4 1 (0 : Int32)).bind fun H2 =>
  (xgA H2 a0 4 2).bind fun v3 =>
  (F_J7_fill_53178 N v3 (0 : Int32) H2).bind fun H4 =>
  (xgA H4 a0 4 4).bind fun v5 =>
  (F_J7_fill_53178 N v5 (0 : Int32) H4).bind fun H6 =>
  (F_X4_open_L28 N N) a0 a1 (0 : Int32) H6
set_option maxRecDepth 20000 in
set_option maxHeartbeats 4000000 in
theorem P_X4_open {N : Nat} {Z : xZ} {Hf : xH} (hZ : Z = xZm cX4_open yX4_open 4 2 none none Hf) : ∀ (a0 : (Option Nat)) (a1 : (Option Nat)) (H : xH), F_X4_open N a0 a1 H = some Hf → xWq Z H 0 [xA a0, xA a1, xN, xN] [] := by
  have hz : Z.1 = (cX4_open, yX4_open, 4) := by rw [hZ]; rfl
  have hδ : Z.2.1 = 2 := by rw [hZ]; rfl
  intro a0 a1 H h
  unfold F_X4_open at h
  refine x_aload_n hz dX4_open_0 rfl ?_
  refine x_iconst (v := (0 : Int32)) hz dX4_open_1 (by decide) ?_
  obtain ⟨H1, e_H1, h⟩ := x_bnd h
  refine x_putV (v := .int (0 : Int32)) hz dX4_open_2 fs_X4_21 rfl rfl e_H1 ?_
  refine x_aload_n hz dX4_open_5 rfl ?_
  refine x_iconst (v := (0 : Int32)) hz dX4_open_6 (by decide) ?_
  obtain ⟨H2, e_H2, h⟩ := x_bnd h
  refine x_putV (v := .int (0 : Int32)) hz dX4_open_7 fs_X4_25 rfl rfl e_H2 ?_
  refine x_aload_n hz dX4_open_10 rfl ?_
  obtain ⟨v3, e_v3, h⟩ := x_bnd h
  refine x_getA hz dX4_open_11 fs_X4_9 e_v3 ?_
  refine x_iconst (v := (0 : Int32)) hz dX4_open_14 (by decide) ?_
  obtain ⟨H4, e_H4, h⟩ := x_bnd h
  refine x_callSv (as := [.inr (.inr v3), .inl (0 : Int32)]) (st := []) cs_X4_28 rfl rfl hz (by omega) (by decide) dX4_open_15 (M_J7_fill_53178 e_H4) ?_
  refine x_aload_n hz dX4_open_18 rfl ?_
  obtain ⟨v5, e_v5, h⟩ := x_bnd h
  refine x_getA hz dX4_open_19 fs_X4_18 e_v5 ?_
  refine x_iconst (v := (0 : Int32)) hz dX4_open_22 (by decide) ?_
  obtain ⟨H6, e_H6, h⟩ := x_bnd h
  refine x_callSv (as := [.inr (.inr v5), .inl (0 : Int32)]) (st := []) cs_X4_28 rfl rfl hz (by omega) (by decide) dX4_open_23 (M_J7_fill_53178 e_H6) ?_
  refine x_iconst (v := (0 : Int32)) hz dX4_open_26 (by decide) ?_
  refine x_istore_n (pl' := [xA a0, xA a1, xI (0 : Int32), xN]) hz dX4_open_27 (by decide) rfl ?_
  exact x_wk (xwk_c (xwk_c (xwk_c (xwk_n xwk_0)))) ((P_X4_open_L28 hZ N) a0 a1 (0 : Int32) H6 h)
theorem M_X4_open {N : Nat} {a0 : (Option Nat)} {a1 : (Option Nat)} {H H1 : xH} (h : F_X4_open N a0 a1 H = some H1) : xM yX4_open cX4_open 4 none 2 [.inr (.inr a0), .inr (.inr a1)] H none H1 :=
  xM_of (by decide +kernel) (xT_tb 617 (by decide +kernel) (by decide +kernel)) (by simp [xargs, x2]) rfl (P_X4_open rfl a0 a1 H h)
/-! BettingBook$Ledger.copyRow([I[I)V -/
noncomputable def F_X4_copyRow_J2 (N : Nat) (k2 : (Option Nat) → (Option Nat) → Int32 → xH → Option xH) (x0 : (Option Nat)) (x1 : (Option Nat)) (x2 : Int32) (H : xH) : Option xH :=
  (xal .int H x1).bind fun v1 =>
  if v1 ≤ x2 then (some H) else (x_bd2 (F_X11_at N x0 x2 H) fun v4 H3 =>
  (xsI .int H3 x1 x2 v4).bind fun H5 =>
  k2 x0 x1 (x2 + 1) H5)
set_option maxRecDepth 20000 in
set_option maxHeartbeats 4000000 in
theorem P_X4_copyRow_J2 {N : Nat} {Z : xZ} {Hf : xH} (hZ : Z = xZm cX4_copyRow yX4_copyRow 3 2 none none Hf) {k2 : (Option Nat) → (Option Nat) → Int32 → xH → Option xH} (hk2 : ∀ (x0 : (Option Nat)) (x1 : (Option Nat)) (x2 : Int32) (H : xH), k2 x0 x1 x2 H = some Hf → xWq Z H 2 [xA x0, xA x1, xI x2] []) : ∀ (x0 : (Option Nat)) (x1 : (Option Nat)) (x2 : Int32) (H : xH), F_X4_copyRow_J2 N k2 x0 x1 x2 H = some Hf → xWq Z H 2 [xA x0, xA x1, xI x2] [] := by
  have hz : Z.1 = (cX4_copyRow, yX4_copyRow, 3) := by rw [hZ]; rfl
  have hδ : Z.2.1 = 2 := by rw [hZ]; rfl
  intro x0 x1 x2 H h
  unfold F_X4_copyRow_J2 at h
  refine x_iload_n hz dX4_copyRow_2 rfl ?_
  refine x_aload_n hz dX4_copyRow_3 rfl ?_
  obtain ⟨v1, e_v1, h⟩ := x_bnd h
  refine x_alen (t0 := 0) (fun _ => rfl) hz dX4_copyRow_4 e_v1 ?_
  refine x_icmp_ge (t := 22) hz dX4_copyRow_5 (by decide) (fun c2 => ?_) (fun c2 => ?_)
  · replace h := x_ip c2 h
    cases h
    exact x_vret hZ dX4_copyRow_22
  · replace h := x_in c2 h
    refine x_aload_n hz dX4_copyRow_8 rfl ?_
    refine x_iload_n hz dX4_copyRow_9 rfl ?_
    refine x_aload_n hz dX4_copyRow_10 rfl ?_
    refine x_iload_n hz dX4_copyRow_11 rfl ?_
    obtain ⟨v4, H3, e_H3, h⟩ := x_b2 h
    refine x_callSi (as := [.inr (.inr x0), .inl x2]) (st := [.int x2, va_rf x1]) cs_X4_59 rfl rfl hz (by omega) (Nat.le_trans (x_sm1 rfl (x_sm1 (x_rfc _) x_sm0)) (by decide)) dX4_copyRow_12 (M_X11_at e_H3) ?_
    obtain ⟨H5, e_H5, h⟩ := x_bnd h
    refine x_iast hz dX4_copyRow_15 e_H5 ?_
    refine x_iinc (w := (x2 + 1)) (pl' := [xA x0, xA x1, xI (x2 + 1)]) hz dX4_copyRow_16 rfl rfl (by decide) rfl ?_
    refine x_goto (t := 2) hz dX4_copyRow_19 (by decide) ?_
    exact x_wk (xwk_c (xwk_c (xwk_c xwk_0))) (hk2 x0 x1 (x2 + 1) H5 h)
noncomputable def F_X4_copyRow_L2 (N : Nat) : Nat → (Option Nat) → (Option Nat) → Int32 → xH → Option xH
  | 0 => fun _ _ _ _ => none
  | n + 1 => F_X4_copyRow_J2 N (F_X4_copyRow_L2 N n)
theorem P_X4_copyRow_L2 {N : Nat} {Z : xZ} {Hf : xH} (hZ : Z = xZm cX4_copyRow yX4_copyRow 3 2 none none Hf) : ∀ (n : Nat) (x0 : (Option Nat)) (x1 : (Option Nat)) (x2 : Int32) (H : xH), F_X4_copyRow_L2 N n x0 x1 x2 H = some Hf → xWq Z H 2 [xA x0, xA x1, xI x2] [] := by
  intro n
  induction n with
  | zero => intro _ _ _ _ h; cases h
  | succ n ih => exact P_X4_copyRow_J2 hZ ih
noncomputable def F_X4_copyRow (N : Nat) (a0 : (Option Nat)) (a1 : (Option Nat)) (H : xH) : Option xH :=
  (F_X4_copyRow_L2 N N) a0 a1 (0 : Int32) H
set_option maxRecDepth 20000 in
set_option maxHeartbeats 4000000 in
theorem P_X4_copyRow {N : Nat} {Z : xZ} {Hf : xH} (hZ : Z = xZm cX4_copyRow yX4_copyRow 3 2 none none Hf) : ∀ (a0 : (Option Nat)) (a1 : (Option Nat)) (H : xH), F_X4_copyRow N a0 a1 H = some Hf → xWq Z H 0 [xA a0, xA a1, xN] [] := by
  have hz : Z.1 = (cX4_copyRow, yX4_copyRow, 3) := by rw [hZ]; rfl
  have hδ : Z.2.1 = 2 := by rw [hZ]; rfl
  intro a0 a1 H h
  unfold F_X4_copyRow at h
  refine x_iconst (v := (0 : Int32)) hz dX4_copyRow_0 (by decide) ?_
  refine x_istore_n (pl' := [xA a0, xA a1, xI (0 : Int32)]) hz dX4_copyRow_1 (by decide) rfl ?_
  exact x_wk (xwk_c (xwk_c (xwk_c xwk_0))) ((P_X4_copyRow_L2 hZ N) a0 a1 (0 : Int32) H h)
theorem M_X4_copyRow {N : Nat} {a0 : (Option Nat)} {a1 : (Option Nat)} {H H1 : xH} (h : F_X4_copyRow N a0 a1 H = some H1) : xM yX4_copyRow cX4_copyRow 3 none 2 [.inr (.inr a0), .inr (.inr a1)] H none H1 :=
  xM_of (by decide +kernel) (xT_tb 960 (by decide +kernel) (by decide +kernel)) (by simp [xargs, x2]) rfl (P_X4_copyRow rfl a0 a1 H h)
/-! BettingBook$Ledger.become(LBettingBook$Ledger;)V -/
noncomputable def F_X4_become (N : Nat) (a0 : (Option Nat)) (a1 : (Option Nat)) (H : xH) : Option xH :=
  (xgI H a1 4 0).bind fun v1 =>
  (xpI H a0 4 0 v1).bind fun H2 =>
  (xgI H2 a1 4 1).bind fun v3 =>
  (xpI H2 a0 4 1 v3).bind fun H4 =>
  (xgA H4 a1 4 2).bind fun v5 =>
  (xgA H4 a0 4 2).bind fun v6 =>
  (F_X4_copyRow N v5 v6 H4).bind fun H7 =>
  (xgA H7 a1 4 3).bind fun v8 =>
  (xgA H7 a0 4 3).bind fun v9 =>
  (F_X4_copyRow N v8 v9 H7).bind fun H10 =>
  (xgA H10 a1 4 4).bind fun v11 =>
  (xgA H10 a0 4 4).bind fun v12 =>
  (F_X4_copyRow N v11 v12 H10).bind fun H13 =>
  some H13
set_option maxRecDepth 20000 in
set_option maxHeartbeats 4000000 in
theorem P_X4_become {N : Nat} {Z : xZ} {Hf : xH} (hZ : Z = xZm cX4_become yX4_become 2 3 none none Hf) : ∀ (a0 : (Option Nat)) (a1 : (Option Nat)) (H : xH), F_X4_become N a0 a1 H = some Hf → xWq Z H 0 [xA a0, xA a1] [] := by
  have hz : Z.1 = (cX4_become, yX4_become, 2) := by rw [hZ]; rfl
  have hδ : Z.2.1 = 3 := by rw [hZ]; rfl
  intro a0 a1 H h
  unfold F_X4_become at h
  refine x_aload_n hz dX4_become_0 rfl ?_
  refine x_aload_n hz dX4_become_1 rfl ?_
  obtain ⟨v1, e_v1, h⟩ := x_bnd h
  refine x_getI hz dX4_become_2 fs_X4_21 e_v1 ?_
  obtain ⟨H2, e_H2, h⟩ := x_bnd h
  refine x_putV (v := .int v1) hz dX4_become_5 fs_X4_21 rfl rfl e_H2 ?_
  refine x_aload_n hz dX4_become_8 rfl ?_
  refine x_aload_n hz dX4_become_9 rfl ?_
  obtain ⟨v3, e_v3, h⟩ := x_bnd h
  refine x_getI hz dX4_become_10 fs_X4_25 e_v3 ?_
  obtain ⟨H4, e_H4, h⟩ := x_bnd h
  refine x_putV (v := .int v3) hz dX4_become_13 fs_X4_25 rfl rfl e_H4 ?_
  refine x_aload_n hz dX4_become_16 rfl ?_
  obtain ⟨v5, e_v5, h⟩ := x_bnd h
  refine x_getA hz dX4_become_17 fs_X4_9 e_v5 ?_
  refine x_aload_n hz dX4_become_20 rfl ?_
  obtain ⟨v6, e_v6, h⟩ := x_bnd h
  refine x_getA hz dX4_become_21 fs_X4_9 e_v6 ?_
  obtain ⟨H7, e_H7, h⟩ := x_bnd h
  refine x_callSv (as := [.inr (.inr v5), .inr (.inr v6)]) (st := []) cs_X4_55 rfl rfl hz (by omega) (by decide) dX4_become_24 (M_X4_copyRow e_H7) ?_
  refine x_aload_n hz dX4_become_27 rfl ?_
  obtain ⟨v8, e_v8, h⟩ := x_bnd h
  refine x_getA hz dX4_become_28 fs_X4_15 e_v8 ?_
  refine x_aload_n hz dX4_become_31 rfl ?_
  obtain ⟨v9, e_v9, h⟩ := x_bnd h
  refine x_getA hz dX4_become_32 fs_X4_15 e_v9 ?_
  obtain ⟨H10, e_H10, h⟩ := x_bnd h
  refine x_callSv (as := [.inr (.inr v8), .inr (.inr v9)]) (st := []) cs_X4_55 rfl rfl hz (by omega) (by decide) dX4_become_35 (M_X4_copyRow e_H10) ?_
  refine x_aload_n hz dX4_become_38 rfl ?_
  obtain ⟨v11, e_v11, h⟩ := x_bnd h
  refine x_getA hz dX4_become_39 fs_X4_18 e_v11 ?_
  refine x_aload_n hz dX4_become_42 rfl ?_
  obtain ⟨v12, e_v12, h⟩ := x_bnd h
  refine x_getA hz dX4_become_43 fs_X4_18 e_v12 ?_
  obtain ⟨H13, e_H13, h⟩ := x_bnd h
  refine x_callSv (as := [.inr (.inr v11), .inr (.inr v12)]) (st := []) cs_X4_55 rfl rfl hz (by omega) (by decide) dX4_become_46 (M_X4_copyRow e_H13) ?_
  cases h
  exact x_vret hZ dX4_become_49
theorem M_X4_become {N : Nat} {a0 : (Option Nat)} {a1 : (Option Nat)} {H H1 : xH} (h : F_X4_become N a0 a1 H = some H1) : xM yX4_become cX4_become 2 none 3 [.inr (.inr a0), .inr (.inr a1)] H none H1 :=
  xM_of (by decide +kernel) (xT_tb 957 (by decide +kernel) (by decide +kernel)) (by simp [xargs, x2]) rfl (P_X4_become rfl a0 a1 H h)
/-! BettingBook$Ledger.credit(III)V -/
noncomputable def F_X4_credit (N : Nat) (a0 : (Option Nat)) (a1 : Int32) (a2 : Int32) (a3 : Int32) (H : xH) : Option xH :=
  (xgA H a0 4 4).bind fun v1 =>
  (xgA H a0 4 4).bind fun v2 =>
  x_bd2 (F_X11_at N v2 a1 H) fun v4 H3 =>
  (F_X11_set N v1 a1 (v4 + a3) H3).bind fun H5 =>
  (xgA H5 a0 4 4).bind fun v6 =>
  (xgA H5 a0 4 4).bind fun v7 =>
  x_bd2 (F_X11_at N v7 a2 H5) fun v9 H8 =>
  (F_X11_set N v6 a2 (v9 - a3) H8).bind fun H10 =>
  some H10
set_option maxRecDepth 20000 in
set_option maxHeartbeats 4000000 in
theorem P_X4_credit {N : Nat} {Z : xZ} {Hf : xH} (hZ : Z = xZm cX4_credit yX4_credit 4 2 none none Hf) : ∀ (a0 : (Option Nat)) (a1 : Int32) (a2 : Int32) (a3 : Int32) (H : xH), F_X4_credit N a0 a1 a2 a3 H = some Hf → xWq Z H 0 [xA a0, xI a1, xI a2, xI a3] [] := by
  have hz : Z.1 = (cX4_credit, yX4_credit, 4) := by rw [hZ]; rfl
  have hδ : Z.2.1 = 2 := by rw [hZ]; rfl
  intro a0 a1 a2 a3 H h
  unfold F_X4_credit at h
  refine x_aload_n hz dX4_credit_0 rfl ?_
  obtain ⟨v1, e_v1, h⟩ := x_bnd h
  refine x_getA hz dX4_credit_1 fs_X4_18 e_v1 ?_
  refine x_iload_n hz dX4_credit_4 rfl ?_
  refine x_aload_n hz dX4_credit_5 rfl ?_
  obtain ⟨v2, e_v2, h⟩ := x_bnd h
  refine x_getA hz dX4_credit_6 fs_X4_18 e_v2 ?_
  refine x_iload_n hz dX4_credit_9 rfl ?_
  obtain ⟨v4, H3, e_H3, h⟩ := x_b2 h
  refine x_callSi (as := [.inr (.inr v2), .inl a1]) (st := [.int a1, va_rf v1]) cs_X4_59 rfl rfl hz (by omega) (Nat.le_trans (x_sm1 rfl (x_sm1 (x_rfc _) x_sm0)) (by decide)) dX4_credit_10 (M_X11_at e_H3) ?_
  refine x_iload_n hz dX4_credit_13 rfl ?_
  refine x_iadd hz dX4_credit_14 ?_
  obtain ⟨H5, e_H5, h⟩ := x_bnd h
  refine x_callSv (as := [.inr (.inr v1), .inl a1, .inl (v4 + a3)]) (st := []) cs_X4_48 rfl rfl hz (by omega) (by decide) dX4_credit_15 (M_X11_set e_H5) ?_
  refine x_aload_n hz dX4_credit_18 rfl ?_
  obtain ⟨v6, e_v6, h⟩ := x_bnd h
  refine x_getA hz dX4_credit_19 fs_X4_18 e_v6 ?_
  refine x_iload_n hz dX4_credit_22 rfl ?_
  refine x_aload_n hz dX4_credit_23 rfl ?_
  obtain ⟨v7, e_v7, h⟩ := x_bnd h
  refine x_getA hz dX4_credit_24 fs_X4_18 e_v7 ?_
  refine x_iload_n hz dX4_credit_27 rfl ?_
  obtain ⟨v9, H8, e_H8, h⟩ := x_b2 h
  refine x_callSi (as := [.inr (.inr v7), .inl a2]) (st := [.int a2, va_rf v6]) cs_X4_59 rfl rfl hz (by omega) (Nat.le_trans (x_sm1 rfl (x_sm1 (x_rfc _) x_sm0)) (by decide)) dX4_credit_28 (M_X11_at e_H8) ?_
  refine x_iload_n hz dX4_credit_31 rfl ?_
  refine x_isub hz dX4_credit_32 ?_
  obtain ⟨H10, e_H10, h⟩ := x_bnd h
  refine x_callSv (as := [.inr (.inr v6), .inl a2, .inl (v9 - a3)]) (st := []) cs_X4_48 rfl rfl hz (by omega) (by decide) dX4_credit_33 (M_X11_set e_H10) ?_
  cases h
  exact x_vret hZ dX4_credit_36
theorem M_X4_credit {N : Nat} {a0 : (Option Nat)} {a1 : Int32} {a2 : Int32} {a3 : Int32} {H H1 : xH} (h : F_X4_credit N a0 a1 a2 a3 H = some H1) : xM yX4_credit cX4_credit 4 none 2 [.inr (.inr a0), .inl a1, .inl a2, .inl a3] H none H1 :=
  xM_of (by decide +kernel) (xT_tb 688 (by decide +kernel) (by decide +kernel)) (by simp [xargs, x2]) rfl (P_X4_credit rfl a0 a1 a2 a3 H h)
/-! BettingBook$Ledger.sellSide(IIII)V -/
noncomputable def F_X4_sellSide (N : Nat) (a0 : (Option Nat)) (a1 : Int32) (a2 : Int32) (a3 : Int32) (a4 : Int32) (H : xH) : Option xH :=
  (xob H a0 4).bind fun b2 =>
  x_bd2 (F_X4_holder N a0 a1 a2 H) fun v3 H1 =>
  (xob H1 a0 4).bind fun b5 =>
  (F_X4_credit N a0 v3 a3 a4 H1).bind fun H4 =>
  (xgA H4 a0 4 3).bind fun v6 =>
  (F_X11_set N v6 (((2 : Int32) * a1) + a2) a3 H4).bind fun H7 =>
  (xgI H7 a0 4 1).bind fun v8 =>
  (xpI H7 a0 4 1 (v8 + (1 : Int32))).bind fun H9 =>
  some H9
set_option maxRecDepth 20000 in
set_option maxHeartbeats 4000000 in
theorem P_X4_sellSide {N : Nat} {Z : xZ} {Hf : xH} (hZ : Z = xZm cX4_sellSide yX4_sellSide 5 3 none none Hf) : ∀ (a0 : (Option Nat)) (a1 : Int32) (a2 : Int32) (a3 : Int32) (a4 : Int32) (H : xH), F_X4_sellSide N a0 a1 a2 a3 a4 H = some Hf → xWq Z H 0 [xA a0, xI a1, xI a2, xI a3, xI a4] [] := by
  have hz : Z.1 = (cX4_sellSide, yX4_sellSide, 5) := by rw [hZ]; rfl
  have hδ : Z.2.1 = 3 := by rw [hZ]; rfl
  intro a0 a1 a2 a3 a4 H h
  unfold F_X4_sellSide at h
  refine x_aload_n hz dX4_sellSide_0 rfl ?_
  refine x_aload_n hz dX4_sellSide_1 rfl ?_
  refine x_iload_n hz dX4_sellSide_2 rfl ?_
  refine x_iload_n hz dX4_sellSide_3 rfl ?_
  obtain ⟨b2, e_b2, h⟩ := x_bnd h
  obtain ⟨v3, H1, e_H1, h⟩ := x_b2 h
  refine x_callVi (as := [.inl a1, .inl a2]) (st := [va_rf a0]) cs_X4_63 (ci := 4) ⟨rfl, rfl⟩ rfl rfl hz (by omega) (Nat.le_trans (x_sm1 (x_rfc _) x_sm0) (by decide)) dX4_sellSide_4 e_b2 (M_X4_holder e_H1) ?_
  refine x_iload_n hz dX4_sellSide_7 rfl ?_
  refine x_iload hz dX4_sellSide_8 rfl ?_
  obtain ⟨b5, e_b5, h⟩ := x_bnd h
  obtain ⟨H4, e_H4, h⟩ := x_bnd h
  refine x_callVv (as := [.inl v3, .inl a3, .inl a4]) (st := []) cs_X4_67 (ci := 4) ⟨rfl, rfl⟩ rfl rfl hz (by omega) (by decide) dX4_sellSide_10 e_b5 (M_X4_credit e_H4) ?_
  refine x_aload_n hz dX4_sellSide_13 rfl ?_
  obtain ⟨v6, e_v6, h⟩ := x_bnd h
  refine x_getA hz dX4_sellSide_14 fs_X4_15 e_v6 ?_
  refine x_iconst (v := (2 : Int32)) hz dX4_sellSide_17 (by decide) ?_
  refine x_iload_n hz dX4_sellSide_18 rfl ?_
  refine x_imul hz dX4_sellSide_19 ?_
  refine x_iload_n hz dX4_sellSide_20 rfl ?_
  refine x_iadd hz dX4_sellSide_21 ?_
  refine x_iload_n hz dX4_sellSide_22 rfl ?_
  obtain ⟨H7, e_H7, h⟩ := x_bnd h
  refine x_callSv (as := [.inr (.inr v6), .inl (((2 : Int32) * a1) + a2), .inl a3]) (st := []) cs_X4_48 rfl rfl hz (by omega) (by decide) dX4_sellSide_23 (M_X11_set e_H7) ?_
  refine x_aload_n hz dX4_sellSide_26 rfl ?_
  refine x_dup hz dX4_sellSide_27 (x_rfc _) ?_
  obtain ⟨v8, e_v8, h⟩ := x_bnd h
  refine x_getI hz dX4_sellSide_28 fs_X4_25 e_v8 ?_
  refine x_iconst (v := (1 : Int32)) hz dX4_sellSide_31 (by decide) ?_
  refine x_iadd hz dX4_sellSide_32 ?_
  obtain ⟨H9, e_H9, h⟩ := x_bnd h
  refine x_putV (v := .int (v8 + (1 : Int32))) hz dX4_sellSide_33 fs_X4_25 rfl rfl e_H9 ?_
  cases h
  exact x_vret hZ dX4_sellSide_36
theorem M_X4_sellSide {N : Nat} {a0 : (Option Nat)} {a1 : Int32} {a2 : Int32} {a3 : Int32} {a4 : Int32} {H H1 : xH} (h : F_X4_sellSide N a0 a1 a2 a3 a4 H = some H1) : xM yX4_sellSide cX4_sellSide 5 none 3 [.inr (.inr a0), .inl a1, .inl a2, .inl a3, .inl a4] H none H1 :=
  xM_of (by decide +kernel) (xT_tb 683 (by decide +kernel) (by decide +kernel)) (by simp [xargs, x2]) rfl (P_X4_sellSide rfl a0 a1 a2 a3 a4 H h)
/-! BettingBook$Ledger.cameBits()I -/
noncomputable def F_X4_cameBits_J28 (N : Nat) (k4 : (Option Nat) → Int32 → Int32 → xH → Option (Int32 × xH)) (x0 : (Option Nat)) (x1 : Int32) (x2 : Int32) (H : xH) : Option (Int32 × xH) :=
  k4 x0 x1 (x2 + 1) H
set_option maxRecDepth 20000 in
set_option maxHeartbeats 4000000 in
theorem P_X4_cameBits_J28 {N : Nat} {Z : xZ} {rv : Int32} {Hf : xH} (hZ : Z = xZm cX4_cameBits yX4_cameBits 3 1 (some .int) (some (.int rv)) Hf) {k4 : (Option Nat) → Int32 → Int32 → xH → Option (Int32 × xH)} (hk4 : ∀ (x0 : (Option Nat)) (x1 : Int32) (x2 : Int32) (H : xH), k4 x0 x1 x2 H = some (rv, Hf) → xWq Z H 4 [xA x0, xI x1, xI x2] []) : ∀ (x0 : (Option Nat)) (x1 : Int32) (x2 : Int32) (H : xH), F_X4_cameBits_J28 N k4 x0 x1 x2 H = some (rv, Hf) → xWq Z H 28 [xA x0, xI x1, xI x2] [] := by
  have hz : Z.1 = (cX4_cameBits, yX4_cameBits, 3) := by rw [hZ]; rfl
  have hδ : Z.2.1 = 1 := by rw [hZ]; rfl
  intro x0 x1 x2 H h
  unfold F_X4_cameBits_J28 at h
  refine x_iinc (w := (x2 + 1)) (pl' := [xA x0, xI x1, xI (x2 + 1)]) hz dX4_cameBits_28 rfl rfl (by decide) rfl ?_
  refine x_goto (t := 4) hz dX4_cameBits_31 (by decide) ?_
  exact x_wk (xwk_c (xwk_c (xwk_c xwk_0))) (hk4 x0 x1 (x2 + 1) H h)
noncomputable def F_X4_cameBits_J4 (N : Nat) (k4 : (Option Nat) → Int32 → Int32 → xH → Option (Int32 × xH)) (x0 : (Option Nat)) (x1 : Int32) (x2 : Int32) (H : xH) : Option (Int32 × xH) :=
  (xgA H x0 4 2).bind fun v1 =>
  (xal .int H v1).bind fun v2 =>
  if v2 ≤ x2 then (some (x1, H)) else ((xgA H x0 4 2).bind fun v4 =>
  (xlI .int H v4 x2).bind fun v5 =>
  if v5 = 0 then ((F_X4_cameBits_J28 N k4) x0 x1 x2 H) else ((F_X4_cameBits_J28 N k4) x0 (x1 ||| ((1 : Int32) <<< (x2 &&& 31))) x2 H))
set_option maxRecDepth 20000 in
set_option maxHeartbeats 4000000 in
theorem P_X4_cameBits_J4 {N : Nat} {Z : xZ} {rv : Int32} {Hf : xH} (hZ : Z = xZm cX4_cameBits yX4_cameBits 3 1 (some .int) (some (.int rv)) Hf) {k4 : (Option Nat) → Int32 → Int32 → xH → Option (Int32 × xH)} (hk4 : ∀ (x0 : (Option Nat)) (x1 : Int32) (x2 : Int32) (H : xH), k4 x0 x1 x2 H = some (rv, Hf) → xWq Z H 4 [xA x0, xI x1, xI x2] []) : ∀ (x0 : (Option Nat)) (x1 : Int32) (x2 : Int32) (H : xH), F_X4_cameBits_J4 N k4 x0 x1 x2 H = some (rv, Hf) → xWq Z H 4 [xA x0, xI x1, xI x2] [] := by
  have hz : Z.1 = (cX4_cameBits, yX4_cameBits, 3) := by rw [hZ]; rfl
  have hδ : Z.2.1 = 1 := by rw [hZ]; rfl
  intro x0 x1 x2 H h
  unfold F_X4_cameBits_J4 at h
  refine x_iload_n hz dX4_cameBits_4 rfl ?_
  refine x_aload_n hz dX4_cameBits_5 rfl ?_
  obtain ⟨v1, e_v1, h⟩ := x_bnd h
  refine x_getA hz dX4_cameBits_6 fs_X4_9 e_v1 ?_
  obtain ⟨v2, e_v2, h⟩ := x_bnd h
  refine x_alen (t0 := 0) (fun _ => rfl) hz dX4_cameBits_9 e_v2 ?_
  refine x_icmp_ge (t := 34) hz dX4_cameBits_10 (by decide) (fun c3 => ?_) (fun c3 => ?_)
  · replace h := x_ip c3 h
    refine x_iload_n hz dX4_cameBits_34 rfl ?_
    cases h
    exact x_iret hZ dX4_cameBits_35
  · replace h := x_in c3 h
    refine x_aload_n hz dX4_cameBits_13 rfl ?_
    obtain ⟨v4, e_v4, h⟩ := x_bnd h
    refine x_getA hz dX4_cameBits_14 fs_X4_9 e_v4 ?_
    refine x_iload_n hz dX4_cameBits_17 rfl ?_
    obtain ⟨v5, e_v5, h⟩ := x_bnd h
    refine x_iald hz dX4_cameBits_18 e_v5 ?_
    refine x_if_eq (t := 28) hz dX4_cameBits_19 (by decide) (fun c6 => ?_) (fun c6 => ?_)
    · replace h := x_ip c6 h
      exact x_wk (xwk_c (xwk_c (xwk_c xwk_0))) ((P_X4_cameBits_J28 hZ hk4) x0 x1 x2 H h)
    · replace h := x_in c6 h
      refine x_iload_n hz dX4_cameBits_22 rfl ?_
      refine x_iconst (v := (1 : Int32)) hz dX4_cameBits_23 (by decide) ?_
      refine x_iload_n hz dX4_cameBits_24 rfl ?_
      refine x_ishl hz dX4_cameBits_25 ?_
      refine x_ior hz dX4_cameBits_26 ?_
      refine x_istore_n (pl' := [xA x0, xI (x1 ||| ((1 : Int32) <<< (x2 &&& 31))), xI x2]) hz dX4_cameBits_27 (by decide) rfl ?_
      exact x_wk (xwk_c (xwk_c (xwk_c xwk_0))) ((P_X4_cameBits_J28 hZ hk4) x0 (x1 ||| ((1 : Int32) <<< (x2 &&& 31))) x2 H h)
noncomputable def F_X4_cameBits_L4 (N : Nat) : Nat → (Option Nat) → Int32 → Int32 → xH → Option (Int32 × xH)
  | 0 => fun _ _ _ _ => none
  | n + 1 => F_X4_cameBits_J4 N (F_X4_cameBits_L4 N n)
theorem P_X4_cameBits_L4 {N : Nat} {Z : xZ} {rv : Int32} {Hf : xH} (hZ : Z = xZm cX4_cameBits yX4_cameBits 3 1 (some .int) (some (.int rv)) Hf) : ∀ (n : Nat) (x0 : (Option Nat)) (x1 : Int32) (x2 : Int32) (H : xH), F_X4_cameBits_L4 N n x0 x1 x2 H = some (rv, Hf) → xWq Z H 4 [xA x0, xI x1, xI x2] [] := by
  intro n
  induction n with
  | zero => intro _ _ _ _ h; cases h
  | succ n ih => exact P_X4_cameBits_J4 hZ ih
noncomputable def F_X4_cameBits (N : Nat) (a0 : (Option Nat)) (H : xH) : Option (Int32 × xH) :=
  (F_X4_cameBits_L4 N N) a0 (0 : Int32) (0 : Int32) H
set_option maxRecDepth 20000 in
set_option maxHeartbeats 4000000 in
theorem P_X4_cameBits {N : Nat} {Z : xZ} {rv : Int32} {Hf : xH} (hZ : Z = xZm cX4_cameBits yX4_cameBits 3 1 (some .int) (some (.int rv)) Hf) : ∀ (a0 : (Option Nat)) (H : xH), F_X4_cameBits N a0 H = some (rv, Hf) → xWq Z H 0 [xA a0, xN, xN] [] := by
  have hz : Z.1 = (cX4_cameBits, yX4_cameBits, 3) := by rw [hZ]; rfl
  have hδ : Z.2.1 = 1 := by rw [hZ]; rfl
  intro a0 H h
  unfold F_X4_cameBits at h
  refine x_iconst (v := (0 : Int32)) hz dX4_cameBits_0 (by decide) ?_
  refine x_istore_n (pl' := [xA a0, xI (0 : Int32), xN]) hz dX4_cameBits_1 (by decide) rfl ?_
  refine x_iconst (v := (0 : Int32)) hz dX4_cameBits_2 (by decide) ?_
  refine x_istore_n (pl' := [xA a0, xI (0 : Int32), xI (0 : Int32)]) hz dX4_cameBits_3 (by decide) rfl ?_
  exact x_wk (xwk_c (xwk_c (xwk_c xwk_0))) ((P_X4_cameBits_L4 hZ N) a0 (0 : Int32) (0 : Int32) H h)
theorem M_X4_cameBits {N : Nat} {a0 : (Option Nat)} {H H1 : xH} {r1 : Int32} (h : F_X4_cameBits N a0 H = some (r1, H1)) : xM yX4_cameBits cX4_cameBits 3 (some .int) 1 [.inr (.inr a0)] H (some (.int r1)) H1 :=
  xM_of (by decide +kernel) (xT_tb 972 (by decide +kernel) (by decide +kernel)) (by simp [xargs, x2]) rfl (P_X4_cameBits rfl a0 H h)
/-! BettingBook$Ledger.allowedDigits(I)I -/
noncomputable def F_X4_allowedDigits (N : Nat) (a0 : (Option Nat)) (a1 : Int32) (H : xH) : Option (Int32 × xH) :=
  (xgA H a0 4 2).bind fun v1 =>
  x_bd2 (F_X11_at N v1 a1 H) fun v3 H2 =>
  if v3 = 0 then ((xgI H2 a0 4 0).bind fun v5 =>
  some ((((511 : Int32) &&& ((((1 : Int32) <<< ((v5 + (1 : Int32)) &&& 31)) - (1 : Int32)) ^^^ (-1 : Int32))) ||| (1 : Int32)), H2)) else (some (((1 : Int32) <<< (v3 &&& 31)), H2))
set_option maxRecDepth 20000 in
set_option maxHeartbeats 4000000 in
theorem P_X4_allowedDigits {N : Nat} {Z : xZ} {rv : Int32} {Hf : xH} (hZ : Z = xZm cX4_allowedDigits yX4_allowedDigits 5 2 (some .int) (some (.int rv)) Hf) : ∀ (a0 : (Option Nat)) (a1 : Int32) (H : xH), F_X4_allowedDigits N a0 a1 H = some (rv, Hf) → xWq Z H 0 [xA a0, xI a1, xN, xN, xN] [] := by
  have hz : Z.1 = (cX4_allowedDigits, yX4_allowedDigits, 5) := by rw [hZ]; rfl
  have hδ : Z.2.1 = 2 := by rw [hZ]; rfl
  intro a0 a1 H h
  unfold F_X4_allowedDigits at h
  refine x_aload_n hz dX4_allowedDigits_0 rfl ?_
  obtain ⟨v1, e_v1, h⟩ := x_bnd h
  refine x_getA hz dX4_allowedDigits_1 fs_X4_9 e_v1 ?_
  refine x_iload_n hz dX4_allowedDigits_4 rfl ?_
  obtain ⟨v3, H2, e_H2, h⟩ := x_b2 h
  refine x_callSi (as := [.inr (.inr v1), .inl a1]) (st := []) cs_X4_59 rfl rfl hz (by omega) (by decide) dX4_allowedDigits_5 (M_X11_at e_H2) ?_
  refine x_istore_n (pl' := [xA a0, xI a1, xI v3, xN, xN]) hz dX4_allowedDigits_8 (by decide) rfl ?_
  refine x_iload_n hz dX4_allowedDigits_9 rfl ?_
  refine x_if_eq (t := 17) hz dX4_allowedDigits_10 (by decide) (fun c4 => ?_) (fun c4 => ?_)
  · replace h := x_ip c4 h
    refine x_sipush (v := (511 : Int32)) hz dX4_allowedDigits_17 (by decide) ?_
    refine x_istore_n (pl' := [xA a0, xI a1, xI v3, xI (511 : Int32), xN]) hz dX4_allowedDigits_20 (by decide) rfl ?_
    refine x_iconst (v := (1 : Int32)) hz dX4_allowedDigits_21 (by decide) ?_
    refine x_aload_n hz dX4_allowedDigits_22 rfl ?_
    obtain ⟨v5, e_v5, h⟩ := x_bnd h
    refine x_getI hz dX4_allowedDigits_23 fs_X4_21 e_v5 ?_
    refine x_iconst (v := (1 : Int32)) hz dX4_allowedDigits_26 (by decide) ?_
    refine x_iadd hz dX4_allowedDigits_27 ?_
    refine x_ishl hz dX4_allowedDigits_28 ?_
    refine x_iconst (v := (1 : Int32)) hz dX4_allowedDigits_29 (by decide) ?_
    refine x_isub hz dX4_allowedDigits_30 ?_
    refine x_istore (pl' := [xA a0, xI a1, xI v3, xI (511 : Int32), xI (((1 : Int32) <<< ((v5 + (1 : Int32)) &&& 31)) - (1 : Int32))]) hz dX4_allowedDigits_31 (by decide) rfl ?_
    refine x_iload_n hz dX4_allowedDigits_33 rfl ?_
    refine x_iload hz dX4_allowedDigits_34 rfl ?_
    refine x_iconst (v := (-1 : Int32)) hz dX4_allowedDigits_36 (by decide) ?_
    refine x_ixor hz dX4_allowedDigits_37 ?_
    refine x_iand hz dX4_allowedDigits_38 ?_
    refine x_iconst (v := (1 : Int32)) hz dX4_allowedDigits_39 (by decide) ?_
    refine x_ior hz dX4_allowedDigits_40 ?_
    cases h
    exact x_iret hZ dX4_allowedDigits_41
  · replace h := x_in c4 h
    refine x_iconst (v := (1 : Int32)) hz dX4_allowedDigits_13 (by decide) ?_
    refine x_iload_n hz dX4_allowedDigits_14 rfl ?_
    refine x_ishl hz dX4_allowedDigits_15 ?_
    cases h
    exact x_iret hZ dX4_allowedDigits_16
theorem M_X4_allowedDigits {N : Nat} {a0 : (Option Nat)} {a1 : Int32} {H H1 : xH} {r1 : Int32} (h : F_X4_allowedDigits N a0 a1 H = some (r1, H1)) : xM yX4_allowedDigits cX4_allowedDigits 5 (some .int) 2 [.inr (.inr a0), .inl a1] H (some (.int r1)) H1 :=
  xM_of (by decide +kernel) (xT_tb 293 (by decide +kernel) (by decide +kernel)) (by simp [xargs, x2]) rfl (P_X4_allowedDigits rfl a0 a1 H h)
/-! BettingBook$Odds.init()V -/
noncomputable def F_X5_init (N : Nat) (a0 : (Option Nat)) (H : xH) : Option xH :=
  (a0).bind fun b1 =>
  (xnI .int H (45 : Int32)).bind fun H2 =>
  (xpA H2 a0 5 0 (some H.2.1)).bind fun H3 =>
  some H3
set_option maxRecDepth 20000 in
set_option maxHeartbeats 4000000 in
theorem P_X5_init {N : Nat} {Z : xZ} {Hf : xH} (hZ : Z = xZm cX5_init yX5_init 1 2 none none Hf) : ∀ (a0 : (Option Nat)) (H : xH), F_X5_init N a0 H = some Hf → xWq Z H 0 [xA a0] [] := by
  have hz : Z.1 = (cX5_init, yX5_init, 1) := by rw [hZ]; rfl
  have hδ : Z.2.1 = 2 := by rw [hZ]; rfl
  intro a0 H h
  unfold F_X5_init at h
  refine x_aload_n hz dX5_init_0 rfl ?_
  obtain ⟨b1, e_b1, h⟩ := x_bnd h
  refine x_objInit e_b1 hz (by omega) (by decide) ol_X5_3 oi_1 oi_2 dX5_init_1 ?_
  refine x_aload_n hz dX5_init_4 rfl ?_
  refine x_bipush (v := (45 : Int32)) hz dX5_init_5 (by decide) ?_
  obtain ⟨H2, e_H2, h⟩ := x_bnd h
  refine x_newI aw_int hz dX5_init_7 e_H2 ?_
  obtain ⟨H3, e_H3, h⟩ := x_bnd h
  refine x_putF (v := va_rf (some H.2.1)) hz rfl dX5_init_9 fs_X5_9F (x_nra _ _) (x_fta _ _) e_H3 ?_
  cases h
  exact x_vret hZ dX5_init_12
theorem M_X5_init {N : Nat} {a0 : (Option Nat)} {H H1 : xH} (h : F_X5_init N a0 H = some H1) : xM yX5_init cX5_init 1 none 2 [.inr (.inr a0)] H none H1 :=
  xM_of (by decide +kernel) (xT_tb 186 (by decide +kernel) (by decide +kernel)) (by simp [xargs, x2]) rfl (P_X5_init rfl a0 H h)
/-! BettingBook$Odds.clear()V -/
noncomputable def F_X5_clear (N : Nat) (a0 : (Option Nat)) (H : xH) : Option xH :=
  (xgA H a0 5 0).bind fun v1 =>
  (F_J7_fill_53178 N v1 (0 : Int32) H).bind fun H2 =>
  some H2
set_option maxRecDepth 20000 in
set_option maxHeartbeats 4000000 in
theorem P_X5_clear {N : Nat} {Z : xZ} {Hf : xH} (hZ : Z = xZm cX5_clear yX5_clear 1 2 none none Hf) : ∀ (a0 : (Option Nat)) (H : xH), F_X5_clear N a0 H = some Hf → xWq Z H 0 [xA a0] [] := by
  have hz : Z.1 = (cX5_clear, yX5_clear, 1) := by rw [hZ]; rfl
  have hδ : Z.2.1 = 2 := by rw [hZ]; rfl
  intro a0 H h
  unfold F_X5_clear at h
  refine x_aload_n hz dX5_clear_0 rfl ?_
  obtain ⟨v1, e_v1, h⟩ := x_bnd h
  refine x_getA hz dX5_clear_1 fs_X5_9 e_v1 ?_
  refine x_iconst (v := (0 : Int32)) hz dX5_clear_4 (by decide) ?_
  obtain ⟨H2, e_H2, h⟩ := x_bnd h
  refine x_callSv (as := [.inr (.inr v1), .inl (0 : Int32)]) (st := []) cs_X5_15 rfl rfl hz (by omega) (by decide) dX5_clear_5 (M_J7_fill_53178 e_H2) ?_
  cases h
  exact x_vret hZ dX5_clear_8
theorem M_X5_clear {N : Nat} {a0 : (Option Nat)} {H H1 : xH} (h : F_X5_clear N a0 H = some H1) : xM yX5_clear cX5_clear 1 none 2 [.inr (.inr a0)] H none H1 :=
  xM_of (by decide +kernel) (xT_tb 612 (by decide +kernel) (by decide +kernel)) (by simp [xargs, x2]) rfl (P_X5_clear rfl a0 H h)
/-! BettingBook$Odds.setParts(III)V -/
noncomputable def F_X5_setParts (N : Nat) (a0 : (Option Nat)) (a1 : Int32) (a2 : Int32) (a3 : Int32) (H : xH) : Option xH :=
  (xgA H a0 5 0).bind fun v1 =>
  (F_X11_set N v1 (((9 : Int32) * a1) + a2) a3 H).bind fun H2 =>
  some H2
set_option maxRecDepth 20000 in
set_option maxHeartbeats 4000000 in
theorem P_X5_setParts {N : Nat} {Z : xZ} {Hf : xH} (hZ : Z = xZm cX5_setParts yX5_setParts 4 2 none none Hf) : ∀ (a0 : (Option Nat)) (a1 : Int32) (a2 : Int32) (a3 : Int32) (H : xH), F_X5_setParts N a0 a1 a2 a3 H = some Hf → xWq Z H 0 [xA a0, xI a1, xI a2, xI a3] [] := by
  have hz : Z.1 = (cX5_setParts, yX5_setParts, 4) := by rw [hZ]; rfl
  have hδ : Z.2.1 = 2 := by rw [hZ]; rfl
  intro a0 a1 a2 a3 H h
  unfold F_X5_setParts at h
  refine x_aload_n hz dX5_setParts_0 rfl ?_
  obtain ⟨v1, e_v1, h⟩ := x_bnd h
  refine x_getA hz dX5_setParts_1 fs_X5_9 e_v1 ?_
  refine x_bipush (v := (9 : Int32)) hz dX5_setParts_4 (by decide) ?_
  refine x_iload_n hz dX5_setParts_6 rfl ?_
  refine x_imul hz dX5_setParts_7 ?_
  refine x_iload_n hz dX5_setParts_8 rfl ?_
  refine x_iadd hz dX5_setParts_9 ?_
  refine x_iload_n hz dX5_setParts_10 rfl ?_
  obtain ⟨H2, e_H2, h⟩ := x_bnd h
  refine x_callSv (as := [.inr (.inr v1), .inl (((9 : Int32) * a1) + a2), .inl a3]) (st := []) cs_X5_21 rfl rfl hz (by omega) (by decide) dX5_setParts_11 (M_X11_set e_H2) ?_
  cases h
  exact x_vret hZ dX5_setParts_14
theorem M_X5_setParts {N : Nat} {a0 : (Option Nat)} {a1 : Int32} {a2 : Int32} {a3 : Int32} {H H1 : xH} (h : F_X5_setParts N a0 a1 a2 a3 H = some H1) : xM yX5_setParts cX5_setParts 4 none 2 [.inr (.inr a0), .inl a1, .inl a2, .inl a3] H none H1 :=
  xM_of (by decide +kernel) (xT_tb 666 (by decide +kernel) (by decide +kernel)) (by simp [xargs, x2]) rfl (P_X5_setParts rfl a0 a1 a2 a3 H h)
/-! BettingBook$Odds.areWhole(I)Z -/
noncomputable def F_X5_areWhole_J12 (N : Nat) (k12 : (Option Nat) → Int32 → Int32 → Int32 → Int32 → xH → Option (Int32 × xH)) (k42 : (Option Nat) → Int32 → Int32 → Int32 → xH → Option (Int32 × xH)) (x0 : (Option Nat)) (x1 : Int32) (x2 : Int32) (x3 : Int32) (x4 : Int32) (H : xH) : Option (Int32 × xH) :=
  if (9 : Int32) ≤ x4 then (k42 x0 x1 x2 x3 H) else ((xgA H x0 5 0).bind fun v2 =>
  x_bd2 (F_X11_at N v2 (((9 : Int32) * x2) + x4) H) fun v4 H3 =>
  k12 x0 x1 x2 (x3 + v4) (x4 + 1) H3)
set_option maxRecDepth 20000 in
set_option maxHeartbeats 4000000 in
theorem P_X5_areWhole_J12 {N : Nat} {Z : xZ} {rv : Int32} {Hf : xH} (hZ : Z = xZm cX5_areWhole yX5_areWhole 5 2 (some .boolean) (some (.int rv)) Hf) {k12 : (Option Nat) → Int32 → Int32 → Int32 → Int32 → xH → Option (Int32 × xH)} (hk12 : ∀ (x0 : (Option Nat)) (x1 : Int32) (x2 : Int32) (x3 : Int32) (x4 : Int32) (H : xH), k12 x0 x1 x2 x3 x4 H = some (rv, Hf) → xWq Z H 12 [xA x0, xI x1, xI x2, xI x3, xI x4] []) {k42 : (Option Nat) → Int32 → Int32 → Int32 → xH → Option (Int32 × xH)} (hk42 : ∀ (x0 : (Option Nat)) (x1 : Int32) (x2 : Int32) (x3 : Int32) (H : xH), k42 x0 x1 x2 x3 H = some (rv, Hf) → xWq Z H 42 [xA x0, xI x1, xI x2, xI x3, xN] []) : ∀ (x0 : (Option Nat)) (x1 : Int32) (x2 : Int32) (x3 : Int32) (x4 : Int32) (H : xH), F_X5_areWhole_J12 N k12 k42 x0 x1 x2 x3 x4 H = some (rv, Hf) → xWq Z H 12 [xA x0, xI x1, xI x2, xI x3, xI x4] [] := by
  have hz : Z.1 = (cX5_areWhole, yX5_areWhole, 5) := by rw [hZ]; rfl
  have hδ : Z.2.1 = 2 := by rw [hZ]; rfl
  intro x0 x1 x2 x3 x4 H h
  unfold F_X5_areWhole_J12 at h
  refine x_iload hz dX5_areWhole_12 rfl ?_
  refine x_bipush (v := (9 : Int32)) hz dX5_areWhole_14 (by decide) ?_
  refine x_icmp_ge (t := 42) hz dX5_areWhole_16 (by decide) (fun c1 => ?_) (fun c1 => ?_)
  · replace h := x_ip c1 h
    exact x_wk (xwk_c (xwk_c (xwk_c (xwk_c (xwk_n xwk_0))))) (hk42 x0 x1 x2 x3 H h)
  · replace h := x_in c1 h
    refine x_iload_n hz dX5_areWhole_19 rfl ?_
    refine x_aload_n hz dX5_areWhole_20 rfl ?_
    obtain ⟨v2, e_v2, h⟩ := x_bnd h
    refine x_getA hz dX5_areWhole_21 fs_X5_9 e_v2 ?_
    refine x_bipush (v := (9 : Int32)) hz dX5_areWhole_24 (by decide) ?_
    refine x_iload_n hz dX5_areWhole_26 rfl ?_
    refine x_imul hz dX5_areWhole_27 ?_
    refine x_iload hz dX5_areWhole_28 rfl ?_
    refine x_iadd hz dX5_areWhole_30 ?_
    obtain ⟨v4, H3, e_H3, h⟩ := x_b2 h
    refine x_callSi (as := [.inr (.inr v2), .inl (((9 : Int32) * x2) + x4)]) (st := [.int x3]) cs_X5_25 rfl rfl hz (by omega) (Nat.le_trans (x_sm1 rfl x_sm0) (by decide)) dX5_areWhole_31 (M_X11_at e_H3) ?_
    refine x_iadd hz dX5_areWhole_34 ?_
    refine x_istore_n (pl' := [xA x0, xI x1, xI x2, xI (x3 + v4), xI x4]) hz dX5_areWhole_35 (by decide) rfl ?_
    refine x_iinc (w := (x4 + 1)) (pl' := [xA x0, xI x1, xI x2, xI (x3 + v4), xI (x4 + 1)]) hz dX5_areWhole_36 rfl rfl (by decide) rfl ?_
    refine x_goto (t := 12) hz dX5_areWhole_39 (by decide) ?_
    exact x_wk (xwk_c (xwk_c (xwk_c (xwk_c (xwk_c xwk_0))))) (hk12 x0 x1 x2 (x3 + v4) (x4 + 1) H3 h)
noncomputable def F_X5_areWhole_L12 (N : Nat) (k42 : (Option Nat) → Int32 → Int32 → Int32 → xH → Option (Int32 × xH)) : Nat → (Option Nat) → Int32 → Int32 → Int32 → Int32 → xH → Option (Int32 × xH)
  | 0 => fun _ _ _ _ _ _ => none
  | n + 1 => F_X5_areWhole_J12 N (F_X5_areWhole_L12 N k42 n) k42
theorem P_X5_areWhole_L12 {N : Nat} {Z : xZ} {rv : Int32} {Hf : xH} (hZ : Z = xZm cX5_areWhole yX5_areWhole 5 2 (some .boolean) (some (.int rv)) Hf) {k42 : (Option Nat) → Int32 → Int32 → Int32 → xH → Option (Int32 × xH)} (hk42 : ∀ (x0 : (Option Nat)) (x1 : Int32) (x2 : Int32) (x3 : Int32) (H : xH), k42 x0 x1 x2 x3 H = some (rv, Hf) → xWq Z H 42 [xA x0, xI x1, xI x2, xI x3, xN] []) : ∀ (n : Nat) (x0 : (Option Nat)) (x1 : Int32) (x2 : Int32) (x3 : Int32) (x4 : Int32) (H : xH), F_X5_areWhole_L12 N k42 n x0 x1 x2 x3 x4 H = some (rv, Hf) → xWq Z H 12 [xA x0, xI x1, xI x2, xI x3, xI x4] [] := by
  intro n
  induction n with
  | zero => intro _ _ _ _ _ _ h; cases h
  | succ n ih => exact P_X5_areWhole_J12 hZ ih hk42
noncomputable def F_X5_areWhole_J42 (N : Nat) (k2 : (Option Nat) → Int32 → Int32 → xH → Option (Int32 × xH)) (x0 : (Option Nat)) (x1 : Int32) (x2 : Int32) (x3 : Int32) (H : xH) : Option (Int32 × xH) :=
  if x3 = (100 : Int32) then (k2 x0 x1 (x2 + 1) H) else (some ((0 : Int32), H))
set_option maxRecDepth 20000 in
set_option maxHeartbeats 4000000 in
theorem P_X5_areWhole_J42 {N : Nat} {Z : xZ} {rv : Int32} {Hf : xH} (hZ : Z = xZm cX5_areWhole yX5_areWhole 5 2 (some .boolean) (some (.int rv)) Hf) {k2 : (Option Nat) → Int32 → Int32 → xH → Option (Int32 × xH)} (hk2 : ∀ (x0 : (Option Nat)) (x1 : Int32) (x2 : Int32) (H : xH), k2 x0 x1 x2 H = some (rv, Hf) → xWq Z H 2 [xA x0, xI x1, xI x2, xN, xN] []) : ∀ (x0 : (Option Nat)) (x1 : Int32) (x2 : Int32) (x3 : Int32) (H : xH), F_X5_areWhole_J42 N k2 x0 x1 x2 x3 H = some (rv, Hf) → xWq Z H 42 [xA x0, xI x1, xI x2, xI x3, xN] [] := by
  have hz : Z.1 = (cX5_areWhole, yX5_areWhole, 5) := by rw [hZ]; rfl
  have hδ : Z.2.1 = 2 := by rw [hZ]; rfl
  intro x0 x1 x2 x3 H h
  unfold F_X5_areWhole_J42 at h
  refine x_iload_n hz dX5_areWhole_42 rfl ?_
  refine x_bipush (v := (100 : Int32)) hz dX5_areWhole_43 (by decide) ?_
  refine x_icmp_eq (t := 50) hz dX5_areWhole_45 (by decide) (fun c1 => ?_) (fun c1 => ?_)
  · replace h := x_ip c1 h
    refine x_iinc (w := (x2 + 1)) (pl' := [xA x0, xI x1, xI (x2 + 1), xI x3, xN]) hz dX5_areWhole_50 rfl rfl (by decide) rfl ?_
    refine x_goto (t := 2) hz dX5_areWhole_53 (by decide) ?_
    exact x_wk (xwk_c (xwk_c (xwk_c (xwk_n (xwk_n xwk_0))))) (hk2 x0 x1 (x2 + 1) H h)
  · replace h := x_in c1 h
    refine x_iconst (v := (0 : Int32)) hz dX5_areWhole_48 (by decide) ?_
    cases h
    exact x_zret01 hZ (Or.inl rfl) dX5_areWhole_49
noncomputable def F_X5_areWhole_J2 (N : Nat) (k2 : (Option Nat) → Int32 → Int32 → xH → Option (Int32 × xH)) (x0 : (Option Nat)) (x1 : Int32) (x2 : Int32) (H : xH) : Option (Int32 × xH) :=
  if x1 ≤ x2 then (some ((1 : Int32), H)) else ((F_X5_areWhole_L12 N (F_X5_areWhole_J42 N k2) N) x0 x1 x2 (0 : Int32) (0 : Int32) H)
set_option maxRecDepth 20000 in
set_option maxHeartbeats 4000000 in
theorem P_X5_areWhole_J2 {N : Nat} {Z : xZ} {rv : Int32} {Hf : xH} (hZ : Z = xZm cX5_areWhole yX5_areWhole 5 2 (some .boolean) (some (.int rv)) Hf) {k2 : (Option Nat) → Int32 → Int32 → xH → Option (Int32 × xH)} (hk2 : ∀ (x0 : (Option Nat)) (x1 : Int32) (x2 : Int32) (H : xH), k2 x0 x1 x2 H = some (rv, Hf) → xWq Z H 2 [xA x0, xI x1, xI x2, xN, xN] []) : ∀ (x0 : (Option Nat)) (x1 : Int32) (x2 : Int32) (H : xH), F_X5_areWhole_J2 N k2 x0 x1 x2 H = some (rv, Hf) → xWq Z H 2 [xA x0, xI x1, xI x2, xN, xN] [] := by
  have hz : Z.1 = (cX5_areWhole, yX5_areWhole, 5) := by rw [hZ]; rfl
  have hδ : Z.2.1 = 2 := by rw [hZ]; rfl
  intro x0 x1 x2 H h
  unfold F_X5_areWhole_J2 at h
  refine x_iload_n hz dX5_areWhole_2 rfl ?_
  refine x_iload_n hz dX5_areWhole_3 rfl ?_
  refine x_icmp_ge (t := 56) hz dX5_areWhole_4 (by decide) (fun c1 => ?_) (fun c1 => ?_)
  · replace h := x_ip c1 h
    refine x_iconst (v := (1 : Int32)) hz dX5_areWhole_56 (by decide) ?_
    cases h
    exact x_zret01 hZ (Or.inr rfl) dX5_areWhole_57
  · replace h := x_in c1 h
    refine x_iconst (v := (0 : Int32)) hz dX5_areWhole_7 (by decide) ?_
    refine x_istore_n (pl' := [xA x0, xI x1, xI x2, xI (0 : Int32), xN]) hz dX5_areWhole_8 (by decide) rfl ?_
    refine x_iconst (v := (0 : Int32)) hz dX5_areWhole_9 (by decide) ?_
    refine x_istore (pl' := [xA x0, xI x1, xI x2, xI (0 : Int32), xI (0 : Int32)]) hz dX5_areWhole_10 (by decide) rfl ?_
    exact x_wk (xwk_c (xwk_c (xwk_c (xwk_c (xwk_c xwk_0))))) ((P_X5_areWhole_L12 hZ (P_X5_areWhole_J42 hZ hk2) N) x0 x1 x2 (0 : Int32) (0 : Int32) H h)
noncomputable def F_X5_areWhole_L2 (N : Nat) : Nat → (Option Nat) → Int32 → Int32 → xH → Option (Int32 × xH)
  | 0 => fun _ _ _ _ => none
  | n + 1 => F_X5_areWhole_J2 N (F_X5_areWhole_L2 N n)
theorem P_X5_areWhole_L2 {N : Nat} {Z : xZ} {rv : Int32} {Hf : xH} (hZ : Z = xZm cX5_areWhole yX5_areWhole 5 2 (some .boolean) (some (.int rv)) Hf) : ∀ (n : Nat) (x0 : (Option Nat)) (x1 : Int32) (x2 : Int32) (H : xH), F_X5_areWhole_L2 N n x0 x1 x2 H = some (rv, Hf) → xWq Z H 2 [xA x0, xI x1, xI x2, xN, xN] [] := by
  intro n
  induction n with
  | zero => intro _ _ _ _ h; cases h
  | succ n ih => exact P_X5_areWhole_J2 hZ ih
noncomputable def F_X5_areWhole (N : Nat) (a0 : (Option Nat)) (a1 : Int32) (H : xH) : Option (Int32 × xH) :=
  (F_X5_areWhole_L2 N N) a0 a1 (0 : Int32) H
set_option maxRecDepth 20000 in
set_option maxHeartbeats 4000000 in
theorem P_X5_areWhole {N : Nat} {Z : xZ} {rv : Int32} {Hf : xH} (hZ : Z = xZm cX5_areWhole yX5_areWhole 5 2 (some .boolean) (some (.int rv)) Hf) : ∀ (a0 : (Option Nat)) (a1 : Int32) (H : xH), F_X5_areWhole N a0 a1 H = some (rv, Hf) → xWq Z H 0 [xA a0, xI a1, xN, xN, xN] [] := by
  have hz : Z.1 = (cX5_areWhole, yX5_areWhole, 5) := by rw [hZ]; rfl
  have hδ : Z.2.1 = 2 := by rw [hZ]; rfl
  intro a0 a1 H h
  unfold F_X5_areWhole at h
  refine x_iconst (v := (0 : Int32)) hz dX5_areWhole_0 (by decide) ?_
  refine x_istore_n (pl' := [xA a0, xI a1, xI (0 : Int32), xN, xN]) hz dX5_areWhole_1 (by decide) rfl ?_
  exact x_wk (xwk_c (xwk_c (xwk_c (xwk_n (xwk_n xwk_0))))) ((P_X5_areWhole_L2 hZ N) a0 a1 (0 : Int32) H h)
theorem M_X5_areWhole {N : Nat} {a0 : (Option Nat)} {a1 : Int32} {H H1 : xH} {r1 : Int32} (h : F_X5_areWhole N a0 a1 H = some (r1, H1)) : xM yX5_areWhole cX5_areWhole 5 (some .boolean) 2 [.inr (.inr a0), .inl a1] H (some (.int r1)) H1 :=
  xM_of (by decide +kernel) (xT_tb 926 (by decide +kernel) (by decide +kernel)) (by simp [xargs, x2]) rfl (P_X5_areWhole rfl a0 a1 H h)
/-! BettingBook$RowTable.cellAt(I)J -/
noncomputable def F_X6_cellAt (N : Nat) (a0 : (Option Nat)) (a1 : Int32) (H : xH) : Option (Int64 × xH) :=
  if a1 < 0 then (some ((0 : Int64), H)) else ((xgI H a0 6 1).bind fun v2 =>
  if v2 ≤ a1 then (some ((0 : Int64), H)) else ((xgA H a0 6 5).bind fun v4 =>
  (xal .long H v4).bind fun v5 =>
  if v5 ≤ a1 then (some ((0 : Int64), H)) else ((xgA H a0 6 5).bind fun v7 =>
  (xlJ H v7 a1).bind fun v8 =>
  some (v8, H))))
set_option maxRecDepth 20000 in
set_option maxHeartbeats 4000000 in
theorem P_X6_cellAt {N : Nat} {Z : xZ} {rv : Int64} {Hf : xH} (hZ : Z = xZm cX6_cellAt yX6_cellAt 2 1 (some .long) (some (.long rv)) Hf) : ∀ (a0 : (Option Nat)) (a1 : Int32) (H : xH), F_X6_cellAt N a0 a1 H = some (rv, Hf) → xWq Z H 0 [xA a0, xI a1] [] := by
  have hz : Z.1 = (cX6_cellAt, yX6_cellAt, 2) := by rw [hZ]; rfl
  have hδ : Z.2.1 = 1 := by rw [hZ]; rfl
  intro a0 a1 H h
  unfold F_X6_cellAt at h
  refine x_iload_n hz dX6_cellAt_0 rfl ?_
  refine x_if_lt (t := 30) hz dX6_cellAt_1 (by decide) (fun c1 => ?_) (fun c1 => ?_)
  · replace h := x_ip c1 h
    refine x_lconst (v := (0 : Int64)) hz dX6_cellAt_30 (by decide) ?_
    cases h
    exact x_lret hZ dX6_cellAt_31
  · replace h := x_in c1 h
    refine x_iload_n hz dX6_cellAt_4 rfl ?_
    refine x_aload_n hz dX6_cellAt_5 rfl ?_
    obtain ⟨v2, e_v2, h⟩ := x_bnd h
    refine x_getI hz dX6_cellAt_6 fs_X6_37 e_v2 ?_
    refine x_icmp_ge (t := 30) hz dX6_cellAt_9 (by decide) (fun c3 => ?_) (fun c3 => ?_)
    · replace h := x_ip c3 h
      refine x_lconst (v := (0 : Int64)) hz dX6_cellAt_30 (by decide) ?_
      cases h
      exact x_lret hZ dX6_cellAt_31
    · replace h := x_in c3 h
      refine x_iload_n hz dX6_cellAt_12 rfl ?_
      refine x_aload_n hz dX6_cellAt_13 rfl ?_
      obtain ⟨v4, e_v4, h⟩ := x_bnd h
      refine x_getA hz dX6_cellAt_14 fs_X6_9 e_v4 ?_
      obtain ⟨v5, e_v5, h⟩ := x_bnd h
      refine x_alen (t0 := 1) (fun _ => rfl) hz dX6_cellAt_17 e_v5 ?_
      refine x_icmp_ge (t := 30) hz dX6_cellAt_18 (by decide) (fun c6 => ?_) (fun c6 => ?_)
      · replace h := x_ip c6 h
        refine x_lconst (v := (0 : Int64)) hz dX6_cellAt_30 (by decide) ?_
        cases h
        exact x_lret hZ dX6_cellAt_31
      · replace h := x_in c6 h
        refine x_aload_n hz dX6_cellAt_21 rfl ?_
        obtain ⟨v7, e_v7, h⟩ := x_bnd h
        refine x_getA hz dX6_cellAt_22 fs_X6_9 e_v7 ?_
        refine x_iload_n hz dX6_cellAt_25 rfl ?_
        obtain ⟨v8, e_v8, h⟩ := x_bnd h
        refine x_lald hz dX6_cellAt_26 e_v8 ?_
        refine x_goto (t := 31) hz dX6_cellAt_27 (by decide) ?_
        cases h
        exact x_lret hZ dX6_cellAt_31
theorem M_X6_cellAt {N : Nat} {a0 : (Option Nat)} {a1 : Int32} {H H1 : xH} {r1 : Int64} (h : F_X6_cellAt N a0 a1 H = some (r1, H1)) : xM yX6_cellAt cX6_cellAt 2 (some .long) 1 [.inr (.inr a0), .inl a1] H (some (.long r1)) H1 :=
  xM_of (by decide +kernel) (xT_tb 705 (by decide +kernel) (by decide +kernel)) (by simp [xargs, x2]) rfl (P_X6_cellAt rfl a0 a1 H h)
/-! BettingBook$Odds.weightOf(II)J -/
noncomputable def F_X5_weightOf_J8 (N : Nat) (k8 : (Option Nat) → Int32 → Int64 → Int32 → Int32 → xH → Option (Int64 × xH)) (x0 : (Option Nat)) (x2 : Int32) (x3 : Int64) (x5 : Int32) (x6 : Int32) (H : xH) : Option (Int64 × xH) :=
  if x2 ≤ x6 then (some (x3, H)) else ((xgA H x0 5 0).bind fun v2 =>
  x_bd2 (F_X11_at N v2 (((9 : Int32) * x6) + (x5 - x5 / (9 : Int32) * (9 : Int32))) H) fun v4 H3 =>
  k8 x0 x2 (x3 * ((v4).toInt64)) (x5 / (9 : Int32)) (x6 + 1) H3)
set_option maxRecDepth 20000 in
set_option maxHeartbeats 4000000 in
theorem P_X5_weightOf_J8 {N : Nat} {Z : xZ} {rv : Int64} {Hf : xH} (hZ : Z = xZm cX5_weightOf yX5_weightOf 7 2 (some .long) (some (.long rv)) Hf) {k8 : (Option Nat) → Int32 → Int64 → Int32 → Int32 → xH → Option (Int64 × xH)} (hk8 : ∀ (x0 : (Option Nat)) (x2 : Int32) (x3 : Int64) (x5 : Int32) (x6 : Int32) (H : xH), k8 x0 x2 x3 x5 x6 H = some (rv, Hf) → xWq Z H 8 [xA x0, xN, xI x2, xJ x3, xN, xI x5, xI x6] []) : ∀ (x0 : (Option Nat)) (x2 : Int32) (x3 : Int64) (x5 : Int32) (x6 : Int32) (H : xH), F_X5_weightOf_J8 N k8 x0 x2 x3 x5 x6 H = some (rv, Hf) → xWq Z H 8 [xA x0, xN, xI x2, xJ x3, xN, xI x5, xI x6] [] := by
  have hz : Z.1 = (cX5_weightOf, yX5_weightOf, 7) := by rw [hZ]; rfl
  have hδ : Z.2.1 = 2 := by rw [hZ]; rfl
  intro x0 x2 x3 x5 x6 H h
  unfold F_X5_weightOf_J8 at h
  refine x_iload hz dX5_weightOf_8 rfl ?_
  refine x_iload_n hz dX5_weightOf_10 rfl ?_
  refine x_icmp_ge (t := 49) hz dX5_weightOf_11 (by decide) (fun c1 => ?_) (fun c1 => ?_)
  · replace h := x_ip c1 h
    refine x_lload_n hz dX5_weightOf_49 rfl ?_
    cases h
    exact x_lret hZ dX5_weightOf_50
  · replace h := x_in c1 h
    refine x_lload_n hz dX5_weightOf_14 rfl ?_
    refine x_aload_n hz dX5_weightOf_15 rfl ?_
    obtain ⟨v2, e_v2, h⟩ := x_bnd h
    refine x_getA hz dX5_weightOf_16 fs_X5_9 e_v2 ?_
    refine x_bipush (v := (9 : Int32)) hz dX5_weightOf_19 (by decide) ?_
    refine x_iload hz dX5_weightOf_21 rfl ?_
    refine x_imul hz dX5_weightOf_23 ?_
    refine x_iload hz dX5_weightOf_24 rfl ?_
    refine x_bipush (v := (9 : Int32)) hz dX5_weightOf_26 (by decide) ?_
    refine x_irem hz dX5_weightOf_28 (by decide) ?_
    refine x_iadd hz dX5_weightOf_29 ?_
    obtain ⟨v4, H3, e_H3, h⟩ := x_b2 h
    refine x_callSi (as := [.inr (.inr v2), .inl (((9 : Int32) * x6) + (x5 - x5 / (9 : Int32) * (9 : Int32)))]) (st := [.long x3]) cs_X5_25 rfl rfl hz (by omega) (Nat.le_trans (x_sm2 rfl x_sm0) (by decide)) dX5_weightOf_30 (M_X11_at e_H3) ?_
    refine x_i2l hz dX5_weightOf_33 ?_
    refine x_lmul hz dX5_weightOf_34 ?_
    refine x_lstore_n (pl' := [xA x0, xN, xI x2, xJ (x3 * ((v4).toInt64)), xN, xI x5, xI x6]) hz dX5_weightOf_35 (by decide) rfl ?_
    refine x_iload hz dX5_weightOf_36 rfl ?_
    refine x_bipush (v := (9 : Int32)) hz dX5_weightOf_38 (by decide) ?_
    refine x_idiv hz dX5_weightOf_40 (by decide) ?_
    refine x_istore (pl' := [xA x0, xN, xI x2, xJ (x3 * ((v4).toInt64)), xN, xI (x5 / (9 : Int32)), xI x6]) hz dX5_weightOf_41 (by decide) rfl ?_
    refine x_iinc (w := (x6 + 1)) (pl' := [xA x0, xN, xI x2, xJ (x3 * ((v4).toInt64)), xN, xI (x5 / (9 : Int32)), xI (x6 + 1)]) hz dX5_weightOf_43 rfl rfl (by decide) rfl ?_
    refine x_goto (t := 8) hz dX5_weightOf_46 (by decide) ?_
    exact x_wk (xwk_c (xwk_n (xwk_c (xwk_c (xwk_n (xwk_c (xwk_c xwk_0))))))) (hk8 x0 x2 (x3 * ((v4).toInt64)) (x5 / (9 : Int32)) (x6 + 1) H3 h)
noncomputable def F_X5_weightOf_L8 (N : Nat) : Nat → (Option Nat) → Int32 → Int64 → Int32 → Int32 → xH → Option (Int64 × xH)
  | 0 => fun _ _ _ _ _ _ => none
  | n + 1 => F_X5_weightOf_J8 N (F_X5_weightOf_L8 N n)
theorem P_X5_weightOf_L8 {N : Nat} {Z : xZ} {rv : Int64} {Hf : xH} (hZ : Z = xZm cX5_weightOf yX5_weightOf 7 2 (some .long) (some (.long rv)) Hf) : ∀ (n : Nat) (x0 : (Option Nat)) (x2 : Int32) (x3 : Int64) (x5 : Int32) (x6 : Int32) (H : xH), F_X5_weightOf_L8 N n x0 x2 x3 x5 x6 H = some (rv, Hf) → xWq Z H 8 [xA x0, xN, xI x2, xJ x3, xN, xI x5, xI x6] [] := by
  intro n
  induction n with
  | zero => intro _ _ _ _ _ _ h; cases h
  | succ n ih => exact P_X5_weightOf_J8 hZ ih
noncomputable def F_X5_weightOf (N : Nat) (a0 : (Option Nat)) (a1 : Int32) (a2 : Int32) (H : xH) : Option (Int64 × xH) :=
  (F_X5_weightOf_L8 N N) a0 a2 (1 : Int64) a1 (0 : Int32) H
set_option maxRecDepth 20000 in
set_option maxHeartbeats 4000000 in
theorem P_X5_weightOf {N : Nat} {Z : xZ} {rv : Int64} {Hf : xH} (hZ : Z = xZm cX5_weightOf yX5_weightOf 7 2 (some .long) (some (.long rv)) Hf) : ∀ (a0 : (Option Nat)) (a1 : Int32) (a2 : Int32) (H : xH), F_X5_weightOf N a0 a1 a2 H = some (rv, Hf) → xWq Z H 0 [xA a0, xI a1, xI a2, xN, xN, xN, xN] [] := by
  have hz : Z.1 = (cX5_weightOf, yX5_weightOf, 7) := by rw [hZ]; rfl
  have hδ : Z.2.1 = 2 := by rw [hZ]; rfl
  intro a0 a1 a2 H h
  unfold F_X5_weightOf at h
  refine x_lconst (v := (1 : Int64)) hz dX5_weightOf_0 (by decide) ?_
  refine x_lstore_n (pl' := [xA a0, xI a1, xI a2, xJ (1 : Int64), xN, xN, xN]) hz dX5_weightOf_1 (by decide) rfl ?_
  refine x_iload_n hz dX5_weightOf_2 rfl ?_
  refine x_istore (pl' := [xA a0, xI a1, xI a2, xJ (1 : Int64), xN, xI a1, xN]) hz dX5_weightOf_3 (by decide) rfl ?_
  refine x_iconst (v := (0 : Int32)) hz dX5_weightOf_5 (by decide) ?_
  refine x_istore (pl' := [xA a0, xI a1, xI a2, xJ (1 : Int64), xN, xI a1, xI (0 : Int32)]) hz dX5_weightOf_6 (by decide) rfl ?_
  exact x_wk (xwk_c (xwk_n (xwk_c (xwk_c (xwk_n (xwk_c (xwk_c xwk_0))))))) ((P_X5_weightOf_L8 hZ N) a0 a2 (1 : Int64) a1 (0 : Int32) H h)
theorem M_X5_weightOf {N : Nat} {a0 : (Option Nat)} {a1 : Int32} {a2 : Int32} {H H1 : xH} {r1 : Int64} (h : F_X5_weightOf N a0 a1 a2 H = some (r1, H1)) : xM yX5_weightOf cX5_weightOf 7 (some .long) 2 [.inr (.inr a0), .inl a1, .inl a2] H (some (.long r1)) H1 :=
  xM_of (by decide +kernel) (xT_tb 934 (by decide +kernel) (by decide +kernel)) (by simp [xargs, x2]) rfl (P_X5_weightOf rfl a0 a1 a2 H h)
/-! BettingBook$Odds.commonDivisor(JJ)J -/
noncomputable def F_X5_commonDivisor_J15 (N : Nat) (k15 : Int64 → Int64 → Int32 → xH → Option (Int64 × xH)) (x4 : Int64) (x6 : Int64) (x8 : Int32) (H : xH) : Option (Int64 × xH) :=
  if (100 : Int32) ≤ x8 then (some (x4, H)) else (if (lg_cmp x6 (0 : Int64)) = 0 then (some (x4, H)) else (if x6 = 0 then none else k15 x6 (x4 - x4 / x6 * x6) (x8 + 1) H))
set_option maxRecDepth 20000 in
set_option maxHeartbeats 4000000 in
theorem P_X5_commonDivisor_J15 {N : Nat} {Z : xZ} {rv : Int64} {Hf : xH} (hZ : Z = xZm cX5_commonDivisor yX5_commonDivisor 11 1 (some .long) (some (.long rv)) Hf) {k15 : Int64 → Int64 → Int32 → xH → Option (Int64 × xH)} (hk15 : ∀ (x4 : Int64) (x6 : Int64) (x8 : Int32) (H : xH), k15 x4 x6 x8 H = some (rv, Hf) → xWq Z H 15 [xN, xN, xN, xN, xJ x4, xN, xJ x6, xN, xI x8, xN, xN] []) : ∀ (x4 : Int64) (x6 : Int64) (x8 : Int32) (H : xH), F_X5_commonDivisor_J15 N k15 x4 x6 x8 H = some (rv, Hf) → xWq Z H 15 [xN, xN, xN, xN, xJ x4, xN, xJ x6, xN, xI x8, xN, xN] [] := by
  have hz : Z.1 = (cX5_commonDivisor, yX5_commonDivisor, 11) := by rw [hZ]; rfl
  have hδ : Z.2.1 = 1 := by rw [hZ]; rfl
  intro x4 x6 x8 H h
  unfold F_X5_commonDivisor_J15 at h
  refine x_iload hz dX5_commonDivisor_15 rfl ?_
  refine x_bipush (v := (100 : Int32)) hz dX5_commonDivisor_17 (by decide) ?_
  refine x_icmp_ge (t := 50) hz dX5_commonDivisor_19 (by decide) (fun c1 => ?_) (fun c1 => ?_)
  · replace h := x_ip c1 h
    refine x_lload hz dX5_commonDivisor_50 rfl ?_
    cases h
    exact x_lret hZ dX5_commonDivisor_52
  · replace h := x_in c1 h
    refine x_lload hz dX5_commonDivisor_22 rfl ?_
    refine x_lconst (v := (0 : Int64)) hz dX5_commonDivisor_24 (by decide) ?_
    refine x_lcmp hz dX5_commonDivisor_25 ?_
    refine x_if_eq (t := 50) hz dX5_commonDivisor_26 (by decide) (fun c2 => ?_) (fun c2 => ?_)
    · replace h := x_ip c2 h
      refine x_lload hz dX5_commonDivisor_50 rfl ?_
      cases h
      exact x_lret hZ dX5_commonDivisor_52
    · replace h := x_in c2 h
      refine x_lload hz dX5_commonDivisor_29 rfl ?_
      refine x_lload hz dX5_commonDivisor_31 rfl ?_
      obtain ⟨c3, h⟩ := x_inv0 h
      refine x_lrem hz dX5_commonDivisor_33 c3 ?_
      refine x_lstore (pl' := [xN, xN, xN, xN, xJ x4, xN, xJ x6, xN, xI x8, xJ (x4 - x4 / x6 * x6), xN]) hz dX5_commonDivisor_34 (by decide) rfl ?_
      refine x_lload hz dX5_commonDivisor_36 rfl ?_
      refine x_lstore (pl' := [xN, xN, xN, xN, xJ x6, xN, xJ x6, xN, xI x8, xJ (x4 - x4 / x6 * x6), xN]) hz dX5_commonDivisor_38 (by decide) rfl ?_
      refine x_lload hz dX5_commonDivisor_40 rfl ?_
      refine x_lstore (pl' := [xN, xN, xN, xN, xJ x6, xN, xJ (x4 - x4 / x6 * x6), xN, xI x8, xJ (x4 - x4 / x6 * x6), xN]) hz dX5_commonDivisor_42 (by decide) rfl ?_
      refine x_iinc (w := (x8 + 1)) (pl' := [xN, xN, xN, xN, xJ x6, xN, xJ (x4 - x4 / x6 * x6), xN, xI (x8 + 1), xJ (x4 - x4 / x6 * x6), xN]) hz dX5_commonDivisor_44 rfl rfl (by decide) rfl ?_
      refine x_goto (t := 15) hz dX5_commonDivisor_47 (by decide) ?_
      exact x_wk (xwk_n (xwk_n (xwk_n (xwk_n (xwk_c (xwk_n (xwk_c (xwk_n (xwk_c (xwk_n (xwk_n xwk_0))))))))))) (hk15 x6 (x4 - x4 / x6 * x6) (x8 + 1) H h)
noncomputable def F_X5_commonDivisor_L15 (N : Nat) : Nat → Int64 → Int64 → Int32 → xH → Option (Int64 × xH)
  | 0 => fun _ _ _ _ => none
  | n + 1 => F_X5_commonDivisor_J15 N (F_X5_commonDivisor_L15 N n)
theorem P_X5_commonDivisor_L15 {N : Nat} {Z : xZ} {rv : Int64} {Hf : xH} (hZ : Z = xZm cX5_commonDivisor yX5_commonDivisor 11 1 (some .long) (some (.long rv)) Hf) : ∀ (n : Nat) (x4 : Int64) (x6 : Int64) (x8 : Int32) (H : xH), F_X5_commonDivisor_L15 N n x4 x6 x8 H = some (rv, Hf) → xWq Z H 15 [xN, xN, xN, xN, xJ x4, xN, xJ x6, xN, xI x8, xN, xN] [] := by
  intro n
  induction n with
  | zero => intro _ _ _ _ h; cases h
  | succ n ih => exact P_X5_commonDivisor_J15 hZ ih
noncomputable def F_X5_commonDivisor (N : Nat) (a0 : Int64) (a2 : Int64) (H : xH) : Option (Int64 × xH) :=
  (F_X5_commonDivisor_L15 N N) (xabs a0) (xabs a2) (0 : Int32) H
set_option maxRecDepth 20000 in
set_option maxHeartbeats 4000000 in
theorem P_X5_commonDivisor {N : Nat} {Z : xZ} {rv : Int64} {Hf : xH} (hZ : Z = xZm cX5_commonDivisor yX5_commonDivisor 11 1 (some .long) (some (.long rv)) Hf) : ∀ (a0 : Int64) (a2 : Int64) (H : xH), F_X5_commonDivisor N a0 a2 H = some (rv, Hf) → xWq Z H 0 [xJ a0, xN, xJ a2, xN, xN, xN, xN, xN, xN, xN, xN] [] := by
  have hz : Z.1 = (cX5_commonDivisor, yX5_commonDivisor, 11) := by rw [hZ]; rfl
  have hδ : Z.2.1 = 1 := by rw [hZ]; rfl
  intro a0 a2 H h
  unfold F_X5_commonDivisor at h
  refine x_lload_n hz dX5_commonDivisor_0 rfl ?_
  refine x_mabs (st := []) jm_abs_X5_64 hz (by omega) (by decide) dX5_commonDivisor_1 ?_
  refine x_lstore (pl' := [xJ a0, xN, xJ a2, xN, xJ (xabs a0), xN, xN, xN, xN, xN, xN]) hz dX5_commonDivisor_4 (by decide) rfl ?_
  refine x_lload_n hz dX5_commonDivisor_6 rfl ?_
  refine x_mabs (st := []) jm_abs_X5_64 hz (by omega) (by decide) dX5_commonDivisor_7 ?_
  refine x_lstore (pl' := [xJ a0, xN, xJ a2, xN, xJ (xabs a0), xN, xJ (xabs a2), xN, xN, xN, xN]) hz dX5_commonDivisor_10 (by decide) rfl ?_
  refine x_iconst (v := (0 : Int32)) hz dX5_commonDivisor_12 (by decide) ?_
  refine x_istore (pl' := [xJ a0, xN, xJ a2, xN, xJ (xabs a0), xN, xJ (xabs a2), xN, xI (0 : Int32), xN, xN]) hz dX5_commonDivisor_13 (by decide) rfl ?_
  exact x_wk (xwk_n (xwk_n (xwk_n (xwk_n (xwk_c (xwk_n (xwk_c (xwk_n (xwk_c (xwk_n (xwk_n xwk_0))))))))))) ((P_X5_commonDivisor_L15 hZ N) (xabs a0) (xabs a2) (0 : Int32) H h)
theorem M_X5_commonDivisor {N : Nat} {a0 : Int64} {a2 : Int64} {H H1 : xH} {r1 : Int64} (h : F_X5_commonDivisor N a0 a2 H = some (r1, H1)) : xM yX5_commonDivisor cX5_commonDivisor 11 (some .long) 1 [.inr (.inl a0), .inr (.inl a2)] H (some (.long r1)) H1 :=
  xM_of (by decide +kernel) (xT_tb 938 (by decide +kernel) (by decide +kernel)) (by simp [xargs, x2]) rfl (P_X5_commonDivisor rfl a0 a2 H h)
