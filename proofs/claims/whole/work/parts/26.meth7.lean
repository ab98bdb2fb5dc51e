/-! BettingBookModel.pays(II)I -/
noncomputable def F_X12_pays (N : Nat) (a0 : (Option Nat)) (a1 : Int32) (a2 : Int32) (H : xH) : Option (Int32 × xH) :=
  (xob H a0 11).bind fun b2 =>
  x_bd2 (F_X12_isWager N a0 a1 H) fun v3 H1 =>
  if v3 = 0 then (some ((-1000000 : Int32), H1)) else ((xob H1 a0 11).bind fun b6 =>
  x_bd2 (F_X12_isRow N a0 a2 H1) fun v7 H5 =>
  if v7 = 0 then (some ((-1000000 : Int32), H5)) else ((xob H5 a0 11).bind fun b10 =>
  x_bd2 (F_X12_paysAt N a0 a1 a2 H5) fun v11 H9 =>
  some (v11, H9)))
set_option maxRecDepth 20000 in
set_option maxHeartbeats 4000000 in
theorem P_X12_pays {N : Nat} {Z : xZ} {rv : Int32} {Hf : xH} (hZ : Z = xZm cX12_pays yX12_pays 3 3 (some .int) (some (.int rv)) Hf) : ∀ (a0 : (Option Nat)) (a1 : Int32) (a2 : Int32) (H : xH), F_X12_pays N a0 a1 a2 H = some (rv, Hf) → xWq Z H 0 [xA a0, xI a1, xI a2] [] := by
  have hz : Z.1 = (cX12_pays, yX12_pays, 3) := by rw [hZ]; rfl
  have hδ : Z.2.1 = 3 := by rw [hZ]; rfl
  intro a0 a1 a2 H h
  unfold F_X12_pays at h
  refine x_aload_n hz dX12_pays_0 rfl ?_
  refine x_iload_n hz dX12_pays_1 rfl ?_
  obtain ⟨b2, e_b2, h⟩ := x_bnd h
  obtain ⟨v3, H1, e_H1, h⟩ := x_b2 h
  refine x_callVi (as := [.inl a1]) (st := []) cs_X12_361 (ci := 11) ⟨rfl, rfl⟩ rfl rfl hz (by omega) (by decide) dX12_pays_2 e_b2 (M_X12_isWager e_H1) ?_
  refine x_if_eq (t := 25) hz dX12_pays_5 (by decide) (fun c4 => ?_) (fun c4 => ?_)
  · replace h := x_ip c4 h
    refine x_ldcw (v := (-1000000 : Int32)) hz dX12_pays_25 wc_X12_368 ?_
    cases h
    exact x_iret hZ dX12_pays_28
  · replace h := x_in c4 h
    refine x_aload_n hz dX12_pays_8 rfl ?_
    refine x_iload_n hz dX12_pays_9 rfl ?_
    obtain ⟨b6, e_b6, h⟩ := x_bnd h
    obtain ⟨v7, H5, e_H5, h⟩ := x_b2 h
    refine x_callVi (as := [.inl a2]) (st := []) cs_X12_358 (ci := 11) ⟨rfl, rfl⟩ rfl rfl hz (by omega) (by decide) dX12_pays_10 e_b6 (M_X12_isRow e_H5) ?_
    refine x_if_eq (t := 25) hz dX12_pays_13 (by decide) (fun c8 => ?_) (fun c8 => ?_)
    · replace h := x_ip c8 h
      refine x_ldcw (v := (-1000000 : Int32)) hz dX12_pays_25 wc_X12_368 ?_
      cases h
      exact x_iret hZ dX12_pays_28
    · replace h := x_in c8 h
      refine x_aload_n hz dX12_pays_16 rfl ?_
      refine x_iload_n hz dX12_pays_17 rfl ?_
      refine x_iload_n hz dX12_pays_18 rfl ?_
      obtain ⟨b10, e_b10, h⟩ := x_bnd h
      obtain ⟨v11, H9, e_H9, h⟩ := x_b2 h
      refine x_callVi (as := [.inl a1, .inl a2]) (st := []) cs_X12_364 (ci := 11) ⟨rfl, rfl⟩ rfl rfl hz (by omega) (by decide) dX12_pays_19 e_b10 (M_X12_paysAt e_H9) ?_
      refine x_goto (t := 28) hz dX12_pays_22 (by decide) ?_
      cases h
      exact x_iret hZ dX12_pays_28
theorem M_X12_pays {N : Nat} {a0 : (Option Nat)} {a1 : Int32} {a2 : Int32} {H H1 : xH} {r1 : Int32} (h : F_X12_pays N a0 a1 a2 H = some (r1, H1)) : xM yX12_pays cX12_pays 3 (some .int) 3 [.inr (.inr a0), .inl a1, .inl a2] H (some (.int r1)) H1 :=
  xM_of (by decide +kernel) (xT_tb 1383 (by decide +kernel) (by decide +kernel)) (by simp [xargs, x2]) rfl (P_X12_pays rfl a0 a1 a2 H h)
/-! BettingBookModel.isSure(I)Z -/
noncomputable def F_X12_isSure_J59 (N : Nat) (k9 : (Option Nat) → Int32 → Int32 → Int32 → xH → Option (Int32 × xH)) (x0 : (Option Nat)) (x1 : Int32) (x2 : Int32) (x3 : Int32) (H : xH) : Option (Int32 × xH) :=
  k9 x0 x1 x2 (x3 + 1) H
set_option maxRecDepth 20000 in
set_option maxHeartbeats 4000000 in
theorem P_X12_isSure_J59 {N : Nat} {Z : xZ} {rv : Int32} {Hf : xH} (hZ : Z = xZm cX12_isSure yX12_isSure 5 3 (some .boolean) (some (.int rv)) Hf) {k9 : (Option Nat) → Int32 → Int32 → Int32 → xH → Option (Int32 × xH)} (hk9 : ∀ (x0 : (Option Nat)) (x1 : Int32) (x2 : Int32) (x3 : Int32) (H : xH), k9 x0 x1 x2 x3 H = some (rv, Hf) → xWq Z H 9 [xA x0, xI x1, xI x2, xI x3, xN] []) : ∀ (x0 : (Option Nat)) (x1 : Int32) (x2 : Int32) (x3 : Int32) (H : xH), F_X12_isSure_J59 N k9 x0 x1 x2 x3 H = some (rv, Hf) → xWq Z H 59 [xA x0, xI x1, xI x2, xI x3, xN] [] := by
  have hz : Z.1 = (cX12_isSure, yX12_isSure, 5) := by rw [hZ]; rfl
  have hδ : Z.2.1 = 3 := by rw [hZ]; rfl
  intro x0 x1 x2 x3 H h
  unfold F_X12_isSure_J59 at h
  refine x_iinc (w := (x3 + 1)) (pl' := [xA x0, xI x1, xI x2, xI (x3 + 1), xN]) hz dX12_isSure_59 rfl rfl (by decide) rfl ?_
  refine x_goto (t := 9) hz dX12_isSure_62 (by decide) ?_
  exact x_wk (xwk_c (xwk_c (xwk_c (xwk_c (xwk_n xwk_0))))) (hk9 x0 x1 x2 (x3 + 1) H h)
noncomputable def F_X12_isSure_J51 (N : Nat) (k9 : (Option Nat) → Int32 → Int32 → Int32 → xH → Option (Int32 × xH)) (x0 : (Option Nat)) (x1 : Int32) (x3 : Int32) (x4 : Int32) (H : xH) : Option (Int32 × xH) :=
  (xpI H x0 11 49 x4).bind fun H1 =>
  (F_X12_isSure_J59 N k9) x0 x1 (1 : Int32) x3 H1
set_option maxRecDepth 20000 in
set_option maxHeartbeats 4000000 in
theorem P_X12_isSure_J51 {N : Nat} {Z : xZ} {rv : Int32} {Hf : xH} (hZ : Z = xZm cX12_isSure yX12_isSure 5 3 (some .boolean) (some (.int rv)) Hf) {k9 : (Option Nat) → Int32 → Int32 → Int32 → xH → Option (Int32 × xH)} (hk9 : ∀ (x0 : (Option Nat)) (x1 : Int32) (x2 : Int32) (x3 : Int32) (H : xH), k9 x0 x1 x2 x3 H = some (rv, Hf) → xWq Z H 9 [xA x0, xI x1, xI x2, xI x3, xN] []) : ∀ (x0 : (Option Nat)) (x1 : Int32) (x3 : Int32) (x4 : Int32) (H : xH), F_X12_isSure_J51 N k9 x0 x1 x3 x4 H = some (rv, Hf) → xWq Z H 51 [xA x0, xI x1, xN, xI x3, xI x4] [] := by
  have hz : Z.1 = (cX12_isSure, yX12_isSure, 5) := by rw [hZ]; rfl
  have hδ : Z.2.1 = 3 := by rw [hZ]; rfl
  intro x0 x1 x3 x4 H h
  unfold F_X12_isSure_J51 at h
  refine x_aload_n hz dX12_isSure_51 rfl ?_
  refine x_iload hz dX12_isSure_52 rfl ?_
  obtain ⟨H1, e_H1, h⟩ := x_bnd h
  refine x_putV (v := .int x4) hz dX12_isSure_54 fs_X12_369 rfl rfl e_H1 ?_
  refine x_iconst (v := (1 : Int32)) hz dX12_isSure_57 (by decide) ?_
  refine x_istore_n (pl' := [xA x0, xI x1, xI (1 : Int32), xI x3, xI x4]) hz dX12_isSure_58 (by decide) rfl ?_
  exact x_wk (xwk_c (xwk_c (xwk_c (xwk_c (xwk_n xwk_0))))) ((P_X12_isSure_J59 hZ hk9) x0 x1 (1 : Int32) x3 H1 h)
noncomputable def F_X12_isSure_J9 (N : Nat) (k9 : (Option Nat) → Int32 → Int32 → Int32 → xH → Option (Int32 × xH)) (x0 : (Option Nat)) (x1 : Int32) (x2 : Int32) (x3 : Int32) (H : xH) : Option (Int32 × xH) :=
  (xgI H x0 11 41).bind fun v1 =>
  if v1 ≤ x3 then (some ((1 : Int32), H)) else ((xob H x0 11).bind fun b4 =>
  x_bd2 (F_X12_isLeft N x0 x3 H) fun v5 H3 =>
  if v5 = 0 then ((F_X12_isSure_J59 N k9) x0 x1 x2 x3 H3) else ((xob H3 x0 11).bind fun b8 =>
  x_bd2 (F_X12_paysAt N x0 x1 x3 H3) fun v9 H7 =>
  if x2 = 0 then ((F_X12_isSure_J51 N k9) x0 x1 x3 v9 H7) else ((xgI H7 x0 11 49).bind fun v11 =>
  if v9 = v11 then ((F_X12_isSure_J51 N k9) x0 x1 x3 v9 H7) else (some ((0 : Int32), H7)))))
set_option maxRecDepth 20000 in
set_option maxHeartbeats 4000000 in
theorem P_X12_isSure_J9 {N : Nat} {Z : xZ} {rv : Int32} {Hf : xH} (hZ : Z = xZm cX12_isSure yX12_isSure 5 3 (some .boolean) (some (.int rv)) Hf) {k9 : (Option Nat) → Int32 → Int32 → Int32 → xH → Option (Int32 × xH)} (hk9 : ∀ (x0 : (Option Nat)) (x1 : Int32) (x2 : Int32) (x3 : Int32) (H : xH), k9 x0 x1 x2 x3 H = some (rv, Hf) → xWq Z H 9 [xA x0, xI x1, xI x2, xI x3, xN] []) : ∀ (x0 : (Option Nat)) (x1 : Int32) (x2 : Int32) (x3 : Int32) (H : xH), F_X12_isSure_J9 N k9 x0 x1 x2 x3 H = some (rv, Hf) → xWq Z H 9 [xA x0, xI x1, xI x2, xI x3, xN] [] := by
  have hz : Z.1 = (cX12_isSure, yX12_isSure, 5) := by rw [hZ]; rfl
  have hδ : Z.2.1 = 3 := by rw [hZ]; rfl
  intro x0 x1 x2 x3 H h
  unfold F_X12_isSure_J9 at h
  refine x_iload_n hz dX12_isSure_9 rfl ?_
  refine x_aload_n hz dX12_isSure_10 rfl ?_
  obtain ⟨v1, e_v1, h⟩ := x_bnd h
  refine x_getI hz dX12_isSure_11 fs_X12_329 e_v1 ?_
  refine x_icmp_ge (t := 65) hz dX12_isSure_14 (by decide) (fun c2 => ?_) (fun c2 => ?_)
  · replace h := x_ip c2 h
    refine x_iconst (v := (1 : Int32)) hz dX12_isSure_65 (by decide) ?_
    cases h
    exact x_zret01 hZ (Or.inr rfl) dX12_isSure_66
  · replace h := x_in c2 h
    refine x_aload_n hz dX12_isSure_17 rfl ?_
    refine x_iload_n hz dX12_isSure_18 rfl ?_
    obtain ⟨b4, e_b4, h⟩ := x_bnd h
    obtain ⟨v5, H3, e_H3, h⟩ := x_b2 h
    refine x_callVi (as := [.inl x3]) (st := []) cs_X12_348 (ci := 11) ⟨rfl, rfl⟩ rfl rfl hz (by omega) (by decide) dX12_isSure_19 e_b4 (M_X12_isLeft e_H3) ?_
    refine x_if_ne (t := 28) hz dX12_isSure_22 (by decide) (fun c6 => ?_) (fun c6 => ?_)
    · replace h := x_in c6 h
      refine x_aload_n hz dX12_isSure_28 rfl ?_
      refine x_iload_n hz dX12_isSure_29 rfl ?_
      refine x_iload_n hz dX12_isSure_30 rfl ?_
      obtain ⟨b8, e_b8, h⟩ := x_bnd h
      obtain ⟨v9, H7, e_H7, h⟩ := x_b2 h
      refine x_callVi (as := [.inl x1, .inl x3]) (st := []) cs_X12_364 (ci := 11) ⟨rfl, rfl⟩ rfl rfl hz (by omega) (by decide) dX12_isSure_31 e_b8 (M_X12_paysAt e_H7) ?_
      refine x_istore (pl' := [xA x0, xI x1, xI x2, xI x3, xI v9]) hz dX12_isSure_34 (by decide) rfl ?_
      refine x_iload_n hz dX12_isSure_36 rfl ?_
      refine x_if_eq (t := 51) hz dX12_isSure_37 (by decide) (fun c10 => ?_) (fun c10 => ?_)
      · replace h := x_ip c10 h
        exact x_wk (xwk_c (xwk_c (xwk_n (xwk_c (xwk_c xwk_0))))) ((P_X12_isSure_J51 hZ hk9) x0 x1 x3 v9 H7 h)
      · replace h := x_in c10 h
        refine x_iload hz dX12_isSure_40 rfl ?_
        refine x_aload_n hz dX12_isSure_42 rfl ?_
        obtain ⟨v11, e_v11, h⟩ := x_bnd h
        refine x_getI hz dX12_isSure_43 fs_X12_369 e_v11 ?_
        refine x_icmp_eq (t := 51) hz dX12_isSure_46 (by decide) (fun c12 => ?_) (fun c12 => ?_)
        · replace h := x_ip c12 h
          exact x_wk (xwk_c (xwk_c (xwk_n (xwk_c (xwk_c xwk_0))))) ((P_X12_isSure_J51 hZ hk9) x0 x1 x3 v9 H7 h)
        · replace h := x_in c12 h
          refine x_iconst (v := (0 : Int32)) hz dX12_isSure_49 (by decide) ?_
          cases h
          exact x_zret01 hZ (Or.inl rfl) dX12_isSure_50
    · replace h := x_ip c6 h
      refine x_goto (t := 59) hz dX12_isSure_25 (by decide) ?_
      exact x_wk (xwk_c (xwk_c (xwk_c (xwk_c (xwk_n xwk_0))))) ((P_X12_isSure_J59 hZ hk9) x0 x1 x2 x3 H3 h)
noncomputable def F_X12_isSure_L9 (N : Nat) : Nat → (Option Nat) → Int32 → Int32 → Int32 → xH → Option (Int32 × xH)
  | 0 => fun _ _ _ _ _ => none
  | n + 1 => F_X12_isSure_J9 N (F_X12_isSure_L9 N n)
theorem P_X12_isSure_L9 {N : Nat} {Z : xZ} {rv : Int32} {Hf : xH} (hZ : Z = xZm cX12_isSure yX12_isSure 5 3 (some .boolean) (some (.int rv)) Hf) : ∀ (n : Nat) (x0 : (Option Nat)) (x1 : Int32) (x2 : Int32) (x3 : Int32) (H : xH), F_X12_isSure_L9 N n x0 x1 x2 x3 H = some (rv, Hf) → xWq Z H 9 [xA x0, xI x1, xI x2, xI x3, xN] [] := by
  intro n
  induction n with
  | zero => intro _ _ _ _ _ h; cases h
  | succ n ih => exact P_X12_isSure_J9 hZ ih
noncomputable def F_X12_isSure (N : Nat) (a0 : (Option Nat)) (a1 : Int32) (H : xH) : Option (Int32 × xH) :=
  (xpI H a0 11 49 (0 : Int32)).bind fun H1 =>
  (F_X12_isSure_L9 N N) a0 a1 (0 : Int32) (0 : Int32) H1
set_option maxRecDepth 20000 in
set_option maxHeartbeats 4000000 in
theorem P_X12_isSure {N : Nat} {Z : xZ} {rv : Int32} {Hf : xH} (hZ : Z = xZm cX12_isSure yX12_isSure 5 3 (some .boolean) (some (.int rv)) Hf) : ∀ (a0 : (Option Nat)) (a1 : Int32) (H : xH), F_X12_isSure N a0 a1 H = some (rv, Hf) → xWq Z H 0 [xA a0, xI a1, xN, xN, xN] [] := by
  have hz : Z.1 = (cX12_isSure, yX12_isSure, 5) := by rw [hZ]; rfl
  have hδ : Z.2.1 = 3 := by rw [hZ]; rfl
  intro a0 a1 H h
  unfold F_X12_isSure at h
  refine x_iconst (v := (0 : Int32)) hz dX12_isSure_0 (by decide) ?_
  refine x_istore_n (pl' := [xA a0, xI a1, xI (0 : Int32), xN, xN]) hz dX12_isSure_1 (by decide) rfl ?_
  refine x_aload_n hz dX12_isSure_2 rfl ?_
  refine x_iconst (v := (0 : Int32)) hz dX12_isSure_3 (by decide) ?_
  obtain ⟨H1, e_H1, h⟩ := x_bnd h
  refine x_putV (v := .int (0 : Int32)) hz dX12_isSure_4 fs_X12_369 rfl rfl e_H1 ?_
  refine x_iconst (v := (0 : Int32)) hz dX12_isSure_7 (by decide) ?_
  refine x_istore_n (pl' := [xA a0, xI a1, xI (0 : Int32), xI (0 : Int32), xN]) hz dX12_isSure_8 (by decide) rfl ?_
  exact x_wk (xwk_c (xwk_c (xwk_c (xwk_c (xwk_n xwk_0))))) ((P_X12_isSure_L9 hZ N) a0 a1 (0 : Int32) (0 : Int32) H1 h)
theorem M_X12_isSure {N : Nat} {a0 : (Option Nat)} {a1 : Int32} {H H1 : xH} {r1 : Int32} (h : F_X12_isSure N a0 a1 H = some (r1, H1)) : xM yX12_isSure cX12_isSure 5 (some .boolean) 3 [.inr (.inr a0), .inl a1] H (some (.int r1)) H1 :=
  xM_of (by decide +kernel) (xT_tb 1400 (by decide +kernel) (by decide +kernel)) (by simp [xargs, x2]) rfl (P_X12_isSure rfl a0 a1 H h)
/-! BettingBookModel.sure(II)I -/
noncomputable def F_X12_sure (N : Nat) (a0 : (Option Nat)) (a1 : Int32) (a2 : Int32) (H : xH) : Option (Int32 × xH) :=
  (xob H a0 11).bind fun b2 =>
  x_bd2 (F_X12_isWager N a0 a1 H) fun v3 H1 =>
  if v3 = 0 then (some ((-1000000 : Int32), H1)) else (x_bd2 (F_X12_isIn N a2 (0 : Int32) (1 : Int32) H1) fun v6 H5 =>
  if v6 = 0 then (some ((-1000000 : Int32), H5)) else ((xob H5 a0 11).bind fun b9 =>
  x_bd2 (F_X12_isSure N a0 a1 H5) fun v10 H8 =>
  if a2 = 0 then (x_bd2 (F_X12_unit N v10 H8) fun v15 H14 =>
  some (v15, H14)) else (if v10 = 0 then (some ((0 : Int32), H8)) else ((xgI H8 a0 11 49).bind fun v13 =>
  some (v13, H8)))))
set_option maxRecDepth 20000 in
set_option maxHeartbeats 4000000 in
theorem P_X12_sure {N : Nat} {Z : xZ} {rv : Int32} {Hf : xH} (hZ : Z = xZm cX12_sure yX12_sure 4 4 (some .int) (some (.int rv)) Hf) : ∀ (a0 : (Option Nat)) (a1 : Int32) (a2 : Int32) (H : xH), F_X12_sure N a0 a1 a2 H = some (rv, Hf) → xWq Z H 0 [xA a0, xI a1, xI a2, xN] [] := by
  have hz : Z.1 = (cX12_sure, yX12_sure, 4) := by rw [hZ]; rfl
  have hδ : Z.2.1 = 4 := by rw [hZ]; rfl
  intro a0 a1 a2 H h
  unfold F_X12_sure at h
  refine x_aload_n hz dX12_sure_0 rfl ?_
  refine x_iload_n hz dX12_sure_1 rfl ?_
  obtain ⟨b2, e_b2, h⟩ := x_bnd h
  obtain ⟨v3, H1, e_H1, h⟩ := x_b2 h
  refine x_callVi (as := [.inl a1]) (st := []) cs_X12_361 (ci := 11) ⟨rfl, rfl⟩ rfl rfl hz (by omega) (by decide) dX12_sure_2 e_b2 (M_X12_isWager e_H1) ?_
  refine x_if_eq (t := 17) hz dX12_sure_5 (by decide) (fun c4 => ?_) (fun c4 => ?_)
  · replace h := x_ip c4 h
    refine x_ldcw (v := (-1000000 : Int32)) hz dX12_sure_17 wc_X12_368 ?_
    cases h
    exact x_iret hZ dX12_sure_20
  · replace h := x_in c4 h
    refine x_iload_n hz dX12_sure_8 rfl ?_
    refine x_iconst (v := (0 : Int32)) hz dX12_sure_9 (by decide) ?_
    refine x_iconst (v := (1 : Int32)) hz dX12_sure_10 (by decide) ?_
    obtain ⟨v6, H5, e_H5, h⟩ := x_b2 h
    refine x_callSi (as := [.inl a2, .inl (0 : Int32), .inl (1 : Int32)]) (st := []) cs_X12_153 rfl rfl hz (by omega) (by decide) dX12_sure_11 (M_X12_isIn e_H5) ?_
    refine x_if_ne (t := 21) hz dX12_sure_14 (by decide) (fun c7 => ?_) (fun c7 => ?_)
    · replace h := x_in c7 h
      refine x_aload_n hz dX12_sure_21 rfl ?_
      refine x_iload_n hz dX12_sure_22 rfl ?_
      obtain ⟨b9, e_b9, h⟩ := x_bnd h
      obtain ⟨v10, H8, e_H8, h⟩ := x_b2 h
      refine x_callVi (as := [.inl a1]) (st := []) cs_X12_372 (ci := 11) ⟨rfl, rfl⟩ rfl rfl hz (by omega) (by decide) dX12_sure_23 e_b9 (M_X12_isSure e_H8) ?_
      refine x_istore_n (pl' := [xA a0, xI a1, xI a2, xI v10]) hz dX12_sure_26 (by decide) rfl ?_
      refine x_iload_n hz dX12_sure_27 rfl ?_
      refine x_if_ne (t := 38) hz dX12_sure_28 (by decide) (fun c11 => ?_) (fun c11 => ?_)
      · replace h := x_in c11 h
        refine x_iload_n hz dX12_sure_38 rfl ?_
        refine x_if_eq (t := 49) hz dX12_sure_39 (by decide) (fun c12 => ?_) (fun c12 => ?_)
        · replace h := x_ip c12 h
          refine x_iconst (v := (0 : Int32)) hz dX12_sure_49 (by decide) ?_
          cases h
          exact x_iret hZ dX12_sure_50
        · replace h := x_in c12 h
          refine x_aload_n hz dX12_sure_42 rfl ?_
          obtain ⟨v13, e_v13, h⟩ := x_bnd h
          refine x_getI hz dX12_sure_43 fs_X12_369 e_v13 ?_
          refine x_goto (t := 50) hz dX12_sure_46 (by decide) ?_
          cases h
          exact x_iret hZ dX12_sure_50
      · replace h := x_ip c11 h
        refine x_iload_n hz dX12_sure_31 rfl ?_
        obtain ⟨v15, H14, e_H14, h⟩ := x_b2 h
        refine x_callSi (as := [.inl v10]) (st := []) cs_X12_319 rfl rfl hz (by omega) (by decide) dX12_sure_32 (M_X12_unit e_H14) ?_
        refine x_goto (t := 50) hz dX12_sure_35 (by decide) ?_
        cases h
        exact x_iret hZ dX12_sure_50
    · replace h := x_ip c7 h
      refine x_ldcw (v := (-1000000 : Int32)) hz dX12_sure_17 wc_X12_368 ?_
      cases h
      exact x_iret hZ dX12_sure_20
theorem M_X12_sure {N : Nat} {a0 : (Option Nat)} {a1 : Int32} {a2 : Int32} {H H1 : xH} {r1 : Int32} (h : F_X12_sure N a0 a1 a2 H = some (r1, H1)) : xM yX12_sure cX12_sure 4 (some .int) 4 [.inr (.inr a0), .inl a1, .inl a2] H (some (.int r1)) H1 :=
  xM_of (by decide +kernel) (xT_tb 1396 (by decide +kernel) (by decide +kernel)) (by simp [xargs, x2]) rfl (P_X12_sure rfl a0 a1 a2 H h)
/-! BettingBookModel.split(II)I -/
noncomputable def F_X12_split_J143 (N : Nat) (k24 : (Option Nat) → Int32 → Int32 → Int32 → Int32 → xH → Option (Int32 × xH)) (x0 : (Option Nat)) (x1 : Int32) (x2 : Int32) (x3 : Int32) (x4 : Int32) (H : xH) : Option (Int32 × xH) :=
  k24 x0 x1 x2 x3 (x4 + 1) H
set_option maxRecDepth 20000 in
set_option maxHeartbeats 4000000 in
theorem P_X12_split_J143 {N : Nat} {Z : xZ} {rv : Int32} {Hf : xH} (hZ : Z = xZm cX12_split yX12_split 6 3 (some .int) (some (.int rv)) Hf) {k24 : (Option Nat) → Int32 → Int32 → Int32 → Int32 → xH → Option (Int32 × xH)} (hk24 : ∀ (x0 : (Option Nat)) (x1 : Int32) (x2 : Int32) (x3 : Int32) (x4 : Int32) (H : xH), k24 x0 x1 x2 x3 x4 H = some (rv, Hf) → xWq Z H 24 [xA x0, xI x1, xI x2, xI x3, xI x4, xN] []) : ∀ (x0 : (Option Nat)) (x1 : Int32) (x2 : Int32) (x3 : Int32) (x4 : Int32) (H : xH), F_X12_split_J143 N k24 x0 x1 x2 x3 x4 H = some (rv, Hf) → xWq Z H 143 [xA x0, xI x1, xI x2, xI x3, xI x4, xN] [] := by
  have hz : Z.1 = (cX12_split, yX12_split, 6) := by rw [hZ]; rfl
  have hδ : Z.2.1 = 3 := by rw [hZ]; rfl
  intro x0 x1 x2 x3 x4 H h
  unfold F_X12_split_J143 at h
  refine x_iinc (w := (x4 + 1)) (pl' := [xA x0, xI x1, xI x2, xI x3, xI (x4 + 1), xN]) hz dX12_split_143 rfl rfl (by decide) rfl ?_
  refine x_goto (t := 24) hz dX12_split_146 (by decide) ?_
  exact x_wk (xwk_c (xwk_c (xwk_c (xwk_c (xwk_c (xwk_n xwk_0)))))) (hk24 x0 x1 x2 x3 (x4 + 1) H h)
noncomputable def F_X12_split_J138 (N : Nat) (k24 : (Option Nat) → Int32 → Int32 → Int32 → Int32 → xH → Option (Int32 × xH)) (x0 : (Option Nat)) (x1 : Int32) (x2 : Int32) (x4 : Int32) (s0 : Int32) (s1 : Int32) (H : xH) : Option (Int32 × xH) :=
  x_bd2 (F_X12_unit N s1 H) fun v2 H1 =>
  (F_X12_split_J143 N k24) x0 x1 x2 (s0 + v2) x4 H1
set_option maxRecDepth 20000 in
set_option maxHeartbeats 4000000 in
theorem P_X12_split_J138 {N : Nat} {Z : xZ} {rv : Int32} {Hf : xH} (hZ : Z = xZm cX12_split yX12_split 6 3 (some .int) (some (.int rv)) Hf) {k24 : (Option Nat) → Int32 → Int32 → Int32 → Int32 → xH → Option (Int32 × xH)} (hk24 : ∀ (x0 : (Option Nat)) (x1 : Int32) (x2 : Int32) (x3 : Int32) (x4 : Int32) (H : xH), k24 x0 x1 x2 x3 x4 H = some (rv, Hf) → xWq Z H 24 [xA x0, xI x1, xI x2, xI x3, xI x4, xN] []) : ∀ (x0 : (Option Nat)) (x1 : Int32) (x2 : Int32) (x4 : Int32) (s0 : Int32) (s1 : Int32) (H : xH), F_X12_split_J138 N k24 x0 x1 x2 x4 s0 s1 H = some (rv, Hf) → xWq Z H 138 [xA x0, xI x1, xI x2, xN, xI x4, xN] [.int s1, .int s0] := by
  have hz : Z.1 = (cX12_split, yX12_split, 6) := by rw [hZ]; rfl
  have hδ : Z.2.1 = 3 := by rw [hZ]; rfl
  intro x0 x1 x2 x4 s0 s1 H h
  unfold F_X12_split_J138 at h
  obtain ⟨v2, H1, e_H1, h⟩ := x_b2 h
  refine x_callSi (as := [.inl s1]) (st := [.int s0]) cs_X12_319 rfl rfl hz (by omega) (Nat.le_trans (x_sm1 rfl x_sm0) (by decide)) dX12_split_138 (M_X12_unit e_H1) ?_
  refine x_iadd hz dX12_split_141 ?_
  refine x_istore_n (pl' := [xA x0, xI x1, xI x2, xI (s0 + v2), xI x4, xN]) hz dX12_split_142 (by decide) rfl ?_
  exact x_wk (xwk_c (xwk_c (xwk_c (xwk_c (xwk_c (xwk_n xwk_0)))))) ((P_X12_split_J143 hZ hk24) x0 x1 x2 (s0 + v2) x4 H1 h)
noncomputable def F_X12_split_J76 (N : Nat) (k24 : (Option Nat) → Int32 → Int32 → Int32 → Int32 → xH → Option (Int32 × xH)) (x0 : (Option Nat)) (x1 : Int32) (x2 : Int32) (x4 : Int32) (s0 : Int32) (H : xH) : Option (Int32 × xH) :=
  (F_X12_split_J138 N k24) x0 x1 x2 x4 s0 (1 : Int32) H
set_option maxRecDepth 20000 in
set_option maxHeartbeats 4000000 in
theorem P_X12_split_J76 {N : Nat} {Z : xZ} {rv : Int32} {Hf : xH} (hZ : Z = xZm cX12_split yX12_split 6 3 (some .int) (some (.int rv)) Hf) {k24 : (Option Nat) → Int32 → Int32 → Int32 → Int32 → xH → Option (Int32 × xH)} (hk24 : ∀ (x0 : (Option Nat)) (x1 : Int32) (x2 : Int32) (x3 : Int32) (x4 : Int32) (H : xH), k24 x0 x1 x2 x3 x4 H = some (rv, Hf) → xWq Z H 24 [xA x0, xI x1, xI x2, xI x3, xI x4, xN] []) : ∀ (x0 : (Option Nat)) (x1 : Int32) (x2 : Int32) (x4 : Int32) (s0 : Int32) (H : xH), F_X12_split_J76 N k24 x0 x1 x2 x4 s0 H = some (rv, Hf) → xWq Z H 76 [xA x0, xI x1, xI x2, xN, xI x4, xN] [.int s0] := by
  have hz : Z.1 = (cX12_split, yX12_split, 6) := by rw [hZ]; rfl
  have hδ : Z.2.1 = 3 := by rw [hZ]; rfl
  intro x0 x1 x2 x4 s0 H h
  unfold F_X12_split_J76 at h
  refine x_iconst (v := (1 : Int32)) hz dX12_split_76 (by decide) ?_
  refine x_goto (t := 138) hz dX12_split_77 (by decide) ?_
  exact x_wk (xwk_c (xwk_c (xwk_c (xwk_n (xwk_c (xwk_n xwk_0)))))) ((P_X12_split_J138 hZ hk24) x0 x1 x2 x4 s0 (1 : Int32) H h)
noncomputable def F_X12_split_J101 (N : Nat) (k24 : (Option Nat) → Int32 → Int32 → Int32 → Int32 → xH → Option (Int32 × xH)) (x0 : (Option Nat)) (x1 : Int32) (x2 : Int32) (x4 : Int32) (s0 : Int32) (H : xH) : Option (Int32 × xH) :=
  (F_X12_split_J138 N k24) x0 x1 x2 x4 s0 (1 : Int32) H
set_option maxRecDepth 20000 in
set_option maxHeartbeats 4000000 in
theorem P_X12_split_J101 {N : Nat} {Z : xZ} {rv : Int32} {Hf : xH} (hZ : Z = xZm cX12_split yX12_split 6 3 (some .int) (some (.int rv)) Hf) {k24 : (Option Nat) → Int32 → Int32 → Int32 → Int32 → xH → Option (Int32 × xH)} (hk24 : ∀ (x0 : (Option Nat)) (x1 : Int32) (x2 : Int32) (x3 : Int32) (x4 : Int32) (H : xH), k24 x0 x1 x2 x3 x4 H = some (rv, Hf) → xWq Z H 24 [xA x0, xI x1, xI x2, xI x3, xI x4, xN] []) : ∀ (x0 : (Option Nat)) (x1 : Int32) (x2 : Int32) (x4 : Int32) (s0 : Int32) (H : xH), F_X12_split_J101 N k24 x0 x1 x2 x4 s0 H = some (rv, Hf) → xWq Z H 101 [xA x0, xI x1, xI x2, xN, xI x4, xN] [.int s0] := by
  have hz : Z.1 = (cX12_split, yX12_split, 6) := by rw [hZ]; rfl
  have hδ : Z.2.1 = 3 := by rw [hZ]; rfl
  intro x0 x1 x2 x4 s0 H h
  unfold F_X12_split_J101 at h
  refine x_iconst (v := (1 : Int32)) hz dX12_split_101 (by decide) ?_
  refine x_goto (t := 138) hz dX12_split_102 (by decide) ?_
  exact x_wk (xwk_c (xwk_c (xwk_c (xwk_n (xwk_c (xwk_n xwk_0)))))) ((P_X12_split_J138 hZ hk24) x0 x1 x2 x4 s0 (1 : Int32) H h)
noncomputable def F_X12_split_J24 (N : Nat) (k24 : (Option Nat) → Int32 → Int32 → Int32 → Int32 → xH → Option (Int32 × xH)) (x0 : (Option Nat)) (x1 : Int32) (x2 : Int32) (x3 : Int32) (x4 : Int32) (H : xH) : Option (Int32 × xH) :=
  (xgI H x0 11 41).bind fun v1 =>
  if v1 ≤ x4 then (some (x3, H)) else ((xob H x0 11).bind fun b4 =>
  x_bd2 (F_X12_isLeft N x0 x4 H) fun v5 H3 =>
  if v5 = 0 then ((F_X12_split_J143 N k24) x0 x1 x2 x3 x4 H3) else ((xgA H3 x0 11 44).bind fun v7 =>
  (xlI .byte H3 v7 (((59049 : Int32) * x1) + x4)).bind fun v8 =>
  if x2 = 0 then (if v8 = (1 : Int32) then ((F_X12_split_J76 N k24) x0 x1 x2 x4 x3 H3) else (if v8 = (3 : Int32) then ((F_X12_split_J76 N k24) x0 x1 x2 x4 x3 H3) else ((F_X12_split_J138 N k24) x0 x1 x2 x4 x3 (0 : Int32) H3))) else (if x2 = (1 : Int32) then (if v8 = (2 : Int32) then ((F_X12_split_J101 N k24) x0 x1 x2 x4 x3 H3) else (if v8 = (4 : Int32) then ((F_X12_split_J101 N k24) x0 x1 x2 x4 x3 H3) else ((F_X12_split_J138 N k24) x0 x1 x2 x4 x3 (0 : Int32) H3))) else (if x2 = (2 : Int32) then (if v8 = 0 then ((F_X12_split_J138 N k24) x0 x1 x2 x4 x3 (1 : Int32) H3) else ((F_X12_split_J138 N k24) x0 x1 x2 x4 x3 (0 : Int32) H3)) else (if v8 ≤ (2 : Int32) then ((F_X12_split_J138 N k24) x0 x1 x2 x4 x3 (0 : Int32) H3) else ((F_X12_split_J138 N k24) x0 x1 x2 x4 x3 (1 : Int32) H3))))))
set_option maxRecDepth 20000 in
set_option maxHeartbeats 4000000 in
theorem P_X12_split_J24 {N : Nat} {Z : xZ} {rv : Int32} {Hf : xH} (hZ : Z = xZm cX12_split yX12_split 6 3 (some .int) (some (.int rv)) Hf) {k24 : (Option Nat) → Int32 → Int32 → Int32 → Int32 → xH → Option (Int32 × xH)} (hk24 : ∀ (x0 : (Option Nat)) (x1 : Int32) (x2 : Int32) (x3 : Int32) (x4 : Int32) (H : xH), k24 x0 x1 x2 x3 x4 H = some (rv, Hf) → xWq Z H 24 [xA x0, xI x1, xI x2, xI x3, xI x4, xN] []) : ∀ (x0 : (Option Nat)) (x1 : Int32) (x2 : Int32) (x3 : Int32) (x4 : Int32) (H : xH), F_X12_split_J24 N k24 x0 x1 x2 x3 x4 H = some (rv, Hf) → xWq Z H 24 [xA x0, xI x1, xI x2, xI x3, xI x4, xN] [] := by
  have hz : Z.1 = (cX12_split, yX12_split, 6) := by rw [hZ]; rfl
  have hδ : Z.2.1 = 3 := by rw [hZ]; rfl
  intro x0 x1 x2 x3 x4 H h
  unfold F_X12_split_J24 at h
  refine x_iload hz dX12_split_24 rfl ?_
  refine x_aload_n hz dX12_split_26 rfl ?_
  obtain ⟨v1, e_v1, h⟩ := x_bnd h
  refine x_getI hz dX12_split_27 fs_X12_329 e_v1 ?_
  refine x_icmp_ge (t := 149) hz dX12_split_30 (by decide) (fun c2 => ?_) (fun c2 => ?_)
  · replace h := x_ip c2 h
    refine x_iload_n hz dX12_split_149 rfl ?_
    cases h
    exact x_iret hZ dX12_split_150
  · replace h := x_in c2 h
    refine x_aload_n hz dX12_split_33 rfl ?_
    refine x_iload hz dX12_split_34 rfl ?_
    obtain ⟨b4, e_b4, h⟩ := x_bnd h
    obtain ⟨v5, H3, e_H3, h⟩ := x_b2 h
    refine x_callVi (as := [.inl x4]) (st := []) cs_X12_348 (ci := 11) ⟨rfl, rfl⟩ rfl rfl hz (by omega) (by decide) dX12_split_36 e_b4 (M_X12_isLeft e_H3) ?_
    refine x_if_ne (t := 45) hz dX12_split_39 (by decide) (fun c6 => ?_) (fun c6 => ?_)
    · replace h := x_in c6 h
      refine x_aload_n hz dX12_split_45 rfl ?_
      obtain ⟨v7, e_v7, h⟩ := x_bnd h
      refine x_getA hz dX12_split_46 fs_X12_87 e_v7 ?_
      refine x_ldc (v := (59049 : Int32)) hz dX12_split_49 wc_X12_82 ?_
      refine x_iload_n hz dX12_split_51 rfl ?_
      refine x_imul hz dX12_split_52 ?_
      refine x_iload hz dX12_split_53 rfl ?_
      refine x_iadd hz dX12_split_55 ?_
      obtain ⟨v8, e_v8, h⟩ := x_bnd h
      refine x_bald hz dX12_split_56 e_v8 ?_
      refine x_istore (pl' := [xA x0, xI x1, xI x2, xI x3, xI x4, xI v8]) hz dX12_split_57 (by decide) rfl ?_
      refine x_iload_n hz dX12_split_59 rfl ?_
      refine x_iload_n hz dX12_split_60 rfl ?_
      refine x_if_ne (t := 84) hz dX12_split_61 (by decide) (fun c9 => ?_) (fun c9 => ?_)
      · replace h := x_in c9 h
        refine x_iload_n hz dX12_split_84 rfl ?_
        refine x_iconst (v := (1 : Int32)) hz dX12_split_85 (by decide) ?_
        refine x_icmp_ne (t := 109) hz dX12_split_86 (by decide) (fun c10 => ?_) (fun c10 => ?_)
        · replace h := x_in c10 h
          refine x_iload_n hz dX12_split_109 rfl ?_
          refine x_iconst (v := (2 : Int32)) hz dX12_split_110 (by decide) ?_
          refine x_icmp_ne (t := 127) hz dX12_split_111 (by decide) (fun c11 => ?_) (fun c11 => ?_)
          · replace h := x_in c11 h
            refine x_iload hz dX12_split_127 rfl ?_
            refine x_iconst (v := (2 : Int32)) hz dX12_split_129 (by decide) ?_
            refine x_icmp_le (t := 137) hz dX12_split_130 (by decide) (fun c12 => ?_) (fun c12 => ?_)
            · replace h := x_ip c12 h
              refine x_iconst (v := (0 : Int32)) hz dX12_split_137 (by decide) ?_
              exact x_wk (xwk_c (xwk_c (xwk_c (xwk_n (xwk_c (xwk_n xwk_0)))))) ((P_X12_split_J138 hZ hk24) x0 x1 x2 x4 x3 (0 : Int32) H3 h)
            · replace h := x_in c12 h
              refine x_iconst (v := (1 : Int32)) hz dX12_split_133 (by decide) ?_
              refine x_goto (t := 138) hz dX12_split_134 (by decide) ?_
              exact x_wk (xwk_c (xwk_c (xwk_c (xwk_n (xwk_c (xwk_n xwk_0)))))) ((P_X12_split_J138 hZ hk24) x0 x1 x2 x4 x3 (1 : Int32) H3 h)
          · replace h := x_ip c11 h
            refine x_iload hz dX12_split_114 rfl ?_
            refine x_if_ne (t := 123) hz dX12_split_116 (by decide) (fun c13 => ?_) (fun c13 => ?_)
            · replace h := x_in c13 h
              refine x_iconst (v := (0 : Int32)) hz dX12_split_123 (by decide) ?_
              refine x_goto (t := 138) hz dX12_split_124 (by decide) ?_
              exact x_wk (xwk_c (xwk_c (xwk_c (xwk_n (xwk_c (xwk_n xwk_0)))))) ((P_X12_split_J138 hZ hk24) x0 x1 x2 x4 x3 (0 : Int32) H3 h)
            · replace h := x_ip c13 h
              refine x_iconst (v := (1 : Int32)) hz dX12_split_119 (by decide) ?_
              refine x_goto (t := 138) hz dX12_split_120 (by decide) ?_
              exact x_wk (xwk_c (xwk_c (xwk_c (xwk_n (xwk_c (xwk_n xwk_0)))))) ((P_X12_split_J138 hZ hk24) x0 x1 x2 x4 x3 (1 : Int32) H3 h)
        · replace h := x_ip c10 h
          refine x_iload hz dX12_split_89 rfl ?_
          refine x_iconst (v := (2 : Int32)) hz dX12_split_91 (by decide) ?_
          refine x_icmp_eq (t := 101) hz dX12_split_92 (by decide) (fun c14 => ?_) (fun c14 => ?_)
          · replace h := x_ip c14 h
            exact x_wk (xwk_c (xwk_c (xwk_c (xwk_n (xwk_c (xwk_n xwk_0)))))) ((P_X12_split_J101 hZ hk24) x0 x1 x2 x4 x3 H3 h)
          · replace h := x_in c14 h
            refine x_iload hz dX12_split_95 rfl ?_
            refine x_iconst (v := (4 : Int32)) hz dX12_split_97 (by decide) ?_
            refine x_icmp_ne (t := 105) hz dX12_split_98 (by decide) (fun c15 => ?_) (fun c15 => ?_)
            · replace h := x_in c15 h
              refine x_iconst (v := (0 : Int32)) hz dX12_split_105 (by decide) ?_
              refine x_goto (t := 138) hz dX12_split_106 (by decide) ?_
              exact x_wk (xwk_c (xwk_c (xwk_c (xwk_n (xwk_c (xwk_n xwk_0)))))) ((P_X12_split_J138 hZ hk24) x0 x1 x2 x4 x3 (0 : Int32) H3 h)
            · replace h := x_ip c15 h
              exact x_wk (xwk_c (xwk_c (xwk_c (xwk_n (xwk_c (xwk_n xwk_0)))))) ((P_X12_split_J101 hZ hk24) x0 x1 x2 x4 x3 H3 h)
      · replace h := x_ip c9 h
        refine x_iload hz dX12_split_64 rfl ?_
        refine x_iconst (v := (1 : Int32)) hz dX12_split_66 (by decide) ?_
        refine x_icmp_eq (t := 76) hz dX12_split_67 (by decide) (fun c16 => ?_) (fun c16 => ?_)
        · replace h := x_ip c16 h
          exact x_wk (xwk_c (xwk_c (xwk_c (xwk_n (xwk_c (xwk_n xwk_0)))))) ((P_X12_split_J76 hZ hk24) x0 x1 x2 x4 x3 H3 h)
        · replace h := x_in c16 h
          refine x_iload hz dX12_split_70 rfl ?_
          refine x_iconst (v := (3 : Int32)) hz dX12_split_72 (by decide) ?_
          refine x_icmp_ne (t := 80) hz dX12_split_73 (by decide) (fun c17 => ?_) (fun c17 => ?_)
          · replace h := x_in c17 h
            refine x_iconst (v := (0 : Int32)) hz dX12_split_80 (by decide) ?_
            refine x_goto (t := 138) hz dX12_split_81 (by decide) ?_
            exact x_wk (xwk_c (xwk_c (xwk_c (xwk_n (xwk_c (xwk_n xwk_0)))))) ((P_X12_split_J138 hZ hk24) x0 x1 x2 x4 x3 (0 : Int32) H3 h)
          · replace h := x_ip c17 h
            exact x_wk (xwk_c (xwk_c (xwk_c (xwk_n (xwk_c (xwk_n xwk_0)))))) ((P_X12_split_J76 hZ hk24) x0 x1 x2 x4 x3 H3 h)
    · replace h := x_ip c6 h
      refine x_goto (t := 143) hz dX12_split_42 (by decide) ?_
      exact x_wk (xwk_c (xwk_c (xwk_c (xwk_c (xwk_c (xwk_n xwk_0)))))) ((P_X12_split_J143 hZ hk24) x0 x1 x2 x3 x4 H3 h)
noncomputable def F_X12_split_L24 (N : Nat) : Nat → (Option Nat) → Int32 → Int32 → Int32 → Int32 → xH → Option (Int32 × xH)
  | 0 => fun _ _ _ _ _ _ => none
  | n + 1 => F_X12_split_J24 N (F_X12_split_L24 N n)
theorem P_X12_split_L24 {N : Nat} {Z : xZ} {rv : Int32} {Hf : xH} (hZ : Z = xZm cX12_split yX12_split 6 3 (some .int) (some (.int rv)) Hf) : ∀ (n : Nat) (x0 : (Option Nat)) (x1 : Int32) (x2 : Int32) (x3 : Int32) (x4 : Int32) (H : xH), F_X12_split_L24 N n x0 x1 x2 x3 x4 H = some (rv, Hf) → xWq Z H 24 [xA x0, xI x1, xI x2, xI x3, xI x4, xN] [] := by
  intro n
  induction n with
  | zero => intro _ _ _ _ _ _ h; cases h
  | succ n ih => exact P_X12_split_J24 hZ ih
noncomputable def F_X12_split (N : Nat) (a0 : (Option Nat)) (a1 : Int32) (a2 : Int32) (H : xH) : Option (Int32 × xH) :=
  (xob H a0 11).bind fun b2 =>
  x_bd2 (F_X12_isWager N a0 a1 H) fun v3 H1 =>
  if v3 = 0 then (some ((-1 : Int32), H1)) else (x_bd2 (F_X12_isIn N a2 (0 : Int32) (3 : Int32) H1) fun v6 H5 =>
  if v6 = 0 then (some ((-1 : Int32), H5)) else ((F_X12_split_L24 N N) a0 a1 a2 (0 : Int32) (0 : Int32) H5))
set_option maxRecDepth 20000 in
set_option maxHeartbeats 4000000 in
theorem P_X12_split {N : Nat} {Z : xZ} {rv : Int32} {Hf : xH} (hZ : Z = xZm cX12_split yX12_split 6 3 (some .int) (some (.int rv)) Hf) : ∀ (a0 : (Option Nat)) (a1 : Int32) (a2 : Int32) (H : xH), F_X12_split N a0 a1 a2 H = some (rv, Hf) → xWq Z H 0 [xA a0, xI a1, xI a2, xN, xN, xN] [] := by
  have hz : Z.1 = (cX12_split, yX12_split, 6) := by rw [hZ]; rfl
  have hδ : Z.2.1 = 3 := by rw [hZ]; rfl
  intro a0 a1 a2 H h
  unfold F_X12_split at h
  refine x_aload_n hz dX12_split_0 rfl ?_
  refine x_iload_n hz dX12_split_1 rfl ?_
  obtain ⟨b2, e_b2, h⟩ := x_bnd h
  obtain ⟨v3, H1, e_H1, h⟩ := x_b2 h
  refine x_callVi (as := [.inl a1]) (st := []) cs_X12_361 (ci := 11) ⟨rfl, rfl⟩ rfl rfl hz (by omega) (by decide) dX12_split_2 e_b2 (M_X12_isWager e_H1) ?_
  refine x_if_eq (t := 17) hz dX12_split_5 (by decide) (fun c4 => ?_) (fun c4 => ?_)
  · replace h := x_ip c4 h
    refine x_iconst (v := (-1 : Int32)) hz dX12_split_17 (by decide) ?_
    cases h
    exact x_iret hZ dX12_split_18
  · replace h := x_in c4 h
    refine x_iload_n hz dX12_split_8 rfl ?_
    refine x_iconst (v := (0 : Int32)) hz dX12_split_9 (by decide) ?_
    refine x_iconst (v := (3 : Int32)) hz dX12_split_10 (by decide) ?_
    obtain ⟨v6, H5, e_H5, h⟩ := x_b2 h
    refine x_callSi (as := [.inl a2, .inl (0 : Int32), .inl (3 : Int32)]) (st := []) cs_X12_153 rfl rfl hz (by omega) (by decide) dX12_split_11 (M_X12_isIn e_H5) ?_
    refine x_if_ne (t := 19) hz dX12_split_14 (by decide) (fun c7 => ?_) (fun c7 => ?_)
    · replace h := x_in c7 h
      refine x_iconst (v := (0 : Int32)) hz dX12_split_19 (by decide) ?_
      refine x_istore_n (pl' := [xA a0, xI a1, xI a2, xI (0 : Int32), xN, xN]) hz dX12_split_20 (by decide) rfl ?_
      refine x_iconst (v := (0 : Int32)) hz dX12_split_21 (by decide) ?_
      refine x_istore (pl' := [xA a0, xI a1, xI a2, xI (0 : Int32), xI (0 : Int32), xN]) hz dX12_split_22 (by decide) rfl ?_
      exact x_wk (xwk_c (xwk_c (xwk_c (xwk_c (xwk_c (xwk_n xwk_0)))))) ((P_X12_split_L24 hZ N) a0 a1 a2 (0 : Int32) (0 : Int32) H5 h)
    · replace h := x_ip c7 h
      refine x_iconst (v := (-1 : Int32)) hz dX12_split_17 (by decide) ?_
      cases h
      exact x_iret hZ dX12_split_18
theorem M_X12_split {N : Nat} {a0 : (Option Nat)} {a1 : Int32} {a2 : Int32} {H H1 : xH} {r1 : Int32} (h : F_X12_split N a0 a1 a2 H = some (r1, H1)) : xM yX12_split cX12_split 6 (some .int) 3 [.inr (.inr a0), .inl a1, .inl a2] H (some (.int r1)) H1 :=
  xM_of (by decide +kernel) (xT_tb 1404 (by decide +kernel) (by decide +kernel)) (by simp [xargs, x2]) rfl (P_X12_split rfl a0 a1 a2 H h)
/-! BettingBookModel.till(II)I -/
noncomputable def F_X12_till_J55 (N : Nat) (k11 : (Option Nat) → Int32 → Int32 → Int32 → Int32 → Int32 → xH → Option (Int32 × xH)) (x0 : (Option Nat)) (x2 : Int32) (x3 : Int32) (x5 : Int32) (x6 : Int32) (s0 : Int32) (s1 : Int32) (H : xH) : Option (Int32 × xH) :=
  k11 x0 x2 x3 (s0 + s1) (x5 * (9 : Int32)) (x6 + 1) H
set_option maxRecDepth 20000 in
set_option maxHeartbeats 4000000 in
theorem P_X12_till_J55 {N : Nat} {Z : xZ} {rv : Int32} {Hf : xH} (hZ : Z = xZm cX12_till yX12_till 8 1 (some .int) (some (.int rv)) Hf) {k11 : (Option Nat) → Int32 → Int32 → Int32 → Int32 → Int32 → xH → Option (Int32 × xH)} (hk11 : ∀ (x0 : (Option Nat)) (x2 : Int32) (x3 : Int32) (x4 : Int32) (x5 : Int32) (x6 : Int32) (H : xH), k11 x0 x2 x3 x4 x5 x6 H = some (rv, Hf) → xWq Z H 11 [xA x0, xN, xI x2, xI x3, xI x4, xI x5, xI x6, xN] []) : ∀ (x0 : (Option Nat)) (x2 : Int32) (x3 : Int32) (x5 : Int32) (x6 : Int32) (s0 : Int32) (s1 : Int32) (H : xH), F_X12_till_J55 N k11 x0 x2 x3 x5 x6 s0 s1 H = some (rv, Hf) → xWq Z H 55 [xA x0, xN, xI x2, xI x3, xN, xI x5, xI x6, xN] [.int s1, .int s0] := by
  have hz : Z.1 = (cX12_till, yX12_till, 8) := by rw [hZ]; rfl
  have hδ : Z.2.1 = 1 := by rw [hZ]; rfl
  intro x0 x2 x3 x5 x6 s0 s1 H h
  unfold F_X12_till_J55 at h
  refine x_iadd hz dX12_till_55 ?_
  refine x_istore (pl' := [xA x0, xN, xI x2, xI x3, xI (s0 + s1), xI x5, xI x6, xN]) hz dX12_till_56 (by decide) rfl ?_
  refine x_iload hz dX12_till_58 rfl ?_
  refine x_bipush (v := (9 : Int32)) hz dX12_till_60 (by decide) ?_
  refine x_imul hz dX12_till_62 ?_
  refine x_istore (pl' := [xA x0, xN, xI x2, xI x3, xI (s0 + s1), xI (x5 * (9 : Int32)), xI x6, xN]) hz dX12_till_63 (by decide) rfl ?_
  refine x_iinc (w := (x6 + 1)) (pl' := [xA x0, xN, xI x2, xI x3, xI (s0 + s1), xI (x5 * (9 : Int32)), xI (x6 + 1), xN]) hz dX12_till_65 rfl rfl (by decide) rfl ?_
  refine x_goto (t := 11) hz dX12_till_68 (by decide) ?_
  exact x_wk (xwk_c (xwk_n (xwk_c (xwk_c (xwk_c (xwk_c (xwk_c (xwk_n xwk_0)))))))) (hk11 x0 x2 x3 (s0 + s1) (x5 * (9 : Int32)) (x6 + 1) H h)
noncomputable def F_X12_till_J54 (N : Nat) (k11 : (Option Nat) → Int32 → Int32 → Int32 → Int32 → Int32 → xH → Option (Int32 × xH)) (x0 : (Option Nat)) (x2 : Int32) (x3 : Int32) (x5 : Int32) (x6 : Int32) (s0 : Int32) (H : xH) : Option (Int32 × xH) :=
  (F_X12_till_J55 N k11) x0 x2 x3 x5 x6 s0 (0 : Int32) H
set_option maxRecDepth 20000 in
set_option maxHeartbeats 4000000 in
theorem P_X12_till_J54 {N : Nat} {Z : xZ} {rv : Int32} {Hf : xH} (hZ : Z = xZm cX12_till yX12_till 8 1 (some .int) (some (.int rv)) Hf) {k11 : (Option Nat) → Int32 → Int32 → Int32 → Int32 → Int32 → xH → Option (Int32 × xH)} (hk11 : ∀ (x0 : (Option Nat)) (x2 : Int32) (x3 : Int32) (x4 : Int32) (x5 : Int32) (x6 : Int32) (H : xH), k11 x0 x2 x3 x4 x5 x6 H = some (rv, Hf) → xWq Z H 11 [xA x0, xN, xI x2, xI x3, xI x4, xI x5, xI x6, xN] []) : ∀ (x0 : (Option Nat)) (x2 : Int32) (x3 : Int32) (x5 : Int32) (x6 : Int32) (s0 : Int32) (H : xH), F_X12_till_J54 N k11 x0 x2 x3 x5 x6 s0 H = some (rv, Hf) → xWq Z H 54 [xA x0, xN, xI x2, xI x3, xN, xI x5, xI x6, xN] [.int s0] := by
  have hz : Z.1 = (cX12_till, yX12_till, 8) := by rw [hZ]; rfl
  have hδ : Z.2.1 = 1 := by rw [hZ]; rfl
  intro x0 x2 x3 x5 x6 s0 H h
  unfold F_X12_till_J54 at h
  refine x_iconst (v := (0 : Int32)) hz dX12_till_54 (by decide) ?_
  exact x_wk (xwk_c (xwk_n (xwk_c (xwk_c (xwk_n (xwk_c (xwk_c (xwk_n xwk_0)))))))) ((P_X12_till_J55 hZ hk11) x0 x2 x3 x5 x6 s0 (0 : Int32) H h)
noncomputable def F_X12_till_J11 (N : Nat) (k11 : (Option Nat) → Int32 → Int32 → Int32 → Int32 → Int32 → xH → Option (Int32 × xH)) (x0 : (Option Nat)) (x2 : Int32) (x3 : Int32) (x4 : Int32) (x5 : Int32) (x6 : Int32) (H : xH) : Option (Int32 × xH) :=
  (xgI H x0 11 0).bind fun v1 =>
  if v1 ≤ x6 then (some (x4, H)) else (if (x3 - x3 / (9 : Int32) * (9 : Int32)) ≤ 0 then ((F_X12_till_J54 N k11) x0 x2 (x3 / (9 : Int32)) x5 x6 x4 H) else (if x2 < ((x3 - x3 / (9 : Int32) * (9 : Int32)) - (1 : Int32)) then ((F_X12_till_J54 N k11) x0 x2 (x3 / (9 : Int32)) x5 x6 x4 H) else ((F_X12_till_J55 N k11) x0 x2 (x3 / (9 : Int32)) x5 x6 x4 ((x3 - x3 / (9 : Int32) * (9 : Int32)) * x5) H)))
set_option maxRecDepth 20000 in
set_option maxHeartbeats 4000000 in
theorem P_X12_till_J11 {N : Nat} {Z : xZ} {rv : Int32} {Hf : xH} (hZ : Z = xZm cX12_till yX12_till 8 1 (some .int) (some (.int rv)) Hf) {k11 : (Option Nat) → Int32 → Int32 → Int32 → Int32 → Int32 → xH → Option (Int32 × xH)} (hk11 : ∀ (x0 : (Option Nat)) (x2 : Int32) (x3 : Int32) (x4 : Int32) (x5 : Int32) (x6 : Int32) (H : xH), k11 x0 x2 x3 x4 x5 x6 H = some (rv, Hf) → xWq Z H 11 [xA x0, xN, xI x2, xI x3, xI x4, xI x5, xI x6, xN] []) : ∀ (x0 : (Option Nat)) (x2 : Int32) (x3 : Int32) (x4 : Int32) (x5 : Int32) (x6 : Int32) (H : xH), F_X12_till_J11 N k11 x0 x2 x3 x4 x5 x6 H = some (rv, Hf) → xWq Z H 11 [xA x0, xN, xI x2, xI x3, xI x4, xI x5, xI x6, xN] [] := by
  have hz : Z.1 = (cX12_till, yX12_till, 8) := by rw [hZ]; rfl
  have hδ : Z.2.1 = 1 := by rw [hZ]; rfl
  intro x0 x2 x3 x4 x5 x6 H h
  unfold F_X12_till_J11 at h
  refine x_iload hz dX12_till_11 rfl ?_
  refine x_aload_n hz dX12_till_13 rfl ?_
  obtain ⟨v1, e_v1, h⟩ := x_bnd h
  refine x_getI hz dX12_till_14 fs_X12_282 e_v1 ?_
  refine x_icmp_ge (t := 71) hz dX12_till_17 (by decide) (fun c2 => ?_) (fun c2 => ?_)
  · replace h := x_ip c2 h
    refine x_iload hz dX12_till_71 rfl ?_
    cases h
    exact x_iret hZ dX12_till_73
  · replace h := x_in c2 h
    refine x_iload_n hz dX12_till_20 rfl ?_
    refine x_bipush (v := (9 : Int32)) hz dX12_till_21 (by decide) ?_
    refine x_irem hz dX12_till_23 (by decide) ?_
    refine x_istore (pl' := [xA x0, xN, xI x2, xI x3, xI x4, xI x5, xI x6, xI (x3 - x3 / (9 : Int32) * (9 : Int32))]) hz dX12_till_24 (by decide) rfl ?_
    refine x_iload_n hz dX12_till_26 rfl ?_
    refine x_bipush (v := (9 : Int32)) hz dX12_till_27 (by decide) ?_
    refine x_idiv hz dX12_till_29 (by decide) ?_
    refine x_istore_n (pl' := [xA x0, xN, xI x2, xI (x3 / (9 : Int32)), xI x4, xI x5, xI x6, xI (x3 - x3 / (9 : Int32) * (9 : Int32))]) hz dX12_till_30 (by decide) rfl ?_
    refine x_iload hz dX12_till_31 rfl ?_
    refine x_iload hz dX12_till_33 rfl ?_
    refine x_if_le (t := 54) hz dX12_till_35 (by decide) (fun c3 => ?_) (fun c3 => ?_)
    · replace h := x_ip c3 h
      exact x_wk (xwk_c (xwk_n (xwk_c (xwk_c (xwk_n (xwk_c (xwk_c (xwk_n xwk_0)))))))) ((P_X12_till_J54 hZ hk11) x0 x2 (x3 / (9 : Int32)) x5 x6 x4 H h)
    · replace h := x_in c3 h
      refine x_iload hz dX12_till_38 rfl ?_
      refine x_iconst (v := (1 : Int32)) hz dX12_till_40 (by decide) ?_
      refine x_isub hz dX12_till_41 ?_
      refine x_iload_n hz dX12_till_42 rfl ?_
      refine x_icmp_gt (t := 54) hz dX12_till_43 (by decide) (fun c4 => ?_) (fun c4 => ?_)
      · replace h := x_ip c4 h
        exact x_wk (xwk_c (xwk_n (xwk_c (xwk_c (xwk_n (xwk_c (xwk_c (xwk_n xwk_0)))))))) ((P_X12_till_J54 hZ hk11) x0 x2 (x3 / (9 : Int32)) x5 x6 x4 H h)
      · replace h := x_in c4 h
        refine x_iload hz dX12_till_46 rfl ?_
        refine x_iload hz dX12_till_48 rfl ?_
        refine x_imul hz dX12_till_50 ?_
        refine x_goto (t := 55) hz dX12_till_51 (by decide) ?_
        exact x_wk (xwk_c (xwk_n (xwk_c (xwk_c (xwk_n (xwk_c (xwk_c (xwk_n xwk_0)))))))) ((P_X12_till_J55 hZ hk11) x0 x2 (x3 / (9 : Int32)) x5 x6 x4 ((x3 - x3 / (9 : Int32) * (9 : Int32)) * x5) H h)
noncomputable def F_X12_till_L11 (N : Nat) : Nat → (Option Nat) → Int32 → Int32 → Int32 → Int32 → Int32 → xH → Option (Int32 × xH)
  | 0 => fun _ _ _ _ _ _ _ => none
  | n + 1 => F_X12_till_J11 N (F_X12_till_L11 N n)
theorem P_X12_till_L11 {N : Nat} {Z : xZ} {rv : Int32} {Hf : xH} (hZ : Z = xZm cX12_till yX12_till 8 1 (some .int) (some (.int rv)) Hf) : ∀ (n : Nat) (x0 : (Option Nat)) (x2 : Int32) (x3 : Int32) (x4 : Int32) (x5 : Int32) (x6 : Int32) (H : xH), F_X12_till_L11 N n x0 x2 x3 x4 x5 x6 H = some (rv, Hf) → xWq Z H 11 [xA x0, xN, xI x2, xI x3, xI x4, xI x5, xI x6, xN] [] := by
  intro n
  induction n with
  | zero => intro _ _ _ _ _ _ _ h; cases h
  | succ n ih => exact P_X12_till_J11 hZ ih
noncomputable def F_X12_till (N : Nat) (a0 : (Option Nat)) (a1 : Int32) (a2 : Int32) (H : xH) : Option (Int32 × xH) :=
  (F_X12_till_L11 N N) a0 a2 a1 (0 : Int32) (1 : Int32) (0 : Int32) H
set_option maxRecDepth 20000 in
set_option maxHeartbeats 4000000 in
theorem P_X12_till {N : Nat} {Z : xZ} {rv : Int32} {Hf : xH} (hZ : Z = xZm cX12_till yX12_till 8 1 (some .int) (some (.int rv)) Hf) : ∀ (a0 : (Option Nat)) (a1 : Int32) (a2 : Int32) (H : xH), F_X12_till N a0 a1 a2 H = some (rv, Hf) → xWq Z H 0 [xA a0, xI a1, xI a2, xN, xN, xN, xN, xN] [] := by
  have hz : Z.1 = (cX12_till, yX12_till, 8) := by rw [hZ]; rfl
  have hδ : Z.2.1 = 1 := by rw [hZ]; rfl
  intro a0 a1 a2 H h
  unfold F_X12_till at h
  refine x_iload_n hz dX12_till_0 rfl ?_
  refine x_istore_n (pl' := [xA a0, xI a1, xI a2, xI a1, xN, xN, xN, xN]) hz dX12_till_1 (by decide) rfl ?_
  refine x_iconst (v := (0 : Int32)) hz dX12_till_2 (by decide) ?_
  refine x_istore (pl' := [xA a0, xI a1, xI a2, xI a1, xI (0 : Int32), xN, xN, xN]) hz dX12_till_3 (by decide) rfl ?_
  refine x_iconst (v := (1 : Int32)) hz dX12_till_5 (by decide) ?_
  refine x_istore (pl' := [xA a0, xI a1, xI a2, xI a1, xI (0 : Int32), xI (1 : Int32), xN, xN]) hz dX12_till_6 (by decide) rfl ?_
  refine x_iconst (v := (0 : Int32)) hz dX12_till_8 (by decide) ?_
  refine x_istore (pl' := [xA a0, xI a1, xI a2, xI a1, xI (0 : Int32), xI (1 : Int32), xI (0 : Int32), xN]) hz dX12_till_9 (by decide) rfl ?_
  exact x_wk (xwk_c (xwk_n (xwk_c (xwk_c (xwk_c (xwk_c (xwk_c (xwk_n xwk_0)))))))) ((P_X12_till_L11 hZ N) a0 a2 a1 (0 : Int32) (1 : Int32) (0 : Int32) H h)
theorem M_X12_till {N : Nat} {a0 : (Option Nat)} {a1 : Int32} {a2 : Int32} {H H1 : xH} {r1 : Int32} (h : F_X12_till N a0 a1 a2 H = some (r1, H1)) : xM yX12_till cX12_till 8 (some .int) 1 [.inr (.inr a0), .inl a1, .inl a2] H (some (.int r1)) H1 :=
  xM_of (by decide +kernel) (xT_tb 1416 (by decide +kernel) (by decide +kernel)) (by simp [xargs, x2]) rfl (P_X12_till rfl a0 a1 a2 H h)
/-! BettingBookModel.begins(II)V -/
noncomputable def F_X12_begins_J2 (N : Nat) (k2 : (Option Nat) → Int32 → Int32 → Int32 → xH → Option xH) (k25 : (Option Nat) → Int32 → Int32 → xH → Option xH) (x0 : (Option Nat)) (x1 : Int32) (x2 : Int32) (x3 : Int32) (H : xH) : Option xH :=
  (xgI H x0 11 41).bind fun v1 =>
  if v1 ≤ x3 then (k25 x0 x1 x2 H) else ((xgA H x0 11 50).bind fun v3 =>
  (xsI .int H v3 x3 (-5000 : Int32)).bind fun H4 =>
  k2 x0 x1 x2 (x3 + 1) H4)
set_option maxRecDepth 20000 in
set_option maxHeartbeats 4000000 in
theorem P_X12_begins_J2 {N : Nat} {Z : xZ} {Hf : xH} (hZ : Z = xZm cX12_begins yX12_begins 6 2 none none Hf) {k2 : (Option Nat) → Int32 → Int32 → Int32 → xH → Option xH} (hk2 : ∀ (x0 : (Option Nat)) (x1 : Int32) (x2 : Int32) (x3 : Int32) (H : xH), k2 x0 x1 x2 x3 H = some Hf → xWq Z H 2 [xA x0, xI x1, xI x2, xI x3, xN, xN] []) {k25 : (Option Nat) → Int32 → Int32 → xH → Option xH} (hk25 : ∀ (x0 : (Option Nat)) (x1 : Int32) (x2 : Int32) (H : xH), k25 x0 x1 x2 H = some Hf → xWq Z H 25 [xA x0, xI x1, xI x2, xN, xN, xN] []) : ∀ (x0 : (Option Nat)) (x1 : Int32) (x2 : Int32) (x3 : Int32) (H : xH), F_X12_begins_J2 N k2 k25 x0 x1 x2 x3 H = some Hf → xWq Z H 2 [xA x0, xI x1, xI x2, xI x3, xN, xN] [] := by
  have hz : Z.1 = (cX12_begins, yX12_begins, 6) := by rw [hZ]; rfl
  have hδ : Z.2.1 = 2 := by rw [hZ]; rfl
  intro x0 x1 x2 x3 H h
  unfold F_X12_begins_J2 at h
  refine x_iload_n hz dX12_begins_2 rfl ?_
  refine x_aload_n hz dX12_begins_3 rfl ?_
  obtain ⟨v1, e_v1, h⟩ := x_bnd h
  refine x_getI hz dX12_begins_4 fs_X12_329 e_v1 ?_
  refine x_icmp_ge (t := 25) hz dX12_begins_7 (by decide) (fun c2 => ?_) (fun c2 => ?_)
  · replace h := x_ip c2 h
    exact x_wk (xwk_c (xwk_c (xwk_c (xwk_n (xwk_n (xwk_n xwk_0)))))) (hk25 x0 x1 x2 H h)
  · replace h := x_in c2 h
    refine x_aload_n hz dX12_begins_10 rfl ?_
    obtain ⟨v3, e_v3, h⟩ := x_bnd h
    refine x_getA hz dX12_begins_11 fs_X12_97 e_v3 ?_
    refine x_iload_n hz dX12_begins_14 rfl ?_
    refine x_sipush (v := (-5000 : Int32)) hz dX12_begins_15 (by decide) ?_
    obtain ⟨H4, e_H4, h⟩ := x_bnd h
    refine x_iast hz dX12_begins_18 e_H4 ?_
    refine x_iinc (w := (x3 + 1)) (pl' := [xA x0, xI x1, xI x2, xI (x3 + 1), xN, xN]) hz dX12_begins_19 rfl rfl (by decide) rfl ?_
    refine x_goto (t := 2) hz dX12_begins_22 (by decide) ?_
    exact x_wk (xwk_c (xwk_c (xwk_c (xwk_c (xwk_n (xwk_n xwk_0)))))) (hk2 x0 x1 x2 (x3 + 1) H4 h)
noncomputable def F_X12_begins_L2 (N : Nat) (k25 : (Option Nat) → Int32 → Int32 → xH → Option xH) : Nat → (Option Nat) → Int32 → Int32 → Int32 → xH → Option xH
  | 0 => fun _ _ _ _ _ => none
  | n + 1 => F_X12_begins_J2 N (F_X12_begins_L2 N k25 n) k25
theorem P_X12_begins_L2 {N : Nat} {Z : xZ} {Hf : xH} (hZ : Z = xZm cX12_begins yX12_begins 6 2 none none Hf) {k25 : (Option Nat) → Int32 → Int32 → xH → Option xH} (hk25 : ∀ (x0 : (Option Nat)) (x1 : Int32) (x2 : Int32) (H : xH), k25 x0 x1 x2 H = some Hf → xWq Z H 25 [xA x0, xI x1, xI x2, xN, xN, xN] []) : ∀ (n : Nat) (x0 : (Option Nat)) (x1 : Int32) (x2 : Int32) (x3 : Int32) (H : xH), F_X12_begins_L2 N k25 n x0 x1 x2 x3 H = some Hf → xWq Z H 2 [xA x0, xI x1, xI x2, xI x3, xN, xN] [] := by
  intro n
  induction n with
  | zero => intro _ _ _ _ _ h; cases h
  | succ n ih => exact P_X12_begins_J2 hZ ih hk25
noncomputable def F_X12_begins_J102 (N : Nat) (k27 : (Option Nat) → Int32 → Int32 → Int32 → xH → Option xH) (x0 : (Option Nat)) (x1 : Int32) (x2 : Int32) (x3 : Int32) (H : xH) : Option xH :=
  k27 x0 x1 x2 (x3 + 1) H
set_option maxRecDepth 20000 in
set_option maxHeartbeats 4000000 in
theorem P_X12_begins_J102 {N : Nat} {Z : xZ} {Hf : xH} (hZ : Z = xZm cX12_begins yX12_begins 6 2 none none Hf) {k27 : (Option Nat) → Int32 → Int32 → Int32 → xH → Option xH} (hk27 : ∀ (x0 : (Option Nat)) (x1 : Int32) (x2 : Int32) (x3 : Int32) (H : xH), k27 x0 x1 x2 x3 H = some Hf → xWq Z H 27 [xA x0, xI x1, xI x2, xI x3, xN, xN] []) : ∀ (x0 : (Option Nat)) (x1 : Int32) (x2 : Int32) (x3 : Int32) (H : xH), F_X12_begins_J102 N k27 x0 x1 x2 x3 H = some Hf → xWq Z H 102 [xA x0, xI x1, xI x2, xI x3, xN, xN] [] := by
  have hz : Z.1 = (cX12_begins, yX12_begins, 6) := by rw [hZ]; rfl
  have hδ : Z.2.1 = 2 := by rw [hZ]; rfl
  intro x0 x1 x2 x3 H h
  unfold F_X12_begins_J102 at h
  refine x_iinc (w := (x3 + 1)) (pl' := [xA x0, xI x1, xI x2, xI (x3 + 1), xN, xN]) hz dX12_begins_102 rfl rfl (by decide) rfl ?_
  refine x_goto (t := 27) hz dX12_begins_105 (by decide) ?_
  exact x_wk (xwk_c (xwk_c (xwk_c (xwk_c (xwk_n (xwk_n xwk_0)))))) (hk27 x0 x1 x2 (x3 + 1) H h)
noncomputable def F_X12_begins_J101 (N : Nat) (k27 : (Option Nat) → Int32 → Int32 → Int32 → xH → Option xH) (x0 : (Option Nat)) (x1 : Int32) (x2 : Int32) (x3 : Int32) (s0 : (Option Nat)) (s1 : Int32) (s2 : Int32) (H : xH) : Option xH :=
  (xsI .int H s0 s1 s2).bind fun H1 =>
  (F_X12_begins_J102 N k27) x0 x1 x2 x3 H1
set_option maxRecDepth 20000 in
set_option maxHeartbeats 4000000 in
theorem P_X12_begins_J101 {N : Nat} {Z : xZ} {Hf : xH} (hZ : Z = xZm cX12_begins yX12_begins 6 2 none none Hf) {k27 : (Option Nat) → Int32 → Int32 → Int32 → xH → Option xH} (hk27 : ∀ (x0 : (Option Nat)) (x1 : Int32) (x2 : Int32) (x3 : Int32) (H : xH), k27 x0 x1 x2 x3 H = some Hf → xWq Z H 27 [xA x0, xI x1, xI x2, xI x3, xN, xN] []) : ∀ (x0 : (Option Nat)) (x1 : Int32) (x2 : Int32) (x3 : Int32) (s0 : (Option Nat)) (s1 : Int32) (s2 : Int32) (H : xH), F_X12_begins_J101 N k27 x0 x1 x2 x3 s0 s1 s2 H = some Hf → xWq Z H 101 [xA x0, xI x1, xI x2, xI x3, xN, xN] [.int s2, .int s1, va_rf s0] := by
  have hz : Z.1 = (cX12_begins, yX12_begins, 6) := by rw [hZ]; rfl
  have hδ : Z.2.1 = 2 := by rw [hZ]; rfl
  intro x0 x1 x2 x3 s0 s1 s2 H h
  unfold F_X12_begins_J101 at h
  obtain ⟨H1, e_H1, h⟩ := x_bnd h
  refine x_iast hz dX12_begins_101 e_H1 ?_
  exact x_wk (xwk_c (xwk_c (xwk_c (xwk_c (xwk_n (xwk_n xwk_0)))))) ((P_X12_begins_J102 hZ hk27) x0 x1 x2 x3 H1 h)
noncomputable def F_X12_begins_J93 (N : Nat) (k27 : (Option Nat) → Int32 → Int32 → Int32 → xH → Option xH) (x0 : (Option Nat)) (x1 : Int32) (x2 : Int32) (x3 : Int32) (x5 : Int32) (s0 : (Option Nat)) (s1 : Int32) (H : xH) : Option xH :=
  (F_X12_begins_J101 N k27) x0 x1 x2 x3 s0 s1 x5 H
set_option maxRecDepth 20000 in
set_option maxHeartbeats 4000000 in
theorem P_X12_begins_J93 {N : Nat} {Z : xZ} {Hf : xH} (hZ : Z = xZm cX12_begins yX12_begins 6 2 none none Hf) {k27 : (Option Nat) → Int32 → Int32 → Int32 → xH → Option xH} (hk27 : ∀ (x0 : (Option Nat)) (x1 : Int32) (x2 : Int32) (x3 : Int32) (H : xH), k27 x0 x1 x2 x3 H = some Hf → xWq Z H 27 [xA x0, xI x1, xI x2, xI x3, xN, xN] []) : ∀ (x0 : (Option Nat)) (x1 : Int32) (x2 : Int32) (x3 : Int32) (x5 : Int32) (s0 : (Option Nat)) (s1 : Int32) (H : xH), F_X12_begins_J93 N k27 x0 x1 x2 x3 x5 s0 s1 H = some Hf → xWq Z H 93 [xA x0, xI x1, xI x2, xI x3, xN, xI x5] [.int s1, va_rf s0] := by
  have hz : Z.1 = (cX12_begins, yX12_begins, 6) := by rw [hZ]; rfl
  have hδ : Z.2.1 = 2 := by rw [hZ]; rfl
  intro x0 x1 x2 x3 x5 s0 s1 H h
  unfold F_X12_begins_J93 at h
  refine x_iload hz dX12_begins_93 rfl ?_
  refine x_goto (t := 101) hz dX12_begins_95 (by decide) ?_
  exact x_wk (xwk_c (xwk_c (xwk_c (xwk_c (xwk_n (xwk_n xwk_0)))))) ((P_X12_begins_J101 hZ hk27) x0 x1 x2 x3 s0 s1 x5 H h)
noncomputable def F_X12_begins_J27 (N : Nat) (k27 : (Option Nat) → Int32 → Int32 → Int32 → xH → Option xH) (x0 : (Option Nat)) (x1 : Int32) (x2 : Int32) (x3 : Int32) (H : xH) : Option xH :=
  (xgI H x0 11 41).bind fun v1 =>
  if v1 ≤ x3 then (some H) else ((xob H x0 11).bind fun b4 =>
  x_bd2 (F_X12_isPossible N x0 x3 H) fun v5 H3 =>
  if v5 = 0 then ((F_X12_begins_J102 N k27) x0 x1 x2 x3 H3) else ((xob H3 x0 11).bind fun b8 =>
  x_bd2 (F_X12_till N x0 x3 x2 H3) fun v9 H7 =>
  (xob H7 x0 11).bind fun b11 =>
  x_bd2 (F_X12_paysAt N x0 x1 x3 H7) fun v12 H10 =>
  (xgA H10 x0 11 50).bind fun v13 =>
  (xgA H10 x0 11 50).bind fun v14 =>
  (xlI .int H10 v14 v9).bind fun v15 =>
  if v15 = (-5000 : Int32) then ((F_X12_begins_J93 N k27) x0 x1 x2 x3 v12 v13 v9 H10) else ((xgA H10 x0 11 50).bind fun v17 =>
  (xlI .int H10 v17 v9).bind fun v18 =>
  if v18 = v12 then ((F_X12_begins_J93 N k27) x0 x1 x2 x3 v12 v13 v9 H10) else ((F_X12_begins_J101 N k27) x0 x1 x2 x3 v13 v9 (5000 : Int32) H10))))
set_option maxRecDepth 20000 in
set_option maxHeartbeats 4000000 in
theorem P_X12_begins_J27 {N : Nat} {Z : xZ} {Hf : xH} (hZ : Z = xZm cX12_begins yX12_begins 6 2 none none Hf) {k27 : (Option Nat) → Int32 → Int32 → Int32 → xH → Option xH} (hk27 : ∀ (x0 : (Option Nat)) (x1 : Int32) (x2 : Int32) (x3 : Int32) (H : xH), k27 x0 x1 x2 x3 H = some Hf → xWq Z H 27 [xA x0, xI x1, xI x2, xI x3, xN, xN] []) : ∀ (x0 : (Option Nat)) (x1 : Int32) (x2 : Int32) (x3 : Int32) (H : xH), F_X12_begins_J27 N k27 x0 x1 x2 x3 H = some Hf → xWq Z H 27 [xA x0, xI x1, xI x2, xI x3, xN, xN] [] := by
  have hz : Z.1 = (cX12_begins, yX12_begins, 6) := by rw [hZ]; rfl
  have hδ : Z.2.1 = 2 := by rw [hZ]; rfl
  intro x0 x1 x2 x3 H h
  unfold F_X12_begins_J27 at h
  refine x_iload_n hz dX12_begins_27 rfl ?_
  refine x_aload_n hz dX12_begins_28 rfl ?_
  obtain ⟨v1, e_v1, h⟩ := x_bnd h
  refine x_getI hz dX12_begins_29 fs_X12_329 e_v1 ?_
  refine x_icmp_ge (t := 108) hz dX12_begins_32 (by decide) (fun c2 => ?_) (fun c2 => ?_)
  · replace h := x_ip c2 h
    cases h
    exact x_vret hZ dX12_begins_108
  · replace h := x_in c2 h
    refine x_aload_n hz dX12_begins_35 rfl ?_
    refine x_iload_n hz dX12_begins_36 rfl ?_
    obtain ⟨b4, e_b4, h⟩ := x_bnd h
    obtain ⟨v5, H3, e_H3, h⟩ := x_b2 h
    refine x_callVi (as := [.inl x3]) (st := []) cs_X12_342 (ci := 11) ⟨rfl, rfl⟩ rfl rfl hz (by omega) (by decide) dX12_begins_37 e_b4 (M_X12_isPossible e_H3) ?_
    refine x_if_ne (t := 46) hz dX12_begins_40 (by decide) (fun c6 => ?_) (fun c6 => ?_)
    · replace h := x_in c6 h
      refine x_aload_n hz dX12_begins_46 rfl ?_
      refine x_iload_n hz dX12_begins_47 rfl ?_
      refine x_iload_n hz dX12_begins_48 rfl ?_
      obtain ⟨b8, e_b8, h⟩ := x_bnd h
      obtain ⟨v9, H7, e_H7, h⟩ := x_b2 h
      refine x_callVi (as := [.inl x3, .inl x2]) (st := []) cs_X12_375 (ci := 11) ⟨rfl, rfl⟩ rfl rfl hz (by omega) (by decide) dX12_begins_49 e_b8 (M_X12_till e_H7) ?_
      refine x_istore (pl' := [xA x0, xI x1, xI x2, xI x3, xI v9, xN]) hz dX12_begins_52 (by decide) rfl ?_
      refine x_aload_n hz dX12_begins_54 rfl ?_
      refine x_iload_n hz dX12_begins_55 rfl ?_
      refine x_iload_n hz dX12_begins_56 rfl ?_
      obtain ⟨b11, e_b11, h⟩ := x_bnd h
      obtain ⟨v12, H10, e_H10, h⟩ := x_b2 h
      refine x_callVi (as := [.inl x1, .inl x3]) (st := []) cs_X12_364 (ci := 11) ⟨rfl, rfl⟩ rfl rfl hz (by omega) (by decide) dX12_begins_57 e_b11 (M_X12_paysAt e_H10) ?_
      refine x_istore (pl' := [xA x0, xI x1, xI x2, xI x3, xI v9, xI v12]) hz dX12_begins_60 (by decide) rfl ?_
      refine x_aload_n hz dX12_begins_62 rfl ?_
      obtain ⟨v13, e_v13, h⟩ := x_bnd h
      refine x_getA hz dX12_begins_63 fs_X12_97 e_v13 ?_
      refine x_iload hz dX12_begins_66 rfl ?_
      refine x_aload_n hz dX12_begins_68 rfl ?_
      obtain ⟨v14, e_v14, h⟩ := x_bnd h
      refine x_getA hz dX12_begins_69 fs_X12_97 e_v14 ?_
      refine x_iload hz dX12_begins_72 rfl ?_
      obtain ⟨v15, e_v15, h⟩ := x_bnd h
      refine x_iald hz dX12_begins_74 e_v15 ?_
      refine x_sipush (v := (-5000 : Int32)) hz dX12_begins_75 (by decide) ?_
      refine x_icmp_eq (t := 93) hz dX12_begins_78 (by decide) (fun c16 => ?_) (fun c16 => ?_)
      · replace h := x_ip c16 h
        exact x_wk (xwk_c (xwk_c (xwk_c (xwk_c (xwk_n (xwk_c xwk_0)))))) ((P_X12_begins_J93 hZ hk27) x0 x1 x2 x3 v12 v13 v9 H10 h)
      · replace h := x_in c16 h
        refine x_aload_n hz dX12_begins_81 rfl ?_
        obtain ⟨v17, e_v17, h⟩ := x_bnd h
        refine x_getA hz dX12_begins_82 fs_X12_97 e_v17 ?_
        refine x_iload hz dX12_begins_85 rfl ?_
        obtain ⟨v18, e_v18, h⟩ := x_bnd h
        refine x_iald hz dX12_begins_87 e_v18 ?_
        refine x_iload hz dX12_begins_88 rfl ?_
        refine x_icmp_ne (t := 98) hz dX12_begins_90 (by decide) (fun c19 => ?_) (fun c19 => ?_)
        · replace h := x_in c19 h
          refine x_sipush (v := (5000 : Int32)) hz dX12_begins_98 (by decide) ?_
          exact x_wk (xwk_c (xwk_c (xwk_c (xwk_c (xwk_n (xwk_n xwk_0)))))) ((P_X12_begins_J101 hZ hk27) x0 x1 x2 x3 v13 v9 (5000 : Int32) H10 h)
        · replace h := x_ip c19 h
          exact x_wk (xwk_c (xwk_c (xwk_c (xwk_c (xwk_n (xwk_c xwk_0)))))) ((P_X12_begins_J93 hZ hk27) x0 x1 x2 x3 v12 v13 v9 H10 h)
    · replace h := x_ip c6 h
      refine x_goto (t := 102) hz dX12_begins_43 (by decide) ?_
      exact x_wk (xwk_c (xwk_c (xwk_c (xwk_c (xwk_n (xwk_n xwk_0)))))) ((P_X12_begins_J102 hZ hk27) x0 x1 x2 x3 H3 h)
noncomputable def F_X12_begins_L27 (N : Nat) : Nat → (Option Nat) → Int32 → Int32 → Int32 → xH → Option xH
  | 0 => fun _ _ _ _ _ => none
  | n + 1 => F_X12_begins_J27 N (F_X12_begins_L27 N n)
theorem P_X12_begins_L27 {N : Nat} {Z : xZ} {Hf : xH} (hZ : Z = xZm cX12_begins yX12_begins 6 2 none none Hf) : ∀ (n : Nat) (x0 : (Option Nat)) (x1 : Int32) (x2 : Int32) (x3 : Int32) (H : xH), F_X12_begins_L27 N n x0 x1 x2 x3 H = some Hf → xWq Z H 27 [xA x0, xI x1, xI x2, xI x3, xN, xN] [] := by
  intro n
  induction n with
  | zero => intro _ _ _ _ _ h; cases h
  | succ n ih => exact P_X12_begins_J27 hZ ih
noncomputable def F_X12_begins_J25 (N : Nat) (x0 : (Option Nat)) (x1 : Int32) (x2 : Int32) (H : xH) : Option xH :=
  (F_X12_begins_L27 N N) x0 x1 x2 (0 : Int32) H
set_option maxRecDepth 20000 in
set_option maxHeartbeats 4000000 in
theorem P_X12_begins_J25 {N : Nat} {Z : xZ} {Hf : xH} (hZ : Z = xZm cX12_begins yX12_begins 6 2 none none Hf) : ∀ (x0 : (Option Nat)) (x1 : Int32) (x2 : Int32) (H : xH), F_X12_begins_J25 N x0 x1 x2 H = some Hf → xWq Z H 25 [xA x0, xI x1, xI x2, xN, xN, xN] [] := by
  have hz : Z.1 = (cX12_begins, yX12_begins, 6) := by rw [hZ]; rfl
  have hδ : Z.2.1 = 2 := by rw [hZ]; rfl
  intro x0 x1 x2 H h
  unfold F_X12_begins_J25 at h
  refine x_iconst (v := (0 : Int32)) hz dX12_begins_25 (by decide) ?_
  refine x_istore_n (pl' := [xA x0, xI x1, xI x2, xI (0 : Int32), xN, xN]) hz dX12_begins_26 (by decide) rfl ?_
  exact x_wk (xwk_c (xwk_c (xwk_c (xwk_c (xwk_n (xwk_n xwk_0)))))) ((P_X12_begins_L27 hZ N) x0 x1 x2 (0 : Int32) H h)
noncomputable def F_X12_begins (N : Nat) (a0 : (Option Nat)) (a1 : Int32) (a2 : Int32) (H : xH) : Option xH :=
  (F_X12_begins_L2 N (F_X12_begins_J25 N) N) a0 a1 a2 (0 : Int32) H
set_option maxRecDepth 20000 in
set_option maxHeartbeats 4000000 in
theorem P_X12_begins {N : Nat} {Z : xZ} {Hf : xH} (hZ : Z = xZm cX12_begins yX12_begins 6 2 none none Hf) : ∀ (a0 : (Option Nat)) (a1 : Int32) (a2 : Int32) (H : xH), F_X12_begins N a0 a1 a2 H = some Hf → xWq Z H 0 [xA a0, xI a1, xI a2, xN, xN, xN] [] := by
  have hz : Z.1 = (cX12_begins, yX12_begins, 6) := by rw [hZ]; rfl
  have hδ : Z.2.1 = 2 := by rw [hZ]; rfl
  intro a0 a1 a2 H h
  unfold F_X12_begins at h
  refine x_iconst (v := (0 : Int32)) hz dX12_begins_0 (by decide) ?_
  refine x_istore_n (pl' := [xA a0, xI a1, xI a2, xI (0 : Int32), xN, xN]) hz dX12_begins_1 (by decide) rfl ?_
  exact x_wk (xwk_c (xwk_c (xwk_c (xwk_c (xwk_n (xwk_n xwk_0)))))) ((P_X12_begins_L2 hZ (P_X12_begins_J25 hZ) N) a0 a1 a2 (0 : Int32) H h)
theorem M_X12_begins {N : Nat} {a0 : (Option Nat)} {a1 : Int32} {a2 : Int32} {H H1 : xH} (h : F_X12_begins N a0 a1 a2 H = some H1) : xM yX12_begins cX12_begins 6 none 2 [.inr (.inr a0), .inl a1, .inl a2] H none H1 :=
  xM_of (by decide +kernel) (xT_tb 1412 (by decide +kernel) (by decide +kernel)) (by simp [xargs, x2]) rfl (P_X12_begins rfl a0 a1 a2 H h)
/-! BettingBookModel.when(II)I -/
noncomputable def F_X12_when_J28 (N : Nat) (k28 : (Option Nat) → Int32 → Int32 → Int32 → xH → Option (Int32 × xH)) (x0 : (Option Nat)) (x1 : Int32) (x2 : Int32) (x3 : Int32) (H : xH) : Option (Int32 × xH) :=
  if (7 : Int32) ≤ x3 then (some ((7 : Int32), H)) else ((xob H x0 11).bind fun b3 =>
  (F_X12_begins N x0 x1 x3 H).bind fun H2 =>
  (xgA H2 x0 11 50).bind fun v4 =>
  (xob H2 x0 11).bind fun b6 =>
  x_bd2 (F_X12_till N x0 x2 x3 H2) fun v7 H5 =>
  (xlI .int H5 v4 v7).bind fun v8 =>
  if v8 = (5000 : Int32) then (k28 x0 x1 x2 (x3 + 1) H5) else (some (x3, H5)))
set_option maxRecDepth 20000 in
set_option maxHeartbeats 4000000 in
theorem P_X12_when_J28 {N : Nat} {Z : xZ} {rv : Int32} {Hf : xH} (hZ : Z = xZm cX12_when yX12_when 4 3 (some .int) (some (.int rv)) Hf) {k28 : (Option Nat) → Int32 → Int32 → Int32 → xH → Option (Int32 × xH)} (hk28 : ∀ (x0 : (Option Nat)) (x1 : Int32) (x2 : Int32) (x3 : Int32) (H : xH), k28 x0 x1 x2 x3 H = some (rv, Hf) → xWq Z H 28 [xA x0, xI x1, xI x2, xI x3] []) : ∀ (x0 : (Option Nat)) (x1 : Int32) (x2 : Int32) (x3 : Int32) (H : xH), F_X12_when_J28 N k28 x0 x1 x2 x3 H = some (rv, Hf) → xWq Z H 28 [xA x0, xI x1, xI x2, xI x3] [] := by
  have hz : Z.1 = (cX12_when, yX12_when, 4) := by rw [hZ]; rfl
  have hδ : Z.2.1 = 3 := by rw [hZ]; rfl
  intro x0 x1 x2 x3 H h
  unfold F_X12_when_J28 at h
  refine x_iload_n hz dX12_when_28 rfl ?_
  refine x_bipush (v := (7 : Int32)) hz dX12_when_29 (by decide) ?_
  refine x_icmp_ge (t := 65) hz dX12_when_31 (by decide) (fun c1 => ?_) (fun c1 => ?_)
  · replace h := x_ip c1 h
    refine x_bipush (v := (7 : Int32)) hz dX12_when_65 (by decide) ?_
    cases h
    exact x_iret hZ dX12_when_67
  · replace h := x_in c1 h
    refine x_aload_n hz dX12_when_34 rfl ?_
    refine x_iload_n hz dX12_when_35 rfl ?_
    refine x_iload_n hz dX12_when_36 rfl ?_
    obtain ⟨b3, e_b3, h⟩ := x_bnd h
    obtain ⟨H2, e_H2, h⟩ := x_bnd h
    refine x_callVv (as := [.inl x1, .inl x3]) (st := []) cs_X12_378 (ci := 11) ⟨rfl, rfl⟩ rfl rfl hz (by omega) (by decide) dX12_when_37 e_b3 (M_X12_begins e_H2) ?_
    refine x_aload_n hz dX12_when_40 rfl ?_
    obtain ⟨v4, e_v4, h⟩ := x_bnd h
    refine x_getA hz dX12_when_41 fs_X12_97 e_v4 ?_
    refine x_aload_n hz dX12_when_44 rfl ?_
    refine x_iload_n hz dX12_when_45 rfl ?_
    refine x_iload_n hz dX12_when_46 rfl ?_
    obtain ⟨b6, e_b6, h⟩ := x_bnd h
    obtain ⟨v7, H5, e_H5, h⟩ := x_b2 h
    refine x_callVi (as := [.inl x2, .inl x3]) (st := [va_rf v4]) cs_X12_375 (ci := 11) ⟨rfl, rfl⟩ rfl rfl hz (by omega) (Nat.le_trans (x_sm1 (x_rfc _) x_sm0) (by decide)) dX12_when_47 e_b6 (M_X12_till e_H5) ?_
    obtain ⟨v8, e_v8, h⟩ := x_bnd h
    refine x_iald hz dX12_when_50 e_v8 ?_
    refine x_sipush (v := (5000 : Int32)) hz dX12_when_51 (by decide) ?_
    refine x_icmp_eq (t := 59) hz dX12_when_54 (by decide) (fun c9 => ?_) (fun c9 => ?_)
    · replace h := x_ip c9 h
      refine x_iinc (w := (x3 + 1)) (pl' := [xA x0, xI x1, xI x2, xI (x3 + 1)]) hz dX12_when_59 rfl rfl (by decide) rfl ?_
      refine x_goto (t := 28) hz dX12_when_62 (by decide) ?_
      exact x_wk (xwk_c (xwk_c (xwk_c (xwk_c xwk_0)))) (hk28 x0 x1 x2 (x3 + 1) H5 h)
    · replace h := x_in c9 h
      refine x_iload_n hz dX12_when_57 rfl ?_
      cases h
      exact x_iret hZ dX12_when_58
noncomputable def F_X12_when_L28 (N : Nat) : Nat → (Option Nat) → Int32 → Int32 → Int32 → xH → Option (Int32 × xH)
  | 0 => fun _ _ _ _ _ => none
  | n + 1 => F_X12_when_J28 N (F_X12_when_L28 N n)
theorem P_X12_when_L28 {N : Nat} {Z : xZ} {rv : Int32} {Hf : xH} (hZ : Z = xZm cX12_when yX12_when 4 3 (some .int) (some (.int rv)) Hf) : ∀ (n : Nat) (x0 : (Option Nat)) (x1 : Int32) (x2 : Int32) (x3 : Int32) (H : xH), F_X12_when_L28 N n x0 x1 x2 x3 H = some (rv, Hf) → xWq Z H 28 [xA x0, xI x1, xI x2, xI x3] [] := by
  intro n
  induction n with
  | zero => intro _ _ _ _ _ h; cases h
  | succ n ih => exact P_X12_when_J28 hZ ih
noncomputable def F_X12_when (N : Nat) (a0 : (Option Nat)) (a1 : Int32) (a2 : Int32) (H : xH) : Option (Int32 × xH) :=
  (xob H a0 11).bind fun b2 =>
  x_bd2 (F_X12_isWager N a0 a1 H) fun v3 H1 =>
  if v3 = 0 then (some ((-1 : Int32), H1)) else ((xob H1 a0 11).bind fun b6 =>
  x_bd2 (F_X12_isRow N a0 a2 H1) fun v7 H5 =>
  if v7 = 0 then (some ((-1 : Int32), H5)) else ((xob H5 a0 11).bind fun b10 =>
  x_bd2 (F_X12_isPossible N a0 a2 H5) fun v11 H9 =>
  if v11 = 0 then (some ((-1 : Int32), H9)) else ((F_X12_when_L28 N N) a0 a1 a2 (0 : Int32) H9)))
set_option maxRecDepth 20000 in
set_option maxHeartbeats 4000000 in
theorem P_X12_when {N : Nat} {Z : xZ} {rv : Int32} {Hf : xH} (hZ : Z = xZm cX12_when yX12_when 4 3 (some .int) (some (.int rv)) Hf) : ∀ (a0 : (Option Nat)) (a1 : Int32) (a2 : Int32) (H : xH), F_X12_when N a0 a1 a2 H = some (rv, Hf) → xWq Z H 0 [xA a0, xI a1, xI a2, xN] [] := by
  have hz : Z.1 = (cX12_when, yX12_when, 4) := by rw [hZ]; rfl
  have hδ : Z.2.1 = 3 := by rw [hZ]; rfl
  intro a0 a1 a2 H h
  unfold F_X12_when at h
  refine x_aload_n hz dX12_when_0 rfl ?_
  refine x_iload_n hz dX12_when_1 rfl ?_
  obtain ⟨b2, e_b2, h⟩ := x_bnd h
  obtain ⟨v3, H1, e_H1, h⟩ := x_b2 h
  refine x_callVi (as := [.inl a1]) (st := []) cs_X12_361 (ci := 11) ⟨rfl, rfl⟩ rfl rfl hz (by omega) (by decide) dX12_when_2 e_b2 (M_X12_isWager e_H1) ?_
  refine x_if_eq (t := 24) hz dX12_when_5 (by decide) (fun c4 => ?_) (fun c4 => ?_)
  · replace h := x_ip c4 h
    refine x_iconst (v := (-1 : Int32)) hz dX12_when_24 (by decide) ?_
    cases h
    exact x_iret hZ dX12_when_25
  · replace h := x_in c4 h
    refine x_aload_n hz dX12_when_8 rfl ?_
    refine x_iload_n hz dX12_when_9 rfl ?_
    obtain ⟨b6, e_b6, h⟩ := x_bnd h
    obtain ⟨v7, H5, e_H5, h⟩ := x_b2 h
    refine x_callVi (as := [.inl a2]) (st := []) cs_X12_358 (ci := 11) ⟨rfl, rfl⟩ rfl rfl hz (by omega) (by decide) dX12_when_10 e_b6 (M_X12_isRow e_H5) ?_
    refine x_if_eq (t := 24) hz dX12_when_13 (by decide) (fun c8 => ?_) (fun c8 => ?_)
    · replace h := x_ip c8 h
      refine x_iconst (v := (-1 : Int32)) hz dX12_when_24 (by decide) ?_
      cases h
      exact x_iret hZ dX12_when_25
    · replace h := x_in c8 h
      refine x_aload_n hz dX12_when_16 rfl ?_
      refine x_iload_n hz dX12_when_17 rfl ?_
      obtain ⟨b10, e_b10, h⟩ := x_bnd h
      obtain ⟨v11, H9, e_H9, h⟩ := x_b2 h
      refine x_callVi (as := [.inl a2]) (st := []) cs_X12_342 (ci := 11) ⟨rfl, rfl⟩ rfl rfl hz (by omega) (by decide) dX12_when_18 e_b10 (M_X12_isPossible e_H9) ?_
      refine x_if_ne (t := 26) hz dX12_when_21 (by decide) (fun c12 => ?_) (fun c12 => ?_)
      · replace h := x_in c12 h
        refine x_iconst (v := (0 : Int32)) hz dX12_when_26 (by decide) ?_
        refine x_istore_n (pl' := [xA a0, xI a1, xI a2, xI (0 : Int32)]) hz dX12_when_27 (by decide) rfl ?_
        exact x_wk (xwk_c (xwk_c (xwk_c (xwk_c xwk_0)))) ((P_X12_when_L28 hZ N) a0 a1 a2 (0 : Int32) H9 h)
      · replace h := x_ip c12 h
        refine x_iconst (v := (-1 : Int32)) hz dX12_when_24 (by decide) ?_
        cases h
        exact x_iret hZ dX12_when_25
theorem M_X12_when {N : Nat} {a0 : (Option Nat)} {a1 : Int32} {a2 : Int32} {H H1 : xH} {r1 : Int32} (h : F_X12_when N a0 a1 a2 H = some (r1, H1)) : xM yX12_when cX12_when 4 (some .int) 3 [.inr (.inr a0), .inl a1, .inl a2] H (some (.int r1)) H1 :=
  xM_of (by decide +kernel) (xT_tb 1408 (by decide +kernel) (by decide +kernel)) (by simp [xargs, x2]) rfl (P_X12_when rfl a0 a1 a2 H h)
/-! BettingBookModel.latest(I)I -/
noncomputable def F_X12_latest_J62 (N : Nat) (k25 : (Option Nat) → Int32 → Int32 → Int32 → xH → Option (Int32 × xH)) (x0 : (Option Nat)) (x1 : Int32) (x2 : Int32) (x3 : Int32) (H : xH) : Option (Int32 × xH) :=
  k25 x0 x1 x2 (x3 + 1) H
set_option maxRecDepth 20000 in
set_option maxHeartbeats 4000000 in
theorem P_X12_latest_J62 {N : Nat} {Z : xZ} {rv : Int32} {Hf : xH} (hZ : Z = xZm cX12_latest yX12_latest 4 3 (some .int) (some (.int rv)) Hf) {k25 : (Option Nat) → Int32 → Int32 → Int32 → xH → Option (Int32 × xH)} (hk25 : ∀ (x0 : (Option Nat)) (x1 : Int32) (x2 : Int32) (x3 : Int32) (H : xH), k25 x0 x1 x2 x3 H = some (rv, Hf) → xWq Z H 25 [xA x0, xI x1, xI x2, xI x3] []) : ∀ (x0 : (Option Nat)) (x1 : Int32) (x2 : Int32) (x3 : Int32) (H : xH), F_X12_latest_J62 N k25 x0 x1 x2 x3 H = some (rv, Hf) → xWq Z H 62 [xA x0, xI x1, xI x2, xI x3] [] := by
  have hz : Z.1 = (cX12_latest, yX12_latest, 4) := by rw [hZ]; rfl
  have hδ : Z.2.1 = 3 := by rw [hZ]; rfl
  intro x0 x1 x2 x3 H h
  unfold F_X12_latest_J62 at h
  refine x_iinc (w := (x3 + 1)) (pl' := [xA x0, xI x1, xI x2, xI (x3 + 1)]) hz dX12_latest_62 rfl rfl (by decide) rfl ?_
  refine x_goto (t := 25) hz dX12_latest_65 (by decide) ?_
  exact x_wk (xwk_c (xwk_c (xwk_c (xwk_c xwk_0)))) (hk25 x0 x1 x2 (x3 + 1) H h)
noncomputable def F_X12_latest_J25 (N : Nat) (k25 : (Option Nat) → Int32 → Int32 → Int32 → xH → Option (Int32 × xH)) (k58 : Int32 → xH → Option (Int32 × xH)) (k68 : (Option Nat) → Int32 → Int32 → xH → Option (Int32 × xH)) (x0 : (Option Nat)) (x1 : Int32) (x2 : Int32) (x3 : Int32) (H : xH) : Option (Int32 × xH) :=
  (xgI H x0 11 41).bind fun v1 =>
  if v1 ≤ x3 then (k68 x0 x1 x2 H) else ((xob H x0 11).bind fun b4 =>
  x_bd2 (F_X12_isLeft N x0 x3 H) fun v5 H3 =>
  if v5 = 0 then ((F_X12_latest_J62 N k25) x0 x1 x2 x3 H3) else ((xgA H3 x0 11 50).bind fun v7 =>
  (xob H3 x0 11).bind fun b9 =>
  x_bd2 (F_X12_till N x0 x3 x2 H3) fun v10 H8 =>
  (xlI .int H8 v7 v10).bind fun v11 =>
  if v11 = (5000 : Int32) then (k58 x2 H8) else ((F_X12_latest_J62 N k25) x0 x1 x2 x3 H8)))
set_option maxRecDepth 20000 in
set_option maxHeartbeats 4000000 in
theorem P_X12_latest_J25 {N : Nat} {Z : xZ} {rv : Int32} {Hf : xH} (hZ : Z = xZm cX12_latest yX12_latest 4 3 (some .int) (some (.int rv)) Hf) {k25 : (Option Nat) → Int32 → Int32 → Int32 → xH → Option (Int32 × xH)} (hk25 : ∀ (x0 : (Option Nat)) (x1 : Int32) (x2 : Int32) (x3 : Int32) (H : xH), k25 x0 x1 x2 x3 H = some (rv, Hf) → xWq Z H 25 [xA x0, xI x1, xI x2, xI x3] []) {k58 : Int32 → xH → Option (Int32 × xH)} (hk58 : ∀ (x2 : Int32) (H : xH), k58 x2 H = some (rv, Hf) → xWq Z H 58 [xN, xN, xI x2, xN] []) {k68 : (Option Nat) → Int32 → Int32 → xH → Option (Int32 × xH)} (hk68 : ∀ (x0 : (Option Nat)) (x1 : Int32) (x2 : Int32) (H : xH), k68 x0 x1 x2 H = some (rv, Hf) → xWq Z H 68 [xA x0, xI x1, xI x2, xN] []) : ∀ (x0 : (Option Nat)) (x1 : Int32) (x2 : Int32) (x3 : Int32) (H : xH), F_X12_latest_J25 N k25 k58 k68 x0 x1 x2 x3 H = some (rv, Hf) → xWq Z H 25 [xA x0, xI x1, xI x2, xI x3] [] := by
  have hz : Z.1 = (cX12_latest, yX12_latest, 4) := by rw [hZ]; rfl
  have hδ : Z.2.1 = 3 := by rw [hZ]; rfl
  intro x0 x1 x2 x3 H h
  unfold F_X12_latest_J25 at h
  refine x_iload_n hz dX12_latest_25 rfl ?_
  refine x_aload_n hz dX12_latest_26 rfl ?_
  obtain ⟨v1, e_v1, h⟩ := x_bnd h
  refine x_getI hz dX12_latest_27 fs_X12_329 e_v1 ?_
  refine x_icmp_ge (t := 68) hz dX12_latest_30 (by decide) (fun c2 => ?_) (fun c2 => ?_)
  · replace h := x_ip c2 h
    exact x_wk (xwk_c (xwk_c (xwk_c (xwk_n xwk_0)))) (hk68 x0 x1 x2 H h)
  · replace h := x_in c2 h
    refine x_aload_n hz dX12_latest_33 rfl ?_
    refine x_iload_n hz dX12_latest_34 rfl ?_
    obtain ⟨b4, e_b4, h⟩ := x_bnd h
    obtain ⟨v5, H3, e_H3, h⟩ := x_b2 h
    refine x_callVi (as := [.inl x3]) (st := []) cs_X12_348 (ci := 11) ⟨rfl, rfl⟩ rfl rfl hz (by omega) (by decide) dX12_latest_35 e_b4 (M_X12_isLeft e_H3) ?_
    refine x_if_eq (t := 62) hz dX12_latest_38 (by decide) (fun c6 => ?_) (fun c6 => ?_)
    · replace h := x_ip c6 h
      exact x_wk (xwk_c (xwk_c (xwk_c (xwk_c xwk_0)))) ((P_X12_latest_J62 hZ hk25) x0 x1 x2 x3 H3 h)
    · replace h := x_in c6 h
      refine x_aload_n hz dX12_latest_41 rfl ?_
      obtain ⟨v7, e_v7, h⟩ := x_bnd h
      refine x_getA hz dX12_latest_42 fs_X12_97 e_v7 ?_
      refine x_aload_n hz dX12_latest_45 rfl ?_
      refine x_iload_n hz dX12_latest_46 rfl ?_
      refine x_iload_n hz dX12_latest_47 rfl ?_
      obtain ⟨b9, e_b9, h⟩ := x_bnd h
      obtain ⟨v10, H8, e_H8, h⟩ := x_b2 h
      refine x_callVi (as := [.inl x3, .inl x2]) (st := [va_rf v7]) cs_X12_375 (ci := 11) ⟨rfl, rfl⟩ rfl rfl hz (by omega) (Nat.le_trans (x_sm1 (x_rfc _) x_sm0) (by decide)) dX12_latest_48 e_b9 (M_X12_till e_H8) ?_
      obtain ⟨v11, e_v11, h⟩ := x_bnd h
      refine x_iald hz dX12_latest_51 e_v11 ?_
      refine x_sipush (v := (5000 : Int32)) hz dX12_latest_52 (by decide) ?_
      refine x_icmp_ne (t := 62) hz dX12_latest_55 (by decide) (fun c12 => ?_) (fun c12 => ?_)
      · replace h := x_in c12 h
        exact x_wk (xwk_c (xwk_c (xwk_c (xwk_c xwk_0)))) ((P_X12_latest_J62 hZ hk25) x0 x1 x2 x3 H8 h)
      · replace h := x_ip c12 h
        exact x_wk (xwk_n (xwk_n (xwk_c (xwk_n xwk_0)))) (hk58 x2 H8 h)
noncomputable def F_X12_latest_L25 (N : Nat) (k58 : Int32 → xH → Option (Int32 × xH)) (k68 : (Option Nat) → Int32 → Int32 → xH → Option (Int32 × xH)) : Nat → (Option Nat) → Int32 → Int32 → Int32 → xH → Option (Int32 × xH)
  | 0 => fun _ _ _ _ _ => none
  | n + 1 => F_X12_latest_J25 N (F_X12_latest_L25 N k58 k68 n) k58 k68
theorem P_X12_latest_L25 {N : Nat} {Z : xZ} {rv : Int32} {Hf : xH} (hZ : Z = xZm cX12_latest yX12_latest 4 3 (some .int) (some (.int rv)) Hf) {k58 : Int32 → xH → Option (Int32 × xH)} (hk58 : ∀ (x2 : Int32) (H : xH), k58 x2 H = some (rv, Hf) → xWq Z H 58 [xN, xN, xI x2, xN] []) {k68 : (Option Nat) → Int32 → Int32 → xH → Option (Int32 × xH)} (hk68 : ∀ (x0 : (Option Nat)) (x1 : Int32) (x2 : Int32) (H : xH), k68 x0 x1 x2 H = some (rv, Hf) → xWq Z H 68 [xA x0, xI x1, xI x2, xN] []) : ∀ (n : Nat) (x0 : (Option Nat)) (x1 : Int32) (x2 : Int32) (x3 : Int32) (H : xH), F_X12_latest_L25 N k58 k68 n x0 x1 x2 x3 H = some (rv, Hf) → xWq Z H 25 [xA x0, xI x1, xI x2, xI x3] [] := by
  intro n
  induction n with
  | zero => intro _ _ _ _ _ h; cases h
  | succ n ih => exact P_X12_latest_J25 hZ ih hk58 hk68
noncomputable def F_X12_latest_J68 (N : Nat) (k13 : (Option Nat) → Int32 → Int32 → xH → Option (Int32 × xH)) (x0 : (Option Nat)) (x1 : Int32) (x2 : Int32) (H : xH) : Option (Int32 × xH) :=
  k13 x0 x1 (x2 + (-1)) H
set_option maxRecDepth 20000 in
set_option maxHeartbeats 4000000 in
theorem P_X12_latest_J68 {N : Nat} {Z : xZ} {rv : Int32} {Hf : xH} (hZ : Z = xZm cX12_latest yX12_latest 4 3 (some .int) (some (.int rv)) Hf) {k13 : (Option Nat) → Int32 → Int32 → xH → Option (Int32 × xH)} (hk13 : ∀ (x0 : (Option Nat)) (x1 : Int32) (x2 : Int32) (H : xH), k13 x0 x1 x2 H = some (rv, Hf) → xWq Z H 13 [xA x0, xI x1, xI x2, xN] []) : ∀ (x0 : (Option Nat)) (x1 : Int32) (x2 : Int32) (H : xH), F_X12_latest_J68 N k13 x0 x1 x2 H = some (rv, Hf) → xWq Z H 68 [xA x0, xI x1, xI x2, xN] [] := by
  have hz : Z.1 = (cX12_latest, yX12_latest, 4) := by rw [hZ]; rfl
  have hδ : Z.2.1 = 3 := by rw [hZ]; rfl
  intro x0 x1 x2 H h
  unfold F_X12_latest_J68 at h
  refine x_iinc (w := (x2 + (-1))) (pl' := [xA x0, xI x1, xI (x2 + (-1)), xN]) hz dX12_latest_68 rfl rfl (by decide) rfl ?_
  refine x_goto (t := 13) hz dX12_latest_71 (by decide) ?_
  exact x_wk (xwk_c (xwk_c (xwk_c (xwk_n xwk_0)))) (hk13 x0 x1 (x2 + (-1)) H h)
noncomputable def F_X12_latest_J13 (N : Nat) (k13 : (Option Nat) → Int32 → Int32 → xH → Option (Int32 × xH)) (k58 : Int32 → xH → Option (Int32 × xH)) (x0 : (Option Nat)) (x1 : Int32) (x2 : Int32) (H : xH) : Option (Int32 × xH) :=
  if x2 < 0 then (some ((0 : Int32), H)) else ((xob H x0 11).bind fun b3 =>
  (F_X12_begins N x0 x1 x2 H).bind fun H2 =>
  (F_X12_latest_L25 N k58 (F_X12_latest_J68 N k13) N) x0 x1 x2 (0 : Int32) H2)
set_option maxRecDepth 20000 in
set_option maxHeartbeats 4000000 in
theorem P_X12_latest_J13 {N : Nat} {Z : xZ} {rv : Int32} {Hf : xH} (hZ : Z = xZm cX12_latest yX12_latest 4 3 (some .int) (some (.int rv)) Hf) {k13 : (Option Nat) → Int32 → Int32 → xH → Option (Int32 × xH)} (hk13 : ∀ (x0 : (Option Nat)) (x1 : Int32) (x2 : Int32) (H : xH), k13 x0 x1 x2 H = some (rv, Hf) → xWq Z H 13 [xA x0, xI x1, xI x2, xN] []) {k58 : Int32 → xH → Option (Int32 × xH)} (hk58 : ∀ (x2 : Int32) (H : xH), k58 x2 H = some (rv, Hf) → xWq Z H 58 [xN, xN, xI x2, xN] []) : ∀ (x0 : (Option Nat)) (x1 : Int32) (x2 : Int32) (H : xH), F_X12_latest_J13 N k13 k58 x0 x1 x2 H = some (rv, Hf) → xWq Z H 13 [xA x0, xI x1, xI x2, xN] [] := by
  have hz : Z.1 = (cX12_latest, yX12_latest, 4) := by rw [hZ]; rfl
  have hδ : Z.2.1 = 3 := by rw [hZ]; rfl
  intro x0 x1 x2 H h
  unfold F_X12_latest_J13 at h
  refine x_iload_n hz dX12_latest_13 rfl ?_
  refine x_if_lt (t := 74) hz dX12_latest_14 (by decide) (fun c1 => ?_) (fun c1 => ?_)
  · replace h := x_ip c1 h
    refine x_iconst (v := (0 : Int32)) hz dX12_latest_74 (by decide) ?_
    cases h
    exact x_iret hZ dX12_latest_75
  · replace h := x_in c1 h
    refine x_aload_n hz dX12_latest_17 rfl ?_
    refine x_iload_n hz dX12_latest_18 rfl ?_
    refine x_iload_n hz dX12_latest_19 rfl ?_
    obtain ⟨b3, e_b3, h⟩ := x_bnd h
    obtain ⟨H2, e_H2, h⟩ := x_bnd h
    refine x_callVv (as := [.inl x1, .inl x2]) (st := []) cs_X12_378 (ci := 11) ⟨rfl, rfl⟩ rfl rfl hz (by omega) (by decide) dX12_latest_20 e_b3 (M_X12_begins e_H2) ?_
    refine x_iconst (v := (0 : Int32)) hz dX12_latest_23 (by decide) ?_
    refine x_istore_n (pl' := [xA x0, xI x1, xI x2, xI (0 : Int32)]) hz dX12_latest_24 (by decide) rfl ?_
    exact x_wk (xwk_c (xwk_c (xwk_c (xwk_c xwk_0)))) ((P_X12_latest_L25 hZ hk58 (P_X12_latest_J68 hZ hk13) N) x0 x1 x2 (0 : Int32) H2 h)
noncomputable def F_X12_latest_L13 (N : Nat) (k58 : Int32 → xH → Option (Int32 × xH)) : Nat → (Option Nat) → Int32 → Int32 → xH → Option (Int32 × xH)
  | 0 => fun _ _ _ _ => none
  | n + 1 => F_X12_latest_J13 N (F_X12_latest_L13 N k58 n) k58
theorem P_X12_latest_L13 {N : Nat} {Z : xZ} {rv : Int32} {Hf : xH} (hZ : Z = xZm cX12_latest yX12_latest 4 3 (some .int) (some (.int rv)) Hf) {k58 : Int32 → xH → Option (Int32 × xH)} (hk58 : ∀ (x2 : Int32) (H : xH), k58 x2 H = some (rv, Hf) → xWq Z H 58 [xN, xN, xI x2, xN] []) : ∀ (n : Nat) (x0 : (Option Nat)) (x1 : Int32) (x2 : Int32) (H : xH), F_X12_latest_L13 N k58 n x0 x1 x2 H = some (rv, Hf) → xWq Z H 13 [xA x0, xI x1, xI x2, xN] [] := by
  intro n
  induction n with
  | zero => intro _ _ _ _ h; cases h
  | succ n ih => exact P_X12_latest_J13 hZ ih hk58
noncomputable def F_X12_latest_J58 (N : Nat) (x2 : Int32) (H : xH) : Option (Int32 × xH) :=
  some ((x2 + (1 : Int32)), H)
set_option maxRecDepth 20000 in
set_option maxHeartbeats 4000000 in
theorem P_X12_latest_J58 {N : Nat} {Z : xZ} {rv : Int32} {Hf : xH} (hZ : Z = xZm cX12_latest yX12_latest 4 3 (some .int) (some (.int rv)) Hf) : ∀ (x2 : Int32) (H : xH), F_X12_latest_J58 N x2 H = some (rv, Hf) → xWq Z H 58 [xN, xN, xI x2, xN] [] := by
  have hz : Z.1 = (cX12_latest, yX12_latest, 4) := by rw [hZ]; rfl
  have hδ : Z.2.1 = 3 := by rw [hZ]; rfl
  intro x2 H h
  unfold F_X12_latest_J58 at h
  refine x_iload_n hz dX12_latest_58 rfl ?_
  refine x_iconst (v := (1 : Int32)) hz dX12_latest_59 (by decide) ?_
  refine x_iadd hz dX12_latest_60 ?_
  cases h
  exact x_iret hZ dX12_latest_61
noncomputable def F_X12_latest (N : Nat) (a0 : (Option Nat)) (a1 : Int32) (H : xH) : Option (Int32 × xH) :=
  (xob H a0 11).bind fun b2 =>
  x_bd2 (F_X12_isWager N a0 a1 H) fun v3 H1 =>
  if v3 = 0 then (some ((-1 : Int32), H1)) else ((F_X12_latest_L13 N (F_X12_latest_J58 N) N) a0 a1 (6 : Int32) H1)
set_option maxRecDepth 20000 in
set_option maxHeartbeats 4000000 in
theorem P_X12_latest {N : Nat} {Z : xZ} {rv : Int32} {Hf : xH} (hZ : Z = xZm cX12_latest yX12_latest 4 3 (some .int) (some (.int rv)) Hf) : ∀ (a0 : (Option Nat)) (a1 : Int32) (H : xH), F_X12_latest N a0 a1 H = some (rv, Hf) → xWq Z H 0 [xA a0, xI a1, xN, xN] [] := by
  have hz : Z.1 = (cX12_latest, yX12_latest, 4) := by rw [hZ]; rfl
  have hδ : Z.2.1 = 3 := by rw [hZ]; rfl
  intro a0 a1 H h
  unfold F_X12_latest at h
  refine x_aload_n hz dX12_latest_0 rfl ?_
  refine x_iload_n hz dX12_latest_1 rfl ?_
  obtain ⟨b2, e_b2, h⟩ := x_bnd h
  obtain ⟨v3, H1, e_H1, h⟩ := x_b2 h
  refine x_callVi (as := [.inl a1]) (st := []) cs_X12_361 (ci := 11) ⟨rfl, rfl⟩ rfl rfl hz (by omega) (by decide) dX12_latest_2 e_b2 (M_X12_isWager e_H1) ?_
  refine x_if_ne (t := 10) hz dX12_latest_5 (by decide) (fun c4 => ?_) (fun c4 => ?_)
  · replace h := x_in c4 h
    refine x_bipush (v := (6 : Int32)) hz dX12_latest_10 (by decide) ?_
    refine x_istore_n (pl' := [xA a0, xI a1, xI (6 : Int32), xN]) hz dX12_latest_12 (by decide) rfl ?_
    exact x_wk (xwk_c (xwk_c (xwk_c (xwk_n xwk_0)))) ((P_X12_latest_L13 hZ (P_X12_latest_J58 hZ) N) a0 a1 (6 : Int32) H1 h)
  · replace h := x_ip c4 h
    refine x_iconst (v := (-1 : Int32)) hz dX12_latest_8 (by decide) ?_
    cases h
    exact x_iret hZ dX12_latest_9
theorem M_X12_latest {N : Nat} {a0 : (Option Nat)} {a1 : Int32} {H H1 : xH} {r1 : Int32} (h : F_X12_latest N a0 a1 H = some (r1, H1)) : xM yX12_latest cX12_latest 4 (some .int) 3 [.inr (.inr a0), .inl a1] H (some (.int r1)) H1 :=
  xM_of (by decide +kernel) (xT_tb 1420 (by decide +kernel) (by decide +kernel)) (by simp [xargs, x2]) rfl (P_X12_latest rfl a0 a1 H h)
/-! BettingBookModel.only(II)I -/
noncomputable def F_X12_only_J42 (N : Nat) (k11 : (Option Nat) → Int32 → Int32 → Int32 → Int32 → Int32 → xH → Option (Int32 × xH)) (x0 : (Option Nat)) (x2 : Int32) (x3 : Int32) (x5 : Int32) (x6 : Int32) (s0 : Int32) (s1 : Int32) (H : xH) : Option (Int32 × xH) :=
  k11 x0 x2 (x3 / (9 : Int32)) (s0 + s1) (x5 * (9 : Int32)) (x6 + 1) H
set_option maxRecDepth 20000 in
set_option maxHeartbeats 4000000 in
theorem P_X12_only_J42 {N : Nat} {Z : xZ} {rv : Int32} {Hf : xH} (hZ : Z = xZm cX12_only yX12_only 7 2 (some .int) (some (.int rv)) Hf) {k11 : (Option Nat) → Int32 → Int32 → Int32 → Int32 → Int32 → xH → Option (Int32 × xH)} (hk11 : ∀ (x0 : (Option Nat)) (x2 : Int32) (x3 : Int32) (x4 : Int32) (x5 : Int32) (x6 : Int32) (H : xH), k11 x0 x2 x3 x4 x5 x6 H = some (rv, Hf) → xWq Z H 11 [xA x0, xN, xI x2, xI x3, xI x4, xI x5, xI x6] []) : ∀ (x0 : (Option Nat)) (x2 : Int32) (x3 : Int32) (x5 : Int32) (x6 : Int32) (s0 : Int32) (s1 : Int32) (H : xH), F_X12_only_J42 N k11 x0 x2 x3 x5 x6 s0 s1 H = some (rv, Hf) → xWq Z H 42 [xA x0, xN, xI x2, xI x3, xN, xI x5, xI x6] [.int s1, .int s0] := by
  have hz : Z.1 = (cX12_only, yX12_only, 7) := by rw [hZ]; rfl
  have hδ : Z.2.1 = 2 := by rw [hZ]; rfl
  intro x0 x2 x3 x5 x6 s0 s1 H h
  unfold F_X12_only_J42 at h
  refine x_iadd hz dX12_only_42 ?_
  refine x_istore (pl' := [xA x0, xN, xI x2, xI x3, xI (s0 + s1), xI x5, xI x6]) hz dX12_only_43 (by decide) rfl ?_
  refine x_iload_n hz dX12_only_45 rfl ?_
  refine x_bipush (v := (9 : Int32)) hz dX12_only_46 (by decide) ?_
  refine x_idiv hz dX12_only_48 (by decide) ?_
  refine x_istore_n (pl' := [xA x0, xN, xI x2, xI (x3 / (9 : Int32)), xI (s0 + s1), xI x5, xI x6]) hz dX12_only_49 (by decide) rfl ?_
  refine x_iload hz dX12_only_50 rfl ?_
  refine x_bipush (v := (9 : Int32)) hz dX12_only_52 (by decide) ?_
  refine x_imul hz dX12_only_54 ?_
  refine x_istore (pl' := [xA x0, xN, xI x2, xI (x3 / (9 : Int32)), xI (s0 + s1), xI (x5 * (9 : Int32)), xI x6]) hz dX12_only_55 (by decide) rfl ?_
  refine x_iinc (w := (x6 + 1)) (pl' := [xA x0, xN, xI x2, xI (x3 / (9 : Int32)), xI (s0 + s1), xI (x5 * (9 : Int32)), xI (x6 + 1)]) hz dX12_only_57 rfl rfl (by decide) rfl ?_
  refine x_goto (t := 11) hz dX12_only_60 (by decide) ?_
  exact x_wk (xwk_c (xwk_n (xwk_c (xwk_c (xwk_c (xwk_c (xwk_c xwk_0))))))) (hk11 x0 x2 (x3 / (9 : Int32)) (s0 + s1) (x5 * (9 : Int32)) (x6 + 1) H h)
noncomputable def F_X12_only_J11 (N : Nat) (k11 : (Option Nat) → Int32 → Int32 → Int32 → Int32 → Int32 → xH → Option (Int32 × xH)) (x0 : (Option Nat)) (x2 : Int32) (x3 : Int32) (x4 : Int32) (x5 : Int32) (x6 : Int32) (H : xH) : Option (Int32 × xH) :=
  (xgI H x0 11 0).bind fun v1 =>
  if v1 ≤ x6 then (some (x4, H)) else (x_bd2 (F_X12_bit N x2 x6 H) fun v4 H3 =>
  if v4 = 0 then ((F_X12_only_J42 N k11) x0 x2 x3 x5 x6 x4 (0 : Int32) H3) else ((F_X12_only_J42 N k11) x0 x2 x3 x5 x6 x4 ((x3 - x3 / (9 : Int32) * (9 : Int32)) * x5) H3))
set_option maxRecDepth 20000 in
set_option maxHeartbeats 4000000 in
theorem P_X12_only_J11 {N : Nat} {Z : xZ} {rv : Int32} {Hf : xH} (hZ : Z = xZm cX12_only yX12_only 7 2 (some .int) (some (.int rv)) Hf) {k11 : (Option Nat) → Int32 → Int32 → Int32 → Int32 → Int32 → xH → Option (Int32 × xH)} (hk11 : ∀ (x0 : (Option Nat)) (x2 : Int32) (x3 : Int32) (x4 : Int32) (x5 : Int32) (x6 : Int32) (H : xH), k11 x0 x2 x3 x4 x5 x6 H = some (rv, Hf) → xWq Z H 11 [xA x0, xN, xI x2, xI x3, xI x4, xI x5, xI x6] []) : ∀ (x0 : (Option Nat)) (x2 : Int32) (x3 : Int32) (x4 : Int32) (x5 : Int32) (x6 : Int32) (H : xH), F_X12_only_J11 N k11 x0 x2 x3 x4 x5 x6 H = some (rv, Hf) → xWq Z H 11 [xA x0, xN, xI x2, xI x3, xI x4, xI x5, xI x6] [] := by
  have hz : Z.1 = (cX12_only, yX12_only, 7) := by rw [hZ]; rfl
  have hδ : Z.2.1 = 2 := by rw [hZ]; rfl
  intro x0 x2 x3 x4 x5 x6 H h
  unfold F_X12_only_J11 at h
  refine x_iload hz dX12_only_11 rfl ?_
  refine x_aload_n hz dX12_only_13 rfl ?_
  obtain ⟨v1, e_v1, h⟩ := x_bnd h
  refine x_getI hz dX12_only_14 fs_X12_282 e_v1 ?_
  refine x_icmp_ge (t := 63) hz dX12_only_17 (by decide) (fun c2 => ?_) (fun c2 => ?_)
  · replace h := x_ip c2 h
    refine x_iload hz dX12_only_63 rfl ?_
    cases h
    exact x_iret hZ dX12_only_65
  · replace h := x_in c2 h
    refine x_iload hz dX12_only_20 rfl ?_
    refine x_iload_n hz dX12_only_22 rfl ?_
    refine x_iload hz dX12_only_23 rfl ?_
    obtain ⟨v4, H3, e_H3, h⟩ := x_b2 h
    refine x_callSi (as := [.inl x2, .inl x6]) (st := [.int x4]) cs_X12_345 rfl rfl hz (by omega) (Nat.le_trans (x_sm1 rfl x_sm0) (by decide)) dX12_only_25 (M_X12_bit e_H3) ?_
    refine x_if_eq (t := 41) hz dX12_only_28 (by decide) (fun c5 => ?_) (fun c5 => ?_)
    · replace h := x_ip c5 h
      refine x_iconst (v := (0 : Int32)) hz dX12_only_41 (by decide) ?_
      exact x_wk (xwk_c (xwk_n (xwk_c (xwk_c (xwk_n (xwk_c (xwk_c xwk_0))))))) ((P_X12_only_J42 hZ hk11) x0 x2 x3 x5 x6 x4 (0 : Int32) H3 h)
    · replace h := x_in c5 h
      refine x_iload_n hz dX12_only_31 rfl ?_
      refine x_bipush (v := (9 : Int32)) hz dX12_only_32 (by decide) ?_
      refine x_irem hz dX12_only_34 (by decide) ?_
      refine x_iload hz dX12_only_35 rfl ?_
      refine x_imul hz dX12_only_37 ?_
      refine x_goto (t := 42) hz dX12_only_38 (by decide) ?_
      exact x_wk (xwk_c (xwk_n (xwk_c (xwk_c (xwk_n (xwk_c (xwk_c xwk_0))))))) ((P_X12_only_J42 hZ hk11) x0 x2 x3 x5 x6 x4 ((x3 - x3 / (9 : Int32) * (9 : Int32)) * x5) H3 h)
noncomputable def F_X12_only_L11 (N : Nat) : Nat → (Option Nat) → Int32 → Int32 → Int32 → Int32 → Int32 → xH → Option (Int32 × xH)
  | 0 => fun _ _ _ _ _ _ _ => none
  | n + 1 => F_X12_only_J11 N (F_X12_only_L11 N n)
theorem P_X12_only_L11 {N : Nat} {Z : xZ} {rv : Int32} {Hf : xH} (hZ : Z = xZm cX12_only yX12_only 7 2 (some .int) (some (.int rv)) Hf) : ∀ (n : Nat) (x0 : (Option Nat)) (x2 : Int32) (x3 : Int32) (x4 : Int32) (x5 : Int32) (x6 : Int32) (H : xH), F_X12_only_L11 N n x0 x2 x3 x4 x5 x6 H = some (rv, Hf) → xWq Z H 11 [xA x0, xN, xI x2, xI x3, xI x4, xI x5, xI x6] [] := by
  intro n
  induction n with
  | zero => intro _ _ _ _ _ _ _ h; cases h
  | succ n ih => exact P_X12_only_J11 hZ ih
noncomputable def F_X12_only (N : Nat) (a0 : (Option Nat)) (a1 : Int32) (a2 : Int32) (H : xH) : Option (Int32 × xH) :=
  (F_X12_only_L11 N N) a0 a2 a1 (0 : Int32) (1 : Int32) (0 : Int32) H
set_option maxRecDepth 20000 in
set_option maxHeartbeats 4000000 in
theorem P_X12_only {N : Nat} {Z : xZ} {rv : Int32} {Hf : xH} (hZ : Z = xZm cX12_only yX12_only 7 2 (some .int) (some (.int rv)) Hf) : ∀ (a0 : (Option Nat)) (a1 : Int32) (a2 : Int32) (H : xH), F_X12_only N a0 a1 a2 H = some (rv, Hf) → xWq Z H 0 [xA a0, xI a1, xI a2, xN, xN, xN, xN] [] := by
  have hz : Z.1 = (cX12_only, yX12_only, 7) := by rw [hZ]; rfl
  have hδ : Z.2.1 = 2 := by rw [hZ]; rfl
  intro a0 a1 a2 H h
  unfold F_X12_only at h
  refine x_iload_n hz dX12_only_0 rfl ?_
  refine x_istore_n (pl' := [xA a0, xI a1, xI a2, xI a1, xN, xN, xN]) hz dX12_only_1 (by decide) rfl ?_
  refine x_iconst (v := (0 : Int32)) hz dX12_only_2 (by decide) ?_
  refine x_istore (pl' := [xA a0, xI a1, xI a2, xI a1, xI (0 : Int32), xN, xN]) hz dX12_only_3 (by decide) rfl ?_
  refine x_iconst (v := (1 : Int32)) hz dX12_only_5 (by decide) ?_
  refine x_istore (pl' := [xA a0, xI a1, xI a2, xI a1, xI (0 : Int32), xI (1 : Int32), xN]) hz dX12_only_6 (by decide) rfl ?_
  refine x_iconst (v := (0 : Int32)) hz dX12_only_8 (by decide) ?_
  refine x_istore (pl' := [xA a0, xI a1, xI a2, xI a1, xI (0 : Int32), xI (1 : Int32), xI (0 : Int32)]) hz dX12_only_9 (by decide) rfl ?_
  exact x_wk (xwk_c (xwk_n (xwk_c (xwk_c (xwk_c (xwk_c (xwk_c xwk_0))))))) ((P_X12_only_L11 hZ N) a0 a2 a1 (0 : Int32) (1 : Int32) (0 : Int32) H h)
theorem M_X12_only {N : Nat} {a0 : (Option Nat)} {a1 : Int32} {a2 : Int32} {H H1 : xH} {r1 : Int32} (h : F_X12_only N a0 a1 a2 H = some (r1, H1)) : xM yX12_only cX12_only 7 (some .int) 2 [.inr (.inr a0), .inl a1, .inl a2] H (some (.int r1)) H1 :=
  xM_of (by decide +kernel) (xT_tb 1435 (by decide +kernel) (by decide +kernel)) (by simp [xargs, x2]) rfl (P_X12_only rfl a0 a1 a2 H h)
/-! BettingBookModel.hangsOn(II)Z -/
noncomputable def F_X12_hangsOn_J2 (N : Nat) (k2 : (Option Nat) → Int32 → Int32 → Int32 → xH → Option (Int32 × xH)) (k25 : (Option Nat) → Int32 → Int32 → xH → Option (Int32 × xH)) (x0 : (Option Nat)) (x1 : Int32) (x2 : Int32) (x3 : Int32) (H : xH) : Option (Int32 × xH) :=
  (xgI H x0 11 41).bind fun v1 =>
  if v1 ≤ x3 then (k25 x0 x1 x2 H) else ((xgA H x0 11 50).bind fun v3 =>
  (xsI .int H v3 x3 (-5000 : Int32)).bind fun H4 =>
  k2 x0 x1 x2 (x3 + 1) H4)
set_option maxRecDepth 20000 in
set_option maxHeartbeats 4000000 in
theorem P_X12_hangsOn_J2 {N : Nat} {Z : xZ} {rv : Int32} {Hf : xH} (hZ : Z = xZm cX12_hangsOn yX12_hangsOn 6 3 (some .boolean) (some (.int rv)) Hf) {k2 : (Option Nat) → Int32 → Int32 → Int32 → xH → Option (Int32 × xH)} (hk2 : ∀ (x0 : (Option Nat)) (x1 : Int32) (x2 : Int32) (x3 : Int32) (H : xH), k2 x0 x1 x2 x3 H = some (rv, Hf) → xWq Z H 2 [xA x0, xI x1, xI x2, xI x3, xN, xN] []) {k25 : (Option Nat) → Int32 → Int32 → xH → Option (Int32 × xH)} (hk25 : ∀ (x0 : (Option Nat)) (x1 : Int32) (x2 : Int32) (H : xH), k25 x0 x1 x2 H = some (rv, Hf) → xWq Z H 25 [xA x0, xI x1, xI x2, xN, xN, xN] []) : ∀ (x0 : (Option Nat)) (x1 : Int32) (x2 : Int32) (x3 : Int32) (H : xH), F_X12_hangsOn_J2 N k2 k25 x0 x1 x2 x3 H = some (rv, Hf) → xWq Z H 2 [xA x0, xI x1, xI x2, xI x3, xN, xN] [] := by
  have hz : Z.1 = (cX12_hangsOn, yX12_hangsOn, 6) := by rw [hZ]; rfl
  have hδ : Z.2.1 = 3 := by rw [hZ]; rfl
  intro x0 x1 x2 x3 H h
  unfold F_X12_hangsOn_J2 at h
  refine x_iload_n hz dX12_hangsOn_2 rfl ?_
  refine x_aload_n hz dX12_hangsOn_3 rfl ?_
  obtain ⟨v1, e_v1, h⟩ := x_bnd h
  refine x_getI hz dX12_hangsOn_4 fs_X12_329 e_v1 ?_
  refine x_icmp_ge (t := 25) hz dX12_hangsOn_7 (by decide) (fun c2 => ?_) (fun c2 => ?_)
  · replace h := x_ip c2 h
    exact x_wk (xwk_c (xwk_c (xwk_c (xwk_n (xwk_n (xwk_n xwk_0)))))) (hk25 x0 x1 x2 H h)
  · replace h := x_in c2 h
    refine x_aload_n hz dX12_hangsOn_10 rfl ?_
    obtain ⟨v3, e_v3, h⟩ := x_bnd h
    refine x_getA hz dX12_hangsOn_11 fs_X12_97 e_v3 ?_
    refine x_iload_n hz dX12_hangsOn_14 rfl ?_
    refine x_sipush (v := (-5000 : Int32)) hz dX12_hangsOn_15 (by decide) ?_
    obtain ⟨H4, e_H4, h⟩ := x_bnd h
    refine x_iast hz dX12_hangsOn_18 e_H4 ?_
    refine x_iinc (w := (x3 + 1)) (pl' := [xA x0, xI x1, xI x2, xI (x3 + 1), xN, xN]) hz dX12_hangsOn_19 rfl rfl (by decide) rfl ?_
    refine x_goto (t := 2) hz dX12_hangsOn_22 (by decide) ?_
    exact x_wk (xwk_c (xwk_c (xwk_c (xwk_c (xwk_n (xwk_n xwk_0)))))) (hk2 x0 x1 x2 (x3 + 1) H4 h)
noncomputable def F_X12_hangsOn_L2 (N : Nat) (k25 : (Option Nat) → Int32 → Int32 → xH → Option (Int32 × xH)) : Nat → (Option Nat) → Int32 → Int32 → Int32 → xH → Option (Int32 × xH)
  | 0 => fun _ _ _ _ _ => none
  | n + 1 => F_X12_hangsOn_J2 N (F_X12_hangsOn_L2 N k25 n) k25
theorem P_X12_hangsOn_L2 {N : Nat} {Z : xZ} {rv : Int32} {Hf : xH} (hZ : Z = xZm cX12_hangsOn yX12_hangsOn 6 3 (some .boolean) (some (.int rv)) Hf) {k25 : (Option Nat) → Int32 → Int32 → xH → Option (Int32 × xH)} (hk25 : ∀ (x0 : (Option Nat)) (x1 : Int32) (x2 : Int32) (H : xH), k25 x0 x1 x2 H = some (rv, Hf) → xWq Z H 25 [xA x0, xI x1, xI x2, xN, xN, xN] []) : ∀ (n : Nat) (x0 : (Option Nat)) (x1 : Int32) (x2 : Int32) (x3 : Int32) (H : xH), F_X12_hangsOn_L2 N k25 n x0 x1 x2 x3 H = some (rv, Hf) → xWq Z H 2 [xA x0, xI x1, xI x2, xI x3, xN, xN] [] := by
  intro n
  induction n with
  | zero => intro _ _ _ _ _ h; cases h
  | succ n ih => exact P_X12_hangsOn_J2 hZ ih hk25
noncomputable def F_X12_hangsOn_J98 (N : Nat) (k27 : (Option Nat) → Int32 → Int32 → Int32 → xH → Option (Int32 × xH)) (x0 : (Option Nat)) (x1 : Int32) (x2 : Int32) (x3 : Int32) (H : xH) : Option (Int32 × xH) :=
  k27 x0 x1 x2 (x3 + 1) H
set_option maxRecDepth 20000 in
set_option maxHeartbeats 4000000 in
theorem P_X12_hangsOn_J98 {N : Nat} {Z : xZ} {rv : Int32} {Hf : xH} (hZ : Z = xZm cX12_hangsOn yX12_hangsOn 6 3 (some .boolean) (some (.int rv)) Hf) {k27 : (Option Nat) → Int32 → Int32 → Int32 → xH → Option (Int32 × xH)} (hk27 : ∀ (x0 : (Option Nat)) (x1 : Int32) (x2 : Int32) (x3 : Int32) (H : xH), k27 x0 x1 x2 x3 H = some (rv, Hf) → xWq Z H 27 [xA x0, xI x1, xI x2, xI x3, xN, xN] []) : ∀ (x0 : (Option Nat)) (x1 : Int32) (x2 : Int32) (x3 : Int32) (H : xH), F_X12_hangsOn_J98 N k27 x0 x1 x2 x3 H = some (rv, Hf) → xWq Z H 98 [xA x0, xI x1, xI x2, xI x3, xN, xN] [] := by
  have hz : Z.1 = (cX12_hangsOn, yX12_hangsOn, 6) := by rw [hZ]; rfl
  have hδ : Z.2.1 = 3 := by rw [hZ]; rfl
  intro x0 x1 x2 x3 H h
  unfold F_X12_hangsOn_J98 at h
  refine x_iinc (w := (x3 + 1)) (pl' := [xA x0, xI x1, xI x2, xI (x3 + 1), xN, xN]) hz dX12_hangsOn_98 rfl rfl (by decide) rfl ?_
  refine x_goto (t := 27) hz dX12_hangsOn_101 (by decide) ?_
  exact x_wk (xwk_c (xwk_c (xwk_c (xwk_c (xwk_n (xwk_n xwk_0)))))) (hk27 x0 x1 x2 (x3 + 1) H h)
noncomputable def F_X12_hangsOn_J89 (N : Nat) (k27 : (Option Nat) → Int32 → Int32 → Int32 → xH → Option (Int32 × xH)) (x0 : (Option Nat)) (x1 : Int32) (x2 : Int32) (x3 : Int32) (x4 : Int32) (x5 : Int32) (H : xH) : Option (Int32 × xH) :=
  (xgA H x0 11 50).bind fun v1 =>
  (xsI .int H v1 x4 x5).bind fun H2 =>
  (F_X12_hangsOn_J98 N k27) x0 x1 x2 x3 H2
set_option maxRecDepth 20000 in
set_option maxHeartbeats 4000000 in
theorem P_X12_hangsOn_J89 {N : Nat} {Z : xZ} {rv : Int32} {Hf : xH} (hZ : Z = xZm cX12_hangsOn yX12_hangsOn 6 3 (some .boolean) (some (.int rv)) Hf) {k27 : (Option Nat) → Int32 → Int32 → Int32 → xH → Option (Int32 × xH)} (hk27 : ∀ (x0 : (Option Nat)) (x1 : Int32) (x2 : Int32) (x3 : Int32) (H : xH), k27 x0 x1 x2 x3 H = some (rv, Hf) → xWq Z H 27 [xA x0, xI x1, xI x2, xI x3, xN, xN] []) : ∀ (x0 : (Option Nat)) (x1 : Int32) (x2 : Int32) (x3 : Int32) (x4 : Int32) (x5 : Int32) (H : xH), F_X12_hangsOn_J89 N k27 x0 x1 x2 x3 x4 x5 H = some (rv, Hf) → xWq Z H 89 [xA x0, xI x1, xI x2, xI x3, xI x4, xI x5] [] := by
  have hz : Z.1 = (cX12_hangsOn, yX12_hangsOn, 6) := by rw [hZ]; rfl
  have hδ : Z.2.1 = 3 := by rw [hZ]; rfl
  intro x0 x1 x2 x3 x4 x5 H h
  unfold F_X12_hangsOn_J89 at h
  refine x_aload_n hz dX12_hangsOn_89 rfl ?_
  obtain ⟨v1, e_v1, h⟩ := x_bnd h
  refine x_getA hz dX12_hangsOn_90 fs_X12_97 e_v1 ?_
  refine x_iload hz dX12_hangsOn_93 rfl ?_
  refine x_iload hz dX12_hangsOn_95 rfl ?_
  obtain ⟨H2, e_H2, h⟩ := x_bnd h
  refine x_iast hz dX12_hangsOn_97 e_H2 ?_
  exact x_wk (xwk_c (xwk_c (xwk_c (xwk_c (xwk_n (xwk_n xwk_0)))))) ((P_X12_hangsOn_J98 hZ hk27) x0 x1 x2 x3 H2 h)
noncomputable def F_X12_hangsOn_J27 (N : Nat) (k27 : (Option Nat) → Int32 → Int32 → Int32 → xH → Option (Int32 × xH)) (x0 : (Option Nat)) (x1 : Int32) (x2 : Int32) (x3 : Int32) (H : xH) : Option (Int32 × xH) :=
  (xgI H x0 11 41).bind fun v1 =>
  if v1 ≤ x3 then (some ((1 : Int32), H)) else ((xob H x0 11).bind fun b4 =>
  x_bd2 (F_X12_isLeft N x0 x3 H) fun v5 H3 =>
  if v5 = 0 then ((F_X12_hangsOn_J98 N k27) x0 x1 x2 x3 H3) else ((xob H3 x0 11).bind fun b8 =>
  x_bd2 (F_X12_only N x0 x3 x2 H3) fun v9 H7 =>
  (xob H7 x0 11).bind fun b11 =>
  x_bd2 (F_X12_paysAt N x0 x1 x3 H7) fun v12 H10 =>
  (xgA H10 x0 11 50).bind fun v13 =>
  (xlI .int H10 v13 v9).bind fun v14 =>
  if v14 = (-5000 : Int32) then ((F_X12_hangsOn_J89 N k27) x0 x1 x2 x3 v9 v12 H10) else ((xgA H10 x0 11 50).bind fun v16 =>
  (xlI .int H10 v16 v9).bind fun v17 =>
  if v17 = v12 then ((F_X12_hangsOn_J89 N k27) x0 x1 x2 x3 v9 v12 H10) else (some ((0 : Int32), H10)))))
set_option maxRecDepth 20000 in
set_option maxHeartbeats 4000000 in
theorem P_X12_hangsOn_J27 {N : Nat} {Z : xZ} {rv : Int32} {Hf : xH} (hZ : Z = xZm cX12_hangsOn yX12_hangsOn 6 3 (some .boolean) (some (.int rv)) Hf) {k27 : (Option Nat) → Int32 → Int32 → Int32 → xH → Option (Int32 × xH)} (hk27 : ∀ (x0 : (Option Nat)) (x1 : Int32) (x2 : Int32) (x3 : Int32) (H : xH), k27 x0 x1 x2 x3 H = some (rv, Hf) → xWq Z H 27 [xA x0, xI x1, xI x2, xI x3, xN, xN] []) : ∀ (x0 : (Option Nat)) (x1 : Int32) (x2 : Int32) (x3 : Int32) (H : xH), F_X12_hangsOn_J27 N k27 x0 x1 x2 x3 H = some (rv, Hf) → xWq Z H 27 [xA x0, xI x1, xI x2, xI x3, xN, xN] [] := by
  have hz : Z.1 = (cX12_hangsOn, yX12_hangsOn, 6) := by rw [hZ]; rfl
  have hδ : Z.2.1 = 3 := by rw [hZ]; rfl
  intro x0 x1 x2 x3 H h
  unfold F_X12_hangsOn_J27 at h
  refine x_iload_n hz dX12_hangsOn_27 rfl ?_
  refine x_aload_n hz dX12_hangsOn_28 rfl ?_
  obtain ⟨v1, e_v1, h⟩ := x_bnd h
  refine x_getI hz dX12_hangsOn_29 fs_X12_329 e_v1 ?_
  refine x_icmp_ge (t := 104) hz dX12_hangsOn_32 (by decide) (fun c2 => ?_) (fun c2 => ?_)
  · replace h := x_ip c2 h
    refine x_iconst (v := (1 : Int32)) hz dX12_hangsOn_104 (by decide) ?_
    cases h
    exact x_zret01 hZ (Or.inr rfl) dX12_hangsOn_105
  · replace h := x_in c2 h
    refine x_aload_n hz dX12_hangsOn_35 rfl ?_
    refine x_iload_n hz dX12_hangsOn_36 rfl ?_
    obtain ⟨b4, e_b4, h⟩ := x_bnd h
    obtain ⟨v5, H3, e_H3, h⟩ := x_b2 h
    refine x_callVi (as := [.inl x3]) (st := []) cs_X12_348 (ci := 11) ⟨rfl, rfl⟩ rfl rfl hz (by omega) (by decide) dX12_hangsOn_37 e_b4 (M_X12_isLeft e_H3) ?_
    refine x_if_ne (t := 46) hz dX12_hangsOn_40 (by decide) (fun c6 => ?_) (fun c6 => ?_)
    · replace h := x_in c6 h
      refine x_aload_n hz dX12_hangsOn_46 rfl ?_
      refine x_iload_n hz dX12_hangsOn_47 rfl ?_
      refine x_iload_n hz dX12_hangsOn_48 rfl ?_
      obtain ⟨b8, e_b8, h⟩ := x_bnd h
      obtain ⟨v9, H7, e_H7, h⟩ := x_b2 h
      refine x_callVi (as := [.inl x3, .inl x2]) (st := []) cs_X12_381 (ci := 11) ⟨rfl, rfl⟩ rfl rfl hz (by omega) (by decide) dX12_hangsOn_49 e_b8 (M_X12_only e_H7) ?_
      refine x_istore (pl' := [xA x0, xI x1, xI x2, xI x3, xI v9, xN]) hz dX12_hangsOn_52 (by decide) rfl ?_
      refine x_aload_n hz dX12_hangsOn_54 rfl ?_
      refine x_iload_n hz dX12_hangsOn_55 rfl ?_
      refine x_iload_n hz dX12_hangsOn_56 rfl ?_
      obtain ⟨b11, e_b11, h⟩ := x_bnd h
      obtain ⟨v12, H10, e_H10, h⟩ := x_b2 h
      refine x_callVi (as := [.inl x1, .inl x3]) (st := []) cs_X12_364 (ci := 11) ⟨rfl, rfl⟩ rfl rfl hz (by omega) (by decide) dX12_hangsOn_57 e_b11 (M_X12_paysAt e_H10) ?_
      refine x_istore (pl' := [xA x0, xI x1, xI x2, xI x3, xI v9, xI v12]) hz dX12_hangsOn_60 (by decide) rfl ?_
      refine x_aload_n hz dX12_hangsOn_62 rfl ?_
      obtain ⟨v13, e_v13, h⟩ := x_bnd h
      refine x_getA hz dX12_hangsOn_63 fs_X12_97 e_v13 ?_
      refine x_iload hz dX12_hangsOn_66 rfl ?_
      obtain ⟨v14, e_v14, h⟩ := x_bnd h
      refine x_iald hz dX12_hangsOn_68 e_v14 ?_
      refine x_sipush (v := (-5000 : Int32)) hz dX12_hangsOn_69 (by decide) ?_
      refine x_icmp_eq (t := 89) hz dX12_hangsOn_72 (by decide) (fun c15 => ?_) (fun c15 => ?_)
      · replace h := x_ip c15 h
        exact x_wk (xwk_c (xwk_c (xwk_c (xwk_c (xwk_c (xwk_c xwk_0)))))) ((P_X12_hangsOn_J89 hZ hk27) x0 x1 x2 x3 v9 v12 H10 h)
      · replace h := x_in c15 h
        refine x_aload_n hz dX12_hangsOn_75 rfl ?_
        obtain ⟨v16, e_v16, h⟩ := x_bnd h
        refine x_getA hz dX12_hangsOn_76 fs_X12_97 e_v16 ?_
        refine x_iload hz dX12_hangsOn_79 rfl ?_
        obtain ⟨v17, e_v17, h⟩ := x_bnd h
        refine x_iald hz dX12_hangsOn_81 e_v17 ?_
        refine x_iload hz dX12_hangsOn_82 rfl ?_
        refine x_icmp_eq (t := 89) hz dX12_hangsOn_84 (by decide) (fun c18 => ?_) (fun c18 => ?_)
        · replace h := x_ip c18 h
          exact x_wk (xwk_c (xwk_c (xwk_c (xwk_c (xwk_c (xwk_c xwk_0)))))) ((P_X12_hangsOn_J89 hZ hk27) x0 x1 x2 x3 v9 v12 H10 h)
        · replace h := x_in c18 h
          refine x_iconst (v := (0 : Int32)) hz dX12_hangsOn_87 (by decide) ?_
          cases h
          exact x_zret01 hZ (Or.inl rfl) dX12_hangsOn_88
    · replace h := x_ip c6 h
      refine x_goto (t := 98) hz dX12_hangsOn_43 (by decide) ?_
      exact x_wk (xwk_c (xwk_c (xwk_c (xwk_c (xwk_n (xwk_n xwk_0)))))) ((P_X12_hangsOn_J98 hZ hk27) x0 x1 x2 x3 H3 h)
noncomputable def F_X12_hangsOn_L27 (N : Nat) : Nat → (Option Nat) → Int32 → Int32 → Int32 → xH → Option (Int32 × xH)
  | 0 => fun _ _ _ _ _ => none
  | n + 1 => F_X12_hangsOn_J27 N (F_X12_hangsOn_L27 N n)
theorem P_X12_hangsOn_L27 {N : Nat} {Z : xZ} {rv : Int32} {Hf : xH} (hZ : Z = xZm cX12_hangsOn yX12_hangsOn 6 3 (some .boolean) (some (.int rv)) Hf) : ∀ (n : Nat) (x0 : (Option Nat)) (x1 : Int32) (x2 : Int32) (x3 : Int32) (H : xH), F_X12_hangsOn_L27 N n x0 x1 x2 x3 H = some (rv, Hf) → xWq Z H 27 [xA x0, xI x1, xI x2, xI x3, xN, xN] [] := by
  intro n
  induction n with
  | zero => intro _ _ _ _ _ h; cases h
  | succ n ih => exact P_X12_hangsOn_J27 hZ ih
noncomputable def F_X12_hangsOn_J25 (N : Nat) (x0 : (Option Nat)) (x1 : Int32) (x2 : Int32) (H : xH) : Option (Int32 × xH) :=
  (F_X12_hangsOn_L27 N N) x0 x1 x2 (0 : Int32) H
set_option maxRecDepth 20000 in
set_option maxHeartbeats 4000000 in
theorem P_X12_hangsOn_J25 {N : Nat} {Z : xZ} {rv : Int32} {Hf : xH} (hZ : Z = xZm cX12_hangsOn yX12_hangsOn 6 3 (some .boolean) (some (.int rv)) Hf) : ∀ (x0 : (Option Nat)) (x1 : Int32) (x2 : Int32) (H : xH), F_X12_hangsOn_J25 N x0 x1 x2 H = some (rv, Hf) → xWq Z H 25 [xA x0, xI x1, xI x2, xN, xN, xN] [] := by
  have hz : Z.1 = (cX12_hangsOn, yX12_hangsOn, 6) := by rw [hZ]; rfl
  have hδ : Z.2.1 = 3 := by rw [hZ]; rfl
  intro x0 x1 x2 H h
  unfold F_X12_hangsOn_J25 at h
  refine x_iconst (v := (0 : Int32)) hz dX12_hangsOn_25 (by decide) ?_
  refine x_istore_n (pl' := [xA x0, xI x1, xI x2, xI (0 : Int32), xN, xN]) hz dX12_hangsOn_26 (by decide) rfl ?_
  exact x_wk (xwk_c (xwk_c (xwk_c (xwk_c (xwk_n (xwk_n xwk_0)))))) ((P_X12_hangsOn_L27 hZ N) x0 x1 x2 (0 : Int32) H h)
noncomputable def F_X12_hangsOn (N : Nat) (a0 : (Option Nat)) (a1 : Int32) (a2 : Int32) (H : xH) : Option (Int32 × xH) :=
  (F_X12_hangsOn_L2 N (F_X12_hangsOn_J25 N) N) a0 a1 a2 (0 : Int32) H
set_option maxRecDepth 20000 in
set_option maxHeartbeats 4000000 in
theorem P_X12_hangsOn {N : Nat} {Z : xZ} {rv : Int32} {Hf : xH} (hZ : Z = xZm cX12_hangsOn yX12_hangsOn 6 3 (some .boolean) (some (.int rv)) Hf) : ∀ (a0 : (Option Nat)) (a1 : Int32) (a2 : Int32) (H : xH), F_X12_hangsOn N a0 a1 a2 H = some (rv, Hf) → xWq Z H 0 [xA a0, xI a1, xI a2, xN, xN, xN] [] := by
  have hz : Z.1 = (cX12_hangsOn, yX12_hangsOn, 6) := by rw [hZ]; rfl
  have hδ : Z.2.1 = 3 := by rw [hZ]; rfl
  intro a0 a1 a2 H h
  unfold F_X12_hangsOn at h
  refine x_iconst (v := (0 : Int32)) hz dX12_hangsOn_0 (by decide) ?_
  refine x_istore_n (pl' := [xA a0, xI a1, xI a2, xI (0 : Int32), xN, xN]) hz dX12_hangsOn_1 (by decide) rfl ?_
  exact x_wk (xwk_c (xwk_c (xwk_c (xwk_c (xwk_n (xwk_n xwk_0)))))) ((P_X12_hangsOn_L2 hZ (P_X12_hangsOn_J25 hZ) N) a0 a1 a2 (0 : Int32) H h)
theorem M_X12_hangsOn {N : Nat} {a0 : (Option Nat)} {a1 : Int32} {a2 : Int32} {H H1 : xH} {r1 : Int32} (h : F_X12_hangsOn N a0 a1 a2 H = some (r1, H1)) : xM yX12_hangsOn cX12_hangsOn 6 (some .boolean) 3 [.inr (.inr a0), .inl a1, .inl a2] H (some (.int r1)) H1 :=
  xM_of (by decide +kernel) (xT_tb 1431 (by decide +kernel) (by decide +kernel)) (by simp [xargs, x2]) rfl (P_X12_hangsOn rfl a0 a1 a2 H h)
/-! BettingBookModel.hang(I)I -/
noncomputable def F_X12_hang_J53 (N : Nat) (k21 : (Option Nat) → Int32 → Int32 → Int32 → xH → Option (Int32 × xH)) (x0 : (Option Nat)) (x1 : Int32) (x2 : Int32) (x3 : Int32) (H : xH) : Option (Int32 × xH) :=
  k21 x0 x1 x2 (x3 + 1) H
set_option maxRecDepth 20000 in
set_option maxHeartbeats 4000000 in
theorem P_X12_hang_J53 {N : Nat} {Z : xZ} {rv : Int32} {Hf : xH} (hZ : Z = xZm cX12_hang yX12_hang 4 4 (some .int) (some (.int rv)) Hf) {k21 : (Option Nat) → Int32 → Int32 → Int32 → xH → Option (Int32 × xH)} (hk21 : ∀ (x0 : (Option Nat)) (x1 : Int32) (x2 : Int32) (x3 : Int32) (H : xH), k21 x0 x1 x2 x3 H = some (rv, Hf) → xWq Z H 21 [xA x0, xI x1, xI x2, xI x3] []) : ∀ (x0 : (Option Nat)) (x1 : Int32) (x2 : Int32) (x3 : Int32) (H : xH), F_X12_hang_J53 N k21 x0 x1 x2 x3 H = some (rv, Hf) → xWq Z H 53 [xA x0, xI x1, xI x2, xI x3] [] := by
  have hz : Z.1 = (cX12_hang, yX12_hang, 4) := by rw [hZ]; rfl
  have hδ : Z.2.1 = 4 := by rw [hZ]; rfl
  intro x0 x1 x2 x3 H h
  unfold F_X12_hang_J53 at h
  refine x_iinc (w := (x3 + 1)) (pl' := [xA x0, xI x1, xI x2, xI (x3 + 1)]) hz dX12_hang_53 rfl rfl (by decide) rfl ?_
  refine x_goto (t := 21) hz dX12_hang_56 (by decide) ?_
  exact x_wk (xwk_c (xwk_c (xwk_c (xwk_c xwk_0)))) (hk21 x0 x1 x2 (x3 + 1) H h)
noncomputable def F_X12_hang_J21 (N : Nat) (k21 : (Option Nat) → Int32 → Int32 → Int32 → xH → Option (Int32 × xH)) (x0 : (Option Nat)) (x1 : Int32) (x2 : Int32) (x3 : Int32) (H : xH) : Option (Int32 × xH) :=
  (xgI H x0 11 0).bind fun v1 =>
  if ((1 : Int32) <<< (v1 &&& 31)) ≤ x3 then (some (x2, H)) else (x_bd2 (F_X12_bits N x3 H) fun v4 H3 =>
  x_bd2 (F_X12_bits N x2 H3) fun v6 H5 =>
  if v6 ≤ v4 then ((F_X12_hang_J53 N k21) x0 x1 x2 x3 H5) else ((xob H5 x0 11).bind fun b9 =>
  x_bd2 (F_X12_hangsOn N x0 x1 x3 H5) fun v10 H8 =>
  if v10 = 0 then ((F_X12_hang_J53 N k21) x0 x1 x2 x3 H8) else ((F_X12_hang_J53 N k21) x0 x1 x3 x3 H8)))
set_option maxRecDepth 20000 in
set_option maxHeartbeats 4000000 in
theorem P_X12_hang_J21 {N : Nat} {Z : xZ} {rv : Int32} {Hf : xH} (hZ : Z = xZm cX12_hang yX12_hang 4 4 (some .int) (some (.int rv)) Hf) {k21 : (Option Nat) → Int32 → Int32 → Int32 → xH → Option (Int32 × xH)} (hk21 : ∀ (x0 : (Option Nat)) (x1 : Int32) (x2 : Int32) (x3 : Int32) (H : xH), k21 x0 x1 x2 x3 H = some (rv, Hf) → xWq Z H 21 [xA x0, xI x1, xI x2, xI x3] []) : ∀ (x0 : (Option Nat)) (x1 : Int32) (x2 : Int32) (x3 : Int32) (H : xH), F_X12_hang_J21 N k21 x0 x1 x2 x3 H = some (rv, Hf) → xWq Z H 21 [xA x0, xI x1, xI x2, xI x3] [] := by
  have hz : Z.1 = (cX12_hang, yX12_hang, 4) := by rw [hZ]; rfl
  have hδ : Z.2.1 = 4 := by rw [hZ]; rfl
  intro x0 x1 x2 x3 H h
  unfold F_X12_hang_J21 at h
  refine x_iload_n hz dX12_hang_21 rfl ?_
  refine x_iconst (v := (1 : Int32)) hz dX12_hang_22 (by decide) ?_
  refine x_aload_n hz dX12_hang_23 rfl ?_
  obtain ⟨v1, e_v1, h⟩ := x_bnd h
  refine x_getI hz dX12_hang_24 fs_X12_282 e_v1 ?_
  refine x_ishl hz dX12_hang_27 ?_
  refine x_icmp_ge (t := 59) hz dX12_hang_28 (by decide) (fun c2 => ?_) (fun c2 => ?_)
  · replace h := x_ip c2 h
    refine x_iload_n hz dX12_hang_59 rfl ?_
    cases h
    exact x_iret hZ dX12_hang_60
  · replace h := x_in c2 h
    refine x_iload_n hz dX12_hang_31 rfl ?_
    obtain ⟨v4, H3, e_H3, h⟩ := x_b2 h
    refine x_callSi (as := [.inl x3]) (st := []) cs_X12_384 rfl rfl hz (by omega) (by decide) dX12_hang_32 (M_X12_bits e_H3) ?_
    refine x_iload_n hz dX12_hang_35 rfl ?_
    obtain ⟨v6, H5, e_H5, h⟩ := x_b2 h
    refine x_callSi (as := [.inl x2]) (st := [.int v4]) cs_X12_384 rfl rfl hz (by omega) (Nat.le_trans (x_sm1 rfl x_sm0) (by decide)) dX12_hang_36 (M_X12_bits e_H5) ?_
    refine x_icmp_ge (t := 53) hz dX12_hang_39 (by decide) (fun c7 => ?_) (fun c7 => ?_)
    · replace h := x_ip c7 h
      exact x_wk (xwk_c (xwk_c (xwk_c (xwk_c xwk_0)))) ((P_X12_hang_J53 hZ hk21) x0 x1 x2 x3 H5 h)
    · replace h := x_in c7 h
      refine x_aload_n hz dX12_hang_42 rfl ?_
      refine x_iload_n hz dX12_hang_43 rfl ?_
      refine x_iload_n hz dX12_hang_44 rfl ?_
      obtain ⟨b9, e_b9, h⟩ := x_bnd h
      obtain ⟨v10, H8, e_H8, h⟩ := x_b2 h
      refine x_callVi (as := [.inl x1, .inl x3]) (st := []) cs_X12_387 (ci := 11) ⟨rfl, rfl⟩ rfl rfl hz (by omega) (by decide) dX12_hang_45 e_b9 (M_X12_hangsOn e_H8) ?_
      refine x_if_eq (t := 53) hz dX12_hang_48 (by decide) (fun c11 => ?_) (fun c11 => ?_)
      · replace h := x_ip c11 h
        exact x_wk (xwk_c (xwk_c (xwk_c (xwk_c xwk_0)))) ((P_X12_hang_J53 hZ hk21) x0 x1 x2 x3 H8 h)
      · replace h := x_in c11 h
        refine x_iload_n hz dX12_hang_51 rfl ?_
        refine x_istore_n (pl' := [xA x0, xI x1, xI x3, xI x3]) hz dX12_hang_52 (by decide) rfl ?_
        exact x_wk (xwk_c (xwk_c (xwk_c (xwk_c xwk_0)))) ((P_X12_hang_J53 hZ hk21) x0 x1 x3 x3 H8 h)
noncomputable def F_X12_hang_L21 (N : Nat) : Nat → (Option Nat) → Int32 → Int32 → Int32 → xH → Option (Int32 × xH)
  | 0 => fun _ _ _ _ _ => none
  | n + 1 => F_X12_hang_J21 N (F_X12_hang_L21 N n)
theorem P_X12_hang_L21 {N : Nat} {Z : xZ} {rv : Int32} {Hf : xH} (hZ : Z = xZm cX12_hang yX12_hang 4 4 (some .int) (some (.int rv)) Hf) : ∀ (n : Nat) (x0 : (Option Nat)) (x1 : Int32) (x2 : Int32) (x3 : Int32) (H : xH), F_X12_hang_L21 N n x0 x1 x2 x3 H = some (rv, Hf) → xWq Z H 21 [xA x0, xI x1, xI x2, xI x3] [] := by
  intro n
  induction n with
  | zero => intro _ _ _ _ _ h; cases h
  | succ n ih => exact P_X12_hang_J21 hZ ih
noncomputable def F_X12_hang (N : Nat) (a0 : (Option Nat)) (a1 : Int32) (H : xH) : Option (Int32 × xH) :=
  (xob H a0 11).bind fun b2 =>
  x_bd2 (F_X12_isWager N a0 a1 H) fun v3 H1 =>
  if v3 = 0 then (some ((-1 : Int32), H1)) else ((xgI H1 a0 11 0).bind fun v5 =>
  (F_X12_hang_L21 N N) a0 a1 (((1 : Int32) <<< (v5 &&& 31)) - (1 : Int32)) (0 : Int32) H1)
set_option maxRecDepth 20000 in
set_option maxHeartbeats 4000000 in
theorem P_X12_hang {N : Nat} {Z : xZ} {rv : Int32} {Hf : xH} (hZ : Z = xZm cX12_hang yX12_hang 4 4 (some .int) (some (.int rv)) Hf) : ∀ (a0 : (Option Nat)) (a1 : Int32) (H : xH), F_X12_hang N a0 a1 H = some (rv, Hf) → xWq Z H 0 [xA a0, xI a1, xN, xN] [] := by
  have hz : Z.1 = (cX12_hang, yX12_hang, 4) := by rw [hZ]; rfl
  have hδ : Z.2.1 = 4 := by rw [hZ]; rfl
  intro a0 a1 H h
  unfold F_X12_hang at h
  refine x_aload_n hz dX12_hang_0 rfl ?_
  refine x_iload_n hz dX12_hang_1 rfl ?_
  obtain ⟨b2, e_b2, h⟩ := x_bnd h
  obtain ⟨v3, H1, e_H1, h⟩ := x_b2 h
  refine x_callVi (as := [.inl a1]) (st := []) cs_X12_361 (ci := 11) ⟨rfl, rfl⟩ rfl rfl hz (by omega) (by decide) dX12_hang_2 e_b2 (M_X12_isWager e_H1) ?_
  refine x_if_ne (t := 10) hz dX12_hang_5 (by decide) (fun c4 => ?_) (fun c4 => ?_)
  · replace h := x_in c4 h
    refine x_iconst (v := (1 : Int32)) hz dX12_hang_10 (by decide) ?_
    refine x_aload_n hz dX12_hang_11 rfl ?_
    obtain ⟨v5, e_v5, h⟩ := x_bnd h
    refine x_getI hz dX12_hang_12 fs_X12_282 e_v5 ?_
    refine x_ishl hz dX12_hang_15 ?_
    refine x_iconst (v := (1 : Int32)) hz dX12_hang_16 (by decide) ?_
    refine x_isub hz dX12_hang_17 ?_
    refine x_istore_n (pl' := [xA a0, xI a1, xI (((1 : Int32) <<< (v5 &&& 31)) - (1 : Int32)), xN]) hz dX12_hang_18 (by decide) rfl ?_
    refine x_iconst (v := (0 : Int32)) hz dX12_hang_19 (by decide) ?_
    refine x_istore_n (pl' := [xA a0, xI a1, xI (((1 : Int32) <<< (v5 &&& 31)) - (1 : Int32)), xI (0 : Int32)]) hz dX12_hang_20 (by decide) rfl ?_
    exact x_wk (xwk_c (xwk_c (xwk_c (xwk_c xwk_0)))) ((P_X12_hang_L21 hZ N) a0 a1 (((1 : Int32) <<< (v5 &&& 31)) - (1 : Int32)) (0 : Int32) H1 h)
  · replace h := x_ip c4 h
    refine x_iconst (v := (-1 : Int32)) hz dX12_hang_8 (by decide) ?_
    cases h
    exact x_iret hZ dX12_hang_9
theorem M_X12_hang {N : Nat} {a0 : (Option Nat)} {a1 : Int32} {H H1 : xH} {r1 : Int32} (h : F_X12_hang N a0 a1 H = some (r1, H1)) : xM yX12_hang cX12_hang 4 (some .int) 4 [.inr (.inr a0), .inl a1] H (some (.int r1)) H1 :=
  xM_of (by decide +kernel) (xT_tb 1424 (by decide +kernel) (by decide +kernel)) (by simp [xargs, x2]) rfl (P_X12_hang rfl a0 a1 H h)
/-! BettingBookModel.same(II)I -/
noncomputable def F_X12_same_J54 (N : Nat) (k21 : (Option Nat) → Int32 → Int32 → Int32 → xH → Option (Int32 × xH)) (x0 : (Option Nat)) (x1 : Int32) (x2 : Int32) (x3 : Int32) (H : xH) : Option (Int32 × xH) :=
  k21 x0 x1 x2 (x3 + 1) H
set_option maxRecDepth 20000 in
set_option maxHeartbeats 4000000 in
theorem P_X12_same_J54 {N : Nat} {Z : xZ} {rv : Int32} {Hf : xH} (hZ : Z = xZm cX12_same yX12_same 4 3 (some .int) (some (.int rv)) Hf) {k21 : (Option Nat) → Int32 → Int32 → Int32 → xH → Option (Int32 × xH)} (hk21 : ∀ (x0 : (Option Nat)) (x1 : Int32) (x2 : Int32) (x3 : Int32) (H : xH), k21 x0 x1 x2 x3 H = some (rv, Hf) → xWq Z H 21 [xA x0, xI x1, xI x2, xI x3] []) : ∀ (x0 : (Option Nat)) (x1 : Int32) (x2 : Int32) (x3 : Int32) (H : xH), F_X12_same_J54 N k21 x0 x1 x2 x3 H = some (rv, Hf) → xWq Z H 54 [xA x0, xI x1, xI x2, xI x3] [] := by
  have hz : Z.1 = (cX12_same, yX12_same, 4) := by rw [hZ]; rfl
  have hδ : Z.2.1 = 3 := by rw [hZ]; rfl
  intro x0 x1 x2 x3 H h
  unfold F_X12_same_J54 at h
  refine x_iinc (w := (x3 + 1)) (pl' := [xA x0, xI x1, xI x2, xI (x3 + 1)]) hz dX12_same_54 rfl rfl (by decide) rfl ?_
  refine x_goto (t := 21) hz dX12_same_57 (by decide) ?_
  exact x_wk (xwk_c (xwk_c (xwk_c (xwk_c xwk_0)))) (hk21 x0 x1 x2 (x3 + 1) H h)
noncomputable def F_X12_same_J21 (N : Nat) (k21 : (Option Nat) → Int32 → Int32 → Int32 → xH → Option (Int32 × xH)) (x0 : (Option Nat)) (x1 : Int32) (x2 : Int32) (x3 : Int32) (H : xH) : Option (Int32 × xH) :=
  (xgI H x0 11 41).bind fun v1 =>
  if v1 ≤ x3 then (some ((-1 : Int32), H)) else ((xob H x0 11).bind fun b4 =>
  x_bd2 (F_X12_isPossible N x0 x3 H) fun v5 H3 =>
  if v5 = 0 then ((F_X12_same_J54 N k21) x0 x1 x2 x3 H3) else ((xob H3 x0 11).bind fun b8 =>
  x_bd2 (F_X12_paysAt N x0 x1 x3 H3) fun v9 H7 =>
  (xob H7 x0 11).bind fun b11 =>
  x_bd2 (F_X12_paysAt N x0 x2 x3 H7) fun v12 H10 =>
  if v9 = v12 then ((F_X12_same_J54 N k21) x0 x1 x2 x3 H10) else (some (x3, H10))))
set_option maxRecDepth 20000 in
set_option maxHeartbeats 4000000 in
theorem P_X12_same_J21 {N : Nat} {Z : xZ} {rv : Int32} {Hf : xH} (hZ : Z = xZm cX12_same yX12_same 4 3 (some .int) (some (.int rv)) Hf) {k21 : (Option Nat) → Int32 → Int32 → Int32 → xH → Option (Int32 × xH)} (hk21 : ∀ (x0 : (Option Nat)) (x1 : Int32) (x2 : Int32) (x3 : Int32) (H : xH), k21 x0 x1 x2 x3 H = some (rv, Hf) → xWq Z H 21 [xA x0, xI x1, xI x2, xI x3] []) : ∀ (x0 : (Option Nat)) (x1 : Int32) (x2 : Int32) (x3 : Int32) (H : xH), F_X12_same_J21 N k21 x0 x1 x2 x3 H = some (rv, Hf) → xWq Z H 21 [xA x0, xI x1, xI x2, xI x3] [] := by
  have hz : Z.1 = (cX12_same, yX12_same, 4) := by rw [hZ]; rfl
  have hδ : Z.2.1 = 3 := by rw [hZ]; rfl
  intro x0 x1 x2 x3 H h
  unfold F_X12_same_J21 at h
  refine x_iload_n hz dX12_same_21 rfl ?_
  refine x_aload_n hz dX12_same_22 rfl ?_
  obtain ⟨v1, e_v1, h⟩ := x_bnd h
  refine x_getI hz dX12_same_23 fs_X12_329 e_v1 ?_
  refine x_icmp_ge (t := 60) hz dX12_same_26 (by decide) (fun c2 => ?_) (fun c2 => ?_)
  · replace h := x_ip c2 h
    refine x_iconst (v := (-1 : Int32)) hz dX12_same_60 (by decide) ?_
    cases h
    exact x_iret hZ dX12_same_61
  · replace h := x_in c2 h
    refine x_aload_n hz dX12_same_29 rfl ?_
    refine x_iload_n hz dX12_same_30 rfl ?_
    obtain ⟨b4, e_b4, h⟩ := x_bnd h
    obtain ⟨v5, H3, e_H3, h⟩ := x_b2 h
    refine x_callVi (as := [.inl x3]) (st := []) cs_X12_342 (ci := 11) ⟨rfl, rfl⟩ rfl rfl hz (by omega) (by decide) dX12_same_31 e_b4 (M_X12_isPossible e_H3) ?_
    refine x_if_eq (t := 54) hz dX12_same_34 (by decide) (fun c6 => ?_) (fun c6 => ?_)
    · replace h := x_ip c6 h
      exact x_wk (xwk_c (xwk_c (xwk_c (xwk_c xwk_0)))) ((P_X12_same_J54 hZ hk21) x0 x1 x2 x3 H3 h)
    · replace h := x_in c6 h
      refine x_aload_n hz dX12_same_37 rfl ?_
      refine x_iload_n hz dX12_same_38 rfl ?_
      refine x_iload_n hz dX12_same_39 rfl ?_
      obtain ⟨b8, e_b8, h⟩ := x_bnd h
      obtain ⟨v9, H7, e_H7, h⟩ := x_b2 h
      refine x_callVi (as := [.inl x1, .inl x3]) (st := []) cs_X12_364 (ci := 11) ⟨rfl, rfl⟩ rfl rfl hz (by omega) (by decide) dX12_same_40 e_b8 (M_X12_paysAt e_H7) ?_
      refine x_aload_n hz dX12_same_43 rfl ?_
      refine x_iload_n hz dX12_same_44 rfl ?_
      refine x_iload_n hz dX12_same_45 rfl ?_
      obtain ⟨b11, e_b11, h⟩ := x_bnd h
      obtain ⟨v12, H10, e_H10, h⟩ := x_b2 h
      refine x_callVi (as := [.inl x2, .inl x3]) (st := [.int v9]) cs_X12_364 (ci := 11) ⟨rfl, rfl⟩ rfl rfl hz (by omega) (Nat.le_trans (x_sm1 rfl x_sm0) (by decide)) dX12_same_46 e_b11 (M_X12_paysAt e_H10) ?_
      refine x_icmp_eq (t := 54) hz dX12_same_49 (by decide) (fun c13 => ?_) (fun c13 => ?_)
      · replace h := x_ip c13 h
        exact x_wk (xwk_c (xwk_c (xwk_c (xwk_c xwk_0)))) ((P_X12_same_J54 hZ hk21) x0 x1 x2 x3 H10 h)
      · replace h := x_in c13 h
        refine x_iload_n hz dX12_same_52 rfl ?_
        cases h
        exact x_iret hZ dX12_same_53
noncomputable def F_X12_same_L21 (N : Nat) : Nat → (Option Nat) → Int32 → Int32 → Int32 → xH → Option (Int32 × xH)
  | 0 => fun _ _ _ _ _ => none
  | n + 1 => F_X12_same_J21 N (F_X12_same_L21 N n)
theorem P_X12_same_L21 {N : Nat} {Z : xZ} {rv : Int32} {Hf : xH} (hZ : Z = xZm cX12_same yX12_same 4 3 (some .int) (some (.int rv)) Hf) : ∀ (n : Nat) (x0 : (Option Nat)) (x1 : Int32) (x2 : Int32) (x3 : Int32) (H : xH), F_X12_same_L21 N n x0 x1 x2 x3 H = some (rv, Hf) → xWq Z H 21 [xA x0, xI x1, xI x2, xI x3] [] := by
  intro n
  induction n with
  | zero => intro _ _ _ _ _ h; cases h
  | succ n ih => exact P_X12_same_J21 hZ ih
noncomputable def F_X12_same (N : Nat) (a0 : (Option Nat)) (a1 : Int32) (a2 : Int32) (H : xH) : Option (Int32 × xH) :=
  (xob H a0 11).bind fun b2 =>
  x_bd2 (F_X12_isWager N a0 a1 H) fun v3 H1 =>
  if v3 = 0 then (some ((-2 : Int32), H1)) else ((xob H1 a0 11).bind fun b6 =>
  x_bd2 (F_X12_isWager N a0 a2 H1) fun v7 H5 =>
  if v7 = 0 then (some ((-2 : Int32), H5)) else ((F_X12_same_L21 N N) a0 a1 a2 (0 : Int32) H5))
set_option maxRecDepth 20000 in
set_option maxHeartbeats 4000000 in
theorem P_X12_same {N : Nat} {Z : xZ} {rv : Int32} {Hf : xH} (hZ : Z = xZm cX12_same yX12_same 4 3 (some .int) (some (.int rv)) Hf) : ∀ (a0 : (Option Nat)) (a1 : Int32) (a2 : Int32) (H : xH), F_X12_same N a0 a1 a2 H = some (rv, Hf) → xWq Z H 0 [xA a0, xI a1, xI a2, xN] [] := by
  have hz : Z.1 = (cX12_same, yX12_same, 4) := by rw [hZ]; rfl
  have hδ : Z.2.1 = 3 := by rw [hZ]; rfl
  intro a0 a1 a2 H h
  unfold F_X12_same at h
  refine x_aload_n hz dX12_same_0 rfl ?_
  refine x_iload_n hz dX12_same_1 rfl ?_
  obtain ⟨b2, e_b2, h⟩ := x_bnd h
  obtain ⟨v3, H1, e_H1, h⟩ := x_b2 h
  refine x_callVi (as := [.inl a1]) (st := []) cs_X12_361 (ci := 11) ⟨rfl, rfl⟩ rfl rfl hz (by omega) (by decide) dX12_same_2 e_b2 (M_X12_isWager e_H1) ?_
  refine x_if_eq (t := 16) hz dX12_same_5 (by decide) (fun c4 => ?_) (fun c4 => ?_)
  · replace h := x_ip c4 h
    refine x_bipush (v := (-2 : Int32)) hz dX12_same_16 (by decide) ?_
    cases h
    exact x_iret hZ dX12_same_18
  · replace h := x_in c4 h
    refine x_aload_n hz dX12_same_8 rfl ?_
    refine x_iload_n hz dX12_same_9 rfl ?_
    obtain ⟨b6, e_b6, h⟩ := x_bnd h
    obtain ⟨v7, H5, e_H5, h⟩ := x_b2 h
    refine x_callVi (as := [.inl a2]) (st := []) cs_X12_361 (ci := 11) ⟨rfl, rfl⟩ rfl rfl hz (by omega) (by decide) dX12_same_10 e_b6 (M_X12_isWager e_H5) ?_
    refine x_if_ne (t := 19) hz dX12_same_13 (by decide) (fun c8 => ?_) (fun c8 => ?_)
    · replace h := x_in c8 h
      refine x_iconst (v := (0 : Int32)) hz dX12_same_19 (by decide) ?_
      refine x_istore_n (pl' := [xA a0, xI a1, xI a2, xI (0 : Int32)]) hz dX12_same_20 (by decide) rfl ?_
      exact x_wk (xwk_c (xwk_c (xwk_c (xwk_c xwk_0)))) ((P_X12_same_L21 hZ N) a0 a1 a2 (0 : Int32) H5 h)
    · replace h := x_ip c8 h
      refine x_bipush (v := (-2 : Int32)) hz dX12_same_16 (by decide) ?_
      cases h
      exact x_iret hZ dX12_same_18
theorem M_X12_same {N : Nat} {a0 : (Option Nat)} {a1 : Int32} {a2 : Int32} {H H1 : xH} {r1 : Int32} (h : F_X12_same N a0 a1 a2 H = some (r1, H1)) : xM yX12_same cX12_same 4 (some .int) 3 [.inr (.inr a0), .inl a1, .inl a2] H (some (.int r1)) H1 :=
  xM_of (by decide +kernel) (xT_tb 1439 (by decide +kernel) (by decide +kernel)) (by simp [xargs, x2]) rfl (P_X12_same rfl a0 a1 a2 H h)
/-! BettingBookModel.wager(II)I -/
noncomputable def F_X12_wager_J102 (N : Nat) (s0 : Int32) (H : xH) : Option (Int32 × xH) :=
  x_bd2 (F_X12_unit N s0 H) fun v2 H1 =>
  some (v2, H1)
set_option maxRecDepth 20000 in
set_option maxHeartbeats 4000000 in
theorem P_X12_wager_J102 {N : Nat} {Z : xZ} {rv : Int32} {Hf : xH} (hZ : Z = xZm cX12_wager yX12_wager 3 3 (some .int) (some (.int rv)) Hf) : ∀ (s0 : Int32) (H : xH), F_X12_wager_J102 N s0 H = some (rv, Hf) → xWq Z H 102 [xN, xN, xN] [.int s0] := by
  have hz : Z.1 = (cX12_wager, yX12_wager, 3) := by rw [hZ]; rfl
  have hδ : Z.2.1 = 3 := by rw [hZ]; rfl
  intro s0 H h
  unfold F_X12_wager_J102 at h
  obtain ⟨v2, H1, e_H1, h⟩ := x_b2 h
  refine x_callSi (as := [.inl s0]) (st := []) cs_X12_319 rfl rfl hz (by omega) (by decide) dX12_wager_102 (M_X12_unit e_H1) ?_
  cases h
  exact x_iret hZ dX12_wager_105
noncomputable def F_X12_wager_J126 (N : Nat) (s0 : Int32) (H : xH) : Option (Int32 × xH) :=
  x_bd2 (F_X12_unit N s0 H) fun v2 H1 =>
  some (v2, H1)
set_option maxRecDepth 20000 in
set_option maxHeartbeats 4000000 in
theorem P_X12_wager_J126 {N : Nat} {Z : xZ} {rv : Int32} {Hf : xH} (hZ : Z = xZm cX12_wager yX12_wager 3 3 (some .int) (some (.int rv)) Hf) : ∀ (s0 : Int32) (H : xH), F_X12_wager_J126 N s0 H = some (rv, Hf) → xWq Z H 126 [xN, xN, xN] [.int s0] := by
  have hz : Z.1 = (cX12_wager, yX12_wager, 3) := by rw [hZ]; rfl
  have hδ : Z.2.1 = 3 := by rw [hZ]; rfl
  intro s0 H h
  unfold F_X12_wager_J126 at h
  obtain ⟨v2, H1, e_H1, h⟩ := x_b2 h
  refine x_callSi (as := [.inl s0]) (st := []) cs_X12_319 rfl rfl hz (by omega) (by decide) dX12_wager_126 (M_X12_unit e_H1) ?_
  cases h
  exact x_iret hZ dX12_wager_129
noncomputable def F_X12_wager (N : Nat) (a0 : (Option Nat)) (a1 : Int32) (a2 : Int32) (H : xH) : Option (Int32 × xH) :=
  (xob H a0 11).bind fun b2 =>
  x_bd2 (F_X12_isWager N a0 a1 H) fun v3 H1 =>
  if v3 = 0 then (some ((-1 : Int32), H1)) else (if a2 = 0 then ((xgA H1 a0 11 52).bind fun v6 =>
  (xlI .int H1 v6 ((2 : Int32) * a1)).bind fun v7 =>
  some (v7, H1)) else (if a2 = 1 then ((xgA H1 a0 11 52).bind fun v9 =>
  (xlI .int H1 v9 (((2 : Int32) * a1) + (1 : Int32))).bind fun v10 =>
  some (v10, H1)) else (if a2 = 2 then ((xgA H1 a0 11 10).bind fun v12 =>
  (xlI .int H1 v12 a1).bind fun v13 =>
  some (v13, H1)) else (if a2 = 3 then ((xgA H1 a0 11 11).bind fun v15 =>
  (xlI .int H1 v15 a1).bind fun v16 =>
  some (v16, H1)) else (if a2 = 4 then ((xgA H1 a0 11 17).bind fun v18 =>
  (xlI .int H1 v18 a1).bind fun v19 =>
  (xgA H1 a0 11 18).bind fun v20 =>
  (xlI .int H1 v20 a1).bind fun v21 =>
  if v21 ≤ v19 then ((F_X12_wager_J102 N) (0 : Int32) H1) else ((F_X12_wager_J102 N) (1 : Int32) H1)) else (if a2 = 5 then ((xgA H1 a0 11 18).bind fun v24 =>
  (xlI .int H1 v24 a1).bind fun v25 =>
  (xgA H1 a0 11 19).bind fun v26 =>
  (xlI .int H1 v26 a1).bind fun v27 =>
  if v27 ≤ v25 then ((F_X12_wager_J126 N) (0 : Int32) H1) else ((F_X12_wager_J126 N) (1 : Int32) H1)) else (some ((-1 : Int32), H1))))))))
set_option maxRecDepth 20000 in
set_option maxHeartbeats 4000000 in
theorem P_X12_wager {N : Nat} {Z : xZ} {rv : Int32} {Hf : xH} (hZ : Z = xZm cX12_wager yX12_wager 3 3 (some .int) (some (.int rv)) Hf) : ∀ (a0 : (Option Nat)) (a1 : Int32) (a2 : Int32) (H : xH), F_X12_wager N a0 a1 a2 H = some (rv, Hf) → xWq Z H 0 [xA a0, xI a1, xI a2] [] := by
  have hz : Z.1 = (cX12_wager, yX12_wager, 3) := by rw [hZ]; rfl
  have hδ : Z.2.1 = 3 := by rw [hZ]; rfl
  intro a0 a1 a2 H h
  unfold F_X12_wager at h
  refine x_aload_n hz dX12_wager_0 rfl ?_
  refine x_iload_n hz dX12_wager_1 rfl ?_
  obtain ⟨b2, e_b2, h⟩ := x_bnd h
  obtain ⟨v3, H1, e_H1, h⟩ := x_b2 h
  refine x_callVi (as := [.inl a1]) (st := []) cs_X12_361 (ci := 11) ⟨rfl, rfl⟩ rfl rfl hz (by omega) (by decide) dX12_wager_2 e_b2 (M_X12_isWager e_H1) ?_
  refine x_if_ne (t := 10) hz dX12_wager_5 (by decide) (fun c4 => ?_) (fun c4 => ?_)
  · replace h := x_in c4 h
    refine x_iload_n hz dX12_wager_10 rfl ?_
    by_cases c5 : a2 = 0
    · replace h := x_ip c5 h
      refine x_tsIn (t := 48) (off := 37) hz dX12_wager_11 (by rw [c5]; decide) (by rw [c5]; decide) (by rw [c5]; decide) (by decide) ?_
      refine x_aload_n hz dX12_wager_48 rfl ?_
      obtain ⟨v6, e_v6, h⟩ := x_bnd h
      refine x_getA hz dX12_wager_49 fs_X12_100 e_v6 ?_
      refine x_iconst (v := (2 : Int32)) hz dX12_wager_52 (by decide) ?_
      refine x_iload_n hz dX12_wager_53 rfl ?_
      refine x_imul hz dX12_wager_54 ?_
      obtain ⟨v7, e_v7, h⟩ := x_bnd h
      refine x_iald hz dX12_wager_55 e_v7 ?_
      cases h
      exact x_iret hZ dX12_wager_56
    replace h := x_in c5 h
    by_cases c8 : a2 = 1
    · replace h := x_ip c8 h
      refine x_tsIn (t := 57) (off := 46) hz dX12_wager_11 (by rw [c8]; decide) (by rw [c8]; decide) (by rw [c8]; decide) (by decide) ?_
      refine x_aload_n hz dX12_wager_57 rfl ?_
      obtain ⟨v9, e_v9, h⟩ := x_bnd h
      refine x_getA hz dX12_wager_58 fs_X12_100 e_v9 ?_
      refine x_iconst (v := (2 : Int32)) hz dX12_wager_61 (by decide) ?_
      refine x_iload_n hz dX12_wager_62 rfl ?_
      refine x_imul hz dX12_wager_63 ?_
      refine x_iconst (v := (1 : Int32)) hz dX12_wager_64 (by decide) ?_
      refine x_iadd hz dX12_wager_65 ?_
      obtain ⟨v10, e_v10, h⟩ := x_bnd h
      refine x_iald hz dX12_wager_66 e_v10 ?_
      cases h
      exact x_iret hZ dX12_wager_67
    replace h := x_in c8 h
    by_cases c11 : a2 = 2
    · replace h := x_ip c11 h
      refine x_tsIn (t := 68) (off := 57) hz dX12_wager_11 (by rw [c11]; decide) (by rw [c11]; decide) (by rw [c11]; decide) (by decide) ?_
      refine x_aload_n hz dX12_wager_68 rfl ?_
      obtain ⟨v12, e_v12, h⟩ := x_bnd h
      refine x_getA hz dX12_wager_69 fs_X12_22 e_v12 ?_
      refine x_iload_n hz dX12_wager_72 rfl ?_
      obtain ⟨v13, e_v13, h⟩ := x_bnd h
      refine x_iald hz dX12_wager_73 e_v13 ?_
      cases h
      exact x_iret hZ dX12_wager_74
    replace h := x_in c11 h
    by_cases c14 : a2 = 3
    · replace h := x_ip c14 h
      refine x_tsIn (t := 75) (off := 64) hz dX12_wager_11 (by rw [c14]; decide) (by rw [c14]; decide) (by rw [c14]; decide) (by decide) ?_
      refine x_aload_n hz dX12_wager_75 rfl ?_
      obtain ⟨v15, e_v15, h⟩ := x_bnd h
      refine x_getA hz dX12_wager_76 fs_X12_25 e_v15 ?_
      refine x_iload_n hz dX12_wager_79 rfl ?_
      obtain ⟨v16, e_v16, h⟩ := x_bnd h
      refine x_iald hz dX12_wager_80 e_v16 ?_
      cases h
      exact x_iret hZ dX12_wager_81
    replace h := x_in c14 h
    by_cases c17 : a2 = 4
    · replace h := x_ip c17 h
      refine x_tsIn (t := 82) (off := 71) hz dX12_wager_11 (by rw [c17]; decide) (by rw [c17]; decide) (by rw [c17]; decide) (by decide) ?_
      refine x_aload_n hz dX12_wager_82 rfl ?_
      obtain ⟨v18, e_v18, h⟩ := x_bnd h
      refine x_getA hz dX12_wager_83 fs_X12_43 e_v18 ?_
      refine x_iload_n hz dX12_wager_86 rfl ?_
      obtain ⟨v19, e_v19, h⟩ := x_bnd h
      refine x_iald hz dX12_wager_87 e_v19 ?_
      refine x_aload_n hz dX12_wager_88 rfl ?_
      obtain ⟨v20, e_v20, h⟩ := x_bnd h
      refine x_getA hz dX12_wager_89 fs_X12_46 e_v20 ?_
      refine x_iload_n hz dX12_wager_92 rfl ?_
      obtain ⟨v21, e_v21, h⟩ := x_bnd h
      refine x_iald hz dX12_wager_93 e_v21 ?_
      refine x_icmp_ge (t := 101) hz dX12_wager_94 (by decide) (fun c22 => ?_) (fun c22 => ?_)
      · replace h := x_ip c22 h
        refine x_iconst (v := (0 : Int32)) hz dX12_wager_101 (by decide) ?_
        exact x_wk (xwk_n (xwk_n (xwk_n xwk_0))) ((P_X12_wager_J102 hZ) (0 : Int32) H1 h)
      · replace h := x_in c22 h
        refine x_iconst (v := (1 : Int32)) hz dX12_wager_97 (by decide) ?_
        refine x_goto (t := 102) hz dX12_wager_98 (by decide) ?_
        exact x_wk (xwk_n (xwk_n (xwk_n xwk_0))) ((P_X12_wager_J102 hZ) (1 : Int32) H1 h)
    replace h := x_in c17 h
    by_cases c23 : a2 = 5
    · replace h := x_ip c23 h
      refine x_tsIn (t := 106) (off := 95) hz dX12_wager_11 (by rw [c23]; decide) (by rw [c23]; decide) (by rw [c23]; decide) (by decide) ?_
      refine x_aload_n hz dX12_wager_106 rfl ?_
      obtain ⟨v24, e_v24, h⟩ := x_bnd h
      refine x_getA hz dX12_wager_107 fs_X12_46 e_v24 ?_
      refine x_iload_n hz dX12_wager_110 rfl ?_
      obtain ⟨v25, e_v25, h⟩ := x_bnd h
      refine x_iald hz dX12_wager_111 e_v25 ?_
      refine x_aload_n hz dX12_wager_112 rfl ?_
      obtain ⟨v26, e_v26, h⟩ := x_bnd h
      refine x_getA hz dX12_wager_113 fs_X12_49 e_v26 ?_
      refine x_iload_n hz dX12_wager_116 rfl ?_
      obtain ⟨v27, e_v27, h⟩ := x_bnd h
      refine x_iald hz dX12_wager_117 e_v27 ?_
      refine x_icmp_ge (t := 125) hz dX12_wager_118 (by decide) (fun c28 => ?_) (fun c28 => ?_)
      · replace h := x_ip c28 h
        refine x_iconst (v := (0 : Int32)) hz dX12_wager_125 (by decide) ?_
        exact x_wk (xwk_n (xwk_n (xwk_n xwk_0))) ((P_X12_wager_J126 hZ) (0 : Int32) H1 h)
      · replace h := x_in c28 h
        refine x_iconst (v := (1 : Int32)) hz dX12_wager_121 (by decide) ?_
        refine x_goto (t := 126) hz dX12_wager_122 (by decide) ?_
        exact x_wk (xwk_n (xwk_n (xwk_n xwk_0))) ((P_X12_wager_J126 hZ) (1 : Int32) H1 h)
    replace h := x_in c23 h
    refine x_tsOut (t := 130) hz dX12_wager_11 (x_tsN a2 (0) (5) (by decide) (by decide) (fun i h1 h2 => ?_)) (by decide) ?_
    · (have h3 : i = 0 ∨ i = 1 ∨ i = 2 ∨ i = 3 ∨ i = 4 ∨ i = 5 := by omega); rcases h3 with rfl | rfl | rfl | rfl | rfl | rfl <;> intro e <;> first | exact c5 (Int32.toInt_inj.mp (e.trans rfl)) | exact c8 (Int32.toInt_inj.mp (e.trans rfl)) | exact c11 (Int32.toInt_inj.mp (e.trans rfl)) | exact c14 (Int32.toInt_inj.mp (e.trans rfl)) | exact c17 (Int32.toInt_inj.mp (e.trans rfl)) | exact c23 (Int32.toInt_inj.mp (e.trans rfl))
    refine x_iconst (v := (-1 : Int32)) hz dX12_wager_130 (by decide) ?_
    cases h
    exact x_iret hZ dX12_wager_131
  · replace h := x_ip c4 h
    refine x_iconst (v := (-1 : Int32)) hz dX12_wager_8 (by decide) ?_
    cases h
    exact x_iret hZ dX12_wager_9
theorem M_X12_wager {N : Nat} {a0 : (Option Nat)} {a1 : Int32} {a2 : Int32} {H H1 : xH} {r1 : Int32} (h : F_X12_wager N a0 a1 a2 H = some (r1, H1)) : xM yX12_wager cX12_wager 3 (some .int) 3 [.inr (.inr a0), .inl a1, .inl a2] H (some (.int r1)) H1 :=
  xM_of (by decide +kernel) (xT_tb 1443 (by decide +kernel) (by decide +kernel)) (by simp [xargs, x2]) rfl (P_X12_wager rfl a0 a1 a2 H h)
/-! BettingBookModel.sell(IIII)Z -/
noncomputable def F_X12_sell (N : Nat) (a0 : (Option Nat)) (a1 : Int32) (a2 : Int32) (a3 : Int32) (a4 : Int32) (H : xH) : Option (Int32 × xH) :=
  (xob H a0 11).bind fun b2 =>
  x_bd2 (F_X12_isWager N a0 a1 H) fun v3 H1 =>
  if v3 = 0 then (some ((0 : Int32), H1)) else (x_bd2 (F_X12_isIn N a2 (0 : Int32) (1 : Int32) H1) fun v6 H5 =>
  if v6 = 0 then (some ((0 : Int32), H5)) else ((xob H5 a0 11).bind fun b9 =>
  x_bd2 (F_X12_isMember N a0 a3 H5) fun v10 H8 =>
  if v10 = 0 then (some ((0 : Int32), H8)) else (x_bd2 (F_X12_isIn N a4 (0 : Int32) (9999 : Int32) H8) fun v13 H12 =>
  if v13 = 0 then (some ((0 : Int32), H12)) else ((xgA H12 a0 11 52).bind fun v15 =>
  (xlI .int H12 v15 (((2 : Int32) * a1) + a2)).bind fun v16 =>
  if v16 = a3 then (some ((0 : Int32), H12)) else ((xob H12 a0 11).bind fun b19 =>
  x_bd2 (F_X12_isSure N a0 a1 H12) fun v20 H18 =>
  if v20 = 0 then ((xgA H18 a0 11 53).bind fun v22 =>
  (xgA H18 a0 11 52).bind fun v23 =>
  (xlI .int H18 v23 (((2 : Int32) * a1) + a2)).bind fun v24 =>
  (xlI .int H18 v22 v24).bind fun v25 =>
  (xsI .int H18 v22 v24 (v25 + a4)).bind fun H26 =>
  (xgA H26 a0 11 53).bind fun v27 =>
  (xlI .int H26 v27 a3).bind fun v28 =>
  (xsI .int H26 v27 a3 (v28 - a4)).bind fun H29 =>
  (xgA H29 a0 11 52).bind fun v30 =>
  (xsI .int H29 v30 (((2 : Int32) * a1) + a2) a3).bind fun H31 =>
  (xgI H31 a0 11 51).bind fun v32 =>
  (xpI H31 a0 11 51 (v32 + (1 : Int32))).bind fun H33 =>
  some ((1 : Int32), H33)) else (some ((0 : Int32), H18)))))))
set_option maxRecDepth 20000 in
set_option maxHeartbeats 4000000 in
theorem P_X12_sell {N : Nat} {Z : xZ} {rv : Int32} {Hf : xH} (hZ : Z = xZm cX12_sell yX12_sell 5 4 (some .boolean) (some (.int rv)) Hf) : ∀ (a0 : (Option Nat)) (a1 : Int32) (a2 : Int32) (a3 : Int32) (a4 : Int32) (H : xH), F_X12_sell N a0 a1 a2 a3 a4 H = some (rv, Hf) → xWq Z H 0 [xA a0, xI a1, xI a2, xI a3, xI a4] [] := by
  have hz : Z.1 = (cX12_sell, yX12_sell, 5) := by rw [hZ]; rfl
  have hδ : Z.2.1 = 4 := by rw [hZ]; rfl
  intro a0 a1 a2 a3 a4 H h
  unfold F_X12_sell at h
  refine x_aload_n hz dX12_sell_0 rfl ?_
  refine x_iload_n hz dX12_sell_1 rfl ?_
  obtain ⟨b2, e_b2, h⟩ := x_bnd h
  obtain ⟨v3, H1, e_H1, h⟩ := x_b2 h
  refine x_callVi (as := [.inl a1]) (st := []) cs_X12_361 (ci := 11) ⟨rfl, rfl⟩ rfl rfl hz (by omega) (by decide) dX12_sell_2 e_b2 (M_X12_isWager e_H1) ?_
  refine x_if_eq (t := 59) hz dX12_sell_5 (by decide) (fun c4 => ?_) (fun c4 => ?_)
  · replace h := x_ip c4 h
    refine x_iconst (v := (0 : Int32)) hz dX12_sell_59 (by decide) ?_
    cases h
    exact x_zret01 hZ (Or.inl rfl) dX12_sell_60
  · replace h := x_in c4 h
    refine x_iload_n hz dX12_sell_8 rfl ?_
    refine x_iconst (v := (0 : Int32)) hz dX12_sell_9 (by decide) ?_
    refine x_iconst (v := (1 : Int32)) hz dX12_sell_10 (by decide) ?_
    obtain ⟨v6, H5, e_H5, h⟩ := x_b2 h
    refine x_callSi (as := [.inl a2, .inl (0 : Int32), .inl (1 : Int32)]) (st := []) cs_X12_153 rfl rfl hz (by omega) (by decide) dX12_sell_11 (M_X12_isIn e_H5) ?_
    refine x_if_eq (t := 59) hz dX12_sell_14 (by decide) (fun c7 => ?_) (fun c7 => ?_)
    · replace h := x_ip c7 h
      refine x_iconst (v := (0 : Int32)) hz dX12_sell_59 (by decide) ?_
      cases h
      exact x_zret01 hZ (Or.inl rfl) dX12_sell_60
    · replace h := x_in c7 h
      refine x_aload_n hz dX12_sell_17 rfl ?_
      refine x_iload_n hz dX12_sell_18 rfl ?_
      obtain ⟨b9, e_b9, h⟩ := x_bnd h
      obtain ⟨v10, H8, e_H8, h⟩ := x_b2 h
      refine x_callVi (as := [.inl a3]) (st := []) cs_X12_390 (ci := 11) ⟨rfl, rfl⟩ rfl rfl hz (by omega) (by decide) dX12_sell_19 e_b9 (M_X12_isMember e_H8) ?_
      refine x_if_eq (t := 59) hz dX12_sell_22 (by decide) (fun c11 => ?_) (fun c11 => ?_)
      · replace h := x_ip c11 h
        refine x_iconst (v := (0 : Int32)) hz dX12_sell_59 (by decide) ?_
        cases h
        exact x_zret01 hZ (Or.inl rfl) dX12_sell_60
      · replace h := x_in c11 h
        refine x_iload hz dX12_sell_25 rfl ?_
        refine x_iconst (v := (0 : Int32)) hz dX12_sell_27 (by decide) ?_
        refine x_sipush (v := (9999 : Int32)) hz dX12_sell_28 (by decide) ?_
        obtain ⟨v13, H12, e_H12, h⟩ := x_b2 h
        refine x_callSi (as := [.inl a4, .inl (0 : Int32), .inl (9999 : Int32)]) (st := []) cs_X12_153 rfl rfl hz (by omega) (by decide) dX12_sell_31 (M_X12_isIn e_H12) ?_
        refine x_if_eq (t := 59) hz dX12_sell_34 (by decide) (fun c14 => ?_) (fun c14 => ?_)
        · replace h := x_ip c14 h
          refine x_iconst (v := (0 : Int32)) hz dX12_sell_59 (by decide) ?_
          cases h
          exact x_zret01 hZ (Or.inl rfl) dX12_sell_60
        · replace h := x_in c14 h
          refine x_aload_n hz dX12_sell_37 rfl ?_
          obtain ⟨v15, e_v15, h⟩ := x_bnd h
          refine x_getA hz dX12_sell_38 fs_X12_100 e_v15 ?_
          refine x_iconst (v := (2 : Int32)) hz dX12_sell_41 (by decide) ?_
          refine x_iload_n hz dX12_sell_42 rfl ?_
          refine x_imul hz dX12_sell_43 ?_
          refine x_iload_n hz dX12_sell_44 rfl ?_
          refine x_iadd hz dX12_sell_45 ?_
          obtain ⟨v16, e_v16, h⟩ := x_bnd h
          refine x_iald hz dX12_sell_46 e_v16 ?_
          refine x_iload_n hz dX12_sell_47 rfl ?_
          refine x_icmp_eq (t := 59) hz dX12_sell_48 (by decide) (fun c17 => ?_) (fun c17 => ?_)
          · replace h := x_ip c17 h
            refine x_iconst (v := (0 : Int32)) hz dX12_sell_59 (by decide) ?_
            cases h
            exact x_zret01 hZ (Or.inl rfl) dX12_sell_60
          · replace h := x_in c17 h
            refine x_aload_n hz dX12_sell_51 rfl ?_
            refine x_iload_n hz dX12_sell_52 rfl ?_
            obtain ⟨b19, e_b19, h⟩ := x_bnd h
            obtain ⟨v20, H18, e_H18, h⟩ := x_b2 h
            refine x_callVi (as := [.inl a1]) (st := []) cs_X12_372 (ci := 11) ⟨rfl, rfl⟩ rfl rfl hz (by omega) (by decide) dX12_sell_53 e_b19 (M_X12_isSure e_H18) ?_
            refine x_if_eq (t := 61) hz dX12_sell_56 (by decide) (fun c21 => ?_) (fun c21 => ?_)
            · replace h := x_ip c21 h
              refine x_aload_n hz dX12_sell_61 rfl ?_
              obtain ⟨v22, e_v22, h⟩ := x_bnd h
              refine x_getA hz dX12_sell_62 fs_X12_103 e_v22 ?_
              refine x_aload_n hz dX12_sell_65 rfl ?_
              obtain ⟨v23, e_v23, h⟩ := x_bnd h
              refine x_getA hz dX12_sell_66 fs_X12_100 e_v23 ?_
              refine x_iconst (v := (2 : Int32)) hz dX12_sell_69 (by decide) ?_
              refine x_iload_n hz dX12_sell_70 rfl ?_
              refine x_imul hz dX12_sell_71 ?_
              refine x_iload_n hz dX12_sell_72 rfl ?_
              refine x_iadd hz dX12_sell_73 ?_
              obtain ⟨v24, e_v24, h⟩ := x_bnd h
              refine x_iald hz dX12_sell_74 e_v24 ?_
              refine x_dup2 hz dX12_sell_75 rfl (x_rfc _) ?_
              obtain ⟨v25, e_v25, h⟩ := x_bnd h
              refine x_iald hz dX12_sell_76 e_v25 ?_
              refine x_iload hz dX12_sell_77 rfl ?_
              refine x_iadd hz dX12_sell_79 ?_
              obtain ⟨H26, e_H26, h⟩ := x_bnd h
              refine x_iast hz dX12_sell_80 e_H26 ?_
              refine x_aload_n hz dX12_sell_81 rfl ?_
              obtain ⟨v27, e_v27, h⟩ := x_bnd h
              refine x_getA hz dX12_sell_82 fs_X12_103 e_v27 ?_
              refine x_iload_n hz dX12_sell_85 rfl ?_
              refine x_dup2 hz dX12_sell_86 rfl (x_rfc _) ?_
              obtain ⟨v28, e_v28, h⟩ := x_bnd h
              refine x_iald hz dX12_sell_87 e_v28 ?_
              refine x_iload hz dX12_sell_88 rfl ?_
              refine x_isub hz dX12_sell_90 ?_
              obtain ⟨H29, e_H29, h⟩ := x_bnd h
              refine x_iast hz dX12_sell_91 e_H29 ?_
              refine x_aload_n hz dX12_sell_92 rfl ?_
              obtain ⟨v30, e_v30, h⟩ := x_bnd h
              refine x_getA hz dX12_sell_93 fs_X12_100 e_v30 ?_
              refine x_iconst (v := (2 : Int32)) hz dX12_sell_96 (by decide) ?_
              refine x_iload_n hz dX12_sell_97 rfl ?_
              refine x_imul hz dX12_sell_98 ?_
              refine x_iload_n hz dX12_sell_99 rfl ?_
              refine x_iadd hz dX12_sell_100 ?_
              refine x_iload_n hz dX12_sell_101 rfl ?_
              obtain ⟨H31, e_H31, h⟩ := x_bnd h
              refine x_iast hz dX12_sell_102 e_H31 ?_
              refine x_aload_n hz dX12_sell_103 rfl ?_
              refine x_dup hz dX12_sell_104 (x_rfc _) ?_
              obtain ⟨v32, e_v32, h⟩ := x_bnd h
              refine x_getI hz dX12_sell_105 fs_X12_307 e_v32 ?_
              refine x_iconst (v := (1 : Int32)) hz dX12_sell_108 (by decide) ?_
              refine x_iadd hz dX12_sell_109 ?_
              obtain ⟨H33, e_H33, h⟩ := x_bnd h
              refine x_putV (v := .int (v32 + (1 : Int32))) hz dX12_sell_110 fs_X12_307 rfl rfl e_H33 ?_
              refine x_iconst (v := (1 : Int32)) hz dX12_sell_113 (by decide) ?_
              cases h
              exact x_zret01 hZ (Or.inr rfl) dX12_sell_114
            · replace h := x_in c21 h
              refine x_iconst (v := (0 : Int32)) hz dX12_sell_59 (by decide) ?_
              cases h
              exact x_zret01 hZ (Or.inl rfl) dX12_sell_60
theorem M_X12_sell {N : Nat} {a0 : (Option Nat)} {a1 : Int32} {a2 : Int32} {a3 : Int32} {a4 : Int32} {H H1 : xH} {r1 : Int32} (h : F_X12_sell N a0 a1 a2 a3 a4 H = some (r1, H1)) : xM yX12_sell cX12_sell 5 (some .boolean) 4 [.inr (.inr a0), .inl a1, .inl a2, .inl a3, .inl a4] H (some (.int r1)) H1 :=
  xM_of (by decide +kernel) (xT_tb 1447 (by decide +kernel) (by decide +kernel)) (by simp [xargs, x2]) rfl (P_X12_sell rfl a0 a1 a2 a3 a4 H h)
/-! BettingBookModel.paid(III)Z -/
noncomputable def F_X12_paid (N : Nat) (a0 : (Option Nat)) (a1 : Int32) (a2 : Int32) (a3 : Int32) (H : xH) : Option (Int32 × xH) :=
  (xob H a0 11).bind fun b2 =>
  x_bd2 (F_X12_isMember N a0 a1 H) fun v3 H1 =>
  if v3 = 0 then (some ((0 : Int32), H1)) else ((xob H1 a0 11).bind fun b6 =>
  x_bd2 (F_X12_isMember N a0 a2 H1) fun v7 H5 =>
  if v7 = 0 then (some ((0 : Int32), H5)) else (if a1 = a2 then (some ((0 : Int32), H5)) else (x_bd2 (F_X12_isIn N a3 (1 : Int32) (9999 : Int32) H5) fun v11 H10 =>
  if v11 = 0 then (some ((0 : Int32), H10)) else ((xgA H10 a0 11 53).bind fun v13 =>
  (xlI .int H10 v13 a1).bind fun v14 =>
  (xsI .int H10 v13 a1 (v14 + a3)).bind fun H15 =>
  (xgA H15 a0 11 53).bind fun v16 =>
  (xlI .int H15 v16 a2).bind fun v17 =>
  (xsI .int H15 v16 a2 (v17 - a3)).bind fun H18 =>
  some ((1 : Int32), H18)))))
set_option maxRecDepth 20000 in
set_option maxHeartbeats 4000000 in
theorem P_X12_paid {N : Nat} {Z : xZ} {rv : Int32} {Hf : xH} (hZ : Z = xZm cX12_paid yX12_paid 4 3 (some .boolean) (some (.int rv)) Hf) : ∀ (a0 : (Option Nat)) (a1 : Int32) (a2 : Int32) (a3 : Int32) (H : xH), F_X12_paid N a0 a1 a2 a3 H = some (rv, Hf) → xWq Z H 0 [xA a0, xI a1, xI a2, xI a3] [] := by
  have hz : Z.1 = (cX12_paid, yX12_paid, 4) := by rw [hZ]; rfl
  have hδ : Z.2.1 = 3 := by rw [hZ]; rfl
  intro a0 a1 a2 a3 H h
  unfold F_X12_paid at h
  refine x_aload_n hz dX12_paid_0 rfl ?_
  refine x_iload_n hz dX12_paid_1 rfl ?_
  obtain ⟨b2, e_b2, h⟩ := x_bnd h
  obtain ⟨v3, H1, e_H1, h⟩ := x_b2 h
  refine x_callVi (as := [.inl a1]) (st := []) cs_X12_390 (ci := 11) ⟨rfl, rfl⟩ rfl rfl hz (by omega) (by decide) dX12_paid_2 e_b2 (M_X12_isMember e_H1) ?_
  refine x_if_eq (t := 32) hz dX12_paid_5 (by decide) (fun c4 => ?_) (fun c4 => ?_)
  · replace h := x_ip c4 h
    refine x_iconst (v := (0 : Int32)) hz dX12_paid_32 (by decide) ?_
    cases h
    exact x_zret01 hZ (Or.inl rfl) dX12_paid_33
  · replace h := x_in c4 h
    refine x_aload_n hz dX12_paid_8 rfl ?_
    refine x_iload_n hz dX12_paid_9 rfl ?_
    obtain ⟨b6, e_b6, h⟩ := x_bnd h
    obtain ⟨v7, H5, e_H5, h⟩ := x_b2 h
    refine x_callVi (as := [.inl a2]) (st := []) cs_X12_390 (ci := 11) ⟨rfl, rfl⟩ rfl rfl hz (by omega) (by decide) dX12_paid_10 e_b6 (M_X12_isMember e_H5) ?_
    refine x_if_eq (t := 32) hz dX12_paid_13 (by decide) (fun c8 => ?_) (fun c8 => ?_)
    · replace h := x_ip c8 h
      refine x_iconst (v := (0 : Int32)) hz dX12_paid_32 (by decide) ?_
      cases h
      exact x_zret01 hZ (Or.inl rfl) dX12_paid_33
    · replace h := x_in c8 h
      refine x_iload_n hz dX12_paid_16 rfl ?_
      refine x_iload_n hz dX12_paid_17 rfl ?_
      refine x_icmp_eq (t := 32) hz dX12_paid_18 (by decide) (fun c9 => ?_) (fun c9 => ?_)
      · replace h := x_ip c9 h
        refine x_iconst (v := (0 : Int32)) hz dX12_paid_32 (by decide) ?_
        cases h
        exact x_zret01 hZ (Or.inl rfl) dX12_paid_33
      · replace h := x_in c9 h
        refine x_iload_n hz dX12_paid_21 rfl ?_
        refine x_iconst (v := (1 : Int32)) hz dX12_paid_22 (by decide) ?_
        refine x_sipush (v := (9999 : Int32)) hz dX12_paid_23 (by decide) ?_
        obtain ⟨v11, H10, e_H10, h⟩ := x_b2 h
        refine x_callSi (as := [.inl a3, .inl (1 : Int32), .inl (9999 : Int32)]) (st := []) cs_X12_153 rfl rfl hz (by omega) (by decide) dX12_paid_26 (M_X12_isIn e_H10) ?_
        refine x_if_ne (t := 34) hz dX12_paid_29 (by decide) (fun c12 => ?_) (fun c12 => ?_)
        · replace h := x_in c12 h
          refine x_aload_n hz dX12_paid_34 rfl ?_
          obtain ⟨v13, e_v13, h⟩ := x_bnd h
          refine x_getA hz dX12_paid_35 fs_X12_103 e_v13 ?_
          refine x_iload_n hz dX12_paid_38 rfl ?_
          refine x_dup2 hz dX12_paid_39 rfl (x_rfc _) ?_
          obtain ⟨v14, e_v14, h⟩ := x_bnd h
          refine x_iald hz dX12_paid_40 e_v14 ?_
          refine x_iload_n hz dX12_paid_41 rfl ?_
          refine x_iadd hz dX12_paid_42 ?_
          obtain ⟨H15, e_H15, h⟩ := x_bnd h
          refine x_iast hz dX12_paid_43 e_H15 ?_
          refine x_aload_n hz dX12_paid_44 rfl ?_
          obtain ⟨v16, e_v16, h⟩ := x_bnd h
          refine x_getA hz dX12_paid_45 fs_X12_103 e_v16 ?_
          refine x_iload_n hz dX12_paid_48 rfl ?_
          refine x_dup2 hz dX12_paid_49 rfl (x_rfc _) ?_
          obtain ⟨v17, e_v17, h⟩ := x_bnd h
          refine x_iald hz dX12_paid_50 e_v17 ?_
          refine x_iload_n hz dX12_paid_51 rfl ?_
          refine x_isub hz dX12_paid_52 ?_
          obtain ⟨H18, e_H18, h⟩ := x_bnd h
          refine x_iast hz dX12_paid_53 e_H18 ?_
          refine x_iconst (v := (1 : Int32)) hz dX12_paid_54 (by decide) ?_
          cases h
          exact x_zret01 hZ (Or.inr rfl) dX12_paid_55
        · replace h := x_ip c12 h
          refine x_iconst (v := (0 : Int32)) hz dX12_paid_32 (by decide) ?_
          cases h
          exact x_zret01 hZ (Or.inl rfl) dX12_paid_33
theorem M_X12_paid {N : Nat} {a0 : (Option Nat)} {a1 : Int32} {a2 : Int32} {a3 : Int32} {H H1 : xH} {r1 : Int32} (h : F_X12_paid N a0 a1 a2 a3 H = some (r1, H1)) : xM yX12_paid cX12_paid 4 (some .boolean) 3 [.inr (.inr a0), .inl a1, .inl a2, .inl a3] H (some (.int r1)) H1 :=
  xM_of (by decide +kernel) (xT_tb 1455 (by decide +kernel) (by decide +kernel)) (by simp [xargs, x2]) rfl (P_X12_paid rfl a0 a1 a2 a3 H h)
/-! BettingBookModel.sidesOf(II)I -/
noncomputable def F_X12_sidesOf_J39 (N : Nat) (s0 : Int32) (s1 : Int32) (H : xH) : Option (Int32 × xH) :=
  x_bd2 (F_X12_unit N s1 H) fun v2 H1 =>
  some ((s0 - v2), H1)
set_option maxRecDepth 20000 in
set_option maxHeartbeats 4000000 in
theorem P_X12_sidesOf_J39 {N : Nat} {Z : xZ} {rv : Int32} {Hf : xH} (hZ : Z = xZm cX12_sidesOf yX12_sidesOf 3 2 (some .int) (some (.int rv)) Hf) : ∀ (s0 : Int32) (s1 : Int32) (H : xH), F_X12_sidesOf_J39 N s0 s1 H = some (rv, Hf) → xWq Z H 39 [xN, xN, xN] [.int s1, .int s0] := by
  have hz : Z.1 = (cX12_sidesOf, yX12_sidesOf, 3) := by rw [hZ]; rfl
  have hδ : Z.2.1 = 2 := by rw [hZ]; rfl
  intro s0 s1 H h
  unfold F_X12_sidesOf_J39 at h
  obtain ⟨v2, H1, e_H1, h⟩ := x_b2 h
  refine x_callSi (as := [.inl s1]) (st := [.int s0]) cs_X12_319 rfl rfl hz (by omega) (Nat.le_trans (x_sm1 rfl x_sm0) (by decide)) dX12_sidesOf_39 (M_X12_unit e_H1) ?_
  refine x_isub hz dX12_sidesOf_42 ?_
  cases h
  exact x_iret hZ dX12_sidesOf_43
noncomputable def F_X12_sidesOf_J17 (N : Nat) (x0 : (Option Nat)) (x1 : Int32) (x2 : Int32) (s0 : Int32) (H : xH) : Option (Int32 × xH) :=
  x_bd2 (F_X12_unit N s0 H) fun v2 H1 =>
  (xgA H1 x0 11 52).bind fun v3 =>
  (xlI .int H1 v3 (((2 : Int32) * x1) + (1 : Int32))).bind fun v4 =>
  if v4 = x2 then ((F_X12_sidesOf_J39 N) v2 (1 : Int32) H1) else ((F_X12_sidesOf_J39 N) v2 (0 : Int32) H1)
set_option maxRecDepth 20000 in
set_option maxHeartbeats 4000000 in
theorem P_X12_sidesOf_J17 {N : Nat} {Z : xZ} {rv : Int32} {Hf : xH} (hZ : Z = xZm cX12_sidesOf yX12_sidesOf 3 2 (some .int) (some (.int rv)) Hf) : ∀ (x0 : (Option Nat)) (x1 : Int32) (x2 : Int32) (s0 : Int32) (H : xH), F_X12_sidesOf_J17 N x0 x1 x2 s0 H = some (rv, Hf) → xWq Z H 17 [xA x0, xI x1, xI x2] [.int s0] := by
  have hz : Z.1 = (cX12_sidesOf, yX12_sidesOf, 3) := by rw [hZ]; rfl
  have hδ : Z.2.1 = 2 := by rw [hZ]; rfl
  intro x0 x1 x2 s0 H h
  unfold F_X12_sidesOf_J17 at h
  obtain ⟨v2, H1, e_H1, h⟩ := x_b2 h
  refine x_callSi (as := [.inl s0]) (st := []) cs_X12_319 rfl rfl hz (by omega) (by decide) dX12_sidesOf_17 (M_X12_unit e_H1) ?_
  refine x_aload_n hz dX12_sidesOf_20 rfl ?_
  obtain ⟨v3, e_v3, h⟩ := x_bnd h
  refine x_getA hz dX12_sidesOf_21 fs_X12_100 e_v3 ?_
  refine x_iconst (v := (2 : Int32)) hz dX12_sidesOf_24 (by decide) ?_
  refine x_iload_n hz dX12_sidesOf_25 rfl ?_
  refine x_imul hz dX12_sidesOf_26 ?_
  refine x_iconst (v := (1 : Int32)) hz dX12_sidesOf_27 (by decide) ?_
  refine x_iadd hz dX12_sidesOf_28 ?_
  obtain ⟨v4, e_v4, h⟩ := x_bnd h
  refine x_iald hz dX12_sidesOf_29 e_v4 ?_
  refine x_iload_n hz dX12_sidesOf_30 rfl ?_
  refine x_icmp_ne (t := 38) hz dX12_sidesOf_31 (by decide) (fun c5 => ?_) (fun c5 => ?_)
  · replace h := x_in c5 h
    refine x_iconst (v := (0 : Int32)) hz dX12_sidesOf_38 (by decide) ?_
    exact x_wk (xwk_n (xwk_n (xwk_n xwk_0))) ((P_X12_sidesOf_J39 hZ) v2 (0 : Int32) H1 h)
  · replace h := x_ip c5 h
    refine x_iconst (v := (1 : Int32)) hz dX12_sidesOf_34 (by decide) ?_
    refine x_goto (t := 39) hz dX12_sidesOf_35 (by decide) ?_
    exact x_wk (xwk_n (xwk_n (xwk_n xwk_0))) ((P_X12_sidesOf_J39 hZ) v2 (1 : Int32) H1 h)
noncomputable def F_X12_sidesOf (N : Nat) (a0 : (Option Nat)) (a1 : Int32) (a2 : Int32) (H : xH) : Option (Int32 × xH) :=
  (xgA H a0 11 52).bind fun v1 =>
  (xlI .int H v1 ((2 : Int32) * a1)).bind fun v2 =>
  if v2 = a2 then ((F_X12_sidesOf_J17 N) a0 a1 a2 (1 : Int32) H) else ((F_X12_sidesOf_J17 N) a0 a1 a2 (0 : Int32) H)
set_option maxRecDepth 20000 in
set_option maxHeartbeats 4000000 in
theorem P_X12_sidesOf {N : Nat} {Z : xZ} {rv : Int32} {Hf : xH} (hZ : Z = xZm cX12_sidesOf yX12_sidesOf 3 2 (some .int) (some (.int rv)) Hf) : ∀ (a0 : (Option Nat)) (a1 : Int32) (a2 : Int32) (H : xH), F_X12_sidesOf N a0 a1 a2 H = some (rv, Hf) → xWq Z H 0 [xA a0, xI a1, xI a2] [] := by
  have hz : Z.1 = (cX12_sidesOf, yX12_sidesOf, 3) := by rw [hZ]; rfl
  have hδ : Z.2.1 = 2 := by rw [hZ]; rfl
  intro a0 a1 a2 H h
  unfold F_X12_sidesOf at h
  refine x_aload_n hz dX12_sidesOf_0 rfl ?_
  obtain ⟨v1, e_v1, h⟩ := x_bnd h
  refine x_getA hz dX12_sidesOf_1 fs_X12_100 e_v1 ?_
  refine x_iconst (v := (2 : Int32)) hz dX12_sidesOf_4 (by decide) ?_
  refine x_iload_n hz dX12_sidesOf_5 rfl ?_
  refine x_imul hz dX12_sidesOf_6 ?_
  obtain ⟨v2, e_v2, h⟩ := x_bnd h
  refine x_iald hz dX12_sidesOf_7 e_v2 ?_
  refine x_iload_n hz dX12_sidesOf_8 rfl ?_
  refine x_icmp_ne (t := 16) hz dX12_sidesOf_9 (by decide) (fun c3 => ?_) (fun c3 => ?_)
  · replace h := x_in c3 h
    refine x_iconst (v := (0 : Int32)) hz dX12_sidesOf_16 (by decide) ?_
    exact x_wk (xwk_c (xwk_c (xwk_c xwk_0))) ((P_X12_sidesOf_J17 hZ) a0 a1 a2 (0 : Int32) H h)
  · replace h := x_ip c3 h
    refine x_iconst (v := (1 : Int32)) hz dX12_sidesOf_12 (by decide) ?_
    refine x_goto (t := 17) hz dX12_sidesOf_13 (by decide) ?_
    exact x_wk (xwk_c (xwk_c (xwk_c xwk_0))) ((P_X12_sidesOf_J17 hZ) a0 a1 a2 (1 : Int32) H h)
theorem M_X12_sidesOf {N : Nat} {a0 : (Option Nat)} {a1 : Int32} {a2 : Int32} {H H1 : xH} {r1 : Int32} (h : F_X12_sidesOf N a0 a1 a2 H = some (r1, H1)) : xM yX12_sidesOf cX12_sidesOf 3 (some .int) 2 [.inr (.inr a0), .inl a1, .inl a2] H (some (.int r1)) H1 :=
  xM_of (by decide +kernel) (xT_tb 1475 (by decide +kernel) (by decide +kernel)) (by simp [xargs, x2]) rfl (P_X12_sidesOf rfl a0 a1 a2 H h)
/-! BettingBookModel.balances()V -/
noncomputable def F_X12_balances_J2 (N : Nat) (k2 : (Option Nat) → Int32 → xH → Option xH) (k28 : (Option Nat) → xH → Option xH) (x0 : (Option Nat)) (x1 : Int32) (H : xH) : Option xH :=
  (xgI H x0 11 1).bind fun v1 =>
  if v1 ≤ x1 then (k28 x0 H) else ((xgA H x0 11 54).bind fun v3 =>
  (xgA H x0 11 53).bind fun v4 =>
  (xlI .int H v4 x1).bind fun v5 =>
  (xsI .int H v3 x1 v5).bind fun H6 =>
  k2 x0 (x1 + 1) H6)
set_option maxRecDepth 20000 in
set_option maxHeartbeats 4000000 in
theorem P_X12_balances_J2 {N : Nat} {Z : xZ} {Hf : xH} (hZ : Z = xZm cX12_balances yX12_balances 2 4 none none Hf) {k2 : (Option Nat) → Int32 → xH → Option xH} (hk2 : ∀ (x0 : (Option Nat)) (x1 : Int32) (H : xH), k2 x0 x1 H = some Hf → xWq Z H 2 [xA x0, xI x1] []) {k28 : (Option Nat) → xH → Option xH} (hk28 : ∀ (x0 : (Option Nat)) (H : xH), k28 x0 H = some Hf → xWq Z H 28 [xA x0, xN] []) : ∀ (x0 : (Option Nat)) (x1 : Int32) (H : xH), F_X12_balances_J2 N k2 k28 x0 x1 H = some Hf → xWq Z H 2 [xA x0, xI x1] [] := by
  have hz : Z.1 = (cX12_balances, yX12_balances, 2) := by rw [hZ]; rfl
  have hδ : Z.2.1 = 4 := by rw [hZ]; rfl
  intro x0 x1 H h
  unfold F_X12_balances_J2 at h
  refine x_iload_n hz dX12_balances_2 rfl ?_
  refine x_aload_n hz dX12_balances_3 rfl ?_
  obtain ⟨v1, e_v1, h⟩ := x_bnd h
  refine x_getI hz dX12_balances_4 fs_X12_285 e_v1 ?_
  refine x_icmp_ge (t := 28) hz dX12_balances_7 (by decide) (fun c2 => ?_) (fun c2 => ?_)
  · replace h := x_ip c2 h
    exact x_wk (xwk_c (xwk_n xwk_0)) (hk28 x0 H h)
  · replace h := x_in c2 h
    refine x_aload_n hz dX12_balances_10 rfl ?_
    obtain ⟨v3, e_v3, h⟩ := x_bnd h
    refine x_getA hz dX12_balances_11 fs_X12_106 e_v3 ?_
    refine x_iload_n hz dX12_balances_14 rfl ?_
    refine x_aload_n hz dX12_balances_15 rfl ?_
    obtain ⟨v4, e_v4, h⟩ := x_bnd h
    refine x_getA hz dX12_balances_16 fs_X12_103 e_v4 ?_
    refine x_iload_n hz dX12_balances_19 rfl ?_
    obtain ⟨v5, e_v5, h⟩ := x_bnd h
    refine x_iald hz dX12_balances_20 e_v5 ?_
    obtain ⟨H6, e_H6, h⟩ := x_bnd h
    refine x_iast hz dX12_balances_21 e_H6 ?_
    refine x_iinc (w := (x1 + 1)) (pl' := [xA x0, xI (x1 + 1)]) hz dX12_balances_22 rfl rfl (by decide) rfl ?_
    refine x_goto (t := 2) hz dX12_balances_25 (by decide) ?_
    exact x_wk (xwk_c (xwk_c xwk_0)) (hk2 x0 (x1 + 1) H6 h)
noncomputable def F_X12_balances_L2 (N : Nat) (k28 : (Option Nat) → xH → Option xH) : Nat → (Option Nat) → Int32 → xH → Option xH
  | 0 => fun _ _ _ => none
  | n + 1 => F_X12_balances_J2 N (F_X12_balances_L2 N k28 n) k28
theorem P_X12_balances_L2 {N : Nat} {Z : xZ} {Hf : xH} (hZ : Z = xZm cX12_balances yX12_balances 2 4 none none Hf) {k28 : (Option Nat) → xH → Option xH} (hk28 : ∀ (x0 : (Option Nat)) (H : xH), k28 x0 H = some Hf → xWq Z H 28 [xA x0, xN] []) : ∀ (n : Nat) (x0 : (Option Nat)) (x1 : Int32) (H : xH), F_X12_balances_L2 N k28 n x0 x1 H = some Hf → xWq Z H 2 [xA x0, xI x1] [] := by
  intro n
  induction n with
  | zero => intro _ _ _ h; cases h
  | succ n ih => exact P_X12_balances_J2 hZ ih hk28
noncomputable def F_X12_balances_J91 (N : Nat) (k30 : (Option Nat) → Int32 → xH → Option xH) (x0 : (Option Nat)) (x1 : Int32) (H : xH) : Option xH :=
  k30 x0 (x1 + 1) H
set_option maxRecDepth 20000 in
set_option maxHeartbeats 4000000 in
theorem P_X12_balances_J91 {N : Nat} {Z : xZ} {Hf : xH} (hZ : Z = xZm cX12_balances yX12_balances 2 4 none none Hf) {k30 : (Option Nat) → Int32 → xH → Option xH} (hk30 : ∀ (x0 : (Option Nat)) (x1 : Int32) (H : xH), k30 x0 x1 H = some Hf → xWq Z H 30 [xA x0, xI x1] []) : ∀ (x0 : (Option Nat)) (x1 : Int32) (H : xH), F_X12_balances_J91 N k30 x0 x1 H = some Hf → xWq Z H 91 [xA x0, xI x1] [] := by
  have hz : Z.1 = (cX12_balances, yX12_balances, 2) := by rw [hZ]; rfl
  have hδ : Z.2.1 = 4 := by rw [hZ]; rfl
  intro x0 x1 H h
  unfold F_X12_balances_J91 at h
  refine x_iinc (w := (x1 + 1)) (pl' := [xA x0, xI (x1 + 1)]) hz dX12_balances_91 rfl rfl (by decide) rfl ?_
  refine x_goto (t := 30) hz dX12_balances_94 (by decide) ?_
  exact x_wk (xwk_c (xwk_c xwk_0)) (hk30 x0 (x1 + 1) H h)
noncomputable def F_X12_balances_J30 (N : Nat) (k30 : (Option Nat) → Int32 → xH → Option xH) (x0 : (Option Nat)) (x1 : Int32) (H : xH) : Option xH :=
  (xgI H x0 11 2).bind fun v1 =>
  if v1 ≤ x1 then (some H) else ((xob H x0 11).bind fun b4 =>
  x_bd2 (F_X12_isSure N x0 x1 H) fun v5 H3 =>
  if v5 = 0 then ((F_X12_balances_J91 N k30) x0 x1 H3) else ((xgA H3 x0 11 54).bind fun v7 =>
  (xgA H3 x0 11 52).bind fun v8 =>
  (xlI .int H3 v8 ((2 : Int32) * x1)).bind fun v9 =>
  (xlI .int H3 v7 v9).bind fun v10 =>
  (xgI H3 x0 11 49).bind fun v11 =>
  (xsI .int H3 v7 v9 (v10 + v11)).bind fun H12 =>
  (xgA H12 x0 11 54).bind fun v13 =>
  (xgA H12 x0 11 52).bind fun v14 =>
  (xlI .int H12 v14 (((2 : Int32) * x1) + (1 : Int32))).bind fun v15 =>
  (xlI .int H12 v13 v15).bind fun v16 =>
  (xgI H12 x0 11 49).bind fun v17 =>
  (xsI .int H12 v13 v15 (v16 - v17)).bind fun H18 =>
  (F_X12_balances_J91 N k30) x0 x1 H18))
set_option maxRecDepth 20000 in
set_option maxHeartbeats 4000000 in
theorem P_X12_balances_J30 {N : Nat} {Z : xZ} {Hf : xH} (hZ : Z = xZm cX12_balances yX12_balances 2 4 none none Hf) {k30 : (Option Nat) → Int32 → xH → Option xH} (hk30 : ∀ (x0 : (Option Nat)) (x1 : Int32) (H : xH), k30 x0 x1 H = some Hf → xWq Z H 30 [xA x0, xI x1] []) : ∀ (x0 : (Option Nat)) (x1 : Int32) (H : xH), F_X12_balances_J30 N k30 x0 x1 H = some Hf → xWq Z H 30 [xA x0, xI x1] [] := by
  have hz : Z.1 = (cX12_balances, yX12_balances, 2) := by rw [hZ]; rfl
  have hδ : Z.2.1 = 4 := by rw [hZ]; rfl
  intro x0 x1 H h
  unfold F_X12_balances_J30 at h
  refine x_iload_n hz dX12_balances_30 rfl ?_
  refine x_aload_n hz dX12_balances_31 rfl ?_
  obtain ⟨v1, e_v1, h⟩ := x_bnd h
  refine x_getI hz dX12_balances_32 fs_X12_288 e_v1 ?_
  refine x_icmp_ge (t := 97) hz dX12_balances_35 (by decide) (fun c2 => ?_) (fun c2 => ?_)
  · replace h := x_ip c2 h
    cases h
    exact x_vret hZ dX12_balances_97
  · replace h := x_in c2 h
    refine x_aload_n hz dX12_balances_38 rfl ?_
    refine x_iload_n hz dX12_balances_39 rfl ?_
    obtain ⟨b4, e_b4, h⟩ := x_bnd h
    obtain ⟨v5, H3, e_H3, h⟩ := x_b2 h
    refine x_callVi (as := [.inl x1]) (st := []) cs_X12_372 (ci := 11) ⟨rfl, rfl⟩ rfl rfl hz (by omega) (by decide) dX12_balances_40 e_b4 (M_X12_isSure e_H3) ?_
    refine x_if_ne (t := 49) hz dX12_balances_43 (by decide) (fun c6 => ?_) (fun c6 => ?_)
    · replace h := x_in c6 h
      refine x_aload_n hz dX12_balances_49 rfl ?_
      obtain ⟨v7, e_v7, h⟩ := x_bnd h
      refine x_getA hz dX12_balances_50 fs_X12_106 e_v7 ?_
      refine x_aload_n hz dX12_balances_53 rfl ?_
      obtain ⟨v8, e_v8, h⟩ := x_bnd h
      refine x_getA hz dX12_balances_54 fs_X12_100 e_v8 ?_
      refine x_iconst (v := (2 : Int32)) hz dX12_balances_57 (by decide) ?_
      refine x_iload_n hz dX12_balances_58 rfl ?_
      refine x_imul hz dX12_balances_59 ?_
      obtain ⟨v9, e_v9, h⟩ := x_bnd h
      refine x_iald hz dX12_balances_60 e_v9 ?_
      refine x_dup2 hz dX12_balances_61 rfl (x_rfc _) ?_
      obtain ⟨v10, e_v10, h⟩ := x_bnd h
      refine x_iald hz dX12_balances_62 e_v10 ?_
      refine x_aload_n hz dX12_balances_63 rfl ?_
      obtain ⟨v11, e_v11, h⟩ := x_bnd h
      refine x_getI hz dX12_balances_64 fs_X12_369 e_v11 ?_
      refine x_iadd hz dX12_balances_67 ?_
      obtain ⟨H12, e_H12, h⟩ := x_bnd h
      refine x_iast hz dX12_balances_68 e_H12 ?_
      refine x_aload_n hz dX12_balances_69 rfl ?_
      obtain ⟨v13, e_v13, h⟩ := x_bnd h
      refine x_getA hz dX12_balances_70 fs_X12_106 e_v13 ?_
      refine x_aload_n hz dX12_balances_73 rfl ?_
      obtain ⟨v14, e_v14, h⟩ := x_bnd h
      refine x_getA hz dX12_balances_74 fs_X12_100 e_v14 ?_
      refine x_iconst (v := (2 : Int32)) hz dX12_balances_77 (by decide) ?_
      refine x_iload_n hz dX12_balances_78 rfl ?_
      refine x_imul hz dX12_balances_79 ?_
      refine x_iconst (v := (1 : Int32)) hz dX12_balances_80 (by decide) ?_
      refine x_iadd hz dX12_balances_81 ?_
      obtain ⟨v15, e_v15, h⟩ := x_bnd h
      refine x_iald hz dX12_balances_82 e_v15 ?_
      refine x_dup2 hz dX12_balances_83 rfl (x_rfc _) ?_
      obtain ⟨v16, e_v16, h⟩ := x_bnd h
      refine x_iald hz dX12_balances_84 e_v16 ?_
      refine x_aload_n hz dX12_balances_85 rfl ?_
      obtain ⟨v17, e_v17, h⟩ := x_bnd h
      refine x_getI hz dX12_balances_86 fs_X12_369 e_v17 ?_
      refine x_isub hz dX12_balances_89 ?_
      obtain ⟨H18, e_H18, h⟩ := x_bnd h
      refine x_iast hz dX12_balances_90 e_H18 ?_
      exact x_wk (xwk_c (xwk_c xwk_0)) ((P_X12_balances_J91 hZ hk30) x0 x1 H18 h)
    · replace h := x_ip c6 h
      refine x_goto (t := 91) hz dX12_balances_46 (by decide) ?_
      exact x_wk (xwk_c (xwk_c xwk_0)) ((P_X12_balances_J91 hZ hk30) x0 x1 H3 h)
noncomputable def F_X12_balances_L30 (N : Nat) : Nat → (Option Nat) → Int32 → xH → Option xH
  | 0 => fun _ _ _ => none
  | n + 1 => F_X12_balances_J30 N (F_X12_balances_L30 N n)
theorem P_X12_balances_L30 {N : Nat} {Z : xZ} {Hf : xH} (hZ : Z = xZm cX12_balances yX12_balances 2 4 none none Hf) : ∀ (n : Nat) (x0 : (Option Nat)) (x1 : Int32) (H : xH), F_X12_balances_L30 N n x0 x1 H = some Hf → xWq Z H 30 [xA x0, xI x1] [] := by
  intro n
  induction n with
  | zero => intro _ _ _ h; cases h
  | succ n ih => exact P_X12_balances_J30 hZ ih
noncomputable def F_X12_balances_J28 (N : Nat) (x0 : (Option Nat)) (H : xH) : Option xH :=
  (F_X12_balances_L30 N N) x0 (0 : Int32) H
set_option maxRecDepth 20000 in
set_option maxHeartbeats 4000000 in
theorem P_X12_balances_J28 {N : Nat} {Z : xZ} {Hf : xH} (hZ : Z = xZm cX12_balances yX12_balances 2 4 none none Hf) : ∀ (x0 : (Option Nat)) (H : xH), F_X12_balances_J28 N x0 H = some Hf → xWq Z H 28 [xA x0, xN] [] := by
  have hz : Z.1 = (cX12_balances, yX12_balances, 2) := by rw [hZ]; rfl
  have hδ : Z.2.1 = 4 := by rw [hZ]; rfl
  intro x0 H h
  unfold F_X12_balances_J28 at h
  refine x_iconst (v := (0 : Int32)) hz dX12_balances_28 (by decide) ?_
  refine x_istore_n (pl' := [xA x0, xI (0 : Int32)]) hz dX12_balances_29 (by decide) rfl ?_
  exact x_wk (xwk_c (xwk_c xwk_0)) ((P_X12_balances_L30 hZ N) x0 (0 : Int32) H h)
noncomputable def F_X12_balances (N : Nat) (a0 : (Option Nat)) (H : xH) : Option xH :=
  (F_X12_balances_L2 N (F_X12_balances_J28 N) N) a0 (0 : Int32) H
set_option maxRecDepth 20000 in
set_option maxHeartbeats 4000000 in
theorem P_X12_balances {N : Nat} {Z : xZ} {Hf : xH} (hZ : Z = xZm cX12_balances yX12_balances 2 4 none none Hf) : ∀ (a0 : (Option Nat)) (H : xH), F_X12_balances N a0 H = some Hf → xWq Z H 0 [xA a0, xN] [] := by
  have hz : Z.1 = (cX12_balances, yX12_balances, 2) := by rw [hZ]; rfl
  have hδ : Z.2.1 = 4 := by rw [hZ]; rfl
  intro a0 H h
  unfold F_X12_balances at h
  refine x_iconst (v := (0 : Int32)) hz dX12_balances_0 (by decide) ?_
  refine x_istore_n (pl' := [xA a0, xI (0 : Int32)]) hz dX12_balances_1 (by decide) rfl ?_
  exact x_wk (xwk_c (xwk_c xwk_0)) ((P_X12_balances_L2 hZ (P_X12_balances_J28 hZ) N) a0 (0 : Int32) H h)
theorem M_X12_balances {N : Nat} {a0 : (Option Nat)} {H H1 : xH} (h : F_X12_balances N a0 H = some H1) : xM yX12_balances cX12_balances 2 none 4 [.inr (.inr a0)] H none H1 :=
  xM_of (by decide +kernel) (xT_tb 1463 (by decide +kernel) (by decide +kernel)) (by simp [xargs, x2]) rfl (P_X12_balances rfl a0 H h)
/-! BettingBookModel.has(I)I -/
noncomputable def F_X12_has (N : Nat) (a0 : (Option Nat)) (a1 : Int32) (H : xH) : Option (Int32 × xH) :=
  (xob H a0 11).bind fun b2 =>
  x_bd2 (F_X12_isMember N a0 a1 H) fun v3 H1 =>
  if v3 = 0 then (some ((-1000000 : Int32), H1)) else ((xob H1 a0 11).bind fun b6 =>
  (F_X12_balances N a0 H1).bind fun H5 =>
  (xgA H5 a0 11 54).bind fun v7 =>
  (xlI .int H5 v7 a1).bind fun v8 =>
  some (v8, H5))
set_option maxRecDepth 20000 in
set_option maxHeartbeats 4000000 in
theorem P_X12_has {N : Nat} {Z : xZ} {rv : Int32} {Hf : xH} (hZ : Z = xZm cX12_has yX12_has 2 5 (some .int) (some (.int rv)) Hf) : ∀ (a0 : (Option Nat)) (a1 : Int32) (H : xH), F_X12_has N a0 a1 H = some (rv, Hf) → xWq Z H 0 [xA a0, xI a1] [] := by
  have hz : Z.1 = (cX12_has, yX12_has, 2) := by rw [hZ]; rfl
  have hδ : Z.2.1 = 5 := by rw [hZ]; rfl
  intro a0 a1 H h
  unfold F_X12_has at h
  refine x_aload_n hz dX12_has_0 rfl ?_
  refine x_iload_n hz dX12_has_1 rfl ?_
  obtain ⟨b2, e_b2, h⟩ := x_bnd h
  obtain ⟨v3, H1, e_H1, h⟩ := x_b2 h
  refine x_callVi (as := [.inl a1]) (st := []) cs_X12_390 (ci := 11) ⟨rfl, rfl⟩ rfl rfl hz (by omega) (by decide) dX12_has_2 e_b2 (M_X12_isMember e_H1) ?_
  refine x_if_ne (t := 12) hz dX12_has_5 (by decide) (fun c4 => ?_) (fun c4 => ?_)
  · replace h := x_in c4 h
    refine x_aload_n hz dX12_has_12 rfl ?_
    obtain ⟨b6, e_b6, h⟩ := x_bnd h
    obtain ⟨H5, e_H5, h⟩ := x_bnd h
    refine x_callVv (as := []) (st := []) cs_X12_393 (ci := 11) ⟨rfl, rfl⟩ rfl rfl hz (by omega) (by decide) dX12_has_13 e_b6 (M_X12_balances e_H5) ?_
    refine x_aload_n hz dX12_has_16 rfl ?_
    obtain ⟨v7, e_v7, h⟩ := x_bnd h
    refine x_getA hz dX12_has_17 fs_X12_106 e_v7 ?_
    refine x_iload_n hz dX12_has_20 rfl ?_
    obtain ⟨v8, e_v8, h⟩ := x_bnd h
    refine x_iald hz dX12_has_21 e_v8 ?_
    cases h
    exact x_iret hZ dX12_has_22
  · replace h := x_ip c4 h
    refine x_ldcw (v := (-1000000 : Int32)) hz dX12_has_8 wc_X12_368 ?_
    cases h
    exact x_iret hZ dX12_has_11
theorem M_X12_has {N : Nat} {a0 : (Option Nat)} {a1 : Int32} {H H1 : xH} {r1 : Int32} (h : F_X12_has N a0 a1 H = some (r1, H1)) : xM yX12_has cX12_has 2 (some .int) 5 [.inr (.inr a0), .inl a1] H (some (.int r1)) H1 :=
  xM_of (by decide +kernel) (xT_tb 1459 (by decide +kernel) (by decide +kernel)) (by simp [xargs, x2]) rfl (P_X12_has rfl a0 a1 H h)
/-! BettingBookModel.endAtRow(II)I -/
noncomputable def F_X12_endAtRow_J10 (N : Nat) (k10 : (Option Nat) → Int32 → Int32 → Int32 → Int32 → xH → Option (Int32 × xH)) (x0 : (Option Nat)) (x1 : Int32) (x2 : Int32) (x3 : Int32) (x4 : Int32) (H : xH) : Option (Int32 × xH) :=
  (xgI H x0 11 2).bind fun v1 =>
  if v1 ≤ x4 then (some (x3, H)) else ((xob H x0 11).bind fun b4 =>
  x_bd2 (F_X12_sidesOf N x0 x4 x1 H) fun v5 H3 =>
  (xob H3 x0 11).bind fun b7 =>
  x_bd2 (F_X12_paysAt N x0 x4 x2 H3) fun v8 H6 =>
  k10 x0 x1 x2 (x3 + (v5 * v8)) (x4 + 1) H6)
set_option maxRecDepth 20000 in
set_option maxHeartbeats 4000000 in
theorem P_X12_endAtRow_J10 {N : Nat} {Z : xZ} {rv : Int32} {Hf : xH} (hZ : Z = xZm cX12_endAtRow yX12_endAtRow 5 3 (some .int) (some (.int rv)) Hf) {k10 : (Option Nat) → Int32 → Int32 → Int32 → Int32 → xH → Option (Int32 × xH)} (hk10 : ∀ (x0 : (Option Nat)) (x1 : Int32) (x2 : Int32) (x3 : Int32) (x4 : Int32) (H : xH), k10 x0 x1 x2 x3 x4 H = some (rv, Hf) → xWq Z H 10 [xA x0, xI x1, xI x2, xI x3, xI x4] []) : ∀ (x0 : (Option Nat)) (x1 : Int32) (x2 : Int32) (x3 : Int32) (x4 : Int32) (H : xH), F_X12_endAtRow_J10 N k10 x0 x1 x2 x3 x4 H = some (rv, Hf) → xWq Z H 10 [xA x0, xI x1, xI x2, xI x3, xI x4] [] := by
  have hz : Z.1 = (cX12_endAtRow, yX12_endAtRow, 5) := by rw [hZ]; rfl
  have hδ : Z.2.1 = 3 := by rw [hZ]; rfl
  intro x0 x1 x2 x3 x4 H h
  unfold F_X12_endAtRow_J10 at h
  refine x_iload hz dX12_endAtRow_10 rfl ?_
  refine x_aload_n hz dX12_endAtRow_12 rfl ?_
  obtain ⟨v1, e_v1, h⟩ := x_bnd h
  refine x_getI hz dX12_endAtRow_13 fs_X12_288 e_v1 ?_
  refine x_icmp_ge (t := 43) hz dX12_endAtRow_16 (by decide) (fun c2 => ?_) (fun c2 => ?_)
  · replace h := x_ip c2 h
    refine x_iload_n hz dX12_endAtRow_43 rfl ?_
    cases h
    exact x_iret hZ dX12_endAtRow_44
  · replace h := x_in c2 h
    refine x_iload_n hz dX12_endAtRow_19 rfl ?_
    refine x_aload_n hz dX12_endAtRow_20 rfl ?_
    refine x_iload hz dX12_endAtRow_21 rfl ?_
    refine x_iload_n hz dX12_endAtRow_23 rfl ?_
    obtain ⟨b4, e_b4, h⟩ := x_bnd h
    obtain ⟨v5, H3, e_H3, h⟩ := x_b2 h
    refine x_callVi (as := [.inl x4, .inl x1]) (st := [.int x3]) cs_X12_396 (ci := 11) ⟨rfl, rfl⟩ rfl rfl hz (by omega) (Nat.le_trans (x_sm1 rfl x_sm0) (by decide)) dX12_endAtRow_24 e_b4 (M_X12_sidesOf e_H3) ?_
    refine x_aload_n hz dX12_endAtRow_27 rfl ?_
    refine x_iload hz dX12_endAtRow_28 rfl ?_
    refine x_iload_n hz dX12_endAtRow_30 rfl ?_
    obtain ⟨b7, e_b7, h⟩ := x_bnd h
    obtain ⟨v8, H6, e_H6, h⟩ := x_b2 h
    refine x_callVi (as := [.inl x4, .inl x2]) (st := [.int v5, .int x3]) cs_X12_364 (ci := 11) ⟨rfl, rfl⟩ rfl rfl hz (by omega) (Nat.le_trans (x_sm1 rfl (x_sm1 rfl x_sm0)) (by decide)) dX12_endAtRow_31 e_b7 (M_X12_paysAt e_H6) ?_
    refine x_imul hz dX12_endAtRow_34 ?_
    refine x_iadd hz dX12_endAtRow_35 ?_
    refine x_istore_n (pl' := [xA x0, xI x1, xI x2, xI (x3 + (v5 * v8)), xI x4]) hz dX12_endAtRow_36 (by decide) rfl ?_
    refine x_iinc (w := (x4 + 1)) (pl' := [xA x0, xI x1, xI x2, xI (x3 + (v5 * v8)), xI (x4 + 1)]) hz dX12_endAtRow_37 rfl rfl (by decide) rfl ?_
    refine x_goto (t := 10) hz dX12_endAtRow_40 (by decide) ?_
    exact x_wk (xwk_c (xwk_c (xwk_c (xwk_c (xwk_c xwk_0))))) (hk10 x0 x1 x2 (x3 + (v5 * v8)) (x4 + 1) H6 h)
noncomputable def F_X12_endAtRow_L10 (N : Nat) : Nat → (Option Nat) → Int32 → Int32 → Int32 → Int32 → xH → Option (Int32 × xH)
  | 0 => fun _ _ _ _ _ _ => none
  | n + 1 => F_X12_endAtRow_J10 N (F_X12_endAtRow_L10 N n)
theorem P_X12_endAtRow_L10 {N : Nat} {Z : xZ} {rv : Int32} {Hf : xH} (hZ : Z = xZm cX12_endAtRow yX12_endAtRow 5 3 (some .int) (some (.int rv)) Hf) : ∀ (n : Nat) (x0 : (Option Nat)) (x1 : Int32) (x2 : Int32) (x3 : Int32) (x4 : Int32) (H : xH), F_X12_endAtRow_L10 N n x0 x1 x2 x3 x4 H = some (rv, Hf) → xWq Z H 10 [xA x0, xI x1, xI x2, xI x3, xI x4] [] := by
  intro n
  induction n with
  | zero => intro _ _ _ _ _ _ h; cases h
  | succ n ih => exact P_X12_endAtRow_J10 hZ ih
noncomputable def F_X12_endAtRow (N : Nat) (a0 : (Option Nat)) (a1 : Int32) (a2 : Int32) (H : xH) : Option (Int32 × xH) :=
  (xgA H a0 11 53).bind fun v1 =>
  (xlI .int H v1 a1).bind fun v2 =>
  (F_X12_endAtRow_L10 N N) a0 a1 a2 v2 (0 : Int32) H
set_option maxRecDepth 20000 in
set_option maxHeartbeats 4000000 in
theorem P_X12_endAtRow {N : Nat} {Z : xZ} {rv : Int32} {Hf : xH} (hZ : Z = xZm cX12_endAtRow yX12_endAtRow 5 3 (some .int) (some (.int rv)) Hf) : ∀ (a0 : (Option Nat)) (a1 : Int32) (a2 : Int32) (H : xH), F_X12_endAtRow N a0 a1 a2 H = some (rv, Hf) → xWq Z H 0 [xA a0, xI a1, xI a2, xN, xN] [] := by
  have hz : Z.1 = (cX12_endAtRow, yX12_endAtRow, 5) := by rw [hZ]; rfl
  have hδ : Z.2.1 = 3 := by rw [hZ]; rfl
  intro a0 a1 a2 H h
  unfold F_X12_endAtRow at h
  refine x_aload_n hz dX12_endAtRow_0 rfl ?_
  obtain ⟨v1, e_v1, h⟩ := x_bnd h
  refine x_getA hz dX12_endAtRow_1 fs_X12_103 e_v1 ?_
  refine x_iload_n hz dX12_endAtRow_4 rfl ?_
  obtain ⟨v2, e_v2, h⟩ := x_bnd h
  refine x_iald hz dX12_endAtRow_5 e_v2 ?_
  refine x_istore_n (pl' := [xA a0, xI a1, xI a2, xI v2, xN]) hz dX12_endAtRow_6 (by decide) rfl ?_
  refine x_iconst (v := (0 : Int32)) hz dX12_endAtRow_7 (by decide) ?_
  refine x_istore (pl' := [xA a0, xI a1, xI a2, xI v2, xI (0 : Int32)]) hz dX12_endAtRow_8 (by decide) rfl ?_
  exact x_wk (xwk_c (xwk_c (xwk_c (xwk_c (xwk_c xwk_0))))) ((P_X12_endAtRow_L10 hZ N) a0 a1 a2 v2 (0 : Int32) H h)
theorem M_X12_endAtRow {N : Nat} {a0 : (Option Nat)} {a1 : Int32} {a2 : Int32} {H H1 : xH} {r1 : Int32} (h : F_X12_endAtRow N a0 a1 a2 H = some (r1, H1)) : xM yX12_endAtRow cX12_endAtRow 5 (some .int) 3 [.inr (.inr a0), .inl a1, .inl a2] H (some (.int r1)) H1 :=
  xM_of (by decide +kernel) (xT_tb 1471 (by decide +kernel) (by decide +kernel)) (by simp [xargs, x2]) rfl (P_X12_endAtRow rfl a0 a1 a2 H h)
/-! BettingBookModel.may(II)I -/
noncomputable def F_X12_may_J90 (N : Nat) (k29 : (Option Nat) → Int32 → Int32 → Int32 → Int32 → Int32 → xH → Option (Int32 × xH)) (x0 : (Option Nat)) (x1 : Int32) (x2 : Int32) (x3 : Int32) (x4 : Int32) (x5 : Int32) (H : xH) : Option (Int32 × xH) :=
  k29 x0 x1 x2 x3 x4 (x5 + 1) H
set_option maxRecDepth 20000 in
set_option maxHeartbeats 4000000 in
theorem P_X12_may_J90 {N : Nat} {Z : xZ} {rv : Int32} {Hf : xH} (hZ : Z = xZm cX12_may yX12_may 7 4 (some .int) (some (.int rv)) Hf) {k29 : (Option Nat) → Int32 → Int32 → Int32 → Int32 → Int32 → xH → Option (Int32 × xH)} (hk29 : ∀ (x0 : (Option Nat)) (x1 : Int32) (x2 : Int32) (x3 : Int32) (x4 : Int32) (x5 : Int32) (H : xH), k29 x0 x1 x2 x3 x4 x5 H = some (rv, Hf) → xWq Z H 29 [xA x0, xI x1, xI x2, xI x3, xI x4, xI x5, xN] []) : ∀ (x0 : (Option Nat)) (x1 : Int32) (x2 : Int32) (x3 : Int32) (x4 : Int32) (x5 : Int32) (H : xH), F_X12_may_J90 N k29 x0 x1 x2 x3 x4 x5 H = some (rv, Hf) → xWq Z H 90 [xA x0, xI x1, xI x2, xI x3, xI x4, xI x5, xN] [] := by
  have hz : Z.1 = (cX12_may, yX12_may, 7) := by rw [hZ]; rfl
  have hδ : Z.2.1 = 4 := by rw [hZ]; rfl
  intro x0 x1 x2 x3 x4 x5 H h
  unfold F_X12_may_J90 at h
  refine x_iinc (w := (x5 + 1)) (pl' := [xA x0, xI x1, xI x2, xI x3, xI x4, xI (x5 + 1), xN]) hz dX12_may_90 rfl rfl (by decide) rfl ?_
  refine x_goto (t := 29) hz dX12_may_93 (by decide) ?_
  exact x_wk (xwk_c (xwk_c (xwk_c (xwk_c (xwk_c (xwk_c (xwk_n xwk_0))))))) (hk29 x0 x1 x2 x3 x4 (x5 + 1) H h)
noncomputable def F_X12_may_J88 (N : Nat) (k29 : (Option Nat) → Int32 → Int32 → Int32 → Int32 → Int32 → xH → Option (Int32 × xH)) (x0 : (Option Nat)) (x1 : Int32) (x2 : Int32) (x4 : Int32) (x5 : Int32) (H : xH) : Option (Int32 × xH) :=
  (F_X12_may_J90 N k29) x0 x1 x2 (1 : Int32) x4 x5 H
set_option maxRecDepth 20000 in
set_option maxHeartbeats 4000000 in
theorem P_X12_may_J88 {N : Nat} {Z : xZ} {rv : Int32} {Hf : xH} (hZ : Z = xZm cX12_may yX12_may 7 4 (some .int) (some (.int rv)) Hf) {k29 : (Option Nat) → Int32 → Int32 → Int32 → Int32 → Int32 → xH → Option (Int32 × xH)} (hk29 : ∀ (x0 : (Option Nat)) (x1 : Int32) (x2 : Int32) (x3 : Int32) (x4 : Int32) (x5 : Int32) (H : xH), k29 x0 x1 x2 x3 x4 x5 H = some (rv, Hf) → xWq Z H 29 [xA x0, xI x1, xI x2, xI x3, xI x4, xI x5, xN] []) : ∀ (x0 : (Option Nat)) (x1 : Int32) (x2 : Int32) (x4 : Int32) (x5 : Int32) (H : xH), F_X12_may_J88 N k29 x0 x1 x2 x4 x5 H = some (rv, Hf) → xWq Z H 88 [xA x0, xI x1, xI x2, xN, xI x4, xI x5, xN] [] := by
  have hz : Z.1 = (cX12_may, yX12_may, 7) := by rw [hZ]; rfl
  have hδ : Z.2.1 = 4 := by rw [hZ]; rfl
  intro x0 x1 x2 x4 x5 H h
  unfold F_X12_may_J88 at h
  refine x_iconst (v := (1 : Int32)) hz dX12_may_88 (by decide) ?_
  refine x_istore_n (pl' := [xA x0, xI x1, xI x2, xI (1 : Int32), xI x4, xI x5, xN]) hz dX12_may_89 (by decide) rfl ?_
  exact x_wk (xwk_c (xwk_c (xwk_c (xwk_c (xwk_c (xwk_c (xwk_n xwk_0))))))) ((P_X12_may_J90 hZ hk29) x0 x1 x2 (1 : Int32) x4 x5 H h)
noncomputable def F_X12_may_J84 (N : Nat) (k29 : (Option Nat) → Int32 → Int32 → Int32 → Int32 → Int32 → xH → Option (Int32 × xH)) (x0 : (Option Nat)) (x1 : Int32) (x2 : Int32) (x5 : Int32) (x6 : Int32) (H : xH) : Option (Int32 × xH) :=
  (F_X12_may_J88 N k29) x0 x1 x2 x6 x5 H
set_option maxRecDepth 20000 in
set_option maxHeartbeats 4000000 in
theorem P_X12_may_J84 {N : Nat} {Z : xZ} {rv : Int32} {Hf : xH} (hZ : Z = xZm cX12_may yX12_may 7 4 (some .int) (some (.int rv)) Hf) {k29 : (Option Nat) → Int32 → Int32 → Int32 → Int32 → Int32 → xH → Option (Int32 × xH)} (hk29 : ∀ (x0 : (Option Nat)) (x1 : Int32) (x2 : Int32) (x3 : Int32) (x4 : Int32) (x5 : Int32) (H : xH), k29 x0 x1 x2 x3 x4 x5 H = some (rv, Hf) → xWq Z H 29 [xA x0, xI x1, xI x2, xI x3, xI x4, xI x5, xN] []) : ∀ (x0 : (Option Nat)) (x1 : Int32) (x2 : Int32) (x5 : Int32) (x6 : Int32) (H : xH), F_X12_may_J84 N k29 x0 x1 x2 x5 x6 H = some (rv, Hf) → xWq Z H 84 [xA x0, xI x1, xI x2, xN, xN, xI x5, xI x6] [] := by
  have hz : Z.1 = (cX12_may, yX12_may, 7) := by rw [hZ]; rfl
  have hδ : Z.2.1 = 4 := by rw [hZ]; rfl
  intro x0 x1 x2 x5 x6 H h
  unfold F_X12_may_J84 at h
  refine x_iload hz dX12_may_84 rfl ?_
  refine x_istore (pl' := [xA x0, xI x1, xI x2, xN, xI x6, xI x5, xI x6]) hz dX12_may_86 (by decide) rfl ?_
  exact x_wk (xwk_c (xwk_c (xwk_c (xwk_n (xwk_c (xwk_c (xwk_n xwk_0))))))) ((P_X12_may_J88 hZ hk29) x0 x1 x2 x6 x5 H h)
noncomputable def F_X12_may_J29 (N : Nat) (k29 : (Option Nat) → Int32 → Int32 → Int32 → Int32 → Int32 → xH → Option (Int32 × xH)) (x0 : (Option Nat)) (x1 : Int32) (x2 : Int32) (x3 : Int32) (x4 : Int32) (x5 : Int32) (H : xH) : Option (Int32 × xH) :=
  (xgI H x0 11 41).bind fun v1 =>
  if v1 ≤ x5 then (some (x4, H)) else ((xob H x0 11).bind fun b4 =>
  x_bd2 (F_X12_isLeft N x0 x5 H) fun v5 H3 =>
  if v5 = 0 then ((F_X12_may_J90 N k29) x0 x1 x2 x3 x4 x5 H3) else ((xob H3 x0 11).bind fun b8 =>
  x_bd2 (F_X12_endAtRow N x0 x1 x5 H3) fun v9 H7 =>
  if x3 = 0 then ((F_X12_may_J84 N k29) x0 x1 x2 x5 v9 H7) else (if x2 = 0 then (if x4 ≤ v9 then ((F_X12_may_J88 N k29) x0 x1 x2 x4 x5 H7) else ((F_X12_may_J84 N k29) x0 x1 x2 x5 v9 H7)) else (if v9 ≤ x4 then ((F_X12_may_J88 N k29) x0 x1 x2 x4 x5 H7) else ((F_X12_may_J84 N k29) x0 x1 x2 x5 v9 H7)))))
set_option maxRecDepth 20000 in
set_option maxHeartbeats 4000000 in
theorem P_X12_may_J29 {N : Nat} {Z : xZ} {rv : Int32} {Hf : xH} (hZ : Z = xZm cX12_may yX12_may 7 4 (some .int) (some (.int rv)) Hf) {k29 : (Option Nat) → Int32 → Int32 → Int32 → Int32 → Int32 → xH → Option (Int32 × xH)} (hk29 : ∀ (x0 : (Option Nat)) (x1 : Int32) (x2 : Int32) (x3 : Int32) (x4 : Int32) (x5 : Int32) (H : xH), k29 x0 x1 x2 x3 x4 x5 H = some (rv, Hf) → xWq Z H 29 [xA x0, xI x1, xI x2, xI x3, xI x4, xI x5, xN] []) : ∀ (x0 : (Option Nat)) (x1 : Int32) (x2 : Int32) (x3 : Int32) (x4 : Int32) (x5 : Int32) (H : xH), F_X12_may_J29 N k29 x0 x1 x2 x3 x4 x5 H = some (rv, Hf) → xWq Z H 29 [xA x0, xI x1, xI x2, xI x3, xI x4, xI x5, xN] [] := by
  have hz : Z.1 = (cX12_may, yX12_may, 7) := by rw [hZ]; rfl
  have hδ : Z.2.1 = 4 := by rw [hZ]; rfl
  intro x0 x1 x2 x3 x4 x5 H h
  unfold F_X12_may_J29 at h
  refine x_iload hz dX12_may_29 rfl ?_
  refine x_aload_n hz dX12_may_31 rfl ?_
  obtain ⟨v1, e_v1, h⟩ := x_bnd h
  refine x_getI hz dX12_may_32 fs_X12_329 e_v1 ?_
  refine x_icmp_ge (t := 96) hz dX12_may_35 (by decide) (fun c2 => ?_) (fun c2 => ?_)
  · replace h := x_ip c2 h
    refine x_iload hz dX12_may_96 rfl ?_
    cases h
    exact x_iret hZ dX12_may_98
  · replace h := x_in c2 h
    refine x_aload_n hz dX12_may_38 rfl ?_
    refine x_iload hz dX12_may_39 rfl ?_
    obtain ⟨b4, e_b4, h⟩ := x_bnd h
    obtain ⟨v5, H3, e_H3, h⟩ := x_b2 h
    refine x_callVi (as := [.inl x5]) (st := []) cs_X12_348 (ci := 11) ⟨rfl, rfl⟩ rfl rfl hz (by omega) (by decide) dX12_may_41 e_b4 (M_X12_isLeft e_H3) ?_
    refine x_if_ne (t := 50) hz dX12_may_44 (by decide) (fun c6 => ?_) (fun c6 => ?_)
    · replace h := x_in c6 h
      refine x_aload_n hz dX12_may_50 rfl ?_
      refine x_iload_n hz dX12_may_51 rfl ?_
      refine x_iload hz dX12_may_52 rfl ?_
      obtain ⟨b8, e_b8, h⟩ := x_bnd h
      obtain ⟨v9, H7, e_H7, h⟩ := x_b2 h
      refine x_callVi (as := [.inl x1, .inl x5]) (st := []) cs_X12_399 (ci := 11) ⟨rfl, rfl⟩ rfl rfl hz (by omega) (by decide) dX12_may_54 e_b8 (M_X12_endAtRow e_H7) ?_
      refine x_istore (pl' := [xA x0, xI x1, xI x2, xI x3, xI x4, xI x5, xI v9]) hz dX12_may_57 (by decide) rfl ?_
      refine x_iload_n hz dX12_may_59 rfl ?_
      refine x_if_eq (t := 84) hz dX12_may_60 (by decide) (fun c10 => ?_) (fun c10 => ?_)
      · replace h := x_ip c10 h
        exact x_wk (xwk_c (xwk_c (xwk_c (xwk_n (xwk_n (xwk_c (xwk_c xwk_0))))))) ((P_X12_may_J84 hZ hk29) x0 x1 x2 x5 v9 H7 h)
      · replace h := x_in c10 h
        refine x_iload_n hz dX12_may_63 rfl ?_
        refine x_if_ne (t := 77) hz dX12_may_64 (by decide) (fun c11 => ?_) (fun c11 => ?_)
        · replace h := x_in c11 h
          refine x_iload hz dX12_may_77 rfl ?_
          refine x_iload hz dX12_may_79 rfl ?_
          refine x_icmp_le (t := 88) hz dX12_may_81 (by decide) (fun c12 => ?_) (fun c12 => ?_)
          · replace h := x_ip c12 h
            exact x_wk (xwk_c (xwk_c (xwk_c (xwk_n (xwk_c (xwk_c (xwk_n xwk_0))))))) ((P_X12_may_J88 hZ hk29) x0 x1 x2 x4 x5 H7 h)
          · replace h := x_in c12 h
            exact x_wk (xwk_c (xwk_c (xwk_c (xwk_n (xwk_n (xwk_c (xwk_c xwk_0))))))) ((P_X12_may_J84 hZ hk29) x0 x1 x2 x5 v9 H7 h)
        · replace h := x_ip c11 h
          refine x_iload hz dX12_may_67 rfl ?_
          refine x_iload hz dX12_may_69 rfl ?_
          refine x_icmp_ge (t := 88) hz dX12_may_71 (by decide) (fun c13 => ?_) (fun c13 => ?_)
          · replace h := x_ip c13 h
            exact x_wk (xwk_c (xwk_c (xwk_c (xwk_n (xwk_c (xwk_c (xwk_n xwk_0))))))) ((P_X12_may_J88 hZ hk29) x0 x1 x2 x4 x5 H7 h)
          · replace h := x_in c13 h
            refine x_goto (t := 84) hz dX12_may_74 (by decide) ?_
            exact x_wk (xwk_c (xwk_c (xwk_c (xwk_n (xwk_n (xwk_c (xwk_c xwk_0))))))) ((P_X12_may_J84 hZ hk29) x0 x1 x2 x5 v9 H7 h)
    · replace h := x_ip c6 h
      refine x_goto (t := 90) hz dX12_may_47 (by decide) ?_
      exact x_wk (xwk_c (xwk_c (xwk_c (xwk_c (xwk_c (xwk_c (xwk_n xwk_0))))))) ((P_X12_may_J90 hZ hk29) x0 x1 x2 x3 x4 x5 H3 h)
noncomputable def F_X12_may_L29 (N : Nat) : Nat → (Option Nat) → Int32 → Int32 → Int32 → Int32 → Int32 → xH → Option (Int32 × xH)
  | 0 => fun _ _ _ _ _ _ _ => none
  | n + 1 => F_X12_may_J29 N (F_X12_may_L29 N n)
theorem P_X12_may_L29 {N : Nat} {Z : xZ} {rv : Int32} {Hf : xH} (hZ : Z = xZm cX12_may yX12_may 7 4 (some .int) (some (.int rv)) Hf) : ∀ (n : Nat) (x0 : (Option Nat)) (x1 : Int32) (x2 : Int32) (x3 : Int32) (x4 : Int32) (x5 : Int32) (H : xH), F_X12_may_L29 N n x0 x1 x2 x3 x4 x5 H = some (rv, Hf) → xWq Z H 29 [xA x0, xI x1, xI x2, xI x3, xI x4, xI x5, xN] [] := by
  intro n
  induction n with
  | zero => intro _ _ _ _ _ _ _ h; cases h
  | succ n ih => exact P_X12_may_J29 hZ ih
noncomputable def F_X12_may (N : Nat) (a0 : (Option Nat)) (a1 : Int32) (a2 : Int32) (H : xH) : Option (Int32 × xH) :=
  (xob H a0 11).bind fun b2 =>
  x_bd2 (F_X12_isMember N a0 a1 H) fun v3 H1 =>
  if v3 = 0 then (some ((-1000000 : Int32), H1)) else (x_bd2 (F_X12_isIn N a2 (0 : Int32) (1 : Int32) H1) fun v6 H5 =>
  if v6 = 0 then (some ((-1000000 : Int32), H5)) else ((F_X12_may_L29 N N) a0 a1 a2 (0 : Int32) (0 : Int32) (0 : Int32) H5))
set_option maxRecDepth 20000 in
set_option maxHeartbeats 4000000 in
theorem P_X12_may {N : Nat} {Z : xZ} {rv : Int32} {Hf : xH} (hZ : Z = xZm cX12_may yX12_may 7 4 (some .int) (some (.int rv)) Hf) : ∀ (a0 : (Option Nat)) (a1 : Int32) (a2 : Int32) (H : xH), F_X12_may N a0 a1 a2 H = some (rv, Hf) → xWq Z H 0 [xA a0, xI a1, xI a2, xN, xN, xN, xN] [] := by
  have hz : Z.1 = (cX12_may, yX12_may, 7) := by rw [hZ]; rfl
  have hδ : Z.2.1 = 4 := by rw [hZ]; rfl
  intro a0 a1 a2 H h
  unfold F_X12_may at h
  refine x_aload_n hz dX12_may_0 rfl ?_
  refine x_iload_n hz dX12_may_1 rfl ?_
  obtain ⟨b2, e_b2, h⟩ := x_bnd h
  obtain ⟨v3, H1, e_H1, h⟩ := x_b2 h
  refine x_callVi (as := [.inl a1]) (st := []) cs_X12_390 (ci := 11) ⟨rfl, rfl⟩ rfl rfl hz (by omega) (by decide) dX12_may_2 e_b2 (M_X12_isMember e_H1) ?_
  refine x_if_eq (t := 17) hz dX12_may_5 (by decide) (fun c4 => ?_) (fun c4 => ?_)
  · replace h := x_ip c4 h
    refine x_ldcw (v := (-1000000 : Int32)) hz dX12_may_17 wc_X12_368 ?_
    cases h
    exact x_iret hZ dX12_may_20
  · replace h := x_in c4 h
    refine x_iload_n hz dX12_may_8 rfl ?_
    refine x_iconst (v := (0 : Int32)) hz dX12_may_9 (by decide) ?_
    refine x_iconst (v := (1 : Int32)) hz dX12_may_10 (by decide) ?_
    obtain ⟨v6, H5, e_H5, h⟩ := x_b2 h
    refine x_callSi (as := [.inl a2, .inl (0 : Int32), .inl (1 : Int32)]) (st := []) cs_X12_153 rfl rfl hz (by omega) (by decide) dX12_may_11 (M_X12_isIn e_H5) ?_
    refine x_if_ne (t := 21) hz dX12_may_14 (by decide) (fun c7 => ?_) (fun c7 => ?_)
    · replace h := x_in c7 h
      refine x_iconst (v := (0 : Int32)) hz dX12_may_21 (by decide) ?_
      refine x_istore_n (pl' := [xA a0, xI a1, xI a2, xI (0 : Int32), xN, xN, xN]) hz dX12_may_22 (by decide) rfl ?_
      refine x_iconst (v := (0 : Int32)) hz dX12_may_23 (by decide) ?_
      refine x_istore (pl' := [xA a0, xI a1, xI a2, xI (0 : Int32), xI (0 : Int32), xN, xN]) hz dX12_may_24 (by decide) rfl ?_
      refine x_iconst (v := (0 : Int32)) hz dX12_may_26 (by decide) ?_
      refine x_istore (pl' := [xA a0, xI a1, xI a2, xI (0 : Int32), xI (0 : Int32), xI (0 : Int32), xN]) hz dX12_may_27 (by decide) rfl ?_
      exact x_wk (xwk_c (xwk_c (xwk_c (xwk_c (xwk_c (xwk_c (xwk_n xwk_0))))))) ((P_X12_may_L29 hZ N) a0 a1 a2 (0 : Int32) (0 : Int32) (0 : Int32) H5 h)
    · replace h := x_ip c7 h
      refine x_ldcw (v := (-1000000 : Int32)) hz dX12_may_17 wc_X12_368 ?_
      cases h
      exact x_iret hZ dX12_may_20
theorem M_X12_may {N : Nat} {a0 : (Option Nat)} {a1 : Int32} {a2 : Int32} {H H1 : xH} {r1 : Int32} (h : F_X12_may N a0 a1 a2 H = some (r1, H1)) : xM yX12_may cX12_may 7 (some .int) 4 [.inr (.inr a0), .inl a1, .inl a2] H (some (.int r1)) H1 :=
  xM_of (by decide +kernel) (xT_tb 1467 (by decide +kernel) (by decide +kernel)) (by simp [xargs, x2]) rfl (P_X12_may rfl a0 a1 a2 H h)
/-! BettingBookModel.end(II)I -/
noncomputable def F_X12_end (N : Nat) (a0 : (Option Nat)) (a1 : Int32) (a2 : Int32) (H : xH) : Option (Int32 × xH) :=
  (xob H a0 11).bind fun b2 =>
  x_bd2 (F_X12_isMember N a0 a1 H) fun v3 H1 =>
  if v3 = 0 then (some ((-1000000 : Int32), H1)) else ((xob H1 a0 11).bind fun b6 =>
  x_bd2 (F_X12_isRow N a0 a2 H1) fun v7 H5 =>
  if v7 = 0 then (some ((-1000000 : Int32), H5)) else ((xob H5 a0 11).bind fun b10 =>
  x_bd2 (F_X12_endAtRow N a0 a1 a2 H5) fun v11 H9 =>
  some (v11, H9)))
set_option maxRecDepth 20000 in
set_option maxHeartbeats 4000000 in
theorem P_X12_end {N : Nat} {Z : xZ} {rv : Int32} {Hf : xH} (hZ : Z = xZm cX12_end yX12_end 3 4 (some .int) (some (.int rv)) Hf) : ∀ (a0 : (Option Nat)) (a1 : Int32) (a2 : Int32) (H : xH), F_X12_end N a0 a1 a2 H = some (rv, Hf) → xWq Z H 0 [xA a0, xI a1, xI a2] [] := by
  have hz : Z.1 = (cX12_end, yX12_end, 3) := by rw [hZ]; rfl
  have hδ : Z.2.1 = 4 := by rw [hZ]; rfl
  intro a0 a1 a2 H h
  unfold F_X12_end at h
  refine x_aload_n hz dX12_end_0 rfl ?_
  refine x_iload_n hz dX12_end_1 rfl ?_
  obtain ⟨b2, e_b2, h⟩ := x_bnd h
  obtain ⟨v3, H1, e_H1, h⟩ := x_b2 h
  refine x_callVi (as := [.inl a1]) (st := []) cs_X12_390 (ci := 11) ⟨rfl, rfl⟩ rfl rfl hz (by omega) (by decide) dX12_end_2 e_b2 (M_X12_isMember e_H1) ?_
  refine x_if_eq (t := 25) hz dX12_end_5 (by decide) (fun c4 => ?_) (fun c4 => ?_)
  · replace h := x_ip c4 h
    refine x_ldcw (v := (-1000000 : Int32)) hz dX12_end_25 wc_X12_368 ?_
    cases h
    exact x_iret hZ dX12_end_28
  · replace h := x_in c4 h
    refine x_aload_n hz dX12_end_8 rfl ?_
    refine x_iload_n hz dX12_end_9 rfl ?_
    obtain ⟨b6, e_b6, h⟩ := x_bnd h
    obtain ⟨v7, H5, e_H5, h⟩ := x_b2 h
    refine x_callVi (as := [.inl a2]) (st := []) cs_X12_358 (ci := 11) ⟨rfl, rfl⟩ rfl rfl hz (by omega) (by decide) dX12_end_10 e_b6 (M_X12_isRow e_H5) ?_
    refine x_if_eq (t := 25) hz dX12_end_13 (by decide) (fun c8 => ?_) (fun c8 => ?_)
    · replace h := x_ip c8 h
      refine x_ldcw (v := (-1000000 : Int32)) hz dX12_end_25 wc_X12_368 ?_
      cases h
      exact x_iret hZ dX12_end_28
    · replace h := x_in c8 h
      refine x_aload_n hz dX12_end_16 rfl ?_
      refine x_iload_n hz dX12_end_17 rfl ?_
      refine x_iload_n hz dX12_end_18 rfl ?_
      obtain ⟨b10, e_b10, h⟩ := x_bnd h
      obtain ⟨v11, H9, e_H9, h⟩ := x_b2 h
      refine x_callVi (as := [.inl a1, .inl a2]) (st := []) cs_X12_399 (ci := 11) ⟨rfl, rfl⟩ rfl rfl hz (by omega) (by decide) dX12_end_19 e_b10 (M_X12_endAtRow e_H9) ?_
      refine x_goto (t := 28) hz dX12_end_22 (by decide) ?_
      cases h
      exact x_iret hZ dX12_end_28
theorem M_X12_end {N : Nat} {a0 : (Option Nat)} {a1 : Int32} {a2 : Int32} {H H1 : xH} {r1 : Int32} (h : F_X12_end N a0 a1 a2 H = some (r1, H1)) : xM yX12_end cX12_end 3 (some .int) 4 [.inr (.inr a0), .inl a1, .inl a2] H (some (.int r1)) H1 :=
  xM_of (by decide +kernel) (xT_tb 1479 (by decide +kernel) (by decide +kernel)) (by simp [xargs, x2]) rfl (P_X12_end rfl a0 a1 a2 H h)
/-! BettingBookModel.settle()I -/
noncomputable def F_X12_settle_J31 (N : Nat) (k8 : (Option Nat) → Int32 → Int32 → xH → Option (Int32 × xH)) (x0 : (Option Nat)) (x2 : Int32) (s0 : Int32) (s1 : Int32) (H : xH) : Option (Int32 × xH) :=
  x_bd2 (F_X12_unit N s1 H) fun v2 H1 =>
  k8 x0 (s0 + v2) (x2 + 1) H1
set_option maxRecDepth 20000 in
set_option maxHeartbeats 4000000 in
theorem P_X12_settle_J31 {N : Nat} {Z : xZ} {rv : Int32} {Hf : xH} (hZ : Z = xZm cX12_settle yX12_settle 5 5 (some .int) (some (.int rv)) Hf) {k8 : (Option Nat) → Int32 → Int32 → xH → Option (Int32 × xH)} (hk8 : ∀ (x0 : (Option Nat)) (x1 : Int32) (x2 : Int32) (H : xH), k8 x0 x1 x2 H = some (rv, Hf) → xWq Z H 8 [xA x0, xI x1, xI x2, xN, xN] []) : ∀ (x0 : (Option Nat)) (x2 : Int32) (s0 : Int32) (s1 : Int32) (H : xH), F_X12_settle_J31 N k8 x0 x2 s0 s1 H = some (rv, Hf) → xWq Z H 31 [xA x0, xN, xI x2, xN, xN] [.int s1, .int s0] := by
  have hz : Z.1 = (cX12_settle, yX12_settle, 5) := by rw [hZ]; rfl
  have hδ : Z.2.1 = 5 := by rw [hZ]; rfl
  intro x0 x2 s0 s1 H h
  unfold F_X12_settle_J31 at h
  obtain ⟨v2, H1, e_H1, h⟩ := x_b2 h
  refine x_callSi (as := [.inl s1]) (st := [.int s0]) cs_X12_319 rfl rfl hz (by omega) (Nat.le_trans (x_sm1 rfl x_sm0) (by decide)) dX12_settle_31 (M_X12_unit e_H1) ?_
  refine x_iadd hz dX12_settle_34 ?_
  refine x_istore_n (pl' := [xA x0, xI (s0 + v2), xI x2, xN, xN]) hz dX12_settle_35 (by decide) rfl ?_
  refine x_iinc (w := (x2 + 1)) (pl' := [xA x0, xI (s0 + v2), xI (x2 + 1), xN, xN]) hz dX12_settle_36 rfl rfl (by decide) rfl ?_
  refine x_goto (t := 8) hz dX12_settle_39 (by decide) ?_
  exact x_wk (xwk_c (xwk_c (xwk_c (xwk_n (xwk_n xwk_0))))) (hk8 x0 (s0 + v2) (x2 + 1) H1 h)
noncomputable def F_X12_settle_J8 (N : Nat) (k8 : (Option Nat) → Int32 → Int32 → xH → Option (Int32 × xH)) (k42 : (Option Nat) → Int32 → xH → Option (Int32 × xH)) (x0 : (Option Nat)) (x1 : Int32) (x2 : Int32) (H : xH) : Option (Int32 × xH) :=
  (xgI H x0 11 1).bind fun v1 =>
  if v1 ≤ x2 then (k42 x0 x1 H) else ((xgA H x0 11 54).bind fun v3 =>
  (xlI .int H v3 x2).bind fun v4 =>
  if v4 = 0 then ((F_X12_settle_J31 N k8) x0 x2 x1 (0 : Int32) H) else ((F_X12_settle_J31 N k8) x0 x2 x1 (1 : Int32) H))
set_option maxRecDepth 20000 in
set_option maxHeartbeats 4000000 in
theorem P_X12_settle_J8 {N : Nat} {Z : xZ} {rv : Int32} {Hf : xH} (hZ : Z = xZm cX12_settle yX12_settle 5 5 (some .int) (some (.int rv)) Hf) {k8 : (Option Nat) → Int32 → Int32 → xH → Option (Int32 × xH)} (hk8 : ∀ (x0 : (Option Nat)) (x1 : Int32) (x2 : Int32) (H : xH), k8 x0 x1 x2 H = some (rv, Hf) → xWq Z H 8 [xA x0, xI x1, xI x2, xN, xN] []) {k42 : (Option Nat) → Int32 → xH → Option (Int32 × xH)} (hk42 : ∀ (x0 : (Option Nat)) (x1 : Int32) (H : xH), k42 x0 x1 H = some (rv, Hf) → xWq Z H 42 [xA x0, xI x1, xN, xN, xN] []) : ∀ (x0 : (Option Nat)) (x1 : Int32) (x2 : Int32) (H : xH), F_X12_settle_J8 N k8 k42 x0 x1 x2 H = some (rv, Hf) → xWq Z H 8 [xA x0, xI x1, xI x2, xN, xN] [] := by
  have hz : Z.1 = (cX12_settle, yX12_settle, 5) := by rw [hZ]; rfl
  have hδ : Z.2.1 = 5 := by rw [hZ]; rfl
  intro x0 x1 x2 H h
  unfold F_X12_settle_J8 at h
  refine x_iload_n hz dX12_settle_8 rfl ?_
  refine x_aload_n hz dX12_settle_9 rfl ?_
  obtain ⟨v1, e_v1, h⟩ := x_bnd h
  refine x_getI hz dX12_settle_10 fs_X12_285 e_v1 ?_
  refine x_icmp_ge (t := 42) hz dX12_settle_13 (by decide) (fun c2 => ?_) (fun c2 => ?_)
  · replace h := x_ip c2 h
    exact x_wk (xwk_c (xwk_c (xwk_n (xwk_n (xwk_n xwk_0))))) (hk42 x0 x1 H h)
  · replace h := x_in c2 h
    refine x_iload_n hz dX12_settle_16 rfl ?_
    refine x_aload_n hz dX12_settle_17 rfl ?_
    obtain ⟨v3, e_v3, h⟩ := x_bnd h
    refine x_getA hz dX12_settle_18 fs_X12_106 e_v3 ?_
    refine x_iload_n hz dX12_settle_21 rfl ?_
    obtain ⟨v4, e_v4, h⟩ := x_bnd h
    refine x_iald hz dX12_settle_22 e_v4 ?_
    refine x_if_eq (t := 30) hz dX12_settle_23 (by decide) (fun c5 => ?_) (fun c5 => ?_)
    · replace h := x_ip c5 h
      refine x_iconst (v := (0 : Int32)) hz dX12_settle_30 (by decide) ?_
      exact x_wk (xwk_c (xwk_n (xwk_c (xwk_n (xwk_n xwk_0))))) ((P_X12_settle_J31 hZ hk8) x0 x2 x1 (0 : Int32) H h)
    · replace h := x_in c5 h
      refine x_iconst (v := (1 : Int32)) hz dX12_settle_26 (by decide) ?_
      refine x_goto (t := 31) hz dX12_settle_27 (by decide) ?_
      exact x_wk (xwk_c (xwk_n (xwk_c (xwk_n (xwk_n xwk_0))))) ((P_X12_settle_J31 hZ hk8) x0 x2 x1 (1 : Int32) H h)
noncomputable def F_X12_settle_L8 (N : Nat) (k42 : (Option Nat) → Int32 → xH → Option (Int32 × xH)) : Nat → (Option Nat) → Int32 → Int32 → xH → Option (Int32 × xH)
  | 0 => fun _ _ _ _ => none
  | n + 1 => F_X12_settle_J8 N (F_X12_settle_L8 N k42 n) k42
theorem P_X12_settle_L8 {N : Nat} {Z : xZ} {rv : Int32} {Hf : xH} (hZ : Z = xZm cX12_settle yX12_settle 5 5 (some .int) (some (.int rv)) Hf) {k42 : (Option Nat) → Int32 → xH → Option (Int32 × xH)} (hk42 : ∀ (x0 : (Option Nat)) (x1 : Int32) (H : xH), k42 x0 x1 H = some (rv, Hf) → xWq Z H 42 [xA x0, xI x1, xN, xN, xN] []) : ∀ (n : Nat) (x0 : (Option Nat)) (x1 : Int32) (x2 : Int32) (H : xH), F_X12_settle_L8 N k42 n x0 x1 x2 H = some (rv, Hf) → xWq Z H 8 [xA x0, xI x1, xI x2, xN, xN] [] := by
  intro n
  induction n with
  | zero => intro _ _ _ _ h; cases h
  | succ n ih => exact P_X12_settle_J8 hZ ih hk42
noncomputable def F_X12_settle_J125 (N : Nat) (k66 : (Option Nat) → Int32 → Int32 → Int32 → Int32 → xH → Option (Int32 × xH)) (x0 : (Option Nat)) (x1 : Int32) (x2 : Int32) (x3 : Int32) (x4 : Int32) (H : xH) : Option (Int32 × xH) :=
  k66 x0 x1 x2 x3 (x4 + 1) H
set_option maxRecDepth 20000 in
set_option maxHeartbeats 4000000 in
theorem P_X12_settle_J125 {N : Nat} {Z : xZ} {rv : Int32} {Hf : xH} (hZ : Z = xZm cX12_settle yX12_settle 5 5 (some .int) (some (.int rv)) Hf) {k66 : (Option Nat) → Int32 → Int32 → Int32 → Int32 → xH → Option (Int32 × xH)} (hk66 : ∀ (x0 : (Option Nat)) (x1 : Int32) (x2 : Int32) (x3 : Int32) (x4 : Int32) (H : xH), k66 x0 x1 x2 x3 x4 H = some (rv, Hf) → xWq Z H 66 [xA x0, xI x1, xI x2, xI x3, xI x4] []) : ∀ (x0 : (Option Nat)) (x1 : Int32) (x2 : Int32) (x3 : Int32) (x4 : Int32) (H : xH), F_X12_settle_J125 N k66 x0 x1 x2 x3 x4 H = some (rv, Hf) → xWq Z H 125 [xA x0, xI x1, xI x2, xI x3, xI x4] [] := by
  have hz : Z.1 = (cX12_settle, yX12_settle, 5) := by rw [hZ]; rfl
  have hδ : Z.2.1 = 5 := by rw [hZ]; rfl
  intro x0 x1 x2 x3 x4 H h
  unfold F_X12_settle_J125 at h
  refine x_iinc (w := (x4 + 1)) (pl' := [xA x0, xI x1, xI x2, xI x3, xI (x4 + 1)]) hz dX12_settle_125 rfl rfl (by decide) rfl ?_
  refine x_goto (t := 66) hz dX12_settle_128 (by decide) ?_
  exact x_wk (xwk_c (xwk_c (xwk_c (xwk_c (xwk_c xwk_0))))) (hk66 x0 x1 x2 x3 (x4 + 1) H h)
noncomputable def F_X12_settle_J66 (N : Nat) (k66 : (Option Nat) → Int32 → Int32 → Int32 → Int32 → xH → Option (Int32 × xH)) (k131 : (Option Nat) → Int32 → Int32 → Int32 → xH → Option (Int32 × xH)) (x0 : (Option Nat)) (x1 : Int32) (x2 : Int32) (x3 : Int32) (x4 : Int32) (H : xH) : Option (Int32 × xH) :=
  (xgI H x0 11 1).bind fun v1 =>
  if v1 ≤ x4 then (k131 x0 x1 x2 x3 H) else (x_bd2 (F_X12_bit N x2 x4 H) fun v4 H3 =>
  if v4 = 0 then ((F_X12_settle_J125 N k66) x0 x1 x2 x3 x4 H3) else ((xgA H3 x0 11 54).bind fun v6 =>
  (xlI .int H3 v6 x4).bind fun v7 =>
  (xgA H3 x0 11 55).bind fun v8 =>
  (xgA H3 x0 11 55).bind fun v9 =>
  (xlI .int H3 v9 x2).bind fun v10 =>
  (xgA H3 x0 11 55).bind fun v11 =>
  (xlI .int H3 v11 (x2 &&& (((1 : Int32) <<< (x4 &&& 31)) ^^^ (-1 : Int32)))).bind fun v12 =>
  (xsI .int H3 v8 x2 (xmax v10 v12)).bind fun H13 =>
  (F_X12_settle_J125 N k66) x0 x1 x2 (x3 + v7) x4 H13))
set_option maxRecDepth 20000 in
set_option maxHeartbeats 4000000 in
theorem P_X12_settle_J66 {N : Nat} {Z : xZ} {rv : Int32} {Hf : xH} (hZ : Z = xZm cX12_settle yX12_settle 5 5 (some .int) (some (.int rv)) Hf) {k66 : (Option Nat) → Int32 → Int32 → Int32 → Int32 → xH → Option (Int32 × xH)} (hk66 : ∀ (x0 : (Option Nat)) (x1 : Int32) (x2 : Int32) (x3 : Int32) (x4 : Int32) (H : xH), k66 x0 x1 x2 x3 x4 H = some (rv, Hf) → xWq Z H 66 [xA x0, xI x1, xI x2, xI x3, xI x4] []) {k131 : (Option Nat) → Int32 → Int32 → Int32 → xH → Option (Int32 × xH)} (hk131 : ∀ (x0 : (Option Nat)) (x1 : Int32) (x2 : Int32) (x3 : Int32) (H : xH), k131 x0 x1 x2 x3 H = some (rv, Hf) → xWq Z H 131 [xA x0, xI x1, xI x2, xI x3, xN] []) : ∀ (x0 : (Option Nat)) (x1 : Int32) (x2 : Int32) (x3 : Int32) (x4 : Int32) (H : xH), F_X12_settle_J66 N k66 k131 x0 x1 x2 x3 x4 H = some (rv, Hf) → xWq Z H 66 [xA x0, xI x1, xI x2, xI x3, xI x4] [] := by
  have hz : Z.1 = (cX12_settle, yX12_settle, 5) := by rw [hZ]; rfl
  have hδ : Z.2.1 = 5 := by rw [hZ]; rfl
  intro x0 x1 x2 x3 x4 H h
  unfold F_X12_settle_J66 at h
  refine x_iload hz dX12_settle_66 rfl ?_
  refine x_aload_n hz dX12_settle_68 rfl ?_
  obtain ⟨v1, e_v1, h⟩ := x_bnd h
  refine x_getI hz dX12_settle_69 fs_X12_285 e_v1 ?_
  refine x_icmp_ge (t := 131) hz dX12_settle_72 (by decide) (fun c2 => ?_) (fun c2 => ?_)
  · replace h := x_ip c2 h
    exact x_wk (xwk_c (xwk_c (xwk_c (xwk_c (xwk_n xwk_0))))) (hk131 x0 x1 x2 x3 H h)
  · replace h := x_in c2 h
    refine x_iload_n hz dX12_settle_75 rfl ?_
    refine x_iload hz dX12_settle_76 rfl ?_
    obtain ⟨v4, H3, e_H3, h⟩ := x_b2 h
    refine x_callSi (as := [.inl x2, .inl x4]) (st := []) cs_X12_345 rfl rfl hz (by omega) (by decide) dX12_settle_78 (M_X12_bit e_H3) ?_
    refine x_if_ne (t := 87) hz dX12_settle_81 (by decide) (fun c5 => ?_) (fun c5 => ?_)
    · replace h := x_in c5 h
      refine x_iload_n hz dX12_settle_87 rfl ?_
      refine x_aload_n hz dX12_settle_88 rfl ?_
      obtain ⟨v6, e_v6, h⟩ := x_bnd h
      refine x_getA hz dX12_settle_89 fs_X12_106 e_v6 ?_
      refine x_iload hz dX12_settle_92 rfl ?_
      obtain ⟨v7, e_v7, h⟩ := x_bnd h
      refine x_iald hz dX12_settle_94 e_v7 ?_
      refine x_iadd hz dX12_settle_95 ?_
      refine x_istore_n (pl' := [xA x0, xI x1, xI x2, xI (x3 + v7), xI x4]) hz dX12_settle_96 (by decide) rfl ?_
      refine x_aload_n hz dX12_settle_97 rfl ?_
      obtain ⟨v8, e_v8, h⟩ := x_bnd h
      refine x_getA hz dX12_settle_98 fs_X12_109 e_v8 ?_
      refine x_iload_n hz dX12_settle_101 rfl ?_
      refine x_aload_n hz dX12_settle_102 rfl ?_
      obtain ⟨v9, e_v9, h⟩ := x_bnd h
      refine x_getA hz dX12_settle_103 fs_X12_109 e_v9 ?_
      refine x_iload_n hz dX12_settle_106 rfl ?_
      obtain ⟨v10, e_v10, h⟩ := x_bnd h
      refine x_iald hz dX12_settle_107 e_v10 ?_
      refine x_aload_n hz dX12_settle_108 rfl ?_
      obtain ⟨v11, e_v11, h⟩ := x_bnd h
      refine x_getA hz dX12_settle_109 fs_X12_109 e_v11 ?_
      refine x_iload_n hz dX12_settle_112 rfl ?_
      refine x_iconst (v := (1 : Int32)) hz dX12_settle_113 (by decide) ?_
      refine x_iload hz dX12_settle_114 rfl ?_
      refine x_ishl hz dX12_settle_116 ?_
      refine x_iconst (v := (-1 : Int32)) hz dX12_settle_117 (by decide) ?_
      refine x_ixor hz dX12_settle_118 ?_
      refine x_iand hz dX12_settle_119 ?_
      obtain ⟨v12, e_v12, h⟩ := x_bnd h
      refine x_iald hz dX12_settle_120 e_v12 ?_
      refine x_mmax (st := [.int x2, va_rf v8]) jm_max_X12_402 hz (by omega) (Nat.le_trans (x_sm1 rfl (x_sm1 (x_rfc _) x_sm0)) (by decide)) dX12_settle_121 ?_
      obtain ⟨H13, e_H13, h⟩ := x_bnd h
      refine x_iast hz dX12_settle_124 e_H13 ?_
      exact x_wk (xwk_c (xwk_c (xwk_c (xwk_c (xwk_c xwk_0))))) ((P_X12_settle_J125 hZ hk66) x0 x1 x2 (x3 + v7) x4 H13 h)
    · replace h := x_ip c5 h
      refine x_goto (t := 125) hz dX12_settle_84 (by decide) ?_
      exact x_wk (xwk_c (xwk_c (xwk_c (xwk_c (xwk_c xwk_0))))) ((P_X12_settle_J125 hZ hk66) x0 x1 x2 x3 x4 H3 h)
noncomputable def F_X12_settle_L66 (N : Nat) (k131 : (Option Nat) → Int32 → Int32 → Int32 → xH → Option (Int32 × xH)) : Nat → (Option Nat) → Int32 → Int32 → Int32 → Int32 → xH → Option (Int32 × xH)
  | 0 => fun _ _ _ _ _ _ => none
  | n + 1 => F_X12_settle_J66 N (F_X12_settle_L66 N k131 n) k131
theorem P_X12_settle_L66 {N : Nat} {Z : xZ} {rv : Int32} {Hf : xH} (hZ : Z = xZm cX12_settle yX12_settle 5 5 (some .int) (some (.int rv)) Hf) {k131 : (Option Nat) → Int32 → Int32 → Int32 → xH → Option (Int32 × xH)} (hk131 : ∀ (x0 : (Option Nat)) (x1 : Int32) (x2 : Int32) (x3 : Int32) (H : xH), k131 x0 x1 x2 x3 H = some (rv, Hf) → xWq Z H 131 [xA x0, xI x1, xI x2, xI x3, xN] []) : ∀ (n : Nat) (x0 : (Option Nat)) (x1 : Int32) (x2 : Int32) (x3 : Int32) (x4 : Int32) (H : xH), F_X12_settle_L66 N k131 n x0 x1 x2 x3 x4 H = some (rv, Hf) → xWq Z H 66 [xA x0, xI x1, xI x2, xI x3, xI x4] [] := by
  intro n
  induction n with
  | zero => intro _ _ _ _ _ _ h; cases h
  | succ n ih => exact P_X12_settle_J66 hZ ih hk131
noncomputable def F_X12_settle_J147 (N : Nat) (k44 : (Option Nat) → Int32 → Int32 → xH → Option (Int32 × xH)) (x0 : (Option Nat)) (x1 : Int32) (x2 : Int32) (s0 : (Option Nat)) (s1 : Int32) (s2 : Int32) (s3 : Int32) (H : xH) : Option (Int32 × xH) :=
  x_bd2 (F_X12_unit N s3 H) fun v2 H1 =>
  (xsI .int H1 s0 s1 (s2 + v2)).bind fun H3 =>
  k44 x0 x1 (x2 + 1) H3
set_option maxRecDepth 20000 in
set_option maxHeartbeats 4000000 in
theorem P_X12_settle_J147 {N : Nat} {Z : xZ} {rv : Int32} {Hf : xH} (hZ : Z = xZm cX12_settle yX12_settle 5 5 (some .int) (some (.int rv)) Hf) {k44 : (Option Nat) → Int32 → Int32 → xH → Option (Int32 × xH)} (hk44 : ∀ (x0 : (Option Nat)) (x1 : Int32) (x2 : Int32) (H : xH), k44 x0 x1 x2 H = some (rv, Hf) → xWq Z H 44 [xA x0, xI x1, xI x2, xN, xN] []) : ∀ (x0 : (Option Nat)) (x1 : Int32) (x2 : Int32) (s0 : (Option Nat)) (s1 : Int32) (s2 : Int32) (s3 : Int32) (H : xH), F_X12_settle_J147 N k44 x0 x1 x2 s0 s1 s2 s3 H = some (rv, Hf) → xWq Z H 147 [xA x0, xI x1, xI x2, xN, xN] [.int s3, .int s2, .int s1, va_rf s0] := by
  have hz : Z.1 = (cX12_settle, yX12_settle, 5) := by rw [hZ]; rfl
  have hδ : Z.2.1 = 5 := by rw [hZ]; rfl
  intro x0 x1 x2 s0 s1 s2 s3 H h
  unfold F_X12_settle_J147 at h
  obtain ⟨v2, H1, e_H1, h⟩ := x_b2 h
  refine x_callSi (as := [.inl s3]) (st := [.int s2, .int s1, va_rf s0]) cs_X12_319 rfl rfl hz (by omega) (Nat.le_trans (x_sm1 rfl (x_sm1 rfl (x_sm1 (x_rfc _) x_sm0))) (by decide)) dX12_settle_147 (M_X12_unit e_H1) ?_
  refine x_iadd hz dX12_settle_150 ?_
  obtain ⟨H3, e_H3, h⟩ := x_bnd h
  refine x_iast hz dX12_settle_151 e_H3 ?_
  refine x_iinc (w := (x2 + 1)) (pl' := [xA x0, xI x1, xI (x2 + 1), xN, xN]) hz dX12_settle_152 rfl rfl (by decide) rfl ?_
  refine x_goto (t := 44) hz dX12_settle_155 (by decide) ?_
  exact x_wk (xwk_c (xwk_c (xwk_c (xwk_n (xwk_n xwk_0))))) (hk44 x0 x1 (x2 + 1) H3 h)
noncomputable def F_X12_settle_J131 (N : Nat) (k44 : (Option Nat) → Int32 → Int32 → xH → Option (Int32 × xH)) (x0 : (Option Nat)) (x1 : Int32) (x2 : Int32) (x3 : Int32) (H : xH) : Option (Int32 × xH) :=
  (xgA H x0 11 55).bind fun v1 =>
  (xlI .int H v1 x2).bind fun v2 =>
  if x3 = 0 then ((F_X12_settle_J147 N k44) x0 x1 x2 v1 x2 v2 (1 : Int32) H) else ((F_X12_settle_J147 N k44) x0 x1 x2 v1 x2 v2 (0 : Int32) H)
set_option maxRecDepth 20000 in
set_option maxHeartbeats 4000000 in
theorem P_X12_settle_J131 {N : Nat} {Z : xZ} {rv : Int32} {Hf : xH} (hZ : Z = xZm cX12_settle yX12_settle 5 5 (some .int) (some (.int rv)) Hf) {k44 : (Option Nat) → Int32 → Int32 → xH → Option (Int32 × xH)} (hk44 : ∀ (x0 : (Option Nat)) (x1 : Int32) (x2 : Int32) (H : xH), k44 x0 x1 x2 H = some (rv, Hf) → xWq Z H 44 [xA x0, xI x1, xI x2, xN, xN] []) : ∀ (x0 : (Option Nat)) (x1 : Int32) (x2 : Int32) (x3 : Int32) (H : xH), F_X12_settle_J131 N k44 x0 x1 x2 x3 H = some (rv, Hf) → xWq Z H 131 [xA x0, xI x1, xI x2, xI x3, xN] [] := by
  have hz : Z.1 = (cX12_settle, yX12_settle, 5) := by rw [hZ]; rfl
  have hδ : Z.2.1 = 5 := by rw [hZ]; rfl
  intro x0 x1 x2 x3 H h
  unfold F_X12_settle_J131 at h
  refine x_aload_n hz dX12_settle_131 rfl ?_
  obtain ⟨v1, e_v1, h⟩ := x_bnd h
  refine x_getA hz dX12_settle_132 fs_X12_109 e_v1 ?_
  refine x_iload_n hz dX12_settle_135 rfl ?_
  refine x_dup2 hz dX12_settle_136 rfl (x_rfc _) ?_
  obtain ⟨v2, e_v2, h⟩ := x_bnd h
  refine x_iald hz dX12_settle_137 e_v2 ?_
  refine x_iload_n hz dX12_settle_138 rfl ?_
  refine x_if_ne (t := 146) hz dX12_settle_139 (by decide) (fun c3 => ?_) (fun c3 => ?_)
  · replace h := x_in c3 h
    refine x_iconst (v := (0 : Int32)) hz dX12_settle_146 (by decide) ?_
    exact x_wk (xwk_c (xwk_c (xwk_c (xwk_n (xwk_n xwk_0))))) ((P_X12_settle_J147 hZ hk44) x0 x1 x2 v1 x2 v2 (0 : Int32) H h)
  · replace h := x_ip c3 h
    refine x_iconst (v := (1 : Int32)) hz dX12_settle_142 (by decide) ?_
    refine x_goto (t := 147) hz dX12_settle_143 (by decide) ?_
    exact x_wk (xwk_c (xwk_c (xwk_c (xwk_n (xwk_n xwk_0))))) ((P_X12_settle_J147 hZ hk44) x0 x1 x2 v1 x2 v2 (1 : Int32) H h)
noncomputable def F_X12_settle_J44 (N : Nat) (k44 : (Option Nat) → Int32 → Int32 → xH → Option (Int32 × xH)) (k158 : (Option Nat) → Int32 → xH → Option (Int32 × xH)) (x0 : (Option Nat)) (x1 : Int32) (x2 : Int32) (H : xH) : Option (Int32 × xH) :=
  (xgI H x0 11 1).bind fun v1 =>
  if ((1 : Int32) <<< (v1 &&& 31)) ≤ x2 then (k158 x0 x1 H) else ((xgA H x0 11 55).bind fun v3 =>
  (xsI .int H v3 x2 (0 : Int32)).bind fun H4 =>
  (F_X12_settle_L66 N (F_X12_settle_J131 N k44) N) x0 x1 x2 (0 : Int32) (0 : Int32) H4)
set_option maxRecDepth 20000 in
set_option maxHeartbeats 4000000 in
theorem P_X12_settle_J44 {N : Nat} {Z : xZ} {rv : Int32} {Hf : xH} (hZ : Z = xZm cX12_settle yX12_settle 5 5 (some .int) (some (.int rv)) Hf) {k44 : (Option Nat) → Int32 → Int32 → xH → Option (Int32 × xH)} (hk44 : ∀ (x0 : (Option Nat)) (x1 : Int32) (x2 : Int32) (H : xH), k44 x0 x1 x2 H = some (rv, Hf) → xWq Z H 44 [xA x0, xI x1, xI x2, xN, xN] []) {k158 : (Option Nat) → Int32 → xH → Option (Int32 × xH)} (hk158 : ∀ (x0 : (Option Nat)) (x1 : Int32) (H : xH), k158 x0 x1 H = some (rv, Hf) → xWq Z H 158 [xA x0, xI x1, xN, xN, xN] []) : ∀ (x0 : (Option Nat)) (x1 : Int32) (x2 : Int32) (H : xH), F_X12_settle_J44 N k44 k158 x0 x1 x2 H = some (rv, Hf) → xWq Z H 44 [xA x0, xI x1, xI x2, xN, xN] [] := by
  have hz : Z.1 = (cX12_settle, yX12_settle, 5) := by rw [hZ]; rfl
  have hδ : Z.2.1 = 5 := by rw [hZ]; rfl
  intro x0 x1 x2 H h
  unfold F_X12_settle_J44 at h
  refine x_iload_n hz dX12_settle_44 rfl ?_
  refine x_iconst (v := (1 : Int32)) hz dX12_settle_45 (by decide) ?_
  refine x_aload_n hz dX12_settle_46 rfl ?_
  obtain ⟨v1, e_v1, h⟩ := x_bnd h
  refine x_getI hz dX12_settle_47 fs_X12_285 e_v1 ?_
  refine x_ishl hz dX12_settle_50 ?_
  refine x_icmp_ge (t := 158) hz dX12_settle_51 (by decide) (fun c2 => ?_) (fun c2 => ?_)
  · replace h := x_ip c2 h
    exact x_wk (xwk_c (xwk_c (xwk_n (xwk_n (xwk_n xwk_0))))) (hk158 x0 x1 H h)
  · replace h := x_in c2 h
    refine x_iconst (v := (0 : Int32)) hz dX12_settle_54 (by decide) ?_
    refine x_istore_n (pl' := [xA x0, xI x1, xI x2, xI (0 : Int32), xN]) hz dX12_settle_55 (by decide) rfl ?_
    refine x_aload_n hz dX12_settle_56 rfl ?_
    obtain ⟨v3, e_v3, h⟩ := x_bnd h
    refine x_getA hz dX12_settle_57 fs_X12_109 e_v3 ?_
    refine x_iload_n hz dX12_settle_60 rfl ?_
    refine x_iconst (v := (0 : Int32)) hz dX12_settle_61 (by decide) ?_
    obtain ⟨H4, e_H4, h⟩ := x_bnd h
    refine x_iast hz dX12_settle_62 e_H4 ?_
    refine x_iconst (v := (0 : Int32)) hz dX12_settle_63 (by decide) ?_
    refine x_istore (pl' := [xA x0, xI x1, xI x2, xI (0 : Int32), xI (0 : Int32)]) hz dX12_settle_64 (by decide) rfl ?_
    exact x_wk (xwk_c (xwk_c (xwk_c (xwk_c (xwk_c xwk_0))))) ((P_X12_settle_L66 hZ (P_X12_settle_J131 hZ hk44) N) x0 x1 x2 (0 : Int32) (0 : Int32) H4 h)
noncomputable def F_X12_settle_L44 (N : Nat) (k158 : (Option Nat) → Int32 → xH → Option (Int32 × xH)) : Nat → (Option Nat) → Int32 → Int32 → xH → Option (Int32 × xH)
  | 0 => fun _ _ _ _ => none
  | n + 1 => F_X12_settle_J44 N (F_X12_settle_L44 N k158 n) k158
theorem P_X12_settle_L44 {N : Nat} {Z : xZ} {rv : Int32} {Hf : xH} (hZ : Z = xZm cX12_settle yX12_settle 5 5 (some .int) (some (.int rv)) Hf) {k158 : (Option Nat) → Int32 → xH → Option (Int32 × xH)} (hk158 : ∀ (x0 : (Option Nat)) (x1 : Int32) (H : xH), k158 x0 x1 H = some (rv, Hf) → xWq Z H 158 [xA x0, xI x1, xN, xN, xN] []) : ∀ (n : Nat) (x0 : (Option Nat)) (x1 : Int32) (x2 : Int32) (H : xH), F_X12_settle_L44 N k158 n x0 x1 x2 H = some (rv, Hf) → xWq Z H 44 [xA x0, xI x1, xI x2, xN, xN] [] := by
  intro n
  induction n with
  | zero => intro _ _ _ _ h; cases h
  | succ n ih => exact P_X12_settle_J44 hZ ih hk158
noncomputable def F_X12_settle_J158 (N : Nat) (x0 : (Option Nat)) (x1 : Int32) (H : xH) : Option (Int32 × xH) :=
  (xgI H x0 11 1).bind fun v1 =>
  (xgI H x0 11 1).bind fun v2 =>
  if v2 = 0 then (some ((0 : Int32), H)) else ((xgA H x0 11 55).bind fun v4 =>
  (xgI H x0 11 1).bind fun v5 =>
  (xlI .int H v4 (((1 : Int32) <<< (v5 &&& 31)) - (1 : Int32))).bind fun v6 =>
  some ((x1 - (v6 - (v1 - x1))), H))
set_option maxRecDepth 20000 in
set_option maxHeartbeats 4000000 in
theorem P_X12_settle_J158 {N : Nat} {Z : xZ} {rv : Int32} {Hf : xH} (hZ : Z = xZm cX12_settle yX12_settle 5 5 (some .int) (some (.int rv)) Hf) : ∀ (x0 : (Option Nat)) (x1 : Int32) (H : xH), F_X12_settle_J158 N x0 x1 H = some (rv, Hf) → xWq Z H 158 [xA x0, xI x1, xN, xN, xN] [] := by
  have hz : Z.1 = (cX12_settle, yX12_settle, 5) := by rw [hZ]; rfl
  have hδ : Z.2.1 = 5 := by rw [hZ]; rfl
  intro x0 x1 H h
  unfold F_X12_settle_J158 at h
  refine x_aload_n hz dX12_settle_158 rfl ?_
  obtain ⟨v1, e_v1, h⟩ := x_bnd h
  refine x_getI hz dX12_settle_159 fs_X12_285 e_v1 ?_
  refine x_iload_n hz dX12_settle_162 rfl ?_
  refine x_isub hz dX12_settle_163 ?_
  refine x_istore_n (pl' := [xA x0, xI x1, xI (v1 - x1), xN, xN]) hz dX12_settle_164 (by decide) rfl ?_
  refine x_aload_n hz dX12_settle_165 rfl ?_
  obtain ⟨v2, e_v2, h⟩ := x_bnd h
  refine x_getI hz dX12_settle_166 fs_X12_285 e_v2 ?_
  refine x_if_ne (t := 176) hz dX12_settle_169 (by decide) (fun c3 => ?_) (fun c3 => ?_)
  · replace h := x_in c3 h
    refine x_iload_n hz dX12_settle_176 rfl ?_
    refine x_aload_n hz dX12_settle_177 rfl ?_
    obtain ⟨v4, e_v4, h⟩ := x_bnd h
    refine x_getA hz dX12_settle_178 fs_X12_109 e_v4 ?_
    refine x_iconst (v := (1 : Int32)) hz dX12_settle_181 (by decide) ?_
    refine x_aload_n hz dX12_settle_182 rfl ?_
    obtain ⟨v5, e_v5, h⟩ := x_bnd h
    refine x_getI hz dX12_settle_183 fs_X12_285 e_v5 ?_
    refine x_ishl hz dX12_settle_186 ?_
    refine x_iconst (v := (1 : Int32)) hz dX12_settle_187 (by decide) ?_
    refine x_isub hz dX12_settle_188 ?_
    obtain ⟨v6, e_v6, h⟩ := x_bnd h
    refine x_iald hz dX12_settle_189 e_v6 ?_
    refine x_iload_n hz dX12_settle_190 rfl ?_
    refine x_isub hz dX12_settle_191 ?_
    refine x_isub hz dX12_settle_192 ?_
    cases h
    exact x_iret hZ dX12_settle_193
  · replace h := x_ip c3 h
    refine x_iconst (v := (0 : Int32)) hz dX12_settle_172 (by decide) ?_
    refine x_goto (t := 193) hz dX12_settle_173 (by decide) ?_
    cases h
    exact x_iret hZ dX12_settle_193
noncomputable def F_X12_settle_J42 (N : Nat) (x0 : (Option Nat)) (x1 : Int32) (H : xH) : Option (Int32 × xH) :=
  (F_X12_settle_L44 N (F_X12_settle_J158 N) N) x0 x1 (1 : Int32) H
set_option maxRecDepth 20000 in
set_option maxHeartbeats 4000000 in
theorem P_X12_settle_J42 {N : Nat} {Z : xZ} {rv : Int32} {Hf : xH} (hZ : Z = xZm cX12_settle yX12_settle 5 5 (some .int) (some (.int rv)) Hf) : ∀ (x0 : (Option Nat)) (x1 : Int32) (H : xH), F_X12_settle_J42 N x0 x1 H = some (rv, Hf) → xWq Z H 42 [xA x0, xI x1, xN, xN, xN] [] := by
  have hz : Z.1 = (cX12_settle, yX12_settle, 5) := by rw [hZ]; rfl
  have hδ : Z.2.1 = 5 := by rw [hZ]; rfl
  intro x0 x1 H h
  unfold F_X12_settle_J42 at h
  refine x_iconst (v := (1 : Int32)) hz dX12_settle_42 (by decide) ?_
  refine x_istore_n (pl' := [xA x0, xI x1, xI (1 : Int32), xN, xN]) hz dX12_settle_43 (by decide) rfl ?_
  exact x_wk (xwk_c (xwk_c (xwk_c (xwk_n (xwk_n xwk_0))))) ((P_X12_settle_L44 hZ (P_X12_settle_J158 hZ) N) x0 x1 (1 : Int32) H h)
noncomputable def F_X12_settle (N : Nat) (a0 : (Option Nat)) (H : xH) : Option (Int32 × xH) :=
  (xob H a0 11).bind fun b2 =>
  (F_X12_balances N a0 H).bind fun H1 =>
  (F_X12_settle_L8 N (F_X12_settle_J42 N) N) a0 (0 : Int32) (0 : Int32) H1
set_option maxRecDepth 20000 in
set_option maxHeartbeats 4000000 in
theorem P_X12_settle {N : Nat} {Z : xZ} {rv : Int32} {Hf : xH} (hZ : Z = xZm cX12_settle yX12_settle 5 5 (some .int) (some (.int rv)) Hf) : ∀ (a0 : (Option Nat)) (H : xH), F_X12_settle N a0 H = some (rv, Hf) → xWq Z H 0 [xA a0, xN, xN, xN, xN] [] := by
  have hz : Z.1 = (cX12_settle, yX12_settle, 5) := by rw [hZ]; rfl
  have hδ : Z.2.1 = 5 := by rw [hZ]; rfl
  intro a0 H h
  unfold F_X12_settle at h
  refine x_aload_n hz dX12_settle_0 rfl ?_
  obtain ⟨b2, e_b2, h⟩ := x_bnd h
  obtain ⟨H1, e_H1, h⟩ := x_bnd h
  refine x_callVv (as := []) (st := []) cs_X12_393 (ci := 11) ⟨rfl, rfl⟩ rfl rfl hz (by omega) (by decide) dX12_settle_1 e_b2 (M_X12_balances e_H1) ?_
  refine x_iconst (v := (0 : Int32)) hz dX12_settle_4 (by decide) ?_
  refine x_istore_n (pl' := [xA a0, xI (0 : Int32), xN, xN, xN]) hz dX12_settle_5 (by decide) rfl ?_
  refine x_iconst (v := (0 : Int32)) hz dX12_settle_6 (by decide) ?_
  refine x_istore_n (pl' := [xA a0, xI (0 : Int32), xI (0 : Int32), xN, xN]) hz dX12_settle_7 (by decide) rfl ?_
  exact x_wk (xwk_c (xwk_c (xwk_c (xwk_n (xwk_n xwk_0))))) ((P_X12_settle_L8 hZ (P_X12_settle_J42 hZ) N) a0 (0 : Int32) (0 : Int32) H1 h)
theorem M_X12_settle {N : Nat} {a0 : (Option Nat)} {H H1 : xH} {r1 : Int32} (h : F_X12_settle N a0 H = some (r1, H1)) : xM yX12_settle cX12_settle 5 (some .int) 5 [.inr (.inr a0)] H (some (.int r1)) H1 :=
  xM_of (by decide +kernel) (xT_tb 1483 (by decide +kernel) (by decide +kernel)) (by simp [xargs, x2]) rfl (P_X12_settle rfl a0 H h)
/-! BettingBookModel.best(I)I -/
noncomputable def F_X12_best_J73 (N : Nat) (k26 : (Option Nat) → Int32 → Int32 → Int32 → xH → Option (Int32 × xH)) (x0 : (Option Nat)) (x1 : Int32) (x2 : Int32) (x3 : Int32) (H : xH) : Option (Int32 × xH) :=
  k26 x0 x1 x2 (x3 + 1) H
set_option maxRecDepth 20000 in
set_option maxHeartbeats 4000000 in
theorem P_X12_best_J73 {N : Nat} {Z : xZ} {rv : Int32} {Hf : xH} (hZ : Z = xZm cX12_best yX12_best 4 5 (some .int) (some (.int rv)) Hf) {k26 : (Option Nat) → Int32 → Int32 → Int32 → xH → Option (Int32 × xH)} (hk26 : ∀ (x0 : (Option Nat)) (x1 : Int32) (x2 : Int32) (x3 : Int32) (H : xH), k26 x0 x1 x2 x3 H = some (rv, Hf) → xWq Z H 26 [xA x0, xI x1, xI x2, xI x3] []) : ∀ (x0 : (Option Nat)) (x1 : Int32) (x2 : Int32) (x3 : Int32) (H : xH), F_X12_best_J73 N k26 x0 x1 x2 x3 H = some (rv, Hf) → xWq Z H 73 [xA x0, xI x1, xI x2, xI x3] [] := by
  have hz : Z.1 = (cX12_best, yX12_best, 4) := by rw [hZ]; rfl
  have hδ : Z.2.1 = 5 := by rw [hZ]; rfl
  intro x0 x1 x2 x3 H h
  unfold F_X12_best_J73 at h
  refine x_iinc (w := (x3 + 1)) (pl' := [xA x0, xI x1, xI x2, xI (x3 + 1)]) hz dX12_best_73 rfl rfl (by decide) rfl ?_
  refine x_goto (t := 26) hz dX12_best_76 (by decide) ?_
  exact x_wk (xwk_c (xwk_c (xwk_c (xwk_c xwk_0)))) (hk26 x0 x1 x2 (x3 + 1) H h)
noncomputable def F_X12_best_J71 (N : Nat) (k26 : (Option Nat) → Int32 → Int32 → Int32 → xH → Option (Int32 × xH)) (x0 : (Option Nat)) (x1 : Int32) (x3 : Int32) (H : xH) : Option (Int32 × xH) :=
  (F_X12_best_J73 N k26) x0 x1 x3 x3 H
set_option maxRecDepth 20000 in
set_option maxHeartbeats 4000000 in
theorem P_X12_best_J71 {N : Nat} {Z : xZ} {rv : Int32} {Hf : xH} (hZ : Z = xZm cX12_best yX12_best 4 5 (some .int) (some (.int rv)) Hf) {k26 : (Option Nat) → Int32 → Int32 → Int32 → xH → Option (Int32 × xH)} (hk26 : ∀ (x0 : (Option Nat)) (x1 : Int32) (x2 : Int32) (x3 : Int32) (H : xH), k26 x0 x1 x2 x3 H = some (rv, Hf) → xWq Z H 26 [xA x0, xI x1, xI x2, xI x3] []) : ∀ (x0 : (Option Nat)) (x1 : Int32) (x3 : Int32) (H : xH), F_X12_best_J71 N k26 x0 x1 x3 H = some (rv, Hf) → xWq Z H 71 [xA x0, xI x1, xN, xI x3] [] := by
  have hz : Z.1 = (cX12_best, yX12_best, 4) := by rw [hZ]; rfl
  have hδ : Z.2.1 = 5 := by rw [hZ]; rfl
  intro x0 x1 x3 H h
  unfold F_X12_best_J71 at h
  refine x_iload_n hz dX12_best_71 rfl ?_
  refine x_istore_n (pl' := [xA x0, xI x1, xI x3, xI x3]) hz dX12_best_72 (by decide) rfl ?_
  exact x_wk (xwk_c (xwk_c (xwk_c (xwk_c xwk_0)))) ((P_X12_best_J73 hZ hk26) x0 x1 x3 x3 H h)
noncomputable def F_X12_best_J26 (N : Nat) (k26 : (Option Nat) → Int32 → Int32 → Int32 → xH → Option (Int32 × xH)) (x0 : (Option Nat)) (x1 : Int32) (x2 : Int32) (x3 : Int32) (H : xH) : Option (Int32 × xH) :=
  (xgI H x0 11 1).bind fun v1 =>
  if v1 ≤ x3 then (some (x2, H)) else (if x1 = 0 then ((xgA H x0 11 54).bind fun v9 =>
  (xlI .int H v9 x3).bind fun v10 =>
  (xgA H x0 11 54).bind fun v11 =>
  (xlI .int H v11 x2).bind fun v12 =>
  if v10 ≤ v12 then ((F_X12_best_J73 N k26) x0 x1 x2 x3 H) else ((F_X12_best_J71 N k26) x0 x1 x3 H)) else ((xgA H x0 11 54).bind fun v4 =>
  (xlI .int H v4 x3).bind fun v5 =>
  (xgA H x0 11 54).bind fun v6 =>
  (xlI .int H v6 x2).bind fun v7 =>
  if v7 ≤ v5 then ((F_X12_best_J73 N k26) x0 x1 x2 x3 H) else ((F_X12_best_J71 N k26) x0 x1 x3 H)))
set_option maxRecDepth 20000 in
set_option maxHeartbeats 4000000 in
theorem P_X12_best_J26 {N : Nat} {Z : xZ} {rv : Int32} {Hf : xH} (hZ : Z = xZm cX12_best yX12_best 4 5 (some .int) (some (.int rv)) Hf) {k26 : (Option Nat) → Int32 → Int32 → Int32 → xH → Option (Int32 × xH)} (hk26 : ∀ (x0 : (Option Nat)) (x1 : Int32) (x2 : Int32) (x3 : Int32) (H : xH), k26 x0 x1 x2 x3 H = some (rv, Hf) → xWq Z H 26 [xA x0, xI x1, xI x2, xI x3] []) : ∀ (x0 : (Option Nat)) (x1 : Int32) (x2 : Int32) (x3 : Int32) (H : xH), F_X12_best_J26 N k26 x0 x1 x2 x3 H = some (rv, Hf) → xWq Z H 26 [xA x0, xI x1, xI x2, xI x3] [] := by
  have hz : Z.1 = (cX12_best, yX12_best, 4) := by rw [hZ]; rfl
  have hδ : Z.2.1 = 5 := by rw [hZ]; rfl
  intro x0 x1 x2 x3 H h
  unfold F_X12_best_J26 at h
  refine x_iload_n hz dX12_best_26 rfl ?_
  refine x_aload_n hz dX12_best_27 rfl ?_
  obtain ⟨v1, e_v1, h⟩ := x_bnd h
  refine x_getI hz dX12_best_28 fs_X12_285 e_v1 ?_
  refine x_icmp_ge (t := 79) hz dX12_best_31 (by decide) (fun c2 => ?_) (fun c2 => ?_)
  · replace h := x_ip c2 h
    refine x_iload_n hz dX12_best_79 rfl ?_
    cases h
    exact x_iret hZ dX12_best_80
  · replace h := x_in c2 h
    refine x_iload_n hz dX12_best_34 rfl ?_
    refine x_if_ne (t := 56) hz dX12_best_35 (by decide) (fun c3 => ?_) (fun c3 => ?_)
    · replace h := x_in c3 h
      refine x_aload_n hz dX12_best_56 rfl ?_
      obtain ⟨v4, e_v4, h⟩ := x_bnd h
      refine x_getA hz dX12_best_57 fs_X12_106 e_v4 ?_
      refine x_iload_n hz dX12_best_60 rfl ?_
      obtain ⟨v5, e_v5, h⟩ := x_bnd h
      refine x_iald hz dX12_best_61 e_v5 ?_
      refine x_aload_n hz dX12_best_62 rfl ?_
      obtain ⟨v6, e_v6, h⟩ := x_bnd h
      refine x_getA hz dX12_best_63 fs_X12_106 e_v6 ?_
      refine x_iload_n hz dX12_best_66 rfl ?_
      obtain ⟨v7, e_v7, h⟩ := x_bnd h
      refine x_iald hz dX12_best_67 e_v7 ?_
      refine x_icmp_ge (t := 73) hz dX12_best_68 (by decide) (fun c8 => ?_) (fun c8 => ?_)
      · replace h := x_ip c8 h
        exact x_wk (xwk_c (xwk_c (xwk_c (xwk_c xwk_0)))) ((P_X12_best_J73 hZ hk26) x0 x1 x2 x3 H h)
      · replace h := x_in c8 h
        exact x_wk (xwk_c (xwk_c (xwk_n (xwk_c xwk_0)))) ((P_X12_best_J71 hZ hk26) x0 x1 x3 H h)
    · replace h := x_ip c3 h
      refine x_aload_n hz dX12_best_38 rfl ?_
      obtain ⟨v9, e_v9, h⟩ := x_bnd h
      refine x_getA hz dX12_best_39 fs_X12_106 e_v9 ?_
      refine x_iload_n hz dX12_best_42 rfl ?_
      obtain ⟨v10, e_v10, h⟩ := x_bnd h
      refine x_iald hz dX12_best_43 e_v10 ?_
      refine x_aload_n hz dX12_best_44 rfl ?_
      obtain ⟨v11, e_v11, h⟩ := x_bnd h
      refine x_getA hz dX12_best_45 fs_X12_106 e_v11 ?_
      refine x_iload_n hz dX12_best_48 rfl ?_
      obtain ⟨v12, e_v12, h⟩ := x_bnd h
      refine x_iald hz dX12_best_49 e_v12 ?_
      refine x_icmp_le (t := 73) hz dX12_best_50 (by decide) (fun c13 => ?_) (fun c13 => ?_)
      · replace h := x_ip c13 h
        exact x_wk (xwk_c (xwk_c (xwk_c (xwk_c xwk_0)))) ((P_X12_best_J73 hZ hk26) x0 x1 x2 x3 H h)
      · replace h := x_in c13 h
        refine x_goto (t := 71) hz dX12_best_53 (by decide) ?_
        exact x_wk (xwk_c (xwk_c (xwk_n (xwk_c xwk_0)))) ((P_X12_best_J71 hZ hk26) x0 x1 x3 H h)
noncomputable def F_X12_best_L26 (N : Nat) : Nat → (Option Nat) → Int32 → Int32 → Int32 → xH → Option (Int32 × xH)
  | 0 => fun _ _ _ _ _ => none
  | n + 1 => F_X12_best_J26 N (F_X12_best_L26 N n)
theorem P_X12_best_L26 {N : Nat} {Z : xZ} {rv : Int32} {Hf : xH} (hZ : Z = xZm cX12_best yX12_best 4 5 (some .int) (some (.int rv)) Hf) : ∀ (n : Nat) (x0 : (Option Nat)) (x1 : Int32) (x2 : Int32) (x3 : Int32) (H : xH), F_X12_best_L26 N n x0 x1 x2 x3 H = some (rv, Hf) → xWq Z H 26 [xA x0, xI x1, xI x2, xI x3] [] := by
  intro n
  induction n with
  | zero => intro _ _ _ _ _ h; cases h
  | succ n ih => exact P_X12_best_J26 hZ ih
noncomputable def F_X12_best (N : Nat) (a0 : (Option Nat)) (a1 : Int32) (H : xH) : Option (Int32 × xH) :=
  (xgI H a0 11 1).bind fun v1 =>
  if v1 = 0 then (some ((-1 : Int32), H)) else (x_bd2 (F_X12_isIn N a1 (0 : Int32) (1 : Int32) H) fun v4 H3 =>
  if v4 = 0 then (some ((-1 : Int32), H3)) else ((xob H3 a0 11).bind fun b7 =>
  (F_X12_balances N a0 H3).bind fun H6 =>
  (F_X12_best_L26 N N) a0 a1 (0 : Int32) (1 : Int32) H6))
set_option maxRecDepth 20000 in
set_option maxHeartbeats 4000000 in
theorem P_X12_best {N : Nat} {Z : xZ} {rv : Int32} {Hf : xH} (hZ : Z = xZm cX12_best yX12_best 4 5 (some .int) (some (.int rv)) Hf) : ∀ (a0 : (Option Nat)) (a1 : Int32) (H : xH), F_X12_best N a0 a1 H = some (rv, Hf) → xWq Z H 0 [xA a0, xI a1, xN, xN] [] := by
  have hz : Z.1 = (cX12_best, yX12_best, 4) := by rw [hZ]; rfl
  have hδ : Z.2.1 = 5 := by rw [hZ]; rfl
  intro a0 a1 H h
  unfold F_X12_best at h
  refine x_aload_n hz dX12_best_0 rfl ?_
  obtain ⟨v1, e_v1, h⟩ := x_bnd h
  refine x_getI hz dX12_best_1 fs_X12_285 e_v1 ?_
  refine x_if_eq (t := 16) hz dX12_best_4 (by decide) (fun c2 => ?_) (fun c2 => ?_)
  · replace h := x_ip c2 h
    refine x_iconst (v := (-1 : Int32)) hz dX12_best_16 (by decide) ?_
    cases h
    exact x_iret hZ dX12_best_17
  · replace h := x_in c2 h
    refine x_iload_n hz dX12_best_7 rfl ?_
    refine x_iconst (v := (0 : Int32)) hz dX12_best_8 (by decide) ?_
    refine x_iconst (v := (1 : Int32)) hz dX12_best_9 (by decide) ?_
    obtain ⟨v4, H3, e_H3, h⟩ := x_b2 h
    refine x_callSi (as := [.inl a1, .inl (0 : Int32), .inl (1 : Int32)]) (st := []) cs_X12_153 rfl rfl hz (by omega) (by decide) dX12_best_10 (M_X12_isIn e_H3) ?_
    refine x_if_ne (t := 18) hz dX12_best_13 (by decide) (fun c5 => ?_) (fun c5 => ?_)
    · replace h := x_in c5 h
      refine x_aload_n hz dX12_best_18 rfl ?_
      obtain ⟨b7, e_b7, h⟩ := x_bnd h
      obtain ⟨H6, e_H6, h⟩ := x_bnd h
      refine x_callVv (as := []) (st := []) cs_X12_393 (ci := 11) ⟨rfl, rfl⟩ rfl rfl hz (by omega) (by decide) dX12_best_19 e_b7 (M_X12_balances e_H6) ?_
      refine x_iconst (v := (0 : Int32)) hz dX12_best_22 (by decide) ?_
      refine x_istore_n (pl' := [xA a0, xI a1, xI (0 : Int32), xN]) hz dX12_best_23 (by decide) rfl ?_
      refine x_iconst (v := (1 : Int32)) hz dX12_best_24 (by decide) ?_
      refine x_istore_n (pl' := [xA a0, xI a1, xI (0 : Int32), xI (1 : Int32)]) hz dX12_best_25 (by decide) rfl ?_
      exact x_wk (xwk_c (xwk_c (xwk_c (xwk_c xwk_0)))) ((P_X12_best_L26 hZ N) a0 a1 (0 : Int32) (1 : Int32) H6 h)
    · replace h := x_ip c5 h
      refine x_iconst (v := (-1 : Int32)) hz dX12_best_16 (by decide) ?_
      cases h
      exact x_iret hZ dX12_best_17
theorem M_X12_best {N : Nat} {a0 : (Option Nat)} {a1 : Int32} {H H1 : xH} {r1 : Int32} (h : F_X12_best N a0 a1 H = some (r1, H1)) : xM yX12_best cX12_best 4 (some .int) 5 [.inr (.inr a0), .inl a1] H (some (.int r1)) H1 :=
  xM_of (by decide +kernel) (xT_tb 1488 (by decide +kernel) (by decide +kernel)) (by simp [xargs, x2]) rfl (P_X12_best rfl a0 a1 H h)
/-! BettingBookModel.amount(III)I -/
noncomputable def F_X12_amount (N : Nat) (a0 : Int32) (a1 : Int32) (a2 : Int32) (H : xH) : Option (Int32 × xH) :=
  if a0 = 0 then (some ((0 : Int32), H)) else (if a0 = (1 : Int32) then (some (a1, H)) else (if a0 = (2 : Int32) then (some ((-a2), H)) else (if a0 = (3 : Int32) then (some (((2 : Int32) * a1), H)) else (some (((-2 : Int32) * a2), H)))))
set_option maxRecDepth 20000 in
set_option maxHeartbeats 4000000 in
theorem P_X12_amount {N : Nat} {Z : xZ} {rv : Int32} {Hf : xH} (hZ : Z = xZm cX12_amount yX12_amount 3 1 (some .int) (some (.int rv)) Hf) : ∀ (a0 : Int32) (a1 : Int32) (a2 : Int32) (H : xH), F_X12_amount N a0 a1 a2 H = some (rv, Hf) → xWq Z H 0 [xI a0, xI a1, xI a2] [] := by
  have hz : Z.1 = (cX12_amount, yX12_amount, 3) := by rw [hZ]; rfl
  have hδ : Z.2.1 = 1 := by rw [hZ]; rfl
  intro a0 a1 a2 H h
  unfold F_X12_amount at h
  refine x_iload_n hz dX12_amount_0 rfl ?_
  refine x_if_ne (t := 8) hz dX12_amount_1 (by decide) (fun c1 => ?_) (fun c1 => ?_)
  · replace h := x_in c1 h
    refine x_iload_n hz dX12_amount_8 rfl ?_
    refine x_iconst (v := (1 : Int32)) hz dX12_amount_9 (by decide) ?_
    refine x_icmp_ne (t := 17) hz dX12_amount_10 (by decide) (fun c2 => ?_) (fun c2 => ?_)
    · replace h := x_in c2 h
      refine x_iload_n hz dX12_amount_17 rfl ?_
      refine x_iconst (v := (2 : Int32)) hz dX12_amount_18 (by decide) ?_
      refine x_icmp_ne (t := 27) hz dX12_amount_19 (by decide) (fun c3 => ?_) (fun c3 => ?_)
      · replace h := x_in c3 h
        refine x_iload_n hz dX12_amount_27 rfl ?_
        refine x_iconst (v := (3 : Int32)) hz dX12_amount_28 (by decide) ?_
        refine x_icmp_ne (t := 38) hz dX12_amount_29 (by decide) (fun c4 => ?_) (fun c4 => ?_)
        · replace h := x_in c4 h
          refine x_bipush (v := (-2 : Int32)) hz dX12_amount_38 (by decide) ?_
          refine x_iload_n hz dX12_amount_40 rfl ?_
          refine x_imul hz dX12_amount_41 ?_
          cases h
          exact x_iret hZ dX12_amount_42
        · replace h := x_ip c4 h
          refine x_iconst (v := (2 : Int32)) hz dX12_amount_32 (by decide) ?_
          refine x_iload_n hz dX12_amount_33 rfl ?_
          refine x_imul hz dX12_amount_34 ?_
          refine x_goto (t := 42) hz dX12_amount_35 (by decide) ?_
          cases h
          exact x_iret hZ dX12_amount_42
      · replace h := x_ip c3 h
        refine x_iload_n hz dX12_amount_22 rfl ?_
        refine x_ineg hz dX12_amount_23 ?_
        refine x_goto (t := 42) hz dX12_amount_24 (by decide) ?_
        cases h
        exact x_iret hZ dX12_amount_42
    · replace h := x_ip c2 h
      refine x_iload_n hz dX12_amount_13 rfl ?_
      refine x_goto (t := 42) hz dX12_amount_14 (by decide) ?_
      cases h
      exact x_iret hZ dX12_amount_42
  · replace h := x_ip c1 h
    refine x_iconst (v := (0 : Int32)) hz dX12_amount_4 (by decide) ?_
    refine x_goto (t := 42) hz dX12_amount_5 (by decide) ?_
    cases h
    exact x_iret hZ dX12_amount_42
theorem M_X12_amount {N : Nat} {a0 : Int32} {a1 : Int32} {a2 : Int32} {H H1 : xH} {r1 : Int32} (h : F_X12_amount N a0 a1 a2 H = some (r1, H1)) : xM yX12_amount cX12_amount 3 (some .int) 1 [.inl a0, .inl a1, .inl a2] H (some (.int r1)) H1 :=
  xM_of (by decide +kernel) (xT_tb 1507 (by decide +kernel) (by decide +kernel)) (by simp [xargs, x2]) rfl (P_X12_amount rfl a0 a1 a2 H h)
/-! BettingBookModel.meets()V -/
noncomputable def F_X12_meets_J2 (N : Nat) (k2 : (Option Nat) → Int32 → xH → Option xH) (k22 : (Option Nat) → xH → Option xH) (x0 : (Option Nat)) (x1 : Int32) (H : xH) : Option xH :=
  if (15625 : Int32) ≤ x1 then (k22 x0 H) else ((xgA H x0 11 56).bind fun v2 =>
  (xsI .boolean H v2 x1 (0 : Int32)).bind fun H3 =>
  k2 x0 (x1 + 1) H3)
set_option maxRecDepth 20000 in
set_option maxHeartbeats 4000000 in
theorem P_X12_meets_J2 {N : Nat} {Z : xZ} {Hf : xH} (hZ : Z = xZm cX12_meets yX12_meets 4 3 none none Hf) {k2 : (Option Nat) → Int32 → xH → Option xH} (hk2 : ∀ (x0 : (Option Nat)) (x1 : Int32) (H : xH), k2 x0 x1 H = some Hf → xWq Z H 2 [xA x0, xI x1, xN, xN] []) {k22 : (Option Nat) → xH → Option xH} (hk22 : ∀ (x0 : (Option Nat)) (H : xH), k22 x0 H = some Hf → xWq Z H 22 [xA x0, xN, xN, xN] []) : ∀ (x0 : (Option Nat)) (x1 : Int32) (H : xH), F_X12_meets_J2 N k2 k22 x0 x1 H = some Hf → xWq Z H 2 [xA x0, xI x1, xN, xN] [] := by
  have hz : Z.1 = (cX12_meets, yX12_meets, 4) := by rw [hZ]; rfl
  have hδ : Z.2.1 = 3 := by rw [hZ]; rfl
  intro x0 x1 H h
  unfold F_X12_meets_J2 at h
  refine x_iload_n hz dX12_meets_2 rfl ?_
  refine x_sipush (v := (15625 : Int32)) hz dX12_meets_3 (by decide) ?_
  refine x_icmp_ge (t := 22) hz dX12_meets_6 (by decide) (fun c1 => ?_) (fun c1 => ?_)
  · replace h := x_ip c1 h
    exact x_wk (xwk_c (xwk_n (xwk_n (xwk_n xwk_0)))) (hk22 x0 H h)
  · replace h := x_in c1 h
    refine x_aload_n hz dX12_meets_9 rfl ?_
    obtain ⟨v2, e_v2, h⟩ := x_bnd h
    refine x_getA hz dX12_meets_10 fs_X12_112 e_v2 ?_
    refine x_iload_n hz dX12_meets_13 rfl ?_
    refine x_iconst (v := (0 : Int32)) hz dX12_meets_14 (by decide) ?_
    obtain ⟨H3, e_H3, h⟩ := x_bnd h
    refine x_zast hz dX12_meets_15 e_H3 ?_
    refine x_iinc (w := (x1 + 1)) (pl' := [xA x0, xI (x1 + 1), xN, xN]) hz dX12_meets_16 rfl rfl (by decide) rfl ?_
    refine x_goto (t := 2) hz dX12_meets_19 (by decide) ?_
    exact x_wk (xwk_c (xwk_c (xwk_n (xwk_n xwk_0)))) (hk2 x0 (x1 + 1) H3 h)
noncomputable def F_X12_meets_L2 (N : Nat) (k22 : (Option Nat) → xH → Option xH) : Nat → (Option Nat) → Int32 → xH → Option xH
  | 0 => fun _ _ _ => none
  | n + 1 => F_X12_meets_J2 N (F_X12_meets_L2 N k22 n) k22
theorem P_X12_meets_L2 {N : Nat} {Z : xZ} {Hf : xH} (hZ : Z = xZm cX12_meets yX12_meets 4 3 none none Hf) {k22 : (Option Nat) → xH → Option xH} (hk22 : ∀ (x0 : (Option Nat)) (H : xH), k22 x0 H = some Hf → xWq Z H 22 [xA x0, xN, xN, xN] []) : ∀ (n : Nat) (x0 : (Option Nat)) (x1 : Int32) (H : xH), F_X12_meets_L2 N k22 n x0 x1 H = some Hf → xWq Z H 2 [xA x0, xI x1, xN, xN] [] := by
  intro n
  induction n with
  | zero => intro _ _ _ h; cases h
  | succ n ih => exact P_X12_meets_J2 hZ ih hk22
noncomputable def F_X12_meets_J52 (N : Nat) (k52 : (Option Nat) → Int32 → Int32 → Int32 → xH → Option xH) (k83 : (Option Nat) → Int32 → Int32 → xH → Option xH) (x0 : (Option Nat)) (x1 : Int32) (x2 : Int32) (x3 : Int32) (H : xH) : Option xH :=
  if x3 < 0 then (k83 x0 x1 x2 H) else ((xgA H x0 11 44).bind fun v2 =>
  (xgA H x0 11 57).bind fun v3 =>
  (xlI .int H v3 x3).bind fun v4 =>
  (xlI .byte H v2 (((59049 : Int32) * v4) + x1)).bind fun v5 =>
  k52 x0 x1 (((5 : Int32) * x2) + v5) (x3 + (-1)) H)
set_option maxRecDepth 20000 in
set_option maxHeartbeats 4000000 in
theorem P_X12_meets_J52 {N : Nat} {Z : xZ} {Hf : xH} (hZ : Z = xZm cX12_meets yX12_meets 4 3 none none Hf) {k52 : (Option Nat) → Int32 → Int32 → Int32 → xH → Option xH} (hk52 : ∀ (x0 : (Option Nat)) (x1 : Int32) (x2 : Int32) (x3 : Int32) (H : xH), k52 x0 x1 x2 x3 H = some Hf → xWq Z H 52 [xA x0, xI x1, xI x2, xI x3] []) {k83 : (Option Nat) → Int32 → Int32 → xH → Option xH} (hk83 : ∀ (x0 : (Option Nat)) (x1 : Int32) (x2 : Int32) (H : xH), k83 x0 x1 x2 H = some Hf → xWq Z H 83 [xA x0, xI x1, xI x2, xN] []) : ∀ (x0 : (Option Nat)) (x1 : Int32) (x2 : Int32) (x3 : Int32) (H : xH), F_X12_meets_J52 N k52 k83 x0 x1 x2 x3 H = some Hf → xWq Z H 52 [xA x0, xI x1, xI x2, xI x3] [] := by
  have hz : Z.1 = (cX12_meets, yX12_meets, 4) := by rw [hZ]; rfl
  have hδ : Z.2.1 = 3 := by rw [hZ]; rfl
  intro x0 x1 x2 x3 H h
  unfold F_X12_meets_J52 at h
  refine x_iload_n hz dX12_meets_52 rfl ?_
  refine x_if_lt (t := 83) hz dX12_meets_53 (by decide) (fun c1 => ?_) (fun c1 => ?_)
  · replace h := x_ip c1 h
    exact x_wk (xwk_c (xwk_c (xwk_c (xwk_n xwk_0)))) (hk83 x0 x1 x2 H h)
  · replace h := x_in c1 h
    refine x_iconst (v := (5 : Int32)) hz dX12_meets_56 (by decide) ?_
    refine x_iload_n hz dX12_meets_57 rfl ?_
    refine x_imul hz dX12_meets_58 ?_
    refine x_aload_n hz dX12_meets_59 rfl ?_
    obtain ⟨v2, e_v2, h⟩ := x_bnd h
    refine x_getA hz dX12_meets_60 fs_X12_87 e_v2 ?_
    refine x_ldc (v := (59049 : Int32)) hz dX12_meets_63 wc_X12_82 ?_
    refine x_aload_n hz dX12_meets_65 rfl ?_
    obtain ⟨v3, e_v3, h⟩ := x_bnd h
    refine x_getA hz dX12_meets_66 fs_X12_115 e_v3 ?_
    refine x_iload_n hz dX12_meets_69 rfl ?_
    obtain ⟨v4, e_v4, h⟩ := x_bnd h
    refine x_iald hz dX12_meets_70 e_v4 ?_
    refine x_imul hz dX12_meets_71 ?_
    refine x_iload_n hz dX12_meets_72 rfl ?_
    refine x_iadd hz dX12_meets_73 ?_
    obtain ⟨v5, e_v5, h⟩ := x_bnd h
    refine x_bald hz dX12_meets_74 e_v5 ?_
    refine x_iadd hz dX12_meets_75 ?_
    refine x_istore_n (pl' := [xA x0, xI x1, xI (((5 : Int32) * x2) + v5), xI x3]) hz dX12_meets_76 (by decide) rfl ?_
    refine x_iinc (w := (x3 + (-1))) (pl' := [xA x0, xI x1, xI (((5 : Int32) * x2) + v5), xI (x3 + (-1))]) hz dX12_meets_77 rfl rfl (by decide) rfl ?_
    refine x_goto (t := 52) hz dX12_meets_80 (by decide) ?_
    exact x_wk (xwk_c (xwk_c (xwk_c (xwk_c xwk_0)))) (hk52 x0 x1 (((5 : Int32) * x2) + v5) (x3 + (-1)) H h)
noncomputable def F_X12_meets_L52 (N : Nat) (k83 : (Option Nat) → Int32 → Int32 → xH → Option xH) : Nat → (Option Nat) → Int32 → Int32 → Int32 → xH → Option xH
  | 0 => fun _ _ _ _ _ => none
  | n + 1 => F_X12_meets_J52 N (F_X12_meets_L52 N k83 n) k83
theorem P_X12_meets_L52 {N : Nat} {Z : xZ} {Hf : xH} (hZ : Z = xZm cX12_meets yX12_meets 4 3 none none Hf) {k83 : (Option Nat) → Int32 → Int32 → xH → Option xH} (hk83 : ∀ (x0 : (Option Nat)) (x1 : Int32) (x2 : Int32) (H : xH), k83 x0 x1 x2 H = some Hf → xWq Z H 83 [xA x0, xI x1, xI x2, xN] []) : ∀ (n : Nat) (x0 : (Option Nat)) (x1 : Int32) (x2 : Int32) (x3 : Int32) (H : xH), F_X12_meets_L52 N k83 n x0 x1 x2 x3 H = some Hf → xWq Z H 52 [xA x0, xI x1, xI x2, xI x3] [] := by
  intro n
  induction n with
  | zero => intro _ _ _ _ _ h; cases h
  | succ n ih => exact P_X12_meets_J52 hZ ih hk83
noncomputable def F_X12_meets_J90 (N : Nat) (k24 : (Option Nat) → Int32 → xH → Option xH) (x0 : (Option Nat)) (x1 : Int32) (H : xH) : Option xH :=
  k24 x0 (x1 + 1) H
set_option maxRecDepth 20000 in
set_option maxHeartbeats 4000000 in
theorem P_X12_meets_J90 {N : Nat} {Z : xZ} {Hf : xH} (hZ : Z = xZm cX12_meets yX12_meets 4 3 none none Hf) {k24 : (Option Nat) → Int32 → xH → Option xH} (hk24 : ∀ (x0 : (Option Nat)) (x1 : Int32) (H : xH), k24 x0 x1 H = some Hf → xWq Z H 24 [xA x0, xI x1, xN, xN] []) : ∀ (x0 : (Option Nat)) (x1 : Int32) (H : xH), F_X12_meets_J90 N k24 x0 x1 H = some Hf → xWq Z H 90 [xA x0, xI x1, xN, xN] [] := by
  have hz : Z.1 = (cX12_meets, yX12_meets, 4) := by rw [hZ]; rfl
  have hδ : Z.2.1 = 3 := by rw [hZ]; rfl
  intro x0 x1 H h
  unfold F_X12_meets_J90 at h
  refine x_iinc (w := (x1 + 1)) (pl' := [xA x0, xI (x1 + 1), xN, xN]) hz dX12_meets_90 rfl rfl (by decide) rfl ?_
  refine x_goto (t := 24) hz dX12_meets_93 (by decide) ?_
  exact x_wk (xwk_c (xwk_c (xwk_n (xwk_n xwk_0)))) (hk24 x0 (x1 + 1) H h)
noncomputable def F_X12_meets_J83 (N : Nat) (k24 : (Option Nat) → Int32 → xH → Option xH) (x0 : (Option Nat)) (x1 : Int32) (x2 : Int32) (H : xH) : Option xH :=
  (xgA H x0 11 56).bind fun v1 =>
  (xsI .boolean H v1 x2 (1 : Int32)).bind fun H2 =>
  (F_X12_meets_J90 N k24) x0 x1 H2
set_option maxRecDepth 20000 in
set_option maxHeartbeats 4000000 in
theorem P_X12_meets_J83 {N : Nat} {Z : xZ} {Hf : xH} (hZ : Z = xZm cX12_meets yX12_meets 4 3 none none Hf) {k24 : (Option Nat) → Int32 → xH → Option xH} (hk24 : ∀ (x0 : (Option Nat)) (x1 : Int32) (H : xH), k24 x0 x1 H = some Hf → xWq Z H 24 [xA x0, xI x1, xN, xN] []) : ∀ (x0 : (Option Nat)) (x1 : Int32) (x2 : Int32) (H : xH), F_X12_meets_J83 N k24 x0 x1 x2 H = some Hf → xWq Z H 83 [xA x0, xI x1, xI x2, xN] [] := by
  have hz : Z.1 = (cX12_meets, yX12_meets, 4) := by rw [hZ]; rfl
  have hδ : Z.2.1 = 3 := by rw [hZ]; rfl
  intro x0 x1 x2 H h
  unfold F_X12_meets_J83 at h
  refine x_aload_n hz dX12_meets_83 rfl ?_
  obtain ⟨v1, e_v1, h⟩ := x_bnd h
  refine x_getA hz dX12_meets_84 fs_X12_112 e_v1 ?_
  refine x_iload_n hz dX12_meets_87 rfl ?_
  refine x_iconst (v := (1 : Int32)) hz dX12_meets_88 (by decide) ?_
  obtain ⟨H2, e_H2, h⟩ := x_bnd h
  refine x_zast hz dX12_meets_89 e_H2 ?_
  exact x_wk (xwk_c (xwk_c (xwk_n (xwk_n xwk_0)))) ((P_X12_meets_J90 hZ hk24) x0 x1 H2 h)
noncomputable def F_X12_meets_J24 (N : Nat) (k24 : (Option Nat) → Int32 → xH → Option xH) (x0 : (Option Nat)) (x1 : Int32) (H : xH) : Option xH :=
  (xgI H x0 11 41).bind fun v1 =>
  if v1 ≤ x1 then (some H) else ((xob H x0 11).bind fun b4 =>
  x_bd2 (F_X12_isLeft N x0 x1 H) fun v5 H3 =>
  if v5 = 0 then ((F_X12_meets_J90 N k24) x0 x1 H3) else ((xgI H3 x0 11 58).bind fun v7 =>
  (F_X12_meets_L52 N (F_X12_meets_J83 N k24) N) x0 x1 (0 : Int32) (v7 - (1 : Int32)) H3))
set_option maxRecDepth 20000 in
set_option maxHeartbeats 4000000 in
theorem P_X12_meets_J24 {N : Nat} {Z : xZ} {Hf : xH} (hZ : Z = xZm cX12_meets yX12_meets 4 3 none none Hf) {k24 : (Option Nat) → Int32 → xH → Option xH} (hk24 : ∀ (x0 : (Option Nat)) (x1 : Int32) (H : xH), k24 x0 x1 H = some Hf → xWq Z H 24 [xA x0, xI x1, xN, xN] []) : ∀ (x0 : (Option Nat)) (x1 : Int32) (H : xH), F_X12_meets_J24 N k24 x0 x1 H = some Hf → xWq Z H 24 [xA x0, xI x1, xN, xN] [] := by
  have hz : Z.1 = (cX12_meets, yX12_meets, 4) := by rw [hZ]; rfl
  have hδ : Z.2.1 = 3 := by rw [hZ]; rfl
  intro x0 x1 H h
  unfold F_X12_meets_J24 at h
  refine x_iload_n hz dX12_meets_24 rfl ?_
  refine x_aload_n hz dX12_meets_25 rfl ?_
  obtain ⟨v1, e_v1, h⟩ := x_bnd h
  refine x_getI hz dX12_meets_26 fs_X12_329 e_v1 ?_
  refine x_icmp_ge (t := 96) hz dX12_meets_29 (by decide) (fun c2 => ?_) (fun c2 => ?_)
  · replace h := x_ip c2 h
    cases h
    exact x_vret hZ dX12_meets_96
  · replace h := x_in c2 h
    refine x_aload_n hz dX12_meets_32 rfl ?_
    refine x_iload_n hz dX12_meets_33 rfl ?_
    obtain ⟨b4, e_b4, h⟩ := x_bnd h
    obtain ⟨v5, H3, e_H3, h⟩ := x_b2 h
    refine x_callVi (as := [.inl x1]) (st := []) cs_X12_348 (ci := 11) ⟨rfl, rfl⟩ rfl rfl hz (by omega) (by decide) dX12_meets_34 e_b4 (M_X12_isLeft e_H3) ?_
    refine x_if_ne (t := 43) hz dX12_meets_37 (by decide) (fun c6 => ?_) (fun c6 => ?_)
    · replace h := x_in c6 h
      refine x_iconst (v := (0 : Int32)) hz dX12_meets_43 (by decide) ?_
      refine x_istore_n (pl' := [xA x0, xI x1, xI (0 : Int32), xN]) hz dX12_meets_44 (by decide) rfl ?_
      refine x_aload_n hz dX12_meets_45 rfl ?_
      obtain ⟨v7, e_v7, h⟩ := x_bnd h
      refine x_getI hz dX12_meets_46 fs_X12_407 e_v7 ?_
      refine x_iconst (v := (1 : Int32)) hz dX12_meets_49 (by decide) ?_
      refine x_isub hz dX12_meets_50 ?_
      refine x_istore_n (pl' := [xA x0, xI x1, xI (0 : Int32), xI (v7 - (1 : Int32))]) hz dX12_meets_51 (by decide) rfl ?_
      exact x_wk (xwk_c (xwk_c (xwk_c (xwk_c xwk_0)))) ((P_X12_meets_L52 hZ (P_X12_meets_J83 hZ hk24) N) x0 x1 (0 : Int32) (v7 - (1 : Int32)) H3 h)
    · replace h := x_ip c6 h
      refine x_goto (t := 90) hz dX12_meets_40 (by decide) ?_
      exact x_wk (xwk_c (xwk_c (xwk_n (xwk_n xwk_0)))) ((P_X12_meets_J90 hZ hk24) x0 x1 H3 h)
noncomputable def F_X12_meets_L24 (N : Nat) : Nat → (Option Nat) → Int32 → xH → Option xH
  | 0 => fun _ _ _ => none
  | n + 1 => F_X12_meets_J24 N (F_X12_meets_L24 N n)
theorem P_X12_meets_L24 {N : Nat} {Z : xZ} {Hf : xH} (hZ : Z = xZm cX12_meets yX12_meets 4 3 none none Hf) : ∀ (n : Nat) (x0 : (Option Nat)) (x1 : Int32) (H : xH), F_X12_meets_L24 N n x0 x1 H = some Hf → xWq Z H 24 [xA x0, xI x1, xN, xN] [] := by
  intro n
  induction n with
  | zero => intro _ _ _ h; cases h
  | succ n ih => exact P_X12_meets_J24 hZ ih
noncomputable def F_X12_meets_J22 (N : Nat) (x0 : (Option Nat)) (H : xH) : Option xH :=
  (F_X12_meets_L24 N N) x0 (0 : Int32) H
set_option maxRecDepth 20000 in
set_option maxHeartbeats 4000000 in
theorem P_X12_meets_J22 {N : Nat} {Z : xZ} {Hf : xH} (hZ : Z = xZm cX12_meets yX12_meets 4 3 none none Hf) : ∀ (x0 : (Option Nat)) (H : xH), F_X12_meets_J22 N x0 H = some Hf → xWq Z H 22 [xA x0, xN, xN, xN] [] := by
  have hz : Z.1 = (cX12_meets, yX12_meets, 4) := by rw [hZ]; rfl
  have hδ : Z.2.1 = 3 := by rw [hZ]; rfl
  intro x0 H h
  unfold F_X12_meets_J22 at h
  refine x_iconst (v := (0 : Int32)) hz dX12_meets_22 (by decide) ?_
  refine x_istore_n (pl' := [xA x0, xI (0 : Int32), xN, xN]) hz dX12_meets_23 (by decide) rfl ?_
  exact x_wk (xwk_c (xwk_c (xwk_n (xwk_n xwk_0)))) ((P_X12_meets_L24 hZ N) x0 (0 : Int32) H h)
noncomputable def F_X12_meets (N : Nat) (a0 : (Option Nat)) (H : xH) : Option xH :=
  (F_X12_meets_L2 N (F_X12_meets_J22 N) N) a0 (0 : Int32) H
set_option maxRecDepth 20000 in
set_option maxHeartbeats 4000000 in
theorem P_X12_meets {N : Nat} {Z : xZ} {Hf : xH} (hZ : Z = xZm cX12_meets yX12_meets 4 3 none none Hf) : ∀ (a0 : (Option Nat)) (H : xH), F_X12_meets N a0 H = some Hf → xWq Z H 0 [xA a0, xN, xN, xN] [] := by
  have hz : Z.1 = (cX12_meets, yX12_meets, 4) := by rw [hZ]; rfl
  have hδ : Z.2.1 = 3 := by rw [hZ]; rfl
  intro a0 H h
  unfold F_X12_meets at h
  refine x_iconst (v := (0 : Int32)) hz dX12_meets_0 (by decide) ?_
  refine x_istore_n (pl' := [xA a0, xI (0 : Int32), xN, xN]) hz dX12_meets_1 (by decide) rfl ?_
  exact x_wk (xwk_c (xwk_c (xwk_n (xwk_n xwk_0)))) ((P_X12_meets_L2 hZ (P_X12_meets_J22 hZ) N) a0 (0 : Int32) H h)
theorem M_X12_meets {N : Nat} {a0 : (Option Nat)} {H H1 : xH} (h : F_X12_meets N a0 H = some H1) : xM yX12_meets cX12_meets 4 none 3 [.inr (.inr a0)] H none H1 :=
  xM_of (by decide +kernel) (xT_tb 1496 (by decide +kernel) (by decide +kernel)) (by simp [xargs, x2]) rfl (P_X12_meets rfl a0 H h)
