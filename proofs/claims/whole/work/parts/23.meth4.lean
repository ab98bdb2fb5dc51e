/-! BettingBook$Winner.choose(LBettingBook$Club;LBettingBook$RowTable;I)Z -/
noncomputable def F_X9_choose_J87 (N : Nat) (k8 : (Option Nat) → (Option Nat) → (Option Nat) → Int32 → Int32 → xH → Option (Int32 × xH)) (x0 : (Option Nat)) (x1 : (Option Nat)) (x2 : (Option Nat)) (x3 : Int32) (x4 : Int32) (H : xH) : Option (Int32 × xH) :=
  k8 x0 x1 x2 x3 (x4 + 1) H
set_option maxRecDepth 20000 in
set_option maxHeartbeats 4000000 in
theorem P_X9_choose_J87 {N : Nat} {Z : xZ} {rv : Int32} {Hf : xH} (hZ : Z = xZm cX9_choose yX9_choose 5 5 (some .boolean) (some (.int rv)) Hf) {k8 : (Option Nat) → (Option Nat) → (Option Nat) → Int32 → Int32 → xH → Option (Int32 × xH)} (hk8 : ∀ (x0 : (Option Nat)) (x1 : (Option Nat)) (x2 : (Option Nat)) (x3 : Int32) (x4 : Int32) (H : xH), k8 x0 x1 x2 x3 x4 H = some (rv, Hf) → xWq Z H 8 [xA x0, xA x1, xA x2, xI x3, xI x4] []) : ∀ (x0 : (Option Nat)) (x1 : (Option Nat)) (x2 : (Option Nat)) (x3 : Int32) (x4 : Int32) (H : xH), F_X9_choose_J87 N k8 x0 x1 x2 x3 x4 H = some (rv, Hf) → xWq Z H 87 [xA x0, xA x1, xA x2, xI x3, xI x4] [] := by
  have hz : Z.1 = (cX9_choose, yX9_choose, 5) := by rw [hZ]; rfl
  have hδ : Z.2.1 = 5 := by rw [hZ]; rfl
  intro x0 x1 x2 x3 x4 H h
  unfold F_X9_choose_J87 at h
  refine x_iinc (w := (x4 + 1)) (pl' := [xA x0, xA x1, xA x2, xI x3, xI (x4 + 1)]) hz dX9_choose_87 rfl rfl (by decide) rfl ?_
  refine x_goto (t := 8) hz dX9_choose_90 (by decide) ?_
  exact x_wk (xwk_c (xwk_c (xwk_c (xwk_c (xwk_c xwk_0))))) (hk8 x0 x1 x2 x3 (x4 + 1) H h)
noncomputable def F_X9_choose_J8 (N : Nat) (k8 : (Option Nat) → (Option Nat) → (Option Nat) → Int32 → Int32 → xH → Option (Int32 × xH)) (k93 : (Option Nat) → (Option Nat) → xH → Option (Int32 × xH)) (x0 : (Option Nat)) (x1 : (Option Nat)) (x2 : (Option Nat)) (x3 : Int32) (x4 : Int32) (H : xH) : Option (Int32 × xH) :=
  (xgI H x1 2 2).bind fun v1 =>
  if v1 ≤ x4 then (k93 x0 x2 H) else (if ((x3 >>> (x4 &&& 31)) &&& (1 : Int32)) = 0 then ((F_X9_choose_J87 N k8) x0 x1 x2 x3 x4 H) else ((xob H x2 6).bind fun b5 =>
  x_bd2 (F_X6_isSure N x2 x4 H) fun v6 H4 =>
  if v6 = 0 then ((xgI H4 x0 9 2).bind fun v8 =>
  (xgA H4 x0 9 0).bind fun v9 =>
  (xal (.object "BettingBook$Bet") H4 v9).bind fun v10 =>
  if v8 < v10 then ((xgA H4 x0 9 0).bind fun v12 =>
  (xgI H4 x0 9 2).bind fun v13 =>
  (xob H4 x1 2).bind fun b15 =>
  x_bd2 (F_X2_betAt N x1 x4 H4) fun v16 H14 =>
  (xsA (.object "BettingBook$Bet") 0 H14 v12 v13 v16).bind fun H17 =>
  (xgA H17 x0 9 1).bind fun v18 =>
  (xgI H17 x0 9 2).bind fun v19 =>
  (F_X11_set N v18 v19 x4 H17).bind fun H20 =>
  (xgI H20 x0 9 2).bind fun v21 =>
  (xpI H20 x0 9 2 (v21 + (1 : Int32))).bind fun H22 =>
  (F_X9_choose_J87 N k8) x0 x1 x2 x3 x4 H22) else (some ((0 : Int32), H4))) else ((F_X9_choose_J87 N k8) x0 x1 x2 x3 x4 H4)))
set_option maxRecDepth 20000 in
set_option maxHeartbeats 4000000 in
theorem P_X9_choose_J8 {N : Nat} {Z : xZ} {rv : Int32} {Hf : xH} (hZ : Z = xZm cX9_choose yX9_choose 5 5 (some .boolean) (some (.int rv)) Hf) {k8 : (Option Nat) → (Option Nat) → (Option Nat) → Int32 → Int32 → xH → Option (Int32 × xH)} (hk8 : ∀ (x0 : (Option Nat)) (x1 : (Option Nat)) (x2 : (Option Nat)) (x3 : Int32) (x4 : Int32) (H : xH), k8 x0 x1 x2 x3 x4 H = some (rv, Hf) → xWq Z H 8 [xA x0, xA x1, xA x2, xI x3, xI x4] []) {k93 : (Option Nat) → (Option Nat) → xH → Option (Int32 × xH)} (hk93 : ∀ (x0 : (Option Nat)) (x2 : (Option Nat)) (H : xH), k93 x0 x2 H = some (rv, Hf) → xWq Z H 93 [xA x0, xN, xA x2, xN, xN] []) : ∀ (x0 : (Option Nat)) (x1 : (Option Nat)) (x2 : (Option Nat)) (x3 : Int32) (x4 : Int32) (H : xH), F_X9_choose_J8 N k8 k93 x0 x1 x2 x3 x4 H = some (rv, Hf) → xWq Z H 8 [xA x0, xA x1, xA x2, xI x3, xI x4] [] := by
  have hz : Z.1 = (cX9_choose, yX9_choose, 5) := by rw [hZ]; rfl
  have hδ : Z.2.1 = 5 := by rw [hZ]; rfl
  intro x0 x1 x2 x3 x4 H h
  unfold F_X9_choose_J8 at h
  refine x_iload hz dX9_choose_8 rfl ?_
  refine x_aload_n hz dX9_choose_10 rfl ?_
  obtain ⟨v1, e_v1, h⟩ := x_bnd h
  refine x_getI hz dX9_choose_11 fs_X9_29 e_v1 ?_
  refine x_icmp_ge (t := 93) hz dX9_choose_14 (by decide) (fun c2 => ?_) (fun c2 => ?_)
  · replace h := x_ip c2 h
    exact x_wk (xwk_c (xwk_n (xwk_c (xwk_n (xwk_n xwk_0))))) (hk93 x0 x2 H h)
  · replace h := x_in c2 h
    refine x_iload_n hz dX9_choose_17 rfl ?_
    refine x_iload hz dX9_choose_18 rfl ?_
    refine x_ishr hz dX9_choose_20 ?_
    refine x_iconst (v := (1 : Int32)) hz dX9_choose_21 (by decide) ?_
    refine x_iand hz dX9_choose_22 ?_
    refine x_if_eq (t := 87) hz dX9_choose_23 (by decide) (fun c3 => ?_) (fun c3 => ?_)
    · replace h := x_ip c3 h
      exact x_wk (xwk_c (xwk_c (xwk_c (xwk_c (xwk_c xwk_0))))) ((P_X9_choose_J87 hZ hk8) x0 x1 x2 x3 x4 H h)
    · replace h := x_in c3 h
      refine x_aload_n hz dX9_choose_26 rfl ?_
      refine x_iload hz dX9_choose_27 rfl ?_
      obtain ⟨b5, e_b5, h⟩ := x_bnd h
      obtain ⟨v6, H4, e_H4, h⟩ := x_b2 h
      refine x_callVi (as := [.inl x4]) (st := []) cs_X9_34 (ci := 6) ⟨rfl, rfl⟩ rfl rfl hz (by omega) (by decide) dX9_choose_29 e_b5 (M_X6_isSure e_H4) ?_
      refine x_if_ne (t := 87) hz dX9_choose_32 (by decide) (fun c7 => ?_) (fun c7 => ?_)
      · replace h := x_in c7 h
        exact x_wk (xwk_c (xwk_c (xwk_c (xwk_c (xwk_c xwk_0))))) ((P_X9_choose_J87 hZ hk8) x0 x1 x2 x3 x4 H4 h)
      · replace h := x_ip c7 h
        refine x_aload_n hz dX9_choose_35 rfl ?_
        obtain ⟨v8, e_v8, h⟩ := x_bnd h
        refine x_getI hz dX9_choose_36 fs_X9_25 e_v8 ?_
        refine x_aload_n hz dX9_choose_39 rfl ?_
        obtain ⟨v9, e_v9, h⟩ := x_bnd h
        refine x_getA hz dX9_choose_40 fs_X9_11 e_v9 ?_
        obtain ⟨v10, e_v10, h⟩ := x_bnd h
        refine x_alen (t0 := 4) (fun _ => rfl) hz dX9_choose_43 e_v10 ?_
        refine x_icmp_lt (t := 49) hz dX9_choose_44 (by decide) (fun c11 => ?_) (fun c11 => ?_)
        · replace h := x_ip c11 h
          refine x_aload_n hz dX9_choose_49 rfl ?_
          obtain ⟨v12, e_v12, h⟩ := x_bnd h
          refine x_getA hz dX9_choose_50 fs_X9_11 e_v12 ?_
          refine x_aload_n hz dX9_choose_53 rfl ?_
          obtain ⟨v13, e_v13, h⟩ := x_bnd h
          refine x_getI hz dX9_choose_54 fs_X9_25 e_v13 ?_
          refine x_aload_n hz dX9_choose_57 rfl ?_
          refine x_iload hz dX9_choose_58 rfl ?_
          obtain ⟨b15, e_b15, h⟩ := x_bnd h
          obtain ⟨v16, H14, e_H14, h⟩ := x_b2 h
          refine x_callVa (as := [.inl x4]) (st := [.int v13, va_rf v12]) cs_X9_40 (ci := 2) ⟨rfl, rfl⟩ rfl rfl hz (by omega) (Nat.le_trans (x_sm1 rfl (x_sm1 (x_rfc _) x_sm0)) (by decide)) dX9_choose_60 e_b15 (M_X2_betAt e_H14) ?_
          obtain ⟨H17, e_H17, h⟩ := x_bnd h
          refine x_aast xTq_Bet (ci := 0) rfl rfl hz dX9_choose_63 e_H17 ?_
          refine x_aload_n hz dX9_choose_64 rfl ?_
          obtain ⟨v18, e_v18, h⟩ := x_bnd h
          refine x_getA hz dX9_choose_65 fs_X9_17 e_v18 ?_
          refine x_aload_n hz dX9_choose_68 rfl ?_
          obtain ⟨v19, e_v19, h⟩ := x_bnd h
          refine x_getI hz dX9_choose_69 fs_X9_25 e_v19 ?_
          refine x_iload hz dX9_choose_72 rfl ?_
          obtain ⟨H20, e_H20, h⟩ := x_bnd h
          refine x_callSv (as := [.inr (.inr v18), .inl v19, .inl x4]) (st := []) cs_X9_44 rfl rfl hz (by omega) (by decide) dX9_choose_74 (M_X11_set e_H20) ?_
          refine x_aload_n hz dX9_choose_77 rfl ?_
          refine x_dup hz dX9_choose_78 (x_rfc _) ?_
          obtain ⟨v21, e_v21, h⟩ := x_bnd h
          refine x_getI hz dX9_choose_79 fs_X9_25 e_v21 ?_
          refine x_iconst (v := (1 : Int32)) hz dX9_choose_82 (by decide) ?_
          refine x_iadd hz dX9_choose_83 ?_
          obtain ⟨H22, e_H22, h⟩ := x_bnd h
          refine x_putV (v := .int (v21 + (1 : Int32))) hz dX9_choose_84 fs_X9_25 rfl rfl e_H22 ?_
          exact x_wk (xwk_c (xwk_c (xwk_c (xwk_c (xwk_c xwk_0))))) ((P_X9_choose_J87 hZ hk8) x0 x1 x2 x3 x4 H22 h)
        · replace h := x_in c11 h
          refine x_iconst (v := (0 : Int32)) hz dX9_choose_47 (by decide) ?_
          cases h
          exact x_zret01 hZ (Or.inl rfl) dX9_choose_48
noncomputable def F_X9_choose_L8 (N : Nat) (k93 : (Option Nat) → (Option Nat) → xH → Option (Int32 × xH)) : Nat → (Option Nat) → (Option Nat) → (Option Nat) → Int32 → Int32 → xH → Option (Int32 × xH)
  | 0 => fun _ _ _ _ _ _ => none
  | n + 1 => F_X9_choose_J8 N (F_X9_choose_L8 N k93 n) k93
theorem P_X9_choose_L8 {N : Nat} {Z : xZ} {rv : Int32} {Hf : xH} (hZ : Z = xZm cX9_choose yX9_choose 5 5 (some .boolean) (some (.int rv)) Hf) {k93 : (Option Nat) → (Option Nat) → xH → Option (Int32 × xH)} (hk93 : ∀ (x0 : (Option Nat)) (x2 : (Option Nat)) (H : xH), k93 x0 x2 H = some (rv, Hf) → xWq Z H 93 [xA x0, xN, xA x2, xN, xN] []) : ∀ (n : Nat) (x0 : (Option Nat)) (x1 : (Option Nat)) (x2 : (Option Nat)) (x3 : Int32) (x4 : Int32) (H : xH), F_X9_choose_L8 N k93 n x0 x1 x2 x3 x4 H = some (rv, Hf) → xWq Z H 8 [xA x0, xA x1, xA x2, xI x3, xI x4] [] := by
  intro n
  induction n with
  | zero => intro _ _ _ _ _ _ h; cases h
  | succ n ih => exact P_X9_choose_J8 hZ ih hk93
noncomputable def F_X9_choose_J105 (N : Nat) (x0 : (Option Nat)) (H : xH) : Option (Int32 × xH) :=
  (xgI H x0 9 2).bind fun v1 =>
  if v1 ≤ 0 then (some ((0 : Int32), H)) else (some ((1 : Int32), H))
set_option maxRecDepth 20000 in
set_option maxHeartbeats 4000000 in
theorem P_X9_choose_J105 {N : Nat} {Z : xZ} {rv : Int32} {Hf : xH} (hZ : Z = xZm cX9_choose yX9_choose 5 5 (some .boolean) (some (.int rv)) Hf) : ∀ (x0 : (Option Nat)) (H : xH), F_X9_choose_J105 N x0 H = some (rv, Hf) → xWq Z H 105 [xA x0, xN, xN, xN, xN] [] := by
  have hz : Z.1 = (cX9_choose, yX9_choose, 5) := by rw [hZ]; rfl
  have hδ : Z.2.1 = 5 := by rw [hZ]; rfl
  intro x0 H h
  unfold F_X9_choose_J105 at h
  refine x_aload_n hz dX9_choose_105 rfl ?_
  obtain ⟨v1, e_v1, h⟩ := x_bnd h
  refine x_getI hz dX9_choose_106 fs_X9_25 e_v1 ?_
  refine x_if_le (t := 116) hz dX9_choose_109 (by decide) (fun c2 => ?_) (fun c2 => ?_)
  · replace h := x_ip c2 h
    refine x_iconst (v := (0 : Int32)) hz dX9_choose_116 (by decide) ?_
    cases h
    exact x_zret01 hZ (Or.inl rfl) dX9_choose_117
  · replace h := x_in c2 h
    refine x_iconst (v := (1 : Int32)) hz dX9_choose_112 (by decide) ?_
    refine x_goto (t := 117) hz dX9_choose_113 (by decide) ?_
    cases h
    exact x_zret01 hZ (Or.inr rfl) dX9_choose_117
noncomputable def F_X9_choose_J93 (N : Nat) (x0 : (Option Nat)) (x2 : (Option Nat)) (H : xH) : Option (Int32 × xH) :=
  (xgI H x0 9 2).bind fun v1 =>
  if v1 ≤ 0 then ((F_X9_choose_J105 N) x0 H) else ((xob H x0 9).bind fun b4 =>
  (F_X9_combine N x0 x2 H).bind fun H3 =>
  (F_X9_choose_J105 N) x0 H3)
set_option maxRecDepth 20000 in
set_option maxHeartbeats 4000000 in
theorem P_X9_choose_J93 {N : Nat} {Z : xZ} {rv : Int32} {Hf : xH} (hZ : Z = xZm cX9_choose yX9_choose 5 5 (some .boolean) (some (.int rv)) Hf) : ∀ (x0 : (Option Nat)) (x2 : (Option Nat)) (H : xH), F_X9_choose_J93 N x0 x2 H = some (rv, Hf) → xWq Z H 93 [xA x0, xN, xA x2, xN, xN] [] := by
  have hz : Z.1 = (cX9_choose, yX9_choose, 5) := by rw [hZ]; rfl
  have hδ : Z.2.1 = 5 := by rw [hZ]; rfl
  intro x0 x2 H h
  unfold F_X9_choose_J93 at h
  refine x_aload_n hz dX9_choose_93 rfl ?_
  obtain ⟨v1, e_v1, h⟩ := x_bnd h
  refine x_getI hz dX9_choose_94 fs_X9_25 e_v1 ?_
  refine x_if_le (t := 105) hz dX9_choose_97 (by decide) (fun c2 => ?_) (fun c2 => ?_)
  · replace h := x_ip c2 h
    exact x_wk (xwk_c (xwk_n (xwk_n (xwk_n (xwk_n xwk_0))))) ((P_X9_choose_J105 hZ) x0 H h)
  · replace h := x_in c2 h
    refine x_aload_n hz dX9_choose_100 rfl ?_
    refine x_aload_n hz dX9_choose_101 rfl ?_
    obtain ⟨b4, e_b4, h⟩ := x_bnd h
    obtain ⟨H3, e_H3, h⟩ := x_bnd h
    refine x_callVv (as := [.inr (.inr x2)]) (st := []) cs_X9_48 (ci := 9) ⟨rfl, rfl⟩ rfl rfl hz (by omega) (by decide) dX9_choose_102 e_b4 (M_X9_combine e_H3) ?_
    exact x_wk (xwk_c (xwk_n (xwk_n (xwk_n (xwk_n xwk_0))))) ((P_X9_choose_J105 hZ) x0 H3 h)
noncomputable def F_X9_choose (N : Nat) (a0 : (Option Nat)) (a1 : (Option Nat)) (a2 : (Option Nat)) (a3 : Int32) (H : xH) : Option (Int32 × xH) :=
  (xpI H a0 9 2 (0 : Int32)).bind fun H1 =>
  (F_X9_choose_L8 N (F_X9_choose_J93 N) N) a0 a1 a2 a3 (0 : Int32) H1
set_option maxRecDepth 20000 in
set_option maxHeartbeats 4000000 in
theorem P_X9_choose {N : Nat} {Z : xZ} {rv : Int32} {Hf : xH} (hZ : Z = xZm cX9_choose yX9_choose 5 5 (some .boolean) (some (.int rv)) Hf) : ∀ (a0 : (Option Nat)) (a1 : (Option Nat)) (a2 : (Option Nat)) (a3 : Int32) (H : xH), F_X9_choose N a0 a1 a2 a3 H = some (rv, Hf) → xWq Z H 0 [xA a0, xA a1, xA a2, xI a3, xN] [] := by
  have hz : Z.1 = (cX9_choose, yX9_choose, 5) := by rw [hZ]; rfl
  have hδ : Z.2.1 = 5 := by rw [hZ]; rfl
  intro a0 a1 a2 a3 H h
  unfold F_X9_choose at h
  refine x_aload_n hz dX9_choose_0 rfl ?_
  refine x_iconst (v := (0 : Int32)) hz dX9_choose_1 (by decide) ?_
  obtain ⟨H1, e_H1, h⟩ := x_bnd h
  refine x_putV (v := .int (0 : Int32)) hz dX9_choose_2 fs_X9_25 rfl rfl e_H1 ?_
  refine x_iconst (v := (0 : Int32)) hz dX9_choose_5 (by decide) ?_
  refine x_istore (pl' := [xA a0, xA a1, xA a2, xI a3, xI (0 : Int32)]) hz dX9_choose_6 (by decide) rfl ?_
  exact x_wk (xwk_c (xwk_c (xwk_c (xwk_c (xwk_c xwk_0))))) ((P_X9_choose_L8 hZ (P_X9_choose_J93 hZ) N) a0 a1 a2 a3 (0 : Int32) H1 h)
theorem M_X9_choose {N : Nat} {a0 : (Option Nat)} {a1 : (Option Nat)} {a2 : (Option Nat)} {a3 : Int32} {H H1 : xH} {r1 : Int32} (h : F_X9_choose N a0 a1 a2 a3 H = some (r1, H1)) : xM yX9_choose cX9_choose 5 (some .boolean) 5 [.inr (.inr a0), .inr (.inr a1), .inr (.inr a2), .inl a3] H (some (.int r1)) H1 :=
  xM_of (by decide +kernel) (xT_tb 875 (by decide +kernel) (by decide +kernel)) (by simp [xargs, x2]) rfl (P_X9_choose rfl a0 a1 a2 a3 H h)
/-! BettingBook$Winner.takeSides(ILBettingBook$Gains;)I -/
noncomputable def F_X9_takeSides_J85 (N : Nat) (k12 : (Option Nat) → (Option Nat) → Int32 → Int32 → Int32 → xH → Option (Int32 × xH)) (x0 : (Option Nat)) (x2 : (Option Nat)) (x3 : Int32) (x4 : Int32) (x5 : Int32) (H : xH) : Option (Int32 × xH) :=
  k12 x0 x2 x3 (x4 / (3 : Int32)) (x5 + 1) H
set_option maxRecDepth 20000 in
set_option maxHeartbeats 4000000 in
theorem P_X9_takeSides_J85 {N : Nat} {Z : xZ} {rv : Int32} {Hf : xH} (hZ : Z = xZm cX9_takeSides yX9_takeSides 8 3 (some .int) (some (.int rv)) Hf) {k12 : (Option Nat) → (Option Nat) → Int32 → Int32 → Int32 → xH → Option (Int32 × xH)} (hk12 : ∀ (x0 : (Option Nat)) (x2 : (Option Nat)) (x3 : Int32) (x4 : Int32) (x5 : Int32) (H : xH), k12 x0 x2 x3 x4 x5 H = some (rv, Hf) → xWq Z H 12 [xA x0, xN, xA x2, xI x3, xI x4, xI x5, xN, xN] []) : ∀ (x0 : (Option Nat)) (x2 : (Option Nat)) (x3 : Int32) (x4 : Int32) (x5 : Int32) (H : xH), F_X9_takeSides_J85 N k12 x0 x2 x3 x4 x5 H = some (rv, Hf) → xWq Z H 85 [xA x0, xN, xA x2, xI x3, xI x4, xI x5, xN, xN] [] := by
  have hz : Z.1 = (cX9_takeSides, yX9_takeSides, 8) := by rw [hZ]; rfl
  have hδ : Z.2.1 = 3 := by rw [hZ]; rfl
  intro x0 x2 x3 x4 x5 H h
  unfold F_X9_takeSides_J85 at h
  refine x_iload hz dX9_takeSides_85 rfl ?_
  refine x_iconst (v := (3 : Int32)) hz dX9_takeSides_87 (by decide) ?_
  refine x_idiv hz dX9_takeSides_88 (by decide) ?_
  refine x_istore (pl' := [xA x0, xN, xA x2, xI x3, xI (x4 / (3 : Int32)), xI x5, xN, xN]) hz dX9_takeSides_89 (by decide) rfl ?_
  refine x_iinc (w := (x5 + 1)) (pl' := [xA x0, xN, xA x2, xI x3, xI (x4 / (3 : Int32)), xI (x5 + 1), xN, xN]) hz dX9_takeSides_91 rfl rfl (by decide) rfl ?_
  refine x_goto (t := 12) hz dX9_takeSides_94 (by decide) ?_
  exact x_wk (xwk_c (xwk_n (xwk_c (xwk_c (xwk_c (xwk_c (xwk_n (xwk_n xwk_0)))))))) (hk12 x0 x2 x3 (x4 / (3 : Int32)) (x5 + 1) H h)
noncomputable def F_X9_takeSides_J12 (N : Nat) (k12 : (Option Nat) → (Option Nat) → Int32 → Int32 → Int32 → xH → Option (Int32 × xH)) (x0 : (Option Nat)) (x2 : (Option Nat)) (x3 : Int32) (x4 : Int32) (x5 : Int32) (H : xH) : Option (Int32 × xH) :=
  (xgI H x0 9 2).bind fun v1 =>
  if v1 ≤ x5 then (some (x3, H)) else ((xgA H x0 9 0).bind fun v3 =>
  (xal (.object "BettingBook$Bet") H v3).bind fun v4 =>
  if v4 ≤ x5 then (some (x3, H)) else ((xgA H x0 9 0).bind fun v6 =>
  (xlA (.object "BettingBook$Bet") H v6 x5).bind fun v7 =>
  if ((x4 - x4 / (3 : Int32) * (3 : Int32)) - (1 : Int32)) < 0 then ((F_X9_takeSides_J85 N k12) x0 x2 x3 x4 x5 H) else (if v7 = none then ((F_X9_takeSides_J85 N k12) x0 x2 x3 x4 x5 H) else ((xgA H x0 9 1).bind fun v10 =>
  x_bd2 (F_X11_at N v10 x5 H) fun v12 H11 =>
  (xob H11 x2 3).bind fun b14 =>
  (F_X3_addSide N x2 v7 v12 ((x4 - x4 / (3 : Int32) * (3 : Int32)) - (1 : Int32)) H11).bind fun H13 =>
  (xob H13 v7 0).bind fun b16 =>
  x_bd2 (F_X0_stake N v7 ((x4 - x4 / (3 : Int32) * (3 : Int32)) - (1 : Int32)) H13) fun v17 H15 =>
  (F_X9_takeSides_J85 N k12) x0 x2 (x3 + v17) x4 x5 H15))))
set_option maxRecDepth 20000 in
set_option maxHeartbeats 4000000 in
theorem P_X9_takeSides_J12 {N : Nat} {Z : xZ} {rv : Int32} {Hf : xH} (hZ : Z = xZm cX9_takeSides yX9_takeSides 8 3 (some .int) (some (.int rv)) Hf) {k12 : (Option Nat) → (Option Nat) → Int32 → Int32 → Int32 → xH → Option (Int32 × xH)} (hk12 : ∀ (x0 : (Option Nat)) (x2 : (Option Nat)) (x3 : Int32) (x4 : Int32) (x5 : Int32) (H : xH), k12 x0 x2 x3 x4 x5 H = some (rv, Hf) → xWq Z H 12 [xA x0, xN, xA x2, xI x3, xI x4, xI x5, xN, xN] []) : ∀ (x0 : (Option Nat)) (x2 : (Option Nat)) (x3 : Int32) (x4 : Int32) (x5 : Int32) (H : xH), F_X9_takeSides_J12 N k12 x0 x2 x3 x4 x5 H = some (rv, Hf) → xWq Z H 12 [xA x0, xN, xA x2, xI x3, xI x4, xI x5, xN, xN] [] := by
  have hz : Z.1 = (cX9_takeSides, yX9_takeSides, 8) := by rw [hZ]; rfl
  have hδ : Z.2.1 = 3 := by rw [hZ]; rfl
  intro x0 x2 x3 x4 x5 H h
  unfold F_X9_takeSides_J12 at h
  refine x_iload hz dX9_takeSides_12 rfl ?_
  refine x_aload_n hz dX9_takeSides_14 rfl ?_
  obtain ⟨v1, e_v1, h⟩ := x_bnd h
  refine x_getI hz dX9_takeSides_15 fs_X9_25 e_v1 ?_
  refine x_icmp_ge (t := 97) hz dX9_takeSides_18 (by decide) (fun c2 => ?_) (fun c2 => ?_)
  · replace h := x_ip c2 h
    refine x_iload_n hz dX9_takeSides_97 rfl ?_
    cases h
    exact x_iret hZ dX9_takeSides_98
  · replace h := x_in c2 h
    refine x_iload hz dX9_takeSides_21 rfl ?_
    refine x_aload_n hz dX9_takeSides_23 rfl ?_
    obtain ⟨v3, e_v3, h⟩ := x_bnd h
    refine x_getA hz dX9_takeSides_24 fs_X9_11 e_v3 ?_
    obtain ⟨v4, e_v4, h⟩ := x_bnd h
    refine x_alen (t0 := 4) (fun _ => rfl) hz dX9_takeSides_27 e_v4 ?_
    refine x_icmp_ge (t := 97) hz dX9_takeSides_28 (by decide) (fun c5 => ?_) (fun c5 => ?_)
    · replace h := x_ip c5 h
      refine x_iload_n hz dX9_takeSides_97 rfl ?_
      cases h
      exact x_iret hZ dX9_takeSides_98
    · replace h := x_in c5 h
      refine x_aload_n hz dX9_takeSides_31 rfl ?_
      obtain ⟨v6, e_v6, h⟩ := x_bnd h
      refine x_getA hz dX9_takeSides_32 fs_X9_11 e_v6 ?_
      refine x_iload hz dX9_takeSides_35 rfl ?_
      obtain ⟨v7, e_v7, h⟩ := x_bnd h
      refine x_aald xTq_Bet hz dX9_takeSides_37 e_v7 ?_
      refine x_astore (pl' := [xA x0, xN, xA x2, xI x3, xI x4, xI x5, xA v7, xN]) hz dX9_takeSides_38 (by decide) rfl ?_
      refine x_iload hz dX9_takeSides_40 rfl ?_
      refine x_iconst (v := (3 : Int32)) hz dX9_takeSides_42 (by decide) ?_
      refine x_irem hz dX9_takeSides_43 (by decide) ?_
      refine x_iconst (v := (1 : Int32)) hz dX9_takeSides_44 (by decide) ?_
      refine x_isub hz dX9_takeSides_45 ?_
      refine x_istore (pl' := [xA x0, xN, xA x2, xI x3, xI x4, xI x5, xA v7, xI ((x4 - x4 / (3 : Int32) * (3 : Int32)) - (1 : Int32))]) hz dX9_takeSides_46 (by decide) rfl ?_
      refine x_iload hz dX9_takeSides_48 rfl ?_
      refine x_if_lt (t := 85) hz dX9_takeSides_50 (by decide) (fun c8 => ?_) (fun c8 => ?_)
      · replace h := x_ip c8 h
        exact x_wk (xwk_c (xwk_n (xwk_c (xwk_c (xwk_c (xwk_c (xwk_n (xwk_n xwk_0)))))))) ((P_X9_takeSides_J85 hZ hk12) x0 x2 x3 x4 x5 H h)
      · replace h := x_in c8 h
        refine x_aload hz dX9_takeSides_53 rfl ?_
        refine x_ifnull (t := 85) hz dX9_takeSides_55 (by decide) (fun c9 => ?_) (fun c9 => ?_)
        · replace h := x_ip c9 h
          exact x_wk (xwk_c (xwk_n (xwk_c (xwk_c (xwk_c (xwk_c (xwk_n (xwk_n xwk_0)))))))) ((P_X9_takeSides_J85 hZ hk12) x0 x2 x3 x4 x5 H h)
        · replace h := x_in c9 h
          refine x_aload_n hz dX9_takeSides_58 rfl ?_
          refine x_aload hz dX9_takeSides_59 rfl ?_
          refine x_aload_n hz dX9_takeSides_61 rfl ?_
          obtain ⟨v10, e_v10, h⟩ := x_bnd h
          refine x_getA hz dX9_takeSides_62 fs_X9_17 e_v10 ?_
          refine x_iload hz dX9_takeSides_65 rfl ?_
          obtain ⟨v12, H11, e_H11, h⟩ := x_b2 h
          refine x_callSi (as := [.inr (.inr v10), .inl x5]) (st := [va_rf v7, va_rf x2]) cs_X9_92 rfl rfl hz (by omega) (Nat.le_trans (x_sm1 (x_rfc _) (x_sm1 (x_rfc _) x_sm0)) (by decide)) dX9_takeSides_67 (M_X11_at e_H11) ?_
          refine x_iload hz dX9_takeSides_70 rfl ?_
          obtain ⟨b14, e_b14, h⟩ := x_bnd h
          obtain ⟨H13, e_H13, h⟩ := x_bnd h
          refine x_callVv (as := [.inr (.inr v7), .inl v12, .inl ((x4 - x4 / (3 : Int32) * (3 : Int32)) - (1 : Int32))]) (st := []) cs_X9_107 (ci := 3) ⟨rfl, rfl⟩ rfl rfl hz (by omega) (by decide) dX9_takeSides_72 e_b14 (M_X3_addSide e_H13) ?_
          refine x_iload_n hz dX9_takeSides_75 rfl ?_
          refine x_aload hz dX9_takeSides_76 rfl ?_
          refine x_iload hz dX9_takeSides_78 rfl ?_
          obtain ⟨b16, e_b16, h⟩ := x_bnd h
          obtain ⟨v17, H15, e_H15, h⟩ := x_b2 h
          refine x_callVi (as := [.inl ((x4 - x4 / (3 : Int32) * (3 : Int32)) - (1 : Int32))]) (st := [.int x3]) cs_X9_111 (ci := 0) ⟨rfl, rfl⟩ rfl rfl hz (by omega) (Nat.le_trans (x_sm1 rfl x_sm0) (by decide)) dX9_takeSides_80 e_b16 (M_X0_stake e_H15) ?_
          refine x_iadd hz dX9_takeSides_83 ?_
          refine x_istore_n (pl' := [xA x0, xN, xA x2, xI (x3 + v17), xI x4, xI x5, xA v7, xI ((x4 - x4 / (3 : Int32) * (3 : Int32)) - (1 : Int32))]) hz dX9_takeSides_84 (by decide) rfl ?_
          exact x_wk (xwk_c (xwk_n (xwk_c (xwk_c (xwk_c (xwk_c (xwk_n (xwk_n xwk_0)))))))) ((P_X9_takeSides_J85 hZ hk12) x0 x2 (x3 + v17) x4 x5 H15 h)
noncomputable def F_X9_takeSides_L12 (N : Nat) : Nat → (Option Nat) → (Option Nat) → Int32 → Int32 → Int32 → xH → Option (Int32 × xH)
  | 0 => fun _ _ _ _ _ _ => none
  | n + 1 => F_X9_takeSides_J12 N (F_X9_takeSides_L12 N n)
theorem P_X9_takeSides_L12 {N : Nat} {Z : xZ} {rv : Int32} {Hf : xH} (hZ : Z = xZm cX9_takeSides yX9_takeSides 8 3 (some .int) (some (.int rv)) Hf) : ∀ (n : Nat) (x0 : (Option Nat)) (x2 : (Option Nat)) (x3 : Int32) (x4 : Int32) (x5 : Int32) (H : xH), F_X9_takeSides_L12 N n x0 x2 x3 x4 x5 H = some (rv, Hf) → xWq Z H 12 [xA x0, xN, xA x2, xI x3, xI x4, xI x5, xN, xN] [] := by
  intro n
  induction n with
  | zero => intro _ _ _ _ _ _ h; cases h
  | succ n ih => exact P_X9_takeSides_J12 hZ ih
noncomputable def F_X9_takeSides (N : Nat) (a0 : (Option Nat)) (a1 : Int32) (a2 : (Option Nat)) (H : xH) : Option (Int32 × xH) :=
  (xob H a2 3).bind fun b2 =>
  (F_X3_clear N a2 H).bind fun H1 =>
  (F_X9_takeSides_L12 N N) a0 a2 (0 : Int32) a1 (0 : Int32) H1
set_option maxRecDepth 20000 in
set_option maxHeartbeats 4000000 in
theorem P_X9_takeSides {N : Nat} {Z : xZ} {rv : Int32} {Hf : xH} (hZ : Z = xZm cX9_takeSides yX9_takeSides 8 3 (some .int) (some (.int rv)) Hf) : ∀ (a0 : (Option Nat)) (a1 : Int32) (a2 : (Option Nat)) (H : xH), F_X9_takeSides N a0 a1 a2 H = some (rv, Hf) → xWq Z H 0 [xA a0, xI a1, xA a2, xN, xN, xN, xN, xN] [] := by
  have hz : Z.1 = (cX9_takeSides, yX9_takeSides, 8) := by rw [hZ]; rfl
  have hδ : Z.2.1 = 3 := by rw [hZ]; rfl
  intro a0 a1 a2 H h
  unfold F_X9_takeSides at h
  refine x_aload_n hz dX9_takeSides_0 rfl ?_
  obtain ⟨b2, e_b2, h⟩ := x_bnd h
  obtain ⟨H1, e_H1, h⟩ := x_bnd h
  refine x_callVv (as := []) (st := []) cs_X9_102 (ci := 3) ⟨rfl, rfl⟩ rfl rfl hz (by omega) (by decide) dX9_takeSides_1 e_b2 (M_X3_clear e_H1) ?_
  refine x_iconst (v := (0 : Int32)) hz dX9_takeSides_4 (by decide) ?_
  refine x_istore_n (pl' := [xA a0, xI a1, xA a2, xI (0 : Int32), xN, xN, xN, xN]) hz dX9_takeSides_5 (by decide) rfl ?_
  refine x_iload_n hz dX9_takeSides_6 rfl ?_
  refine x_istore (pl' := [xA a0, xI a1, xA a2, xI (0 : Int32), xI a1, xN, xN, xN]) hz dX9_takeSides_7 (by decide) rfl ?_
  refine x_iconst (v := (0 : Int32)) hz dX9_takeSides_9 (by decide) ?_
  refine x_istore (pl' := [xA a0, xI a1, xA a2, xI (0 : Int32), xI a1, xI (0 : Int32), xN, xN]) hz dX9_takeSides_10 (by decide) rfl ?_
  exact x_wk (xwk_c (xwk_n (xwk_c (xwk_c (xwk_c (xwk_c (xwk_n (xwk_n xwk_0)))))))) ((P_X9_takeSides_L12 hZ N) a0 a2 (0 : Int32) a1 (0 : Int32) H1 h)
theorem M_X9_takeSides {N : Nat} {a0 : (Option Nat)} {a1 : Int32} {a2 : (Option Nat)} {H H1 : xH} {r1 : Int32} (h : F_X9_takeSides N a0 a1 a2 H = some (r1, H1)) : xM yX9_takeSides cX9_takeSides 8 (some .int) 3 [.inr (.inr a0), .inl a1, .inr (.inr a2)] H (some (.int r1)) H1 :=
  xM_of (by decide +kernel) (xT_tb 903 (by decide +kernel) (by decide +kernel)) (by simp [xargs, x2]) rfl (P_X9_takeSides rfl a0 a1 a2 H h)
/-! BettingBook$Winner.canOnlyWin(LBettingBook$Gains;)Z -/
noncomputable def F_X9_canOnlyWin_J51 (N : Nat) (k4 : (Option Nat) → (Option Nat) → Int32 → Int32 → xH → Option (Int32 × xH)) (x0 : (Option Nat)) (x1 : (Option Nat)) (x3 : Int32) (s0 : Int32) (s1 : Int32) (H : xH) : Option (Int32 × xH) :=
  k4 x0 x1 (s0 ||| s1) (x3 + 1) H
set_option maxRecDepth 20000 in
set_option maxHeartbeats 4000000 in
theorem P_X9_canOnlyWin_J51 {N : Nat} {Z : xZ} {rv : Int32} {Hf : xH} (hZ : Z = xZm cX9_canOnlyWin yX9_canOnlyWin 5 4 (some .boolean) (some (.int rv)) Hf) {k4 : (Option Nat) → (Option Nat) → Int32 → Int32 → xH → Option (Int32 × xH)} (hk4 : ∀ (x0 : (Option Nat)) (x1 : (Option Nat)) (x2 : Int32) (x3 : Int32) (H : xH), k4 x0 x1 x2 x3 H = some (rv, Hf) → xWq Z H 4 [xA x0, xA x1, xI x2, xI x3, xN] []) : ∀ (x0 : (Option Nat)) (x1 : (Option Nat)) (x3 : Int32) (s0 : Int32) (s1 : Int32) (H : xH), F_X9_canOnlyWin_J51 N k4 x0 x1 x3 s0 s1 H = some (rv, Hf) → xWq Z H 51 [xA x0, xA x1, xN, xI x3, xN] [.int s1, .int s0] := by
  have hz : Z.1 = (cX9_canOnlyWin, yX9_canOnlyWin, 5) := by rw [hZ]; rfl
  have hδ : Z.2.1 = 4 := by rw [hZ]; rfl
  intro x0 x1 x3 s0 s1 H h
  unfold F_X9_canOnlyWin_J51 at h
  refine x_ior hz dX9_canOnlyWin_51 ?_
  refine x_istore_n (pl' := [xA x0, xA x1, xI (s0 ||| s1), xI x3, xN]) hz dX9_canOnlyWin_52 (by decide) rfl ?_
  refine x_iinc (w := (x3 + 1)) (pl' := [xA x0, xA x1, xI (s0 ||| s1), xI (x3 + 1), xN]) hz dX9_canOnlyWin_53 rfl rfl (by decide) rfl ?_
  refine x_goto (t := 4) hz dX9_canOnlyWin_56 (by decide) ?_
  exact x_wk (xwk_c (xwk_c (xwk_c (xwk_c (xwk_n xwk_0))))) (hk4 x0 x1 (s0 ||| s1) (x3 + 1) H h)
noncomputable def F_X9_canOnlyWin_J4 (N : Nat) (k4 : (Option Nat) → (Option Nat) → Int32 → Int32 → xH → Option (Int32 × xH)) (x0 : (Option Nat)) (x1 : (Option Nat)) (x2 : Int32) (x3 : Int32) (H : xH) : Option (Int32 × xH) :=
  (xgI H x0 9 4).bind fun v1 =>
  if v1 ≤ x3 then (if x2 = 0 ∨ x2 = 1 then some (x2, H) else none) else ((xgA H x0 9 3).bind fun v4 =>
  (xal .long H v4).bind fun v5 =>
  if v5 ≤ x3 then (if x2 = 0 ∨ x2 = 1 then some (x2, H) else none) else ((xgA H x0 9 3).bind fun v8 =>
  (xlJ H v8 x3).bind fun v9 =>
  (xob H x1 3).bind fun b11 =>
  x_bd2 (F_X3_sum N x1 v9 H) fun v12 H10 =>
  if 0 ≤ v12 then (if v12 ≤ 0 then ((F_X9_canOnlyWin_J51 N k4) x0 x1 x3 x2 (0 : Int32) H10) else ((F_X9_canOnlyWin_J51 N k4) x0 x1 x3 x2 (1 : Int32) H10)) else (some ((0 : Int32), H10))))
set_option maxRecDepth 20000 in
set_option maxHeartbeats 4000000 in
theorem P_X9_canOnlyWin_J4 {N : Nat} {Z : xZ} {rv : Int32} {Hf : xH} (hZ : Z = xZm cX9_canOnlyWin yX9_canOnlyWin 5 4 (some .boolean) (some (.int rv)) Hf) {k4 : (Option Nat) → (Option Nat) → Int32 → Int32 → xH → Option (Int32 × xH)} (hk4 : ∀ (x0 : (Option Nat)) (x1 : (Option Nat)) (x2 : Int32) (x3 : Int32) (H : xH), k4 x0 x1 x2 x3 H = some (rv, Hf) → xWq Z H 4 [xA x0, xA x1, xI x2, xI x3, xN] []) : ∀ (x0 : (Option Nat)) (x1 : (Option Nat)) (x2 : Int32) (x3 : Int32) (H : xH), F_X9_canOnlyWin_J4 N k4 x0 x1 x2 x3 H = some (rv, Hf) → xWq Z H 4 [xA x0, xA x1, xI x2, xI x3, xN] [] := by
  have hz : Z.1 = (cX9_canOnlyWin, yX9_canOnlyWin, 5) := by rw [hZ]; rfl
  have hδ : Z.2.1 = 4 := by rw [hZ]; rfl
  intro x0 x1 x2 x3 H h
  unfold F_X9_canOnlyWin_J4 at h
  refine x_iload_n hz dX9_canOnlyWin_4 rfl ?_
  refine x_aload_n hz dX9_canOnlyWin_5 rfl ?_
  obtain ⟨v1, e_v1, h⟩ := x_bnd h
  refine x_getI hz dX9_canOnlyWin_6 fs_X9_89 e_v1 ?_
  refine x_icmp_ge (t := 59) hz dX9_canOnlyWin_9 (by decide) (fun c2 => ?_) (fun c2 => ?_)
  · replace h := x_ip c2 h
    refine x_iload_n hz dX9_canOnlyWin_59 rfl ?_
    obtain ⟨c3, h⟩ := x_inv h
    cases h
    exact x_zret01 hZ c3 dX9_canOnlyWin_60
  · replace h := x_in c2 h
    refine x_iload_n hz dX9_canOnlyWin_12 rfl ?_
    refine x_aload_n hz dX9_canOnlyWin_13 rfl ?_
    obtain ⟨v4, e_v4, h⟩ := x_bnd h
    refine x_getA hz dX9_canOnlyWin_14 fs_X9_21 e_v4 ?_
    obtain ⟨v5, e_v5, h⟩ := x_bnd h
    refine x_alen (t0 := 1) (fun _ => rfl) hz dX9_canOnlyWin_17 e_v5 ?_
    refine x_icmp_ge (t := 59) hz dX9_canOnlyWin_18 (by decide) (fun c6 => ?_) (fun c6 => ?_)
    · replace h := x_ip c6 h
      refine x_iload_n hz dX9_canOnlyWin_59 rfl ?_
      obtain ⟨c7, h⟩ := x_inv h
      cases h
      exact x_zret01 hZ c7 dX9_canOnlyWin_60
    · replace h := x_in c6 h
      refine x_aload_n hz dX9_canOnlyWin_21 rfl ?_
      refine x_aload_n hz dX9_canOnlyWin_22 rfl ?_
      obtain ⟨v8, e_v8, h⟩ := x_bnd h
      refine x_getA hz dX9_canOnlyWin_23 fs_X9_21 e_v8 ?_
      refine x_iload_n hz dX9_canOnlyWin_26 rfl ?_
      obtain ⟨v9, e_v9, h⟩ := x_bnd h
      refine x_lald hz dX9_canOnlyWin_27 e_v9 ?_
      obtain ⟨b11, e_b11, h⟩ := x_bnd h
      obtain ⟨v12, H10, e_H10, h⟩ := x_b2 h
      refine x_callVi (as := [.inr (.inl v9)]) (st := []) cs_X9_115 (ci := 3) ⟨rfl, rfl⟩ rfl rfl hz (by omega) (by decide) dX9_canOnlyWin_28 e_b11 (M_X3_sum e_H10) ?_
      refine x_istore (pl' := [xA x0, xA x1, xI x2, xI x3, xI v12]) hz dX9_canOnlyWin_31 (by decide) rfl ?_
      refine x_iload hz dX9_canOnlyWin_33 rfl ?_
      refine x_if_ge (t := 40) hz dX9_canOnlyWin_35 (by decide) (fun c13 => ?_) (fun c13 => ?_)
      · replace h := x_ip c13 h
        refine x_iload_n hz dX9_canOnlyWin_40 rfl ?_
        refine x_iload hz dX9_canOnlyWin_41 rfl ?_
        refine x_if_le (t := 50) hz dX9_canOnlyWin_43 (by decide) (fun c14 => ?_) (fun c14 => ?_)
        · replace h := x_ip c14 h
          refine x_iconst (v := (0 : Int32)) hz dX9_canOnlyWin_50 (by decide) ?_
          exact x_wk (xwk_c (xwk_c (xwk_n (xwk_c (xwk_n xwk_0))))) ((P_X9_canOnlyWin_J51 hZ hk4) x0 x1 x3 x2 (0 : Int32) H10 h)
        · replace h := x_in c14 h
          refine x_iconst (v := (1 : Int32)) hz dX9_canOnlyWin_46 (by decide) ?_
          refine x_goto (t := 51) hz dX9_canOnlyWin_47 (by decide) ?_
          exact x_wk (xwk_c (xwk_c (xwk_n (xwk_c (xwk_n xwk_0))))) ((P_X9_canOnlyWin_J51 hZ hk4) x0 x1 x3 x2 (1 : Int32) H10 h)
      · replace h := x_in c13 h
        refine x_iconst (v := (0 : Int32)) hz dX9_canOnlyWin_38 (by decide) ?_
        cases h
        exact x_zret01 hZ (Or.inl rfl) dX9_canOnlyWin_39
noncomputable def F_X9_canOnlyWin_L4 (N : Nat) : Nat → (Option Nat) → (Option Nat) → Int32 → Int32 → xH → Option (Int32 × xH)
  | 0 => fun _ _ _ _ _ => none
  | n + 1 => F_X9_canOnlyWin_J4 N (F_X9_canOnlyWin_L4 N n)
theorem P_X9_canOnlyWin_L4 {N : Nat} {Z : xZ} {rv : Int32} {Hf : xH} (hZ : Z = xZm cX9_canOnlyWin yX9_canOnlyWin 5 4 (some .boolean) (some (.int rv)) Hf) : ∀ (n : Nat) (x0 : (Option Nat)) (x1 : (Option Nat)) (x2 : Int32) (x3 : Int32) (H : xH), F_X9_canOnlyWin_L4 N n x0 x1 x2 x3 H = some (rv, Hf) → xWq Z H 4 [xA x0, xA x1, xI x2, xI x3, xN] [] := by
  intro n
  induction n with
  | zero => intro _ _ _ _ _ h; cases h
  | succ n ih => exact P_X9_canOnlyWin_J4 hZ ih
noncomputable def F_X9_canOnlyWin (N : Nat) (a0 : (Option Nat)) (a1 : (Option Nat)) (H : xH) : Option (Int32 × xH) :=
  (F_X9_canOnlyWin_L4 N N) a0 a1 (0 : Int32) (0 : Int32) H
set_option maxRecDepth 20000 in
set_option maxHeartbeats 4000000 in
theorem P_X9_canOnlyWin {N : Nat} {Z : xZ} {rv : Int32} {Hf : xH} (hZ : Z = xZm cX9_canOnlyWin yX9_canOnlyWin 5 4 (some .boolean) (some (.int rv)) Hf) : ∀ (a0 : (Option Nat)) (a1 : (Option Nat)) (H : xH), F_X9_canOnlyWin N a0 a1 H = some (rv, Hf) → xWq Z H 0 [xA a0, xA a1, xN, xN, xN] [] := by
  have hz : Z.1 = (cX9_canOnlyWin, yX9_canOnlyWin, 5) := by rw [hZ]; rfl
  have hδ : Z.2.1 = 4 := by rw [hZ]; rfl
  intro a0 a1 H h
  unfold F_X9_canOnlyWin at h
  refine x_iconst (v := (0 : Int32)) hz dX9_canOnlyWin_0 (by decide) ?_
  refine x_istore_n (pl' := [xA a0, xA a1, xI (0 : Int32), xN, xN]) hz dX9_canOnlyWin_1 (by decide) rfl ?_
  refine x_iconst (v := (0 : Int32)) hz dX9_canOnlyWin_2 (by decide) ?_
  refine x_istore_n (pl' := [xA a0, xA a1, xI (0 : Int32), xI (0 : Int32), xN]) hz dX9_canOnlyWin_3 (by decide) rfl ?_
  exact x_wk (xwk_c (xwk_c (xwk_c (xwk_c (xwk_n xwk_0))))) ((P_X9_canOnlyWin_L4 hZ N) a0 a1 (0 : Int32) (0 : Int32) H h)
theorem M_X9_canOnlyWin {N : Nat} {a0 : (Option Nat)} {a1 : (Option Nat)} {H H1 : xH} {r1 : Int32} (h : F_X9_canOnlyWin N a0 a1 H = some (r1, H1)) : xM yX9_canOnlyWin cX9_canOnlyWin 5 (some .boolean) 4 [.inr (.inr a0), .inr (.inr a1)] H (some (.int r1)) H1 :=
  xM_of (by decide +kernel) (xT_tb 910 (by decide +kernel) (by decide +kernel)) (by simp [xargs, x2]) rfl (P_X9_canOnlyWin rfl a0 a1 H h)
/-! BettingBook$Winner.search(LBettingBook$Gains;)V -/
noncomputable def F_X9_search_J70 (N : Nat) (k21 : (Option Nat) → (Option Nat) → Int32 → Int32 → xH → Option xH) (x0 : (Option Nat)) (x1 : (Option Nat)) (x2 : Int32) (x3 : Int32) (H : xH) : Option xH :=
  k21 x0 x1 x2 (x3 + 1) H
set_option maxRecDepth 20000 in
set_option maxHeartbeats 4000000 in
theorem P_X9_search_J70 {N : Nat} {Z : xZ} {Hf : xH} (hZ : Z = xZm cX9_search yX9_search 5 5 none none Hf) {k21 : (Option Nat) → (Option Nat) → Int32 → Int32 → xH → Option xH} (hk21 : ∀ (x0 : (Option Nat)) (x1 : (Option Nat)) (x2 : Int32) (x3 : Int32) (H : xH), k21 x0 x1 x2 x3 H = some Hf → xWq Z H 21 [xA x0, xA x1, xI x2, xI x3, xN] []) : ∀ (x0 : (Option Nat)) (x1 : (Option Nat)) (x2 : Int32) (x3 : Int32) (H : xH), F_X9_search_J70 N k21 x0 x1 x2 x3 H = some Hf → xWq Z H 70 [xA x0, xA x1, xI x2, xI x3, xN] [] := by
  have hz : Z.1 = (cX9_search, yX9_search, 5) := by rw [hZ]; rfl
  have hδ : Z.2.1 = 5 := by rw [hZ]; rfl
  intro x0 x1 x2 x3 H h
  unfold F_X9_search_J70 at h
  refine x_iinc (w := (x3 + 1)) (pl' := [xA x0, xA x1, xI x2, xI (x3 + 1), xN]) hz dX9_search_70 rfl rfl (by decide) rfl ?_
  refine x_goto (t := 21) hz dX9_search_73 (by decide) ?_
  exact x_wk (xwk_c (xwk_c (xwk_c (xwk_c (xwk_n xwk_0))))) (hk21 x0 x1 x2 (x3 + 1) H h)
noncomputable def F_X9_search_J51 (N : Nat) (k21 : (Option Nat) → (Option Nat) → Int32 → Int32 → xH → Option xH) (x0 : (Option Nat)) (x1 : (Option Nat)) (x2 : Int32) (x3 : Int32) (x4 : Int32) (H : xH) : Option xH :=
  (xob H x0 9).bind fun b2 =>
  x_bd2 (F_X9_canOnlyWin N x0 x1 H) fun v3 H1 =>
  if v3 = 0 then ((F_X9_search_J70 N k21) x0 x1 x2 x3 H1) else ((xpI H1 x0 9 5 x3).bind fun H5 =>
  (xpI H5 x0 9 6 x4).bind fun H6 =>
  (F_X9_search_J70 N k21) x0 x1 x2 x3 H6)
set_option maxRecDepth 20000 in
set_option maxHeartbeats 4000000 in
theorem P_X9_search_J51 {N : Nat} {Z : xZ} {Hf : xH} (hZ : Z = xZm cX9_search yX9_search 5 5 none none Hf) {k21 : (Option Nat) → (Option Nat) → Int32 → Int32 → xH → Option xH} (hk21 : ∀ (x0 : (Option Nat)) (x1 : (Option Nat)) (x2 : Int32) (x3 : Int32) (H : xH), k21 x0 x1 x2 x3 H = some Hf → xWq Z H 21 [xA x0, xA x1, xI x2, xI x3, xN] []) : ∀ (x0 : (Option Nat)) (x1 : (Option Nat)) (x2 : Int32) (x3 : Int32) (x4 : Int32) (H : xH), F_X9_search_J51 N k21 x0 x1 x2 x3 x4 H = some Hf → xWq Z H 51 [xA x0, xA x1, xI x2, xI x3, xI x4] [] := by
  have hz : Z.1 = (cX9_search, yX9_search, 5) := by rw [hZ]; rfl
  have hδ : Z.2.1 = 5 := by rw [hZ]; rfl
  intro x0 x1 x2 x3 x4 H h
  unfold F_X9_search_J51 at h
  refine x_aload_n hz dX9_search_51 rfl ?_
  refine x_aload_n hz dX9_search_52 rfl ?_
  obtain ⟨b2, e_b2, h⟩ := x_bnd h
  obtain ⟨v3, H1, e_H1, h⟩ := x_b2 h
  refine x_callVi (as := [.inr (.inr x1)]) (st := []) cs_X9_66 (ci := 9) ⟨rfl, rfl⟩ rfl rfl hz (by omega) (by decide) dX9_search_53 e_b2 (M_X9_canOnlyWin e_H1) ?_
  refine x_if_eq (t := 70) hz dX9_search_56 (by decide) (fun c4 => ?_) (fun c4 => ?_)
  · replace h := x_ip c4 h
    exact x_wk (xwk_c (xwk_c (xwk_c (xwk_c (xwk_n xwk_0))))) ((P_X9_search_J70 hZ hk21) x0 x1 x2 x3 H1 h)
  · replace h := x_in c4 h
    refine x_aload_n hz dX9_search_59 rfl ?_
    refine x_iload_n hz dX9_search_60 rfl ?_
    obtain ⟨H5, e_H5, h⟩ := x_bnd h
    refine x_putV (v := .int x3) hz dX9_search_61 fs_X9_52 rfl rfl e_H5 ?_
    refine x_aload_n hz dX9_search_64 rfl ?_
    refine x_iload hz dX9_search_65 rfl ?_
    obtain ⟨H6, e_H6, h⟩ := x_bnd h
    refine x_putV (v := .int x4) hz dX9_search_67 fs_X9_55 rfl rfl e_H6 ?_
    exact x_wk (xwk_c (xwk_c (xwk_c (xwk_c (xwk_n xwk_0))))) ((P_X9_search_J70 hZ hk21) x0 x1 x2 x3 H6 h)
noncomputable def F_X9_search_J21 (N : Nat) (k21 : (Option Nat) → (Option Nat) → Int32 → Int32 → xH → Option xH) (x0 : (Option Nat)) (x1 : (Option Nat)) (x2 : Int32) (x3 : Int32) (H : xH) : Option xH :=
  if x2 ≤ x3 then (some H) else ((xob H x0 9).bind fun b3 =>
  x_bd2 (F_X9_takeSides N x0 x3 x1 H) fun v4 H2 =>
  (xgI H2 x0 9 5).bind fun v5 =>
  if v5 = (-1 : Int32) then ((F_X9_search_J51 N k21) x0 x1 x2 x3 v4 H2) else ((xgI H2 x0 9 6).bind fun v7 =>
  if v7 ≤ v4 then ((F_X9_search_J70 N k21) x0 x1 x2 x3 H2) else ((F_X9_search_J51 N k21) x0 x1 x2 x3 v4 H2)))
set_option maxRecDepth 20000 in
set_option maxHeartbeats 4000000 in
theorem P_X9_search_J21 {N : Nat} {Z : xZ} {Hf : xH} (hZ : Z = xZm cX9_search yX9_search 5 5 none none Hf) {k21 : (Option Nat) → (Option Nat) → Int32 → Int32 → xH → Option xH} (hk21 : ∀ (x0 : (Option Nat)) (x1 : (Option Nat)) (x2 : Int32) (x3 : Int32) (H : xH), k21 x0 x1 x2 x3 H = some Hf → xWq Z H 21 [xA x0, xA x1, xI x2, xI x3, xN] []) : ∀ (x0 : (Option Nat)) (x1 : (Option Nat)) (x2 : Int32) (x3 : Int32) (H : xH), F_X9_search_J21 N k21 x0 x1 x2 x3 H = some Hf → xWq Z H 21 [xA x0, xA x1, xI x2, xI x3, xN] [] := by
  have hz : Z.1 = (cX9_search, yX9_search, 5) := by rw [hZ]; rfl
  have hδ : Z.2.1 = 5 := by rw [hZ]; rfl
  intro x0 x1 x2 x3 H h
  unfold F_X9_search_J21 at h
  refine x_iload_n hz dX9_search_21 rfl ?_
  refine x_iload_n hz dX9_search_22 rfl ?_
  refine x_icmp_ge (t := 76) hz dX9_search_23 (by decide) (fun c1 => ?_) (fun c1 => ?_)
  · replace h := x_ip c1 h
    cases h
    exact x_vret hZ dX9_search_76
  · replace h := x_in c1 h
    refine x_aload_n hz dX9_search_26 rfl ?_
    refine x_iload_n hz dX9_search_27 rfl ?_
    refine x_aload_n hz dX9_search_28 rfl ?_
    obtain ⟨b3, e_b3, h⟩ := x_bnd h
    obtain ⟨v4, H2, e_H2, h⟩ := x_b2 h
    refine x_callVi (as := [.inl x3, .inr (.inr x1)]) (st := []) cs_X9_62 (ci := 9) ⟨rfl, rfl⟩ rfl rfl hz (by omega) (by decide) dX9_search_29 e_b3 (M_X9_takeSides e_H2) ?_
    refine x_istore (pl' := [xA x0, xA x1, xI x2, xI x3, xI v4]) hz dX9_search_32 (by decide) rfl ?_
    refine x_aload_n hz dX9_search_34 rfl ?_
    obtain ⟨v5, e_v5, h⟩ := x_bnd h
    refine x_getI hz dX9_search_35 fs_X9_52 e_v5 ?_
    refine x_iconst (v := (-1 : Int32)) hz dX9_search_38 (by decide) ?_
    refine x_icmp_eq (t := 51) hz dX9_search_39 (by decide) (fun c6 => ?_) (fun c6 => ?_)
    · replace h := x_ip c6 h
      exact x_wk (xwk_c (xwk_c (xwk_c (xwk_c (xwk_c xwk_0))))) ((P_X9_search_J51 hZ hk21) x0 x1 x2 x3 v4 H2 h)
    · replace h := x_in c6 h
      refine x_iload hz dX9_search_42 rfl ?_
      refine x_aload_n hz dX9_search_44 rfl ?_
      obtain ⟨v7, e_v7, h⟩ := x_bnd h
      refine x_getI hz dX9_search_45 fs_X9_55 e_v7 ?_
      refine x_icmp_ge (t := 70) hz dX9_search_48 (by decide) (fun c8 => ?_) (fun c8 => ?_)
      · replace h := x_ip c8 h
        exact x_wk (xwk_c (xwk_c (xwk_c (xwk_c (xwk_n xwk_0))))) ((P_X9_search_J70 hZ hk21) x0 x1 x2 x3 H2 h)
      · replace h := x_in c8 h
        exact x_wk (xwk_c (xwk_c (xwk_c (xwk_c (xwk_c xwk_0))))) ((P_X9_search_J51 hZ hk21) x0 x1 x2 x3 v4 H2 h)
noncomputable def F_X9_search_L21 (N : Nat) : Nat → (Option Nat) → (Option Nat) → Int32 → Int32 → xH → Option xH
  | 0 => fun _ _ _ _ _ => none
  | n + 1 => F_X9_search_J21 N (F_X9_search_L21 N n)
theorem P_X9_search_L21 {N : Nat} {Z : xZ} {Hf : xH} (hZ : Z = xZm cX9_search yX9_search 5 5 none none Hf) : ∀ (n : Nat) (x0 : (Option Nat)) (x1 : (Option Nat)) (x2 : Int32) (x3 : Int32) (H : xH), F_X9_search_L21 N n x0 x1 x2 x3 H = some Hf → xWq Z H 21 [xA x0, xA x1, xI x2, xI x3, xN] [] := by
  intro n
  induction n with
  | zero => intro _ _ _ _ _ h; cases h
  | succ n ih => exact P_X9_search_J21 hZ ih
noncomputable def F_X9_search (N : Nat) (a0 : (Option Nat)) (a1 : (Option Nat)) (H : xH) : Option xH :=
  (xpI H a0 9 5 (-1 : Int32)).bind fun H1 =>
  (xpI H1 a0 9 6 (-1 : Int32)).bind fun H2 =>
  (xgI H2 a0 9 2).bind fun v3 =>
  x_bd2 (F_X11_power N (3 : Int32) v3 H2) fun v5 H4 =>
  (F_X9_search_L21 N N) a0 a1 v5 (1 : Int32) H4
set_option maxRecDepth 20000 in
set_option maxHeartbeats 4000000 in
theorem P_X9_search {N : Nat} {Z : xZ} {Hf : xH} (hZ : Z = xZm cX9_search yX9_search 5 5 none none Hf) : ∀ (a0 : (Option Nat)) (a1 : (Option Nat)) (H : xH), F_X9_search N a0 a1 H = some Hf → xWq Z H 0 [xA a0, xA a1, xN, xN, xN] [] := by
  have hz : Z.1 = (cX9_search, yX9_search, 5) := by rw [hZ]; rfl
  have hδ : Z.2.1 = 5 := by rw [hZ]; rfl
  intro a0 a1 H h
  unfold F_X9_search at h
  refine x_aload_n hz dX9_search_0 rfl ?_
  refine x_iconst (v := (-1 : Int32)) hz dX9_search_1 (by decide) ?_
  obtain ⟨H1, e_H1, h⟩ := x_bnd h
  refine x_putV (v := .int (-1 : Int32)) hz dX9_search_2 fs_X9_52 rfl rfl e_H1 ?_
  refine x_aload_n hz dX9_search_5 rfl ?_
  refine x_iconst (v := (-1 : Int32)) hz dX9_search_6 (by decide) ?_
  obtain ⟨H2, e_H2, h⟩ := x_bnd h
  refine x_putV (v := .int (-1 : Int32)) hz dX9_search_7 fs_X9_55 rfl rfl e_H2 ?_
  refine x_iconst (v := (3 : Int32)) hz dX9_search_10 (by decide) ?_
  refine x_aload_n hz dX9_search_11 rfl ?_
  obtain ⟨v3, e_v3, h⟩ := x_bnd h
  refine x_getI hz dX9_search_12 fs_X9_25 e_v3 ?_
  obtain ⟨v5, H4, e_H4, h⟩ := x_b2 h
  refine x_callSi (as := [.inl (3 : Int32), .inl v3]) (st := []) cs_X9_58 rfl rfl hz (by omega) (by decide) dX9_search_15 (M_X11_power e_H4) ?_
  refine x_istore_n (pl' := [xA a0, xA a1, xI v5, xN, xN]) hz dX9_search_18 (by decide) rfl ?_
  refine x_iconst (v := (1 : Int32)) hz dX9_search_19 (by decide) ?_
  refine x_istore_n (pl' := [xA a0, xA a1, xI v5, xI (1 : Int32), xN]) hz dX9_search_20 (by decide) rfl ?_
  exact x_wk (xwk_c (xwk_c (xwk_c (xwk_c (xwk_n xwk_0))))) ((P_X9_search_L21 hZ N) a0 a1 v5 (1 : Int32) H4 h)
theorem M_X9_search {N : Nat} {a0 : (Option Nat)} {a1 : (Option Nat)} {H H1 : xH} (h : F_X9_search N a0 a1 H = some H1) : xM yX9_search cX9_search 5 none 5 [.inr (.inr a0), .inr (.inr a1)] H none H1 :=
  xM_of (by decide +kernel) (xT_tb 899 (by decide +kernel) (by decide +kernel)) (by simp [xargs, x2]) rfl (P_X9_search rfl a0 a1 H h)
/-! BettingBook.init()V -/
noncomputable def F_X11_init_J72 (N : Nat) (k72 : (Option Nat) → Int32 → xH → Option xH) (k100 : (Option Nat) → xH → Option xH) (x0 : (Option Nat)) (x1 : Int32) (H : xH) : Option xH :=
  (xgA H x0 10 8).bind fun v1 =>
  (xal (.object "BettingBook$Ledger") H v1).bind fun v2 =>
  if v2 ≤ x1 then (k100 x0 H) else ((xgA H x0 10 8).bind fun v4 =>
  x_lt (xno 4 5 xdf_4 H) fun H5 =>
  (F_X4_init N (some H.2.1) H5).bind fun H6 =>
  (xsA (.object "BettingBook$Ledger") 4 H6 v4 x1 (some H.2.1)).bind fun H7 =>
  k72 x0 (x1 + 1) H7)
set_option maxRecDepth 20000 in
set_option maxHeartbeats 4000000 in
theorem P_X11_init_J72 {N : Nat} {Z : xZ} {Hf : xH} (hZ : Z = xZm cX11_init yX11_init 2 51 none none Hf) {k72 : (Option Nat) → Int32 → xH → Option xH} (hk72 : ∀ (x0 : (Option Nat)) (x1 : Int32) (H : xH), k72 x0 x1 H = some Hf → xWq Z H 72 [xA x0, xI x1] []) {k100 : (Option Nat) → xH → Option xH} (hk100 : ∀ (x0 : (Option Nat)) (H : xH), k100 x0 H = some Hf → xWq Z H 100 [xA x0, xN] []) : ∀ (x0 : (Option Nat)) (x1 : Int32) (H : xH), F_X11_init_J72 N k72 k100 x0 x1 H = some Hf → xWq Z H 72 [xA x0, xI x1] [] := by
  have hz : Z.1 = (cX11_init, yX11_init, 2) := by rw [hZ]; rfl
  have hδ : Z.2.1 = 51 := by rw [hZ]; rfl
  intro x0 x1 H h
  unfold F_X11_init_J72 at h
  refine x_iload_n hz dX11_init_72 rfl ?_
  refine x_aload_n hz dX11_init_73 rfl ?_
  obtain ⟨v1, e_v1, h⟩ := x_bnd h
  refine x_getA hz dX11_init_74 fs_X11_45 e_v1 ?_
  obtain ⟨v2, e_v2, h⟩ := x_bnd h
  refine x_alen (t0 := 5) (fun _ => rfl) hz dX11_init_77 e_v2 ?_
  refine x_icmp_ge (t := 100) hz dX11_init_78 (by decide) (fun c3 => ?_) (fun c3 => ?_)
  · replace h := x_ip c3 h
    exact x_wk (xwk_c (xwk_n xwk_0)) (hk100 x0 H h)
  · replace h := x_in c3 h
    refine x_aload_n hz dX11_init_81 rfl ?_
    obtain ⟨v4, e_v4, h⟩ := x_bnd h
    refine x_getA hz dX11_init_82 fs_X11_45 e_v4 ?_
    refine x_iload_n hz dX11_init_85 rfl ?_
    obtain ⟨H5, e_H5, h⟩ := x_ltE h
    refine x_new hz dX11_init_86 ns_X11_38 ?_
    rw [e_H5]
    refine x_dup hz dX11_init_89 (x_rfc _) ?_
    obtain ⟨H6, e_H6, h⟩ := x_bnd h
    refine x_callIv (as := []) (st := [va_rf (some H.2.1), .int x1, va_rf v4]) cs_X11_40 rfl rfl rfl rfl hz (by omega) (Nat.le_trans (x_sm1 (x_rfc _) (x_sm1 rfl (x_sm1 (x_rfc _) x_sm0))) (by decide)) dX11_init_90 (M_X4_init e_H6) ?_
    obtain ⟨H7, e_H7, h⟩ := x_bnd h
    refine x_aast xTq_Ledger (ci := 4) rfl rfl hz dX11_init_93 e_H7 ?_
    refine x_iinc (w := (x1 + 1)) (pl' := [xA x0, xI (x1 + 1)]) hz dX11_init_94 rfl rfl (by decide) rfl ?_
    refine x_goto (t := 72) hz dX11_init_97 (by decide) ?_
    exact x_wk (xwk_c (xwk_c xwk_0)) (hk72 x0 (x1 + 1) H7 h)
noncomputable def F_X11_init_L72 (N : Nat) (k100 : (Option Nat) → xH → Option xH) : Nat → (Option Nat) → Int32 → xH → Option xH
  | 0 => fun _ _ _ => none
  | n + 1 => F_X11_init_J72 N (F_X11_init_L72 N k100 n) k100
theorem P_X11_init_L72 {N : Nat} {Z : xZ} {Hf : xH} (hZ : Z = xZm cX11_init yX11_init 2 51 none none Hf) {k100 : (Option Nat) → xH → Option xH} (hk100 : ∀ (x0 : (Option Nat)) (H : xH), k100 x0 H = some Hf → xWq Z H 100 [xA x0, xN] []) : ∀ (n : Nat) (x0 : (Option Nat)) (x1 : Int32) (H : xH), F_X11_init_L72 N k100 n x0 x1 H = some Hf → xWq Z H 72 [xA x0, xI x1] [] := by
  intro n
  induction n with
  | zero => intro _ _ _ h; cases h
  | succ n ih => exact P_X11_init_J72 hZ ih hk100
noncomputable def F_X11_init_J100 (N : Nat) (x0 : (Option Nat)) (H : xH) : Option xH :=
  x_lt (xno 5 1 xdf_5 H) fun H1 =>
  (F_X5_init N (some H.2.1) H1).bind fun H2 =>
  (xpA H2 x0 10 10 (some H.2.1)).bind fun H3 =>
  x_lt (xno 3 1 xdf_3 H3) fun H4 =>
  (F_X3_init N (some H3.2.1) H4).bind fun H5 =>
  (xpA H5 x0 10 11 (some H3.2.1)).bind fun H6 =>
  x_lt (xno 9 7 xdf_9 H6) fun H7 =>
  (F_X9_init N (some H6.2.1) H7).bind fun H8 =>
  (xpA H8 x0 10 12 (some H6.2.1)).bind fun H9 =>
  (xnI .int H9 (6 : Int32)).bind fun H10 =>
  (xpA H10 x0 10 13 (some H9.2.1)).bind fun H11 =>
  (xnI .int H11 (64 : Int32)).bind fun H12 =>
  (xpA H12 x0 10 14 (some H11.2.1)).bind fun H13 =>
  (xgA H13 x0 10 6).bind fun v14 =>
  (xgA H13 x0 10 5).bind fun v15 =>
  (xob H13 v14 6).bind fun b17 =>
  (F_X6_fill N v14 v15 H13).bind fun H16 =>
  (xgA H16 x0 10 6).bind fun v18 =>
  (xgA H16 x0 10 7).bind fun v19 =>
  (xob H16 v18 6).bind fun b21 =>
  x_bd2 (F_X6_mark N v18 v19 H16) fun v22 H20 =>
  some H20
set_option maxRecDepth 20000 in
set_option maxHeartbeats 4000000 in
theorem P_X11_init_J100 {N : Nat} {Z : xZ} {Hf : xH} (hZ : Z = xZm cX11_init yX11_init 2 51 none none Hf) : ∀ (x0 : (Option Nat)) (H : xH), F_X11_init_J100 N x0 H = some Hf → xWq Z H 100 [xA x0, xN] [] := by
  have hz : Z.1 = (cX11_init, yX11_init, 2) := by rw [hZ]; rfl
  have hδ : Z.2.1 = 51 := by rw [hZ]; rfl
  intro x0 H h
  unfold F_X11_init_J100 at h
  refine x_aload_n hz dX11_init_100 rfl ?_
  obtain ⟨H1, e_H1, h⟩ := x_ltE h
  refine x_new hz dX11_init_101 ns_X11_49 ?_
  rw [e_H1]
  refine x_dup hz dX11_init_104 (x_rfc _) ?_
  obtain ⟨H2, e_H2, h⟩ := x_bnd h
  refine x_callIv (as := []) (st := [va_rf (some H.2.1), va_rf x0]) cs_X11_51 rfl rfl rfl rfl hz (by omega) (Nat.le_trans (x_sm1 (x_rfc _) (x_sm1 (x_rfc _) x_sm0)) (by decide)) dX11_init_105 (M_X5_init e_H2) ?_
  obtain ⟨H3, e_H3, h⟩ := x_bnd h
  refine x_putF (v := va_rf (some H.2.1)) hz rfl dX11_init_108 fs_X11_52F (x_nro _ _) (x_fto _ _) e_H3 ?_
  refine x_aload_n hz dX11_init_111 rfl ?_
  obtain ⟨H4, e_H4, h⟩ := x_ltE h
  refine x_new hz dX11_init_112 ns_X11_56 ?_
  rw [e_H4]
  refine x_dup hz dX11_init_115 (x_rfc _) ?_
  obtain ⟨H5, e_H5, h⟩ := x_bnd h
  refine x_callIv (as := []) (st := [va_rf (some H3.2.1), va_rf x0]) cs_X11_58 rfl rfl rfl rfl hz (by omega) (Nat.le_trans (x_sm1 (x_rfc _) (x_sm1 (x_rfc _) x_sm0)) (by decide)) dX11_init_116 (M_X3_init e_H5) ?_
  obtain ⟨H6, e_H6, h⟩ := x_bnd h
  refine x_putF (v := va_rf (some H3.2.1)) hz rfl dX11_init_119 fs_X11_59F (x_nro _ _) (x_fto _ _) e_H6 ?_
  refine x_aload_n hz dX11_init_122 rfl ?_
  obtain ⟨H7, e_H7, h⟩ := x_ltE h
  refine x_new hz dX11_init_123 ns_X11_63 ?_
  rw [e_H7]
  refine x_dup hz dX11_init_126 (x_rfc _) ?_
  obtain ⟨H8, e_H8, h⟩ := x_bnd h
  refine x_callIv (as := []) (st := [va_rf (some H6.2.1), va_rf x0]) cs_X11_65 rfl rfl rfl rfl hz (by omega) (Nat.le_trans (x_sm1 (x_rfc _) (x_sm1 (x_rfc _) x_sm0)) (by decide)) dX11_init_127 (M_X9_init e_H8) ?_
  obtain ⟨H9, e_H9, h⟩ := x_bnd h
  refine x_putF (v := va_rf (some H6.2.1)) hz rfl dX11_init_130 fs_X11_66F (x_nro _ _) (x_fto _ _) e_H9 ?_
  refine x_aload_n hz dX11_init_133 rfl ?_
  refine x_bipush (v := (6 : Int32)) hz dX11_init_134 (by decide) ?_
  obtain ⟨H10, e_H10, h⟩ := x_bnd h
  refine x_newI aw_int hz dX11_init_136 e_H10 ?_
  obtain ⟨H11, e_H11, h⟩ := x_bnd h
  refine x_putF (v := va_rf (some H9.2.1)) hz rfl dX11_init_138 fs_X11_70F (x_nra _ _) (x_fta _ _) e_H11 ?_
  refine x_aload_n hz dX11_init_141 rfl ?_
  refine x_bipush (v := (64 : Int32)) hz dX11_init_142 (by decide) ?_
  obtain ⟨H12, e_H12, h⟩ := x_bnd h
  refine x_newI aw_int hz dX11_init_144 e_H12 ?_
  obtain ⟨H13, e_H13, h⟩ := x_bnd h
  refine x_putF (v := va_rf (some H11.2.1)) hz rfl dX11_init_146 fs_X11_74F (x_nra _ _) (x_fta _ _) e_H13 ?_
  refine x_aload_n hz dX11_init_149 rfl ?_
  obtain ⟨v14, e_v14, h⟩ := x_bnd h
  refine x_getA hz dX11_init_150 fs_X11_34 e_v14 ?_
  refine x_aload_n hz dX11_init_153 rfl ?_
  obtain ⟨v15, e_v15, h⟩ := x_bnd h
  refine x_getA hz dX11_init_154 fs_X11_27 e_v15 ?_
  obtain ⟨b17, e_b17, h⟩ := x_bnd h
  obtain ⟨H16, e_H16, h⟩ := x_bnd h
  refine x_callVv (as := [.inr (.inr v15)]) (st := []) cs_X11_77 (ci := 6) ⟨rfl, rfl⟩ rfl rfl hz (by omega) (by decide) dX11_init_157 e_b17 (M_X6_fill e_H16) ?_
  refine x_aload_n hz dX11_init_160 rfl ?_
  obtain ⟨v18, e_v18, h⟩ := x_bnd h
  refine x_getA hz dX11_init_161 fs_X11_34 e_v18 ?_
  refine x_aload_n hz dX11_init_164 rfl ?_
  obtain ⟨v19, e_v19, h⟩ := x_bnd h
  refine x_getA hz dX11_init_165 fs_X11_41 e_v19 ?_
  obtain ⟨b21, e_b21, h⟩ := x_bnd h
  obtain ⟨v22, H20, e_H20, h⟩ := x_b2 h
  refine x_callVi (as := [.inr (.inr v19)]) (st := []) cs_X11_81 (ci := 6) ⟨rfl, rfl⟩ rfl rfl hz (by omega) (by decide) dX11_init_168 e_b21 (M_X6_mark e_H20) ?_
  refine x_pop hz dX11_init_171 rfl ?_
  cases h
  exact x_vret hZ dX11_init_172
noncomputable def F_X11_init (N : Nat) (a0 : (Option Nat)) (H : xH) : Option xH :=
  (a0).bind fun b1 =>
  (xnI .byte H (1200 : Int32)).bind fun H2 =>
  (xpA H2 a0 10 0 (some H.2.1)).bind fun H3 =>
  (xpI H3 a0 10 2 (-1 : Int32)).bind fun H4 =>
  x_lt (xno 8 4 xdf_8 H4) fun H5 =>
  (F_X8_init N (some H4.2.1) H5).bind fun H6 =>
  (xpA H6 a0 10 4 (some H4.2.1)).bind fun H7 =>
  x_lt (xno 2 13 xdf_2 H7) fun H8 =>
  (F_X2_init N (some H7.2.1) H8).bind fun H9 =>
  (xpA H9 a0 10 5 (some H7.2.1)).bind fun H10 =>
  x_lt (xno 6 9 xdf_6 H10) fun H11 =>
  (F_X6_init N (some H10.2.1) H11).bind fun H12 =>
  (xpA H12 a0 10 6 (some H10.2.1)).bind fun H13 =>
  x_lt (xno 4 5 xdf_4 H13) fun H14 =>
  (F_X4_init N (some H13.2.1) H14).bind fun H15 =>
  (xpA H15 a0 10 7 (some H13.2.1)).bind fun H16 =>
  (xnA (.object "BettingBook$Ledger") H16 (4 : Int32)).bind fun H17 =>
  (xpA H17 a0 10 8 (some H16.2.1)).bind fun H18 =>
  (F_X11_init_L72 N (F_X11_init_J100 N) N) a0 (0 : Int32) H18
set_option maxRecDepth 20000 in
set_option maxHeartbeats 4000000 in
theorem P_X11_init {N : Nat} {Z : xZ} {Hf : xH} (hZ : Z = xZm cX11_init yX11_init 2 51 none none Hf) : ∀ (a0 : (Option Nat)) (H : xH), F_X11_init N a0 H = some Hf → xWq Z H 0 [xA a0, xN] [] := by
  have hz : Z.1 = (cX11_init, yX11_init, 2) := by rw [hZ]; rfl
  have hδ : Z.2.1 = 51 := by rw [hZ]; rfl
  intro a0 H h
  unfold F_X11_init at h
  refine x_aload_n hz dX11_init_0 rfl ?_
  obtain ⟨b1, e_b1, h⟩ := x_bnd h
  refine x_objInit e_b1 hz (by omega) (by decide) ol_X11_1 oi_1 oi_2 dX11_init_1 ?_
  refine x_aload_n hz dX11_init_4 rfl ?_
  refine x_sipush (v := (1200 : Int32)) hz dX11_init_5 (by decide) ?_
  obtain ⟨H2, e_H2, h⟩ := x_bnd h
  refine x_newB aw_byte hz dX11_init_8 e_H2 ?_
  obtain ⟨H3, e_H3, h⟩ := x_bnd h
  refine x_putF (v := va_rf (some H.2.1)) hz rfl dX11_init_10 fs_X11_9F (x_nra _ _) (x_fta _ _) e_H3 ?_
  refine x_aload_n hz dX11_init_13 rfl ?_
  refine x_iconst (v := (-1 : Int32)) hz dX11_init_14 (by decide) ?_
  obtain ⟨H4, e_H4, h⟩ := x_bnd h
  refine x_putV (v := .int (-1 : Int32)) hz dX11_init_15 fs_X11_13 rfl rfl e_H4 ?_
  refine x_aload_n hz dX11_init_18 rfl ?_
  obtain ⟨H5, e_H5, h⟩ := x_ltE h
  refine x_new hz dX11_init_19 ns_X11_17 ?_
  rw [e_H5]
  refine x_dup hz dX11_init_22 (x_rfc _) ?_
  obtain ⟨H6, e_H6, h⟩ := x_bnd h
  refine x_callIv (as := []) (st := [va_rf (some H4.2.1), va_rf a0]) cs_X11_19 rfl rfl rfl rfl hz (by omega) (Nat.le_trans (x_sm1 (x_rfc _) (x_sm1 (x_rfc _) x_sm0)) (by decide)) dX11_init_23 (M_X8_init e_H6) ?_
  obtain ⟨H7, e_H7, h⟩ := x_bnd h
  refine x_putF (v := va_rf (some H4.2.1)) hz rfl dX11_init_26 fs_X11_20F (x_nro _ _) (x_fto _ _) e_H7 ?_
  refine x_aload_n hz dX11_init_29 rfl ?_
  obtain ⟨H8, e_H8, h⟩ := x_ltE h
  refine x_new hz dX11_init_30 ns_X11_24 ?_
  rw [e_H8]
  refine x_dup hz dX11_init_33 (x_rfc _) ?_
  obtain ⟨H9, e_H9, h⟩ := x_bnd h
  refine x_callIv (as := []) (st := [va_rf (some H7.2.1), va_rf a0]) cs_X11_26 rfl rfl rfl rfl hz (by omega) (Nat.le_trans (x_sm1 (x_rfc _) (x_sm1 (x_rfc _) x_sm0)) (by decide)) dX11_init_34 (M_X2_init e_H9) ?_
  obtain ⟨H10, e_H10, h⟩ := x_bnd h
  refine x_putV (v := va_rf (some H7.2.1)) hz dX11_init_37 fs_X11_27 (x_nro _ _) (x_fto _ _) e_H10 ?_
  refine x_aload_n hz dX11_init_40 rfl ?_
  obtain ⟨H11, e_H11, h⟩ := x_ltE h
  refine x_new hz dX11_init_41 ns_X11_31 ?_
  rw [e_H11]
  refine x_dup hz dX11_init_44 (x_rfc _) ?_
  obtain ⟨H12, e_H12, h⟩ := x_bnd h
  refine x_callIv (as := []) (st := [va_rf (some H10.2.1), va_rf a0]) cs_X11_33 rfl rfl rfl rfl hz (by omega) (Nat.le_trans (x_sm1 (x_rfc _) (x_sm1 (x_rfc _) x_sm0)) (by decide)) dX11_init_45 (M_X6_init e_H12) ?_
  obtain ⟨H13, e_H13, h⟩ := x_bnd h
  refine x_putF (v := va_rf (some H10.2.1)) hz rfl dX11_init_48 fs_X11_34F (x_nro _ _) (x_fto _ _) e_H13 ?_
  refine x_aload_n hz dX11_init_51 rfl ?_
  obtain ⟨H14, e_H14, h⟩ := x_ltE h
  refine x_new hz dX11_init_52 ns_X11_38 ?_
  rw [e_H14]
  refine x_dup hz dX11_init_55 (x_rfc _) ?_
  obtain ⟨H15, e_H15, h⟩ := x_bnd h
  refine x_callIv (as := []) (st := [va_rf (some H13.2.1), va_rf a0]) cs_X11_40 rfl rfl rfl rfl hz (by omega) (Nat.le_trans (x_sm1 (x_rfc _) (x_sm1 (x_rfc _) x_sm0)) (by decide)) dX11_init_56 (M_X4_init e_H15) ?_
  obtain ⟨H16, e_H16, h⟩ := x_bnd h
  refine x_putF (v := va_rf (some H13.2.1)) hz rfl dX11_init_59 fs_X11_41F (x_nro _ _) (x_fto _ _) e_H16 ?_
  refine x_aload_n hz dX11_init_62 rfl ?_
  refine x_iconst (v := (4 : Int32)) hz dX11_init_63 (by decide) ?_
  obtain ⟨H17, e_H17, h⟩ := x_bnd h
  refine x_newA xTq_Ledger (fun _ _ _ h9 => h9.2.2.1) (xT_tb 155 (by decide +kernel) (by decide +kernel)) hz dX11_init_64 e_H17 ?_
  obtain ⟨H18, e_H18, h⟩ := x_bnd h
  refine x_putF (v := va_rf (some H16.2.1)) hz rfl dX11_init_67 fs_X11_45F (x_nra _ _) (x_fta _ _) e_H18 ?_
  refine x_iconst (v := (0 : Int32)) hz dX11_init_70 (by decide) ?_
  refine x_istore_n (pl' := [xA a0, xI (0 : Int32)]) hz dX11_init_71 (by decide) rfl ?_
  exact x_wk (xwk_c (xwk_c xwk_0)) ((P_X11_init_L72 hZ (P_X11_init_J100 hZ) N) a0 (0 : Int32) H18 h)
theorem M_X11_init {N : Nat} {a0 : (Option Nat)} {H H1 : xH} (h : F_X11_init N a0 H = some H1) : xM yX11_init cX11_init 2 none 51 [.inr (.inr a0)] H none H1 :=
  xM_of (by decide +kernel) (xT_tb 24 (by decide +kernel) (by decide +kernel)) (by simp [xargs, x2]) rfl (P_X11_init rfl a0 H h)
/-! BettingBook.putBytes(I)V -/
noncomputable def F_X11_putBytes_J49 (N : Nat) (k3 : (Option Nat) → Int32 → Int32 → xH → Option xH) (x0 : (Option Nat)) (x1 : Int32) (x2 : Int32) (H : xH) : Option xH :=
  k3 x0 x1 (x2 + (-8)) H
set_option maxRecDepth 20000 in
set_option maxHeartbeats 4000000 in
theorem P_X11_putBytes_J49 {N : Nat} {Z : xZ} {Hf : xH} (hZ : Z = xZm cX11_putBytes yX11_putBytes 3 1 none none Hf) {k3 : (Option Nat) → Int32 → Int32 → xH → Option xH} (hk3 : ∀ (x0 : (Option Nat)) (x1 : Int32) (x2 : Int32) (H : xH), k3 x0 x1 x2 H = some Hf → xWq Z H 3 [xA x0, xI x1, xI x2] []) : ∀ (x0 : (Option Nat)) (x1 : Int32) (x2 : Int32) (H : xH), F_X11_putBytes_J49 N k3 x0 x1 x2 H = some Hf → xWq Z H 49 [xA x0, xI x1, xI x2] [] := by
  have hz : Z.1 = (cX11_putBytes, yX11_putBytes, 3) := by rw [hZ]; rfl
  have hδ : Z.2.1 = 1 := by rw [hZ]; rfl
  intro x0 x1 x2 H h
  unfold F_X11_putBytes_J49 at h
  refine x_iinc (w := (x2 + (-8))) (pl' := [xA x0, xI x1, xI (x2 + (-8))]) hz dX11_putBytes_49 rfl rfl (by decide) rfl ?_
  refine x_goto (t := 3) hz dX11_putBytes_52 (by decide) ?_
  exact x_wk (xwk_c (xwk_c (xwk_c xwk_0))) (hk3 x0 x1 (x2 + (-8)) H h)
noncomputable def F_X11_putBytes_J3 (N : Nat) (k3 : (Option Nat) → Int32 → Int32 → xH → Option xH) (x0 : (Option Nat)) (x1 : Int32) (x2 : Int32) (H : xH) : Option xH :=
  if x2 < 0 then (some H) else ((xgI H x0 10 1).bind fun v2 =>
  if v2 < 0 then ((F_X11_putBytes_J49 N k3) x0 x1 x2 H) else ((xgI H x0 10 1).bind fun v4 =>
  (xgA H x0 10 0).bind fun v5 =>
  (xal .byte H v5).bind fun v6 =>
  if v6 ≤ v4 then ((F_X11_putBytes_J49 N k3) x0 x1 x2 H) else ((xgA H x0 10 0).bind fun v8 =>
  (xgI H x0 10 1).bind fun v9 =>
  (xsI .byte H v8 v9 ((((x1.toUInt32 >>> (x2.toUInt32 &&& Int32.toUInt32 31)).toInt32)).toInt8.toInt32)).bind fun H10 =>
  (xgI H10 x0 10 1).bind fun v11 =>
  (xpI H10 x0 10 1 (v11 + (1 : Int32))).bind fun H12 =>
  (F_X11_putBytes_J49 N k3) x0 x1 x2 H12)))
set_option maxRecDepth 20000 in
set_option maxHeartbeats 4000000 in
theorem P_X11_putBytes_J3 {N : Nat} {Z : xZ} {Hf : xH} (hZ : Z = xZm cX11_putBytes yX11_putBytes 3 1 none none Hf) {k3 : (Option Nat) → Int32 → Int32 → xH → Option xH} (hk3 : ∀ (x0 : (Option Nat)) (x1 : Int32) (x2 : Int32) (H : xH), k3 x0 x1 x2 H = some Hf → xWq Z H 3 [xA x0, xI x1, xI x2] []) : ∀ (x0 : (Option Nat)) (x1 : Int32) (x2 : Int32) (H : xH), F_X11_putBytes_J3 N k3 x0 x1 x2 H = some Hf → xWq Z H 3 [xA x0, xI x1, xI x2] [] := by
  have hz : Z.1 = (cX11_putBytes, yX11_putBytes, 3) := by rw [hZ]; rfl
  have hδ : Z.2.1 = 1 := by rw [hZ]; rfl
  intro x0 x1 x2 H h
  unfold F_X11_putBytes_J3 at h
  refine x_iload_n hz dX11_putBytes_3 rfl ?_
  refine x_if_lt (t := 55) hz dX11_putBytes_4 (by decide) (fun c1 => ?_) (fun c1 => ?_)
  · replace h := x_ip c1 h
    cases h
    exact x_vret hZ dX11_putBytes_55
  · replace h := x_in c1 h
    refine x_aload_n hz dX11_putBytes_7 rfl ?_
    obtain ⟨v2, e_v2, h⟩ := x_bnd h
    refine x_getI hz dX11_putBytes_8 fs_X11_85 e_v2 ?_
    refine x_if_lt (t := 49) hz dX11_putBytes_11 (by decide) (fun c3 => ?_) (fun c3 => ?_)
    · replace h := x_ip c3 h
      exact x_wk (xwk_c (xwk_c (xwk_c xwk_0))) ((P_X11_putBytes_J49 hZ hk3) x0 x1 x2 H h)
    · replace h := x_in c3 h
      refine x_aload_n hz dX11_putBytes_14 rfl ?_
      obtain ⟨v4, e_v4, h⟩ := x_bnd h
      refine x_getI hz dX11_putBytes_15 fs_X11_85 e_v4 ?_
      refine x_aload_n hz dX11_putBytes_18 rfl ?_
      obtain ⟨v5, e_v5, h⟩ := x_bnd h
      refine x_getA hz dX11_putBytes_19 fs_X11_9 e_v5 ?_
      obtain ⟨v6, e_v6, h⟩ := x_bnd h
      refine x_alen (t0 := 2) (fun _ => rfl) hz dX11_putBytes_22 e_v6 ?_
      refine x_icmp_ge (t := 49) hz dX11_putBytes_23 (by decide) (fun c7 => ?_) (fun c7 => ?_)
      · replace h := x_ip c7 h
        exact x_wk (xwk_c (xwk_c (xwk_c xwk_0))) ((P_X11_putBytes_J49 hZ hk3) x0 x1 x2 H h)
      · replace h := x_in c7 h
        refine x_aload_n hz dX11_putBytes_26 rfl ?_
        obtain ⟨v8, e_v8, h⟩ := x_bnd h
        refine x_getA hz dX11_putBytes_27 fs_X11_9 e_v8 ?_
        refine x_aload_n hz dX11_putBytes_30 rfl ?_
        obtain ⟨v9, e_v9, h⟩ := x_bnd h
        refine x_getI hz dX11_putBytes_31 fs_X11_85 e_v9 ?_
        refine x_iload_n hz dX11_putBytes_34 rfl ?_
        refine x_iload_n hz dX11_putBytes_35 rfl ?_
        refine x_iushr hz dX11_putBytes_36 ?_
        refine x_i2b hz dX11_putBytes_37 ?_
        obtain ⟨H10, e_H10, h⟩ := x_bnd h
        refine x_bast hz dX11_putBytes_38 e_H10 ?_
        refine x_aload_n hz dX11_putBytes_39 rfl ?_
        refine x_dup hz dX11_putBytes_40 (x_rfc _) ?_
        obtain ⟨v11, e_v11, h⟩ := x_bnd h
        refine x_getI hz dX11_putBytes_41 fs_X11_85 e_v11 ?_
        refine x_iconst (v := (1 : Int32)) hz dX11_putBytes_44 (by decide) ?_
        refine x_iadd hz dX11_putBytes_45 ?_
        obtain ⟨H12, e_H12, h⟩ := x_bnd h
        refine x_putV (v := .int (v11 + (1 : Int32))) hz dX11_putBytes_46 fs_X11_85 rfl rfl e_H12 ?_
        exact x_wk (xwk_c (xwk_c (xwk_c xwk_0))) ((P_X11_putBytes_J49 hZ hk3) x0 x1 x2 H12 h)
noncomputable def F_X11_putBytes_L3 (N : Nat) : Nat → (Option Nat) → Int32 → Int32 → xH → Option xH
  | 0 => fun _ _ _ _ => none
  | n + 1 => F_X11_putBytes_J3 N (F_X11_putBytes_L3 N n)
theorem P_X11_putBytes_L3 {N : Nat} {Z : xZ} {Hf : xH} (hZ : Z = xZm cX11_putBytes yX11_putBytes 3 1 none none Hf) : ∀ (n : Nat) (x0 : (Option Nat)) (x1 : Int32) (x2 : Int32) (H : xH), F_X11_putBytes_L3 N n x0 x1 x2 H = some Hf → xWq Z H 3 [xA x0, xI x1, xI x2] [] := by
  intro n
  induction n with
  | zero => intro _ _ _ _ h; cases h
  | succ n ih => exact P_X11_putBytes_J3 hZ ih
noncomputable def F_X11_putBytes (N : Nat) (a0 : (Option Nat)) (a1 : Int32) (H : xH) : Option xH :=
  (F_X11_putBytes_L3 N N) a0 a1 (24 : Int32) H
set_option maxRecDepth 20000 in
set_option maxHeartbeats 4000000 in
theorem P_X11_putBytes {N : Nat} {Z : xZ} {Hf : xH} (hZ : Z = xZm cX11_putBytes yX11_putBytes 3 1 none none Hf) : ∀ (a0 : (Option Nat)) (a1 : Int32) (H : xH), F_X11_putBytes N a0 a1 H = some Hf → xWq Z H 0 [xA a0, xI a1, xN] [] := by
  have hz : Z.1 = (cX11_putBytes, yX11_putBytes, 3) := by rw [hZ]; rfl
  have hδ : Z.2.1 = 1 := by rw [hZ]; rfl
  intro a0 a1 H h
  unfold F_X11_putBytes at h
  refine x_bipush (v := (24 : Int32)) hz dX11_putBytes_0 (by decide) ?_
  refine x_istore_n (pl' := [xA a0, xI a1, xI (24 : Int32)]) hz dX11_putBytes_2 (by decide) rfl ?_
  exact x_wk (xwk_c (xwk_c (xwk_c xwk_0))) ((P_X11_putBytes_L3 hZ N) a0 a1 (24 : Int32) H h)
theorem M_X11_putBytes {N : Nat} {a0 : (Option Nat)} {a1 : Int32} {H H1 : xH} (h : F_X11_putBytes N a0 a1 H = some H1) : xM yX11_putBytes cX11_putBytes 3 none 1 [.inr (.inr a0), .inl a1] H none H1 :=
  xM_of (by decide +kernel) (xT_tb 367 (by decide +kernel) (by decide +kernel)) (by simp [xargs, x2]) rfl (P_X11_putBytes rfl a0 a1 H h)
/-! BettingBook.feed(IIIII)I -/
noncomputable def F_X11_feed (N : Nat) (a0 : (Option Nat)) (a1 : Int32) (a2 : Int32) (a3 : Int32) (a4 : Int32) (a5 : Int32) (H : xH) : Option (Int32 × xH) :=
  (xgI H a0 10 1).bind fun v1 =>
  (xgA H a0 10 0).bind fun v2 =>
  (xal .byte H v2).bind fun v3 =>
  if (v1 + (20 : Int32)) ≤ v3 then ((xob H a0 10).bind fun b6 =>
  (F_X11_putBytes N a0 a1 H).bind fun H5 =>
  (xob H5 a0 10).bind fun b8 =>
  (F_X11_putBytes N a0 a2 H5).bind fun H7 =>
  (xob H7 a0 10).bind fun b10 =>
  (F_X11_putBytes N a0 a3 H7).bind fun H9 =>
  (xob H9 a0 10).bind fun b12 =>
  (F_X11_putBytes N a0 a4 H9).bind fun H11 =>
  (xob H11 a0 10).bind fun b14 =>
  (F_X11_putBytes N a0 a5 H11).bind fun H13 =>
  (xgI H13 a0 10 1).bind fun v15 =>
  some (v15, H13)) else (some ((-1 : Int32), H))
set_option maxRecDepth 20000 in
set_option maxHeartbeats 4000000 in
theorem P_X11_feed {N : Nat} {Z : xZ} {rv : Int32} {Hf : xH} (hZ : Z = xZm cX11_feed yX11_feed 6 2 (some .int) (some (.int rv)) Hf) : ∀ (a0 : (Option Nat)) (a1 : Int32) (a2 : Int32) (a3 : Int32) (a4 : Int32) (a5 : Int32) (H : xH), F_X11_feed N a0 a1 a2 a3 a4 a5 H = some (rv, Hf) → xWq Z H 0 [xA a0, xI a1, xI a2, xI a3, xI a4, xI a5] [] := by
  have hz : Z.1 = (cX11_feed, yX11_feed, 6) := by rw [hZ]; rfl
  have hδ : Z.2.1 = 2 := by rw [hZ]; rfl
  intro a0 a1 a2 a3 a4 a5 H h
  unfold F_X11_feed at h
  refine x_aload_n hz dX11_feed_0 rfl ?_
  obtain ⟨v1, e_v1, h⟩ := x_bnd h
  refine x_getI hz dX11_feed_1 fs_X11_85 e_v1 ?_
  refine x_bipush (v := (20 : Int32)) hz dX11_feed_4 (by decide) ?_
  refine x_iadd hz dX11_feed_6 ?_
  refine x_aload_n hz dX11_feed_7 rfl ?_
  obtain ⟨v2, e_v2, h⟩ := x_bnd h
  refine x_getA hz dX11_feed_8 fs_X11_9 e_v2 ?_
  obtain ⟨v3, e_v3, h⟩ := x_bnd h
  refine x_alen (t0 := 2) (fun _ => rfl) hz dX11_feed_11 e_v3 ?_
  refine x_icmp_le (t := 17) hz dX11_feed_12 (by decide) (fun c4 => ?_) (fun c4 => ?_)
  · replace h := x_ip c4 h
    refine x_aload_n hz dX11_feed_17 rfl ?_
    refine x_iload_n hz dX11_feed_18 rfl ?_
    obtain ⟨b6, e_b6, h⟩ := x_bnd h
    obtain ⟨H5, e_H5, h⟩ := x_bnd h
    refine x_callVv (as := [.inl a1]) (st := []) cs_X11_88 (ci := 10) ⟨rfl, rfl⟩ rfl rfl hz (by omega) (by decide) dX11_feed_19 e_b6 (M_X11_putBytes e_H5) ?_
    refine x_aload_n hz dX11_feed_22 rfl ?_
    refine x_iload_n hz dX11_feed_23 rfl ?_
    obtain ⟨b8, e_b8, h⟩ := x_bnd h
    obtain ⟨H7, e_H7, h⟩ := x_bnd h
    refine x_callVv (as := [.inl a2]) (st := []) cs_X11_88 (ci := 10) ⟨rfl, rfl⟩ rfl rfl hz (by omega) (by decide) dX11_feed_24 e_b8 (M_X11_putBytes e_H7) ?_
    refine x_aload_n hz dX11_feed_27 rfl ?_
    refine x_iload_n hz dX11_feed_28 rfl ?_
    obtain ⟨b10, e_b10, h⟩ := x_bnd h
    obtain ⟨H9, e_H9, h⟩ := x_bnd h
    refine x_callVv (as := [.inl a3]) (st := []) cs_X11_88 (ci := 10) ⟨rfl, rfl⟩ rfl rfl hz (by omega) (by decide) dX11_feed_29 e_b10 (M_X11_putBytes e_H9) ?_
    refine x_aload_n hz dX11_feed_32 rfl ?_
    refine x_iload hz dX11_feed_33 rfl ?_
    obtain ⟨b12, e_b12, h⟩ := x_bnd h
    obtain ⟨H11, e_H11, h⟩ := x_bnd h
    refine x_callVv (as := [.inl a4]) (st := []) cs_X11_88 (ci := 10) ⟨rfl, rfl⟩ rfl rfl hz (by omega) (by decide) dX11_feed_35 e_b12 (M_X11_putBytes e_H11) ?_
    refine x_aload_n hz dX11_feed_38 rfl ?_
    refine x_iload hz dX11_feed_39 rfl ?_
    obtain ⟨b14, e_b14, h⟩ := x_bnd h
    obtain ⟨H13, e_H13, h⟩ := x_bnd h
    refine x_callVv (as := [.inl a5]) (st := []) cs_X11_88 (ci := 10) ⟨rfl, rfl⟩ rfl rfl hz (by omega) (by decide) dX11_feed_41 e_b14 (M_X11_putBytes e_H13) ?_
    refine x_aload_n hz dX11_feed_44 rfl ?_
    obtain ⟨v15, e_v15, h⟩ := x_bnd h
    refine x_getI hz dX11_feed_45 fs_X11_85 e_v15 ?_
    cases h
    exact x_iret hZ dX11_feed_48
  · replace h := x_in c4 h
    refine x_iconst (v := (-1 : Int32)) hz dX11_feed_15 (by decide) ?_
    cases h
    exact x_iret hZ dX11_feed_16
theorem M_X11_feed {N : Nat} {a0 : (Option Nat)} {a1 : Int32} {a2 : Int32} {a3 : Int32} {a4 : Int32} {a5 : Int32} {H H1 : xH} {r1 : Int32} (h : F_X11_feed N a0 a1 a2 a3 a4 a5 H = some (r1, H1)) : xM yX11_feed cX11_feed 6 (some .int) 2 [.inr (.inr a0), .inl a1, .inl a2, .inl a3, .inl a4, .inl a5] H (some (.int r1)) H1 :=
  xM_of (by decide +kernel) (xT_tb 363 (by decide +kernel) (by decide +kernel)) (by simp [xargs, x2]) rfl (P_X11_feed rfl a0 a1 a2 a3 a4 a5 H h)
/-! BettingBook.book(I)I -/
noncomputable def F_X11_book (N : Nat) (a0 : (Option Nat)) (a1 : Int32) (H : xH) : Option (Int32 × xH) :=
  if a1 < 0 then (some ((-2 : Int32), H)) else ((xgI H a0 10 1).bind fun v2 =>
  if a1 ≤ v2 then ((xpI H a0 10 1 (0 : Int32)).bind fun H4 =>
  x_lt (xno 2 13 xdf_2 H4) fun H5 =>
  (F_X2_init N (some H4.2.1) H5).bind fun H6 =>
  (xgA H6 a0 10 4).bind fun v7 =>
  (xgA H6 a0 10 0).bind fun v8 =>
  (xob H6 v7 8).bind fun b10 =>
  (F_X8_read N v7 v8 a1 H6).bind fun H9 =>
  x_lt (xno 7 2 xdf_7 H9) fun H11 =>
  (xgA H11 a0 10 4).bind fun v12 =>
  (F_X7_init N (some H9.2.1) v12 (some H4.2.1) H11).bind fun H13 =>
  (xob H13 (some H9.2.1) 7).bind fun b15 =>
  x_bd2 (F_X7_tellAll N (some H9.2.1) H13) fun v16 H14 =>
  if v16 = 0 then ((xgA H14 a0 10 4).bind fun v38 =>
  (xob H14 v38 8).bind fun b40 =>
  x_bd2 (F_X8_nextStart N v38 H14) fun v41 H39 =>
  (xpI H39 a0 10 2 v41).bind fun H42 =>
  some ((-1 : Int32), H42)) else ((xpI H14 a0 10 2 (-1 : Int32)).bind fun H18 =>
  (xgI H18 a0 10 3).bind fun v19 =>
  (xpI H18 a0 10 3 (v19 + (1 : Int32))).bind fun H20 =>
  (xpA H20 a0 10 5 (some H4.2.1)).bind fun H21 =>
  (xpI H21 a0 10 9 (0 : Int32)).bind fun H22 =>
  (xgA H22 a0 10 10).bind fun v23 =>
  (xob H22 v23 5).bind fun b25 =>
  (F_X5_clear N v23 H22).bind fun H24 =>
  (xgA H24 a0 10 7).bind fun v26 =>
  (xob H24 v26 4).bind fun b28 =>
  (F_X4_open N v26 (some H4.2.1) H24).bind fun H27 =>
  (xgA H27 a0 10 6).bind fun v29 =>
  (xob H27 v29 6).bind fun b31 =>
  (F_X6_fill N v29 (some H4.2.1) H27).bind fun H30 =>
  (xgA H30 a0 10 6).bind fun v32 =>
  (xgA H30 a0 10 7).bind fun v33 =>
  (xob H30 v32 6).bind fun b35 =>
  x_bd2 (F_X6_mark N v32 v33 H30) fun v36 H34 =>
  (xgI H34 (some H4.2.1) 2 2).bind fun v37 =>
  some (v37, H34))) else (some ((-2 : Int32), H)))
set_option maxRecDepth 20000 in
set_option maxHeartbeats 4000000 in
theorem P_X11_book {N : Nat} {Z : xZ} {rv : Int32} {Hf : xH} (hZ : Z = xZm cX11_book yX11_book 3 52 (some .int) (some (.int rv)) Hf) : ∀ (a0 : (Option Nat)) (a1 : Int32) (H : xH), F_X11_book N a0 a1 H = some (rv, Hf) → xWq Z H 0 [xA a0, xI a1, xN] [] := by
  have hz : Z.1 = (cX11_book, yX11_book, 3) := by rw [hZ]; rfl
  have hδ : Z.2.1 = 52 := by rw [hZ]; rfl
  intro a0 a1 H h
  unfold F_X11_book at h
  refine x_iload_n hz dX11_book_0 rfl ?_
  refine x_if_lt (t := 12) hz dX11_book_1 (by decide) (fun c1 => ?_) (fun c1 => ?_)
  · replace h := x_ip c1 h
    refine x_bipush (v := (-2 : Int32)) hz dX11_book_12 (by decide) ?_
    cases h
    exact x_iret hZ dX11_book_14
  · replace h := x_in c1 h
    refine x_iload_n hz dX11_book_4 rfl ?_
    refine x_aload_n hz dX11_book_5 rfl ?_
    obtain ⟨v2, e_v2, h⟩ := x_bnd h
    refine x_getI hz dX11_book_6 fs_X11_85 e_v2 ?_
    refine x_icmp_le (t := 15) hz dX11_book_9 (by decide) (fun c3 => ?_) (fun c3 => ?_)
    · replace h := x_ip c3 h
      refine x_aload_n hz dX11_book_15 rfl ?_
      refine x_iconst (v := (0 : Int32)) hz dX11_book_16 (by decide) ?_
      obtain ⟨H4, e_H4, h⟩ := x_bnd h
      refine x_putV (v := .int (0 : Int32)) hz dX11_book_17 fs_X11_85 rfl rfl e_H4 ?_
      obtain ⟨H5, e_H5, h⟩ := x_ltE h
      refine x_new hz dX11_book_20 ns_X11_24 ?_
      rw [e_H5]
      refine x_dup hz dX11_book_23 (x_rfc _) ?_
      obtain ⟨H6, e_H6, h⟩ := x_bnd h
      refine x_callIv (as := []) (st := [va_rf (some H4.2.1)]) cs_X11_26 rfl rfl rfl rfl hz (by omega) (Nat.le_trans (x_sm1 (x_rfc _) x_sm0) (by decide)) dX11_book_24 (M_X2_init e_H6) ?_
      refine x_astore_n (pl' := [xA a0, xI a1, xA (some H4.2.1)]) hz dX11_book_27 (by decide) rfl ?_
      refine x_aload_n hz dX11_book_28 rfl ?_
      obtain ⟨v7, e_v7, h⟩ := x_bnd h
      refine x_getA hz dX11_book_29 fs_X11_20 e_v7 ?_
      refine x_aload_n hz dX11_book_32 rfl ?_
      obtain ⟨v8, e_v8, h⟩ := x_bnd h
      refine x_getA hz dX11_book_33 fs_X11_9 e_v8 ?_
      refine x_iload_n hz dX11_book_36 rfl ?_
      obtain ⟨b10, e_b10, h⟩ := x_bnd h
      obtain ⟨H9, e_H9, h⟩ := x_bnd h
      refine x_callVv (as := [.inr (.inr v8), .inl a1]) (st := []) cs_X11_92 (ci := 8) ⟨rfl, rfl⟩ rfl rfl hz (by omega) (by decide) dX11_book_37 e_b10 (M_X8_read e_H9) ?_
      obtain ⟨H11, e_H11, h⟩ := x_ltE h
      refine x_new hz dX11_book_40 ns_X11_96 ?_
      rw [e_H11]
      refine x_dup hz dX11_book_43 (x_rfc _) ?_
      refine x_aload_n hz dX11_book_44 rfl ?_
      obtain ⟨v12, e_v12, h⟩ := x_bnd h
      refine x_getA hz dX11_book_45 fs_X11_20 e_v12 ?_
      refine x_aload_n hz dX11_book_48 rfl ?_
      obtain ⟨H13, e_H13, h⟩ := x_bnd h
      refine x_callIv (as := [.inr (.inr v12), .inr (.inr (some H4.2.1))]) (st := [va_rf (some H9.2.1)]) cs_X11_98 rfl rfl rfl rfl hz (by omega) (Nat.le_trans (x_sm1 (x_rfc _) x_sm0) (by decide)) dX11_book_49 (M_X7_init e_H13) ?_
      obtain ⟨b15, e_b15, h⟩ := x_bnd h
      obtain ⟨v16, H14, e_H14, h⟩ := x_b2 h
      refine x_callVi (as := []) (st := []) cs_X11_101 (ci := 7) ⟨rfl, rfl⟩ rfl rfl hz (by omega) (by decide) dX11_book_52 e_b15 (M_X7_tellAll e_H14) ?_
      refine x_if_ne (t := 71) hz dX11_book_55 (by decide) (fun c17 => ?_) (fun c17 => ?_)
      · replace h := x_in c17 h
        refine x_aload_n hz dX11_book_71 rfl ?_
        refine x_iconst (v := (-1 : Int32)) hz dX11_book_72 (by decide) ?_
        obtain ⟨H18, e_H18, h⟩ := x_bnd h
        refine x_putV (v := .int (-1 : Int32)) hz dX11_book_73 fs_X11_13 rfl rfl e_H18 ?_
        refine x_aload_n hz dX11_book_76 rfl ?_
        refine x_dup hz dX11_book_77 (x_rfc _) ?_
        obtain ⟨v19, e_v19, h⟩ := x_bnd h
        refine x_getI hz dX11_book_78 fs_X11_109 e_v19 ?_
        refine x_iconst (v := (1 : Int32)) hz dX11_book_81 (by decide) ?_
        refine x_iadd hz dX11_book_82 ?_
        obtain ⟨H20, e_H20, h⟩ := x_bnd h
        refine x_putV (v := .int (v19 + (1 : Int32))) hz dX11_book_83 fs_X11_109 rfl rfl e_H20 ?_
        refine x_aload_n hz dX11_book_86 rfl ?_
        refine x_aload_n hz dX11_book_87 rfl ?_
        obtain ⟨H21, e_H21, h⟩ := x_bnd h
        refine x_putV (v := va_rf (some H4.2.1)) hz dX11_book_88 fs_X11_27 (x_nro _ _) (x_fto _ _) e_H21 ?_
        refine x_aload_n hz dX11_book_91 rfl ?_
        refine x_iconst (v := (0 : Int32)) hz dX11_book_92 (by decide) ?_
        obtain ⟨H22, e_H22, h⟩ := x_bnd h
        refine x_putV (v := .int (0 : Int32)) hz dX11_book_93 fs_X11_112 rfl rfl e_H22 ?_
        refine x_aload_n hz dX11_book_96 rfl ?_
        obtain ⟨v23, e_v23, h⟩ := x_bnd h
        refine x_getA hz dX11_book_97 fs_X11_52 e_v23 ?_
        obtain ⟨b25, e_b25, h⟩ := x_bnd h
        obtain ⟨H24, e_H24, h⟩ := x_bnd h
        refine x_callVv (as := []) (st := []) cs_X11_115 (ci := 5) ⟨rfl, rfl⟩ rfl rfl hz (by omega) (by decide) dX11_book_100 e_b25 (M_X5_clear e_H24) ?_
        refine x_aload_n hz dX11_book_103 rfl ?_
        obtain ⟨v26, e_v26, h⟩ := x_bnd h
        refine x_getA hz dX11_book_104 fs_X11_41 e_v26 ?_
        refine x_aload_n hz dX11_book_107 rfl ?_
        obtain ⟨b28, e_b28, h⟩ := x_bnd h
        obtain ⟨H27, e_H27, h⟩ := x_bnd h
        refine x_callVv (as := [.inr (.inr (some H4.2.1))]) (st := []) cs_X11_118 (ci := 4) ⟨rfl, rfl⟩ rfl rfl hz (by omega) (by decide) dX11_book_108 e_b28 (M_X4_open e_H27) ?_
        refine x_aload_n hz dX11_book_111 rfl ?_
        obtain ⟨v29, e_v29, h⟩ := x_bnd h
        refine x_getA hz dX11_book_112 fs_X11_34 e_v29 ?_
        refine x_aload_n hz dX11_book_115 rfl ?_
        obtain ⟨b31, e_b31, h⟩ := x_bnd h
        obtain ⟨H30, e_H30, h⟩ := x_bnd h
        refine x_callVv (as := [.inr (.inr (some H4.2.1))]) (st := []) cs_X11_77 (ci := 6) ⟨rfl, rfl⟩ rfl rfl hz (by omega) (by decide) dX11_book_116 e_b31 (M_X6_fill e_H30) ?_
        refine x_aload_n hz dX11_book_119 rfl ?_
        obtain ⟨v32, e_v32, h⟩ := x_bnd h
        refine x_getA hz dX11_book_120 fs_X11_34 e_v32 ?_
        refine x_aload_n hz dX11_book_123 rfl ?_
        obtain ⟨v33, e_v33, h⟩ := x_bnd h
        refine x_getA hz dX11_book_124 fs_X11_41 e_v33 ?_
        obtain ⟨b35, e_b35, h⟩ := x_bnd h
        obtain ⟨v36, H34, e_H34, h⟩ := x_b2 h
        refine x_callVi (as := [.inr (.inr v33)]) (st := []) cs_X11_81 (ci := 6) ⟨rfl, rfl⟩ rfl rfl hz (by omega) (by decide) dX11_book_127 e_b35 (M_X6_mark e_H34) ?_
        refine x_pop hz dX11_book_130 rfl ?_
        refine x_aload_n hz dX11_book_131 rfl ?_
        obtain ⟨v37, e_v37, h⟩ := x_bnd h
        refine x_getI hz dX11_book_132 fs_X11_121 e_v37 ?_
        cases h
        exact x_iret hZ dX11_book_135
      · replace h := x_ip c17 h
        refine x_aload_n hz dX11_book_58 rfl ?_
        refine x_aload_n hz dX11_book_59 rfl ?_
        obtain ⟨v38, e_v38, h⟩ := x_bnd h
        refine x_getA hz dX11_book_60 fs_X11_20 e_v38 ?_
        obtain ⟨b40, e_b40, h⟩ := x_bnd h
        obtain ⟨v41, H39, e_H39, h⟩ := x_b2 h
        refine x_callVi (as := []) (st := [va_rf a0]) cs_X11_105 (ci := 8) ⟨rfl, rfl⟩ rfl rfl hz (by omega) (Nat.le_trans (x_sm1 (x_rfc _) x_sm0) (by decide)) dX11_book_63 e_b40 (M_X8_nextStart e_H39) ?_
        obtain ⟨H42, e_H42, h⟩ := x_bnd h
        refine x_putV (v := .int v41) hz dX11_book_66 fs_X11_13 rfl rfl e_H42 ?_
        refine x_iconst (v := (-1 : Int32)) hz dX11_book_69 (by decide) ?_
        cases h
        exact x_iret hZ dX11_book_70
    · replace h := x_in c3 h
      refine x_bipush (v := (-2 : Int32)) hz dX11_book_12 (by decide) ?_
      cases h
      exact x_iret hZ dX11_book_14
theorem M_X11_book {N : Nat} {a0 : (Option Nat)} {a1 : Int32} {H H1 : xH} {r1 : Int32} (h : F_X11_book N a0 a1 H = some (r1, H1)) : xM yX11_book cX11_book 3 (some .int) 52 [.inr (.inr a0), .inl a1] H (some (.int r1)) H1 :=
  xM_of (by decide +kernel) (xT_tb 371 (by decide +kernel) (by decide +kernel)) (by simp [xargs, x2]) rfl (P_X11_book rfl a0 a1 H h)
/-! BettingBook.fault()I -/
noncomputable def F_X11_fault (N : Nat) (a0 : (Option Nat)) (H : xH) : Option (Int32 × xH) :=
  (xgI H a0 10 2).bind fun v1 =>
  some (v1, H)
set_option maxRecDepth 20000 in
set_option maxHeartbeats 4000000 in
theorem P_X11_fault {N : Nat} {Z : xZ} {rv : Int32} {Hf : xH} (hZ : Z = xZm cX11_fault yX11_fault 1 1 (some .int) (some (.int rv)) Hf) : ∀ (a0 : (Option Nat)) (H : xH), F_X11_fault N a0 H = some (rv, Hf) → xWq Z H 0 [xA a0] [] := by
  have hz : Z.1 = (cX11_fault, yX11_fault, 1) := by rw [hZ]; rfl
  have hδ : Z.2.1 = 1 := by rw [hZ]; rfl
  intro a0 H h
  unfold F_X11_fault at h
  refine x_aload_n hz dX11_fault_0 rfl ?_
  obtain ⟨v1, e_v1, h⟩ := x_bnd h
  refine x_getI hz dX11_fault_1 fs_X11_13 e_v1 ?_
  cases h
  exact x_iret hZ dX11_fault_4
theorem M_X11_fault {N : Nat} {a0 : (Option Nat)} {H H1 : xH} {r1 : Int32} (h : F_X11_fault N a0 H = some (r1, H1)) : xM yX11_fault cX11_fault 1 (some .int) 1 [.inr (.inr a0)] H (some (.int r1)) H1 :=
  xM_of (by decide +kernel) (xT_tb 627 (by decide +kernel) (by decide +kernel)) (by simp [xargs, x2]) rfl (P_X11_fault rfl a0 H h)
/-! BettingBook.told(I)I -/
noncomputable def F_X11_told_J80 (N : Nat) (x0 : (Option Nat)) (x1 : Int32) (s0 : Int32) (H : xH) : Option (Int32 × xH) :=
  (xgA H x0 10 5).bind fun v1 =>
  (xob H v1 2).bind fun b3 =>
  x_bd2 (F_X2_hasThing N v1 s0 H) fun v4 H2 =>
  if v4 = 0 then (some ((-1 : Int32), H2)) else (if (x1 - x1 / (2 : Int32) * (2 : Int32)) = 0 then ((xgA H2 x0 10 5).bind fun v11 =>
  (xgA H2 v11 2 6).bind fun v12 =>
  x_bd2 (F_X11_at N v12 s0 H2) fun v14 H13 =>
  some (v14, H13)) else ((xgA H2 x0 10 5).bind fun v7 =>
  (xgA H2 v7 2 7).bind fun v8 =>
  x_bd2 (F_X11_at N v8 s0 H2) fun v10 H9 =>
  some (v10, H9)))
set_option maxRecDepth 20000 in
set_option maxHeartbeats 4000000 in
theorem P_X11_told_J80 {N : Nat} {Z : xZ} {rv : Int32} {Hf : xH} (hZ : Z = xZm cX11_told yX11_told 3 2 (some .int) (some (.int rv)) Hf) : ∀ (x0 : (Option Nat)) (x1 : Int32) (s0 : Int32) (H : xH), F_X11_told_J80 N x0 x1 s0 H = some (rv, Hf) → xWq Z H 80 [xA x0, xI x1, xN] [.int s0] := by
  have hz : Z.1 = (cX11_told, yX11_told, 3) := by rw [hZ]; rfl
  have hδ : Z.2.1 = 2 := by rw [hZ]; rfl
  intro x0 x1 s0 H h
  unfold F_X11_told_J80 at h
  refine x_istore_n (pl' := [xA x0, xI x1, xI s0]) hz dX11_told_80 (by decide) rfl ?_
  refine x_aload_n hz dX11_told_81 rfl ?_
  obtain ⟨v1, e_v1, h⟩ := x_bnd h
  refine x_getA hz dX11_told_82 fs_X11_27 e_v1 ?_
  refine x_iload_n hz dX11_told_85 rfl ?_
  obtain ⟨b3, e_b3, h⟩ := x_bnd h
  obtain ⟨v4, H2, e_H2, h⟩ := x_b2 h
  refine x_callVi (as := [.inl s0]) (st := []) cs_X11_133 (ci := 2) ⟨rfl, rfl⟩ rfl rfl hz (by omega) (by decide) dX11_told_86 e_b3 (M_X2_hasThing e_H2) ?_
  refine x_if_ne (t := 94) hz dX11_told_89 (by decide) (fun c5 => ?_) (fun c5 => ?_)
  · replace h := x_in c5 h
    refine x_iload_n hz dX11_told_94 rfl ?_
    refine x_iconst (v := (2 : Int32)) hz dX11_told_95 (by decide) ?_
    refine x_irem hz dX11_told_96 (by decide) ?_
    refine x_if_ne (t := 114) hz dX11_told_97 (by decide) (fun c6 => ?_) (fun c6 => ?_)
    · replace h := x_in c6 h
      refine x_aload_n hz dX11_told_114 rfl ?_
      obtain ⟨v7, e_v7, h⟩ := x_bnd h
      refine x_getA hz dX11_told_115 fs_X11_27 e_v7 ?_
      obtain ⟨v8, e_v8, h⟩ := x_bnd h
      refine x_getA hz dX11_told_118 fs_X11_144 e_v8 ?_
      refine x_iload_n hz dX11_told_121 rfl ?_
      obtain ⟨v10, H9, e_H9, h⟩ := x_b2 h
      refine x_callSi (as := [.inr (.inr v8), .inl s0]) (st := []) cs_X11_140 rfl rfl hz (by omega) (by decide) dX11_told_122 (M_X11_at e_H9) ?_
      cases h
      exact x_iret hZ dX11_told_125
    · replace h := x_ip c6 h
      refine x_aload_n hz dX11_told_100 rfl ?_
      obtain ⟨v11, e_v11, h⟩ := x_bnd h
      refine x_getA hz dX11_told_101 fs_X11_27 e_v11 ?_
      obtain ⟨v12, e_v12, h⟩ := x_bnd h
      refine x_getA hz dX11_told_104 fs_X11_137 e_v12 ?_
      refine x_iload_n hz dX11_told_107 rfl ?_
      obtain ⟨v14, H13, e_H13, h⟩ := x_b2 h
      refine x_callSi (as := [.inr (.inr v12), .inl s0]) (st := []) cs_X11_140 rfl rfl hz (by omega) (by decide) dX11_told_108 (M_X11_at e_H13) ?_
      refine x_goto (t := 125) hz dX11_told_111 (by decide) ?_
      cases h
      exact x_iret hZ dX11_told_125
  · replace h := x_ip c5 h
    refine x_iconst (v := (-1 : Int32)) hz dX11_told_92 (by decide) ?_
    cases h
    exact x_iret hZ dX11_told_93
noncomputable def F_X11_told (N : Nat) (a0 : (Option Nat)) (a1 : Int32) (H : xH) : Option (Int32 × xH) :=
  if a1 = 0 then ((xgA H a0 10 5).bind fun v2 =>
  (xgI H v2 2 0).bind fun v3 =>
  some (v3, H)) else (if a1 = 1 then ((xgA H a0 10 5).bind fun v5 =>
  (xgI H v5 2 1).bind fun v6 =>
  some (v6, H)) else (if a1 = 2 then ((xgA H a0 10 5).bind fun v8 =>
  (xgI H v8 2 2).bind fun v9 =>
  some (v9, H)) else (if a1 = 3 then ((xgA H a0 10 5).bind fun v11 =>
  (xgI H v11 2 4).bind fun v12 =>
  some (v12, H)) else (if a1 < (100 : Int32) then ((F_X11_told_J80 N) a0 a1 (-1 : Int32) H) else ((F_X11_told_J80 N) a0 a1 ((a1 - (100 : Int32)) / (2 : Int32)) H)))))
set_option maxRecDepth 20000 in
set_option maxHeartbeats 4000000 in
theorem P_X11_told {N : Nat} {Z : xZ} {rv : Int32} {Hf : xH} (hZ : Z = xZm cX11_told yX11_told 3 2 (some .int) (some (.int rv)) Hf) : ∀ (a0 : (Option Nat)) (a1 : Int32) (H : xH), F_X11_told N a0 a1 H = some (rv, Hf) → xWq Z H 0 [xA a0, xI a1, xN] [] := by
  have hz : Z.1 = (cX11_told, yX11_told, 3) := by rw [hZ]; rfl
  have hδ : Z.2.1 = 2 := by rw [hZ]; rfl
  intro a0 a1 H h
  unfold F_X11_told at h
  refine x_iload_n hz dX11_told_0 rfl ?_
  by_cases c1 : a1 = 0
  · replace h := x_ip c1 h
    refine x_tsIn (t := 32) (off := 31) hz dX11_told_1 (by rw [c1]; decide) (by rw [c1]; decide) (by rw [c1]; decide) (by decide) ?_
    refine x_aload_n hz dX11_told_32 rfl ?_
    obtain ⟨v2, e_v2, h⟩ := x_bnd h
    refine x_getA hz dX11_told_33 fs_X11_27 e_v2 ?_
    obtain ⟨v3, e_v3, h⟩ := x_bnd h
    refine x_getI hz dX11_told_36 fs_X11_124 e_v3 ?_
    cases h
    exact x_iret hZ dX11_told_39
  replace h := x_in c1 h
  by_cases c4 : a1 = 1
  · replace h := x_ip c4 h
    refine x_tsIn (t := 40) (off := 39) hz dX11_told_1 (by rw [c4]; decide) (by rw [c4]; decide) (by rw [c4]; decide) (by decide) ?_
    refine x_aload_n hz dX11_told_40 rfl ?_
    obtain ⟨v5, e_v5, h⟩ := x_bnd h
    refine x_getA hz dX11_told_41 fs_X11_27 e_v5 ?_
    obtain ⟨v6, e_v6, h⟩ := x_bnd h
    refine x_getI hz dX11_told_44 fs_X11_127 e_v6 ?_
    cases h
    exact x_iret hZ dX11_told_47
  replace h := x_in c4 h
  by_cases c7 : a1 = 2
  · replace h := x_ip c7 h
    refine x_tsIn (t := 48) (off := 47) hz dX11_told_1 (by rw [c7]; decide) (by rw [c7]; decide) (by rw [c7]; decide) (by decide) ?_
    refine x_aload_n hz dX11_told_48 rfl ?_
    obtain ⟨v8, e_v8, h⟩ := x_bnd h
    refine x_getA hz dX11_told_49 fs_X11_27 e_v8 ?_
    obtain ⟨v9, e_v9, h⟩ := x_bnd h
    refine x_getI hz dX11_told_52 fs_X11_121 e_v9 ?_
    cases h
    exact x_iret hZ dX11_told_55
  replace h := x_in c7 h
  by_cases c10 : a1 = 3
  · replace h := x_ip c10 h
    refine x_tsIn (t := 56) (off := 55) hz dX11_told_1 (by rw [c10]; decide) (by rw [c10]; decide) (by rw [c10]; decide) (by decide) ?_
    refine x_aload_n hz dX11_told_56 rfl ?_
    obtain ⟨v11, e_v11, h⟩ := x_bnd h
    refine x_getA hz dX11_told_57 fs_X11_27 e_v11 ?_
    obtain ⟨v12, e_v12, h⟩ := x_bnd h
    refine x_getI hz dX11_told_60 fs_X11_130 e_v12 ?_
    cases h
    exact x_iret hZ dX11_told_63
  replace h := x_in c10 h
  refine x_tsOut (t := 64) hz dX11_told_1 (x_tsN a1 (0) (3) (by decide) (by decide) (fun i h1 h2 => ?_)) (by decide) ?_
  · (have h3 : i = 0 ∨ i = 1 ∨ i = 2 ∨ i = 3 := by omega); rcases h3 with rfl | rfl | rfl | rfl <;> intro e <;> first | exact c1 (Int32.toInt_inj.mp (e.trans rfl)) | exact c4 (Int32.toInt_inj.mp (e.trans rfl)) | exact c7 (Int32.toInt_inj.mp (e.trans rfl)) | exact c10 (Int32.toInt_inj.mp (e.trans rfl))
  refine x_iload_n hz dX11_told_64 rfl ?_
  refine x_bipush (v := (100 : Int32)) hz dX11_told_65 (by decide) ?_
  refine x_icmp_lt (t := 79) hz dX11_told_67 (by decide) (fun c13 => ?_) (fun c13 => ?_)
  · replace h := x_ip c13 h
    refine x_iconst (v := (-1 : Int32)) hz dX11_told_79 (by decide) ?_
    exact x_wk (xwk_c (xwk_c (xwk_n xwk_0))) ((P_X11_told_J80 hZ) a0 a1 (-1 : Int32) H h)
  · replace h := x_in c13 h
    refine x_iload_n hz dX11_told_70 rfl ?_
    refine x_bipush (v := (100 : Int32)) hz dX11_told_71 (by decide) ?_
    refine x_isub hz dX11_told_73 ?_
    refine x_iconst (v := (2 : Int32)) hz dX11_told_74 (by decide) ?_
    refine x_idiv hz dX11_told_75 (by decide) ?_
    refine x_goto (t := 80) hz dX11_told_76 (by decide) ?_
    exact x_wk (xwk_c (xwk_c (xwk_n xwk_0))) ((P_X11_told_J80 hZ) a0 a1 ((a1 - (100 : Int32)) / (2 : Int32)) H h)
theorem M_X11_told {N : Nat} {a0 : (Option Nat)} {a1 : Int32} {H H1 : xH} {r1 : Int32} (h : F_X11_told N a0 a1 H = some (r1, H1)) : xM yX11_told cX11_told 3 (some .int) 2 [.inr (.inr a0), .inl a1] H (some (.int r1)) H1 :=
  xM_of (by decide +kernel) (xT_tb 631 (by decide +kernel) (by decide +kernel)) (by simp [xargs, x2]) rfl (P_X11_told rfl a0 a1 H h)
/-! BettingBook.wager(II)I -/
noncomputable def F_X11_wager_J56 (N : Nat) (x0 : (Option Nat)) (x1 : Int32) (x2 : Int32) (H : xH) : Option (Int32 × xH) :=
  (xgA H x0 10 7).bind fun v1 =>
  (xob H v1 4).bind fun b3 =>
  x_bd2 (F_X4_holder N v1 x1 x2 H) fun v4 H2 =>
  some (v4, H2)
set_option maxRecDepth 20000 in
set_option maxHeartbeats 4000000 in
theorem P_X11_wager_J56 {N : Nat} {Z : xZ} {rv : Int32} {Hf : xH} (hZ : Z = xZm cX11_wager yX11_wager 4 3 (some .int) (some (.int rv)) Hf) : ∀ (x0 : (Option Nat)) (x1 : Int32) (x2 : Int32) (H : xH), F_X11_wager_J56 N x0 x1 x2 H = some (rv, Hf) → xWq Z H 56 [xA x0, xI x1, xI x2, xN] [] := by
  have hz : Z.1 = (cX11_wager, yX11_wager, 4) := by rw [hZ]; rfl
  have hδ : Z.2.1 = 3 := by rw [hZ]; rfl
  intro x0 x1 x2 H h
  unfold F_X11_wager_J56 at h
  refine x_aload_n hz dX11_wager_56 rfl ?_
  obtain ⟨v1, e_v1, h⟩ := x_bnd h
  refine x_getA hz dX11_wager_57 fs_X11_41 e_v1 ?_
  refine x_iload_n hz dX11_wager_60 rfl ?_
  refine x_iload_n hz dX11_wager_61 rfl ?_
  obtain ⟨b3, e_b3, h⟩ := x_bnd h
  obtain ⟨v4, H2, e_H2, h⟩ := x_b2 h
  refine x_callVi (as := [.inl x1, .inl x2]) (st := []) cs_X11_151 (ci := 4) ⟨rfl, rfl⟩ rfl rfl hz (by omega) (by decide) dX11_wager_62 e_b3 (M_X4_holder e_H2) ?_
  cases h
  exact x_iret hZ dX11_wager_65
noncomputable def F_X11_wager_J66 (N : Nat) (x2 : Int32) (x3 : (Option Nat)) (H : xH) : Option (Int32 × xH) :=
  (xob H x3 0).bind fun b2 =>
  x_bd2 (F_X0_stake N x3 (x2 - (2 : Int32)) H) fun v3 H1 =>
  some (v3, H1)
set_option maxRecDepth 20000 in
set_option maxHeartbeats 4000000 in
theorem P_X11_wager_J66 {N : Nat} {Z : xZ} {rv : Int32} {Hf : xH} (hZ : Z = xZm cX11_wager yX11_wager 4 3 (some .int) (some (.int rv)) Hf) : ∀ (x2 : Int32) (x3 : (Option Nat)) (H : xH), F_X11_wager_J66 N x2 x3 H = some (rv, Hf) → xWq Z H 66 [xN, xN, xI x2, xA x3] [] := by
  have hz : Z.1 = (cX11_wager, yX11_wager, 4) := by rw [hZ]; rfl
  have hδ : Z.2.1 = 3 := by rw [hZ]; rfl
  intro x2 x3 H h
  unfold F_X11_wager_J66 at h
  refine x_aload_n hz dX11_wager_66 rfl ?_
  refine x_iload_n hz dX11_wager_67 rfl ?_
  refine x_iconst (v := (2 : Int32)) hz dX11_wager_68 (by decide) ?_
  refine x_isub hz dX11_wager_69 ?_
  obtain ⟨b2, e_b2, h⟩ := x_bnd h
  obtain ⟨v3, H1, e_H1, h⟩ := x_b2 h
  refine x_callVi (as := [.inl (x2 - (2 : Int32))]) (st := []) cs_X11_155 (ci := 0) ⟨rfl, rfl⟩ rfl rfl hz (by omega) (by decide) dX11_wager_70 e_b2 (M_X0_stake e_H1) ?_
  cases h
  exact x_iret hZ dX11_wager_73
noncomputable def F_X11_wager (N : Nat) (a0 : (Option Nat)) (a1 : Int32) (a2 : Int32) (H : xH) : Option (Int32 × xH) :=
  (xgA H a0 10 5).bind fun v1 =>
  (xob H v1 2).bind fun b3 =>
  x_bd2 (F_X2_betAt N v1 a1 H) fun v4 H2 =>
  if v4 = none then (some ((-1 : Int32), H2)) else (if a2 = 0 then ((F_X11_wager_J56 N) a0 a1 a2 H2) else (if a2 = 1 then ((F_X11_wager_J56 N) a0 a1 a2 H2) else (if a2 = 2 then ((F_X11_wager_J66 N) a2 v4 H2) else (if a2 = 3 then ((F_X11_wager_J66 N) a2 v4 H2) else (if a2 = 4 then ((xgA H2 v4 0 5).bind fun v11 =>
  if v11 = none then (some ((0 : Int32), H2)) else (some ((1 : Int32), H2))) else (if a2 = 5 then ((xgA H2 v4 0 6).bind fun v14 =>
  if v14 = none then (some ((0 : Int32), H2)) else (some ((1 : Int32), H2))) else (some ((-1 : Int32), H2))))))))
set_option maxRecDepth 20000 in
set_option maxHeartbeats 4000000 in
theorem P_X11_wager {N : Nat} {Z : xZ} {rv : Int32} {Hf : xH} (hZ : Z = xZm cX11_wager yX11_wager 4 3 (some .int) (some (.int rv)) Hf) : ∀ (a0 : (Option Nat)) (a1 : Int32) (a2 : Int32) (H : xH), F_X11_wager N a0 a1 a2 H = some (rv, Hf) → xWq Z H 0 [xA a0, xI a1, xI a2, xN] [] := by
  have hz : Z.1 = (cX11_wager, yX11_wager, 4) := by rw [hZ]; rfl
  have hδ : Z.2.1 = 3 := by rw [hZ]; rfl
  intro a0 a1 a2 H h
  unfold F_X11_wager at h
  refine x_aload_n hz dX11_wager_0 rfl ?_
  obtain ⟨v1, e_v1, h⟩ := x_bnd h
  refine x_getA hz dX11_wager_1 fs_X11_27 e_v1 ?_
  refine x_iload_n hz dX11_wager_4 rfl ?_
  obtain ⟨b3, e_b3, h⟩ := x_bnd h
  obtain ⟨v4, H2, e_H2, h⟩ := x_b2 h
  refine x_callVa (as := [.inl a1]) (st := []) cs_X11_147 (ci := 2) ⟨rfl, rfl⟩ rfl rfl hz (by omega) (by decide) dX11_wager_5 e_b3 (M_X2_betAt e_H2) ?_
  refine x_astore_n (pl' := [xA a0, xI a1, xI a2, xA v4]) hz dX11_wager_8 (by decide) rfl ?_
  refine x_aload_n hz dX11_wager_9 rfl ?_
  refine x_ifnonnull (t := 15) hz dX11_wager_10 (by decide) (fun c5 => ?_) (fun c5 => ?_)
  · replace h := x_in c5 h
    refine x_iload_n hz dX11_wager_15 rfl ?_
    by_cases c6 : a2 = 0
    · replace h := x_ip c6 h
      refine x_tsIn (t := 56) (off := 40) hz dX11_wager_16 (by rw [c6]; decide) (by rw [c6]; decide) (by rw [c6]; decide) (by decide) ?_
      exact x_wk (xwk_c (xwk_c (xwk_c (xwk_n xwk_0)))) ((P_X11_wager_J56 hZ) a0 a1 a2 H2 h)
    replace h := x_in c6 h
    by_cases c7 : a2 = 1
    · replace h := x_ip c7 h
      refine x_tsIn (t := 56) (off := 40) hz dX11_wager_16 (by rw [c7]; decide) (by rw [c7]; decide) (by rw [c7]; decide) (by decide) ?_
      exact x_wk (xwk_c (xwk_c (xwk_c (xwk_n xwk_0)))) ((P_X11_wager_J56 hZ) a0 a1 a2 H2 h)
    replace h := x_in c7 h
    by_cases c8 : a2 = 2
    · replace h := x_ip c8 h
      refine x_tsIn (t := 66) (off := 50) hz dX11_wager_16 (by rw [c8]; decide) (by rw [c8]; decide) (by rw [c8]; decide) (by decide) ?_
      exact x_wk (xwk_n (xwk_n (xwk_c (xwk_c xwk_0)))) ((P_X11_wager_J66 hZ) a2 v4 H2 h)
    replace h := x_in c8 h
    by_cases c9 : a2 = 3
    · replace h := x_ip c9 h
      refine x_tsIn (t := 66) (off := 50) hz dX11_wager_16 (by rw [c9]; decide) (by rw [c9]; decide) (by rw [c9]; decide) (by decide) ?_
      exact x_wk (xwk_n (xwk_n (xwk_c (xwk_c xwk_0)))) ((P_X11_wager_J66 hZ) a2 v4 H2 h)
    replace h := x_in c9 h
    by_cases c10 : a2 = 4
    · replace h := x_ip c10 h
      refine x_tsIn (t := 74) (off := 58) hz dX11_wager_16 (by rw [c10]; decide) (by rw [c10]; decide) (by rw [c10]; decide) (by decide) ?_
      refine x_aload_n hz dX11_wager_74 rfl ?_
      obtain ⟨v11, e_v11, h⟩ := x_bnd h
      refine x_getA hz dX11_wager_75 fs_X11_161 e_v11 ?_
      refine x_ifnonnull (t := 85) hz dX11_wager_78 (by decide) (fun c12 => ?_) (fun c12 => ?_)
      · replace h := x_in c12 h
        refine x_iconst (v := (1 : Int32)) hz dX11_wager_85 (by decide) ?_
        cases h
        exact x_iret hZ dX11_wager_86
      · replace h := x_ip c12 h
        refine x_iconst (v := (0 : Int32)) hz dX11_wager_81 (by decide) ?_
        refine x_goto (t := 86) hz dX11_wager_82 (by decide) ?_
        cases h
        exact x_iret hZ dX11_wager_86
    replace h := x_in c10 h
    by_cases c13 : a2 = 5
    · replace h := x_ip c13 h
      refine x_tsIn (t := 87) (off := 71) hz dX11_wager_16 (by rw [c13]; decide) (by rw [c13]; decide) (by rw [c13]; decide) (by decide) ?_
      refine x_aload_n hz dX11_wager_87 rfl ?_
      obtain ⟨v14, e_v14, h⟩ := x_bnd h
      refine x_getA hz dX11_wager_88 fs_X11_165 e_v14 ?_
      refine x_ifnonnull (t := 98) hz dX11_wager_91 (by decide) (fun c15 => ?_) (fun c15 => ?_)
      · replace h := x_in c15 h
        refine x_iconst (v := (1 : Int32)) hz dX11_wager_98 (by decide) ?_
        cases h
        exact x_iret hZ dX11_wager_99
      · replace h := x_ip c15 h
        refine x_iconst (v := (0 : Int32)) hz dX11_wager_94 (by decide) ?_
        refine x_goto (t := 99) hz dX11_wager_95 (by decide) ?_
        cases h
        exact x_iret hZ dX11_wager_99
    replace h := x_in c13 h
    refine x_tsOut (t := 100) hz dX11_wager_16 (x_tsN a2 (0) (5) (by decide) (by decide) (fun i h1 h2 => ?_)) (by decide) ?_
    · (have h3 : i = 0 ∨ i = 1 ∨ i = 2 ∨ i = 3 ∨ i = 4 ∨ i = 5 := by omega); rcases h3 with rfl | rfl | rfl | rfl | rfl | rfl <;> intro e <;> first | exact c6 (Int32.toInt_inj.mp (e.trans rfl)) | exact c7 (Int32.toInt_inj.mp (e.trans rfl)) | exact c8 (Int32.toInt_inj.mp (e.trans rfl)) | exact c9 (Int32.toInt_inj.mp (e.trans rfl)) | exact c10 (Int32.toInt_inj.mp (e.trans rfl)) | exact c13 (Int32.toInt_inj.mp (e.trans rfl))
    refine x_iconst (v := (-1 : Int32)) hz dX11_wager_100 (by decide) ?_
    cases h
    exact x_iret hZ dX11_wager_101
  · replace h := x_ip c5 h
    refine x_iconst (v := (-1 : Int32)) hz dX11_wager_13 (by decide) ?_
    cases h
    exact x_iret hZ dX11_wager_14
theorem M_X11_wager {N : Nat} {a0 : (Option Nat)} {a1 : Int32} {a2 : Int32} {H H1 : xH} {r1 : Int32} (h : F_X11_wager N a0 a1 a2 H = some (r1, H1)) : xM yX11_wager cX11_wager 4 (some .int) 3 [.inr (.inr a0), .inl a1, .inl a2] H (some (.int r1)) H1 :=
  xM_of (by decide +kernel) (xT_tb 640 (by decide +kernel) (by decide +kernel)) (by simp [xargs, x2]) rfl (P_X11_wager rfl a0 a1 a2 H h)
/-! BettingBook.day(I)I -/
noncomputable def F_X11_day (N : Nat) (a0 : (Option Nat)) (a1 : Int32) (H : xH) : Option (Int32 × xH) :=
  (xgA H a0 10 7).bind fun v1 =>
  (xgI H v1 4 0).bind fun v2 =>
  if a1 ≤ v2 then (some ((-1 : Int32), H)) else (if a1 ≤ (7 : Int32) then ((xgA H a0 10 7).bind fun v5 =>
  (xgI H v5 4 0).bind fun v6 =>
  (xgA H a0 10 7).bind fun v7 =>
  (xpI H v7 4 0 a1).bind fun H8 =>
  (xgA H8 a0 10 6).bind fun v9 =>
  (xgA H8 a0 10 7).bind fun v10 =>
  (xob H8 v9 6).bind fun b12 =>
  x_bd2 (F_X6_mark N v9 v10 H8) fun v13 H11 =>
  if v13 ≤ 0 then ((xgA H11 a0 10 7).bind fun v15 =>
  (xpI H11 v15 4 0 v6).bind fun H16 =>
  (xgA H16 a0 10 6).bind fun v17 =>
  (xgA H16 a0 10 7).bind fun v18 =>
  (xob H16 v17 6).bind fun b20 =>
  x_bd2 (F_X6_mark N v17 v18 H16) fun v21 H19 =>
  some ((-1 : Int32), H19)) else ((xgA H11 a0 10 6).bind fun v22 =>
  (xgI H11 v22 6 3).bind fun v23 =>
  some (v23, H11))) else (some ((-1 : Int32), H)))
set_option maxRecDepth 20000 in
set_option maxHeartbeats 4000000 in
theorem P_X11_day {N : Nat} {Z : xZ} {rv : Int32} {Hf : xH} (hZ : Z = xZm cX11_day yX11_day 3 4 (some .int) (some (.int rv)) Hf) : ∀ (a0 : (Option Nat)) (a1 : Int32) (H : xH), F_X11_day N a0 a1 H = some (rv, Hf) → xWq Z H 0 [xA a0, xI a1, xN] [] := by
  have hz : Z.1 = (cX11_day, yX11_day, 3) := by rw [hZ]; rfl
  have hδ : Z.2.1 = 4 := by rw [hZ]; rfl
  intro a0 a1 H h
  unfold F_X11_day at h
  refine x_iload_n hz dX11_day_0 rfl ?_
  refine x_aload_n hz dX11_day_1 rfl ?_
  obtain ⟨v1, e_v1, h⟩ := x_bnd h
  refine x_getA hz dX11_day_2 fs_X11_41 e_v1 ?_
  obtain ⟨v2, e_v2, h⟩ := x_bnd h
  refine x_getI hz dX11_day_5 fs_X11_168 e_v2 ?_
  refine x_icmp_le (t := 17) hz dX11_day_8 (by decide) (fun c3 => ?_) (fun c3 => ?_)
  · replace h := x_ip c3 h
    refine x_iconst (v := (-1 : Int32)) hz dX11_day_17 (by decide) ?_
    cases h
    exact x_iret hZ dX11_day_18
  · replace h := x_in c3 h
    refine x_iload_n hz dX11_day_11 rfl ?_
    refine x_bipush (v := (7 : Int32)) hz dX11_day_12 (by decide) ?_
    refine x_icmp_le (t := 19) hz dX11_day_14 (by decide) (fun c4 => ?_) (fun c4 => ?_)
    · replace h := x_ip c4 h
      refine x_aload_n hz dX11_day_19 rfl ?_
      obtain ⟨v5, e_v5, h⟩ := x_bnd h
      refine x_getA hz dX11_day_20 fs_X11_41 e_v5 ?_
      obtain ⟨v6, e_v6, h⟩ := x_bnd h
      refine x_getI hz dX11_day_23 fs_X11_168 e_v6 ?_
      refine x_istore_n (pl' := [xA a0, xI a1, xI v6]) hz dX11_day_26 (by decide) rfl ?_
      refine x_aload_n hz dX11_day_27 rfl ?_
      obtain ⟨v7, e_v7, h⟩ := x_bnd h
      refine x_getA hz dX11_day_28 fs_X11_41 e_v7 ?_
      refine x_iload_n hz dX11_day_31 rfl ?_
      obtain ⟨H8, e_H8, h⟩ := x_bnd h
      refine x_putV (v := .int a1) hz dX11_day_32 fs_X11_168 rfl rfl e_H8 ?_
      refine x_aload_n hz dX11_day_35 rfl ?_
      obtain ⟨v9, e_v9, h⟩ := x_bnd h
      refine x_getA hz dX11_day_36 fs_X11_34 e_v9 ?_
      refine x_aload_n hz dX11_day_39 rfl ?_
      obtain ⟨v10, e_v10, h⟩ := x_bnd h
      refine x_getA hz dX11_day_40 fs_X11_41 e_v10 ?_
      obtain ⟨b12, e_b12, h⟩ := x_bnd h
      obtain ⟨v13, H11, e_H11, h⟩ := x_b2 h
      refine x_callVi (as := [.inr (.inr v10)]) (st := []) cs_X11_81 (ci := 6) ⟨rfl, rfl⟩ rfl rfl hz (by omega) (by decide) dX11_day_43 e_b12 (M_X6_mark e_H11) ?_
      refine x_if_le (t := 57) hz dX11_day_46 (by decide) (fun c14 => ?_) (fun c14 => ?_)
      · replace h := x_ip c14 h
        refine x_aload_n hz dX11_day_57 rfl ?_
        obtain ⟨v15, e_v15, h⟩ := x_bnd h
        refine x_getA hz dX11_day_58 fs_X11_41 e_v15 ?_
        refine x_iload_n hz dX11_day_61 rfl ?_
        obtain ⟨H16, e_H16, h⟩ := x_bnd h
        refine x_putV (v := .int v6) hz dX11_day_62 fs_X11_168 rfl rfl e_H16 ?_
        refine x_aload_n hz dX11_day_65 rfl ?_
        obtain ⟨v17, e_v17, h⟩ := x_bnd h
        refine x_getA hz dX11_day_66 fs_X11_34 e_v17 ?_
        refine x_aload_n hz dX11_day_69 rfl ?_
        obtain ⟨v18, e_v18, h⟩ := x_bnd h
        refine x_getA hz dX11_day_70 fs_X11_41 e_v18 ?_
        obtain ⟨b20, e_b20, h⟩ := x_bnd h
        obtain ⟨v21, H19, e_H19, h⟩ := x_b2 h
        refine x_callVi (as := [.inr (.inr v18)]) (st := []) cs_X11_81 (ci := 6) ⟨rfl, rfl⟩ rfl rfl hz (by omega) (by decide) dX11_day_73 e_b20 (M_X6_mark e_H19) ?_
        refine x_pop hz dX11_day_76 rfl ?_
        refine x_iconst (v := (-1 : Int32)) hz dX11_day_77 (by decide) ?_
        cases h
        exact x_iret hZ dX11_day_78
      · replace h := x_in c14 h
        refine x_aload_n hz dX11_day_49 rfl ?_
        obtain ⟨v22, e_v22, h⟩ := x_bnd h
        refine x_getA hz dX11_day_50 fs_X11_34 e_v22 ?_
        obtain ⟨v23, e_v23, h⟩ := x_bnd h
        refine x_getI hz dX11_day_53 fs_X11_171 e_v23 ?_
        cases h
        exact x_iret hZ dX11_day_56
    · replace h := x_in c4 h
      refine x_iconst (v := (-1 : Int32)) hz dX11_day_17 (by decide) ?_
      cases h
      exact x_iret hZ dX11_day_18
theorem M_X11_day {N : Nat} {a0 : (Option Nat)} {a1 : Int32} {H H1 : xH} {r1 : Int32} (h : F_X11_day N a0 a1 H = some (r1, H1)) : xM yX11_day cX11_day 3 (some .int) 4 [.inr (.inr a0), .inl a1] H (some (.int r1)) H1 :=
  xM_of (by decide +kernel) (xT_tb 653 (by decide +kernel) (by decide +kernel)) (by simp [xargs, x2]) rfl (P_X11_day rfl a0 a1 H h)
/-! BettingBook.come(I)I -/
noncomputable def F_X11_come (N : Nat) (a0 : (Option Nat)) (a1 : Int32) (H : xH) : Option (Int32 × xH) :=
  (xgA H a0 10 5).bind fun v1 =>
  (xob H v1 2).bind fun b3 =>
  x_bd2 (F_X2_hasThing N v1 a1 H) fun v4 H2 =>
  if v4 = 0 then (some ((-1 : Int32), H2)) else ((xgA H2 a0 10 7).bind fun v6 =>
  (xgA H2 v6 4 2).bind fun v7 =>
  x_bd2 (F_X11_at N v7 a1 H2) fun v9 H8 =>
  if v9 = 0 then ((xgA H8 a0 10 7).bind fun v11 =>
  (xgA H8 v11 4 2).bind fun v12 =>
  (xgA H8 a0 10 7).bind fun v13 =>
  (xgI H8 v13 4 0).bind fun v14 =>
  (F_X11_set N v12 a1 (v14 + (1 : Int32)) H8).bind fun H15 =>
  (xgA H15 a0 10 6).bind fun v16 =>
  (xgA H15 a0 10 7).bind fun v17 =>
  (xob H15 v16 6).bind fun b19 =>
  x_bd2 (F_X6_mark N v16 v17 H15) fun v20 H18 =>
  if v20 ≤ 0 then ((xgA H18 a0 10 7).bind fun v22 =>
  (xgA H18 v22 4 2).bind fun v23 =>
  (F_X11_set N v23 a1 (0 : Int32) H18).bind fun H24 =>
  (xgA H24 a0 10 6).bind fun v25 =>
  (xgA H24 a0 10 7).bind fun v26 =>
  (xob H24 v25 6).bind fun b28 =>
  x_bd2 (F_X6_mark N v25 v26 H24) fun v29 H27 =>
  some ((-1 : Int32), H27)) else ((xgA H18 a0 10 6).bind fun v30 =>
  (xgI H18 v30 6 3).bind fun v31 =>
  some (v31, H18))) else (some ((-1 : Int32), H8)))
set_option maxRecDepth 20000 in
set_option maxHeartbeats 4000000 in
theorem P_X11_come {N : Nat} {Z : xZ} {rv : Int32} {Hf : xH} (hZ : Z = xZm cX11_come yX11_come 2 4 (some .int) (some (.int rv)) Hf) : ∀ (a0 : (Option Nat)) (a1 : Int32) (H : xH), F_X11_come N a0 a1 H = some (rv, Hf) → xWq Z H 0 [xA a0, xI a1] [] := by
  have hz : Z.1 = (cX11_come, yX11_come, 2) := by rw [hZ]; rfl
  have hδ : Z.2.1 = 4 := by rw [hZ]; rfl
  intro a0 a1 H h
  unfold F_X11_come at h
  refine x_aload_n hz dX11_come_0 rfl ?_
  obtain ⟨v1, e_v1, h⟩ := x_bnd h
  refine x_getA hz dX11_come_1 fs_X11_27 e_v1 ?_
  refine x_iload_n hz dX11_come_4 rfl ?_
  obtain ⟨b3, e_b3, h⟩ := x_bnd h
  obtain ⟨v4, H2, e_H2, h⟩ := x_b2 h
  refine x_callVi (as := [.inl a1]) (st := []) cs_X11_133 (ci := 2) ⟨rfl, rfl⟩ rfl rfl hz (by omega) (by decide) dX11_come_5 e_b3 (M_X2_hasThing e_H2) ?_
  refine x_if_eq (t := 25) hz dX11_come_8 (by decide) (fun c5 => ?_) (fun c5 => ?_)
  · replace h := x_ip c5 h
    refine x_iconst (v := (-1 : Int32)) hz dX11_come_25 (by decide) ?_
    cases h
    exact x_iret hZ dX11_come_26
  · replace h := x_in c5 h
    refine x_aload_n hz dX11_come_11 rfl ?_
    obtain ⟨v6, e_v6, h⟩ := x_bnd h
    refine x_getA hz dX11_come_12 fs_X11_41 e_v6 ?_
    obtain ⟨v7, e_v7, h⟩ := x_bnd h
    refine x_getA hz dX11_come_15 fs_X11_174 e_v7 ?_
    refine x_iload_n hz dX11_come_18 rfl ?_
    obtain ⟨v9, H8, e_H8, h⟩ := x_b2 h
    refine x_callSi (as := [.inr (.inr v7), .inl a1]) (st := []) cs_X11_140 rfl rfl hz (by omega) (by decide) dX11_come_19 (M_X11_at e_H8) ?_
    refine x_if_eq (t := 27) hz dX11_come_22 (by decide) (fun c10 => ?_) (fun c10 => ?_)
    · replace h := x_ip c10 h
      refine x_aload_n hz dX11_come_27 rfl ?_
      obtain ⟨v11, e_v11, h⟩ := x_bnd h
      refine x_getA hz dX11_come_28 fs_X11_41 e_v11 ?_
      obtain ⟨v12, e_v12, h⟩ := x_bnd h
      refine x_getA hz dX11_come_31 fs_X11_174 e_v12 ?_
      refine x_iload_n hz dX11_come_34 rfl ?_
      refine x_aload_n hz dX11_come_35 rfl ?_
      obtain ⟨v13, e_v13, h⟩ := x_bnd h
      refine x_getA hz dX11_come_36 fs_X11_41 e_v13 ?_
      obtain ⟨v14, e_v14, h⟩ := x_bnd h
      refine x_getI hz dX11_come_39 fs_X11_168 e_v14 ?_
      refine x_iconst (v := (1 : Int32)) hz dX11_come_42 (by decide) ?_
      refine x_iadd hz dX11_come_43 ?_
      obtain ⟨H15, e_H15, h⟩ := x_bnd h
      refine x_callSv (as := [.inr (.inr v12), .inl a1, .inl (v14 + (1 : Int32))]) (st := []) cs_X11_177 rfl rfl hz (by omega) (by decide) dX11_come_44 (M_X11_set e_H15) ?_
      refine x_aload_n hz dX11_come_47 rfl ?_
      obtain ⟨v16, e_v16, h⟩ := x_bnd h
      refine x_getA hz dX11_come_48 fs_X11_34 e_v16 ?_
      refine x_aload_n hz dX11_come_51 rfl ?_
      obtain ⟨v17, e_v17, h⟩ := x_bnd h
      refine x_getA hz dX11_come_52 fs_X11_41 e_v17 ?_
      obtain ⟨b19, e_b19, h⟩ := x_bnd h
      obtain ⟨v20, H18, e_H18, h⟩ := x_b2 h
      refine x_callVi (as := [.inr (.inr v17)]) (st := []) cs_X11_81 (ci := 6) ⟨rfl, rfl⟩ rfl rfl hz (by omega) (by decide) dX11_come_55 e_b19 (M_X6_mark e_H18) ?_
      refine x_if_le (t := 69) hz dX11_come_58 (by decide) (fun c21 => ?_) (fun c21 => ?_)
      · replace h := x_ip c21 h
        refine x_aload_n hz dX11_come_69 rfl ?_
        obtain ⟨v22, e_v22, h⟩ := x_bnd h
        refine x_getA hz dX11_come_70 fs_X11_41 e_v22 ?_
        obtain ⟨v23, e_v23, h⟩ := x_bnd h
        refine x_getA hz dX11_come_73 fs_X11_174 e_v23 ?_
        refine x_iload_n hz dX11_come_76 rfl ?_
        refine x_iconst (v := (0 : Int32)) hz dX11_come_77 (by decide) ?_
        obtain ⟨H24, e_H24, h⟩ := x_bnd h
        refine x_callSv (as := [.inr (.inr v23), .inl a1, .inl (0 : Int32)]) (st := []) cs_X11_177 rfl rfl hz (by omega) (by decide) dX11_come_78 (M_X11_set e_H24) ?_
        refine x_aload_n hz dX11_come_81 rfl ?_
        obtain ⟨v25, e_v25, h⟩ := x_bnd h
        refine x_getA hz dX11_come_82 fs_X11_34 e_v25 ?_
        refine x_aload_n hz dX11_come_85 rfl ?_
        obtain ⟨v26, e_v26, h⟩ := x_bnd h
        refine x_getA hz dX11_come_86 fs_X11_41 e_v26 ?_
        obtain ⟨b28, e_b28, h⟩ := x_bnd h
        obtain ⟨v29, H27, e_H27, h⟩ := x_b2 h
        refine x_callVi (as := [.inr (.inr v26)]) (st := []) cs_X11_81 (ci := 6) ⟨rfl, rfl⟩ rfl rfl hz (by omega) (by decide) dX11_come_89 e_b28 (M_X6_mark e_H27) ?_
        refine x_pop hz dX11_come_92 rfl ?_
        refine x_iconst (v := (-1 : Int32)) hz dX11_come_93 (by decide) ?_
        cases h
        exact x_iret hZ dX11_come_94
      · replace h := x_in c21 h
        refine x_aload_n hz dX11_come_61 rfl ?_
        obtain ⟨v30, e_v30, h⟩ := x_bnd h
        refine x_getA hz dX11_come_62 fs_X11_34 e_v30 ?_
        obtain ⟨v31, e_v31, h⟩ := x_bnd h
        refine x_getI hz dX11_come_65 fs_X11_171 e_v31 ?_
        cases h
        exact x_iret hZ dX11_come_68
    · replace h := x_in c10 h
      refine x_iconst (v := (-1 : Int32)) hz dX11_come_25 (by decide) ?_
      cases h
      exact x_iret hZ dX11_come_26
theorem M_X11_come {N : Nat} {a0 : (Option Nat)} {a1 : Int32} {H H1 : xH} {r1 : Int32} (h : F_X11_come N a0 a1 H = some (r1, H1)) : xM yX11_come cX11_come 2 (some .int) 4 [.inr (.inr a0), .inl a1] H (some (.int r1)) H1 :=
  xM_of (by decide +kernel) (xT_tb 657 (by decide +kernel) (by decide +kernel)) (by simp [xargs, x2]) rfl (P_X11_come rfl a0 a1 H h)
/-! BettingBook.chance(III)Z -/
noncomputable def F_X11_chance_J37 (N : Nat) (x0 : (Option Nat)) (x1 : Int32) (x2 : Int32) (x3 : Int32) (s0 : Int32) (H : xH) : Option (Int32 × xH) :=
  if s0 = 0 then (if s0 = 0 ∨ s0 = 1 then some (s0, H) else none) else ((xgA H x0 10 10).bind fun v3 =>
  (xob H v3 5).bind fun b5 =>
  (F_X5_setParts N v3 x1 (x2 + (1 : Int32)) x3 H).bind fun H4 =>
  if s0 = 0 ∨ s0 = 1 then some (s0, H4) else none)
set_option maxRecDepth 20000 in
set_option maxHeartbeats 4000000 in
theorem P_X11_chance_J37 {N : Nat} {Z : xZ} {rv : Int32} {Hf : xH} (hZ : Z = xZm cX11_chance yX11_chance 5 3 (some .boolean) (some (.int rv)) Hf) : ∀ (x0 : (Option Nat)) (x1 : Int32) (x2 : Int32) (x3 : Int32) (s0 : Int32) (H : xH), F_X11_chance_J37 N x0 x1 x2 x3 s0 H = some (rv, Hf) → xWq Z H 37 [xA x0, xI x1, xI x2, xI x3, xN] [.int s0] := by
  have hz : Z.1 = (cX11_chance, yX11_chance, 5) := by rw [hZ]; rfl
  have hδ : Z.2.1 = 3 := by rw [hZ]; rfl
  intro x0 x1 x2 x3 s0 H h
  unfold F_X11_chance_J37 at h
  refine x_istore (pl' := [xA x0, xI x1, xI x2, xI x3, xI s0]) hz dX11_chance_37 (by decide) rfl ?_
  refine x_iload hz dX11_chance_39 rfl ?_
  refine x_if_eq (t := 56) hz dX11_chance_41 (by decide) (fun c1 => ?_) (fun c1 => ?_)
  · replace h := x_ip c1 h
    refine x_iload hz dX11_chance_56 rfl ?_
    obtain ⟨c2, h⟩ := x_inv h
    cases h
    exact x_zret01 hZ c2 dX11_chance_58
  · replace h := x_in c1 h
    refine x_aload_n hz dX11_chance_44 rfl ?_
    obtain ⟨v3, e_v3, h⟩ := x_bnd h
    refine x_getA hz dX11_chance_45 fs_X11_52 e_v3 ?_
    refine x_iload_n hz dX11_chance_48 rfl ?_
    refine x_iload_n hz dX11_chance_49 rfl ?_
    refine x_iconst (v := (1 : Int32)) hz dX11_chance_50 (by decide) ?_
    refine x_iadd hz dX11_chance_51 ?_
    refine x_iload_n hz dX11_chance_52 rfl ?_
    obtain ⟨b5, e_b5, h⟩ := x_bnd h
    obtain ⟨H4, e_H4, h⟩ := x_bnd h
    refine x_callVv (as := [.inl x1, .inl (x2 + (1 : Int32)), .inl x3]) (st := []) cs_X11_181 (ci := 5) ⟨rfl, rfl⟩ rfl rfl hz (by omega) (by decide) dX11_chance_53 e_b5 (M_X5_setParts e_H4) ?_
    refine x_iload hz dX11_chance_56 rfl ?_
    obtain ⟨c6, h⟩ := x_inv h
    cases h
    exact x_zret01 hZ c6 dX11_chance_58
noncomputable def F_X11_chance_J36 (N : Nat) (x0 : (Option Nat)) (x1 : Int32) (x2 : Int32) (x3 : Int32) (H : xH) : Option (Int32 × xH) :=
  (F_X11_chance_J37 N) x0 x1 x2 x3 (0 : Int32) H
set_option maxRecDepth 20000 in
set_option maxHeartbeats 4000000 in
theorem P_X11_chance_J36 {N : Nat} {Z : xZ} {rv : Int32} {Hf : xH} (hZ : Z = xZm cX11_chance yX11_chance 5 3 (some .boolean) (some (.int rv)) Hf) : ∀ (x0 : (Option Nat)) (x1 : Int32) (x2 : Int32) (x3 : Int32) (H : xH), F_X11_chance_J36 N x0 x1 x2 x3 H = some (rv, Hf) → xWq Z H 36 [xA x0, xI x1, xI x2, xI x3, xN] [] := by
  have hz : Z.1 = (cX11_chance, yX11_chance, 5) := by rw [hZ]; rfl
  have hδ : Z.2.1 = 3 := by rw [hZ]; rfl
  intro x0 x1 x2 x3 H h
  unfold F_X11_chance_J36 at h
  refine x_iconst (v := (0 : Int32)) hz dX11_chance_36 (by decide) ?_
  exact x_wk (xwk_c (xwk_c (xwk_c (xwk_c (xwk_n xwk_0))))) ((P_X11_chance_J37 hZ) x0 x1 x2 x3 (0 : Int32) H h)
noncomputable def F_X11_chance (N : Nat) (a0 : (Option Nat)) (a1 : Int32) (a2 : Int32) (a3 : Int32) (H : xH) : Option (Int32 × xH) :=
  (xgA H a0 10 5).bind fun v1 =>
  (xob H v1 2).bind fun b3 =>
  x_bd2 (F_X2_hasThing N v1 a1 H) fun v4 H2 =>
  if v4 = 0 then ((F_X11_chance_J36 N) a0 a1 a2 a3 H2) else (if a2 < (-1 : Int32) then ((F_X11_chance_J36 N) a0 a1 a2 a3 H2) else (if (7 : Int32) < a2 then ((F_X11_chance_J36 N) a0 a1 a2 a3 H2) else (if a3 < 0 then ((F_X11_chance_J36 N) a0 a1 a2 a3 H2) else (if (100 : Int32) < a3 then ((F_X11_chance_J36 N) a0 a1 a2 a3 H2) else ((F_X11_chance_J37 N) a0 a1 a2 a3 (1 : Int32) H2)))))
set_option maxRecDepth 20000 in
set_option maxHeartbeats 4000000 in
theorem P_X11_chance {N : Nat} {Z : xZ} {rv : Int32} {Hf : xH} (hZ : Z = xZm cX11_chance yX11_chance 5 3 (some .boolean) (some (.int rv)) Hf) : ∀ (a0 : (Option Nat)) (a1 : Int32) (a2 : Int32) (a3 : Int32) (H : xH), F_X11_chance N a0 a1 a2 a3 H = some (rv, Hf) → xWq Z H 0 [xA a0, xI a1, xI a2, xI a3, xN] [] := by
  have hz : Z.1 = (cX11_chance, yX11_chance, 5) := by rw [hZ]; rfl
  have hδ : Z.2.1 = 3 := by rw [hZ]; rfl
  intro a0 a1 a2 a3 H h
  unfold F_X11_chance at h
  refine x_aload_n hz dX11_chance_0 rfl ?_
  obtain ⟨v1, e_v1, h⟩ := x_bnd h
  refine x_getA hz dX11_chance_1 fs_X11_27 e_v1 ?_
  refine x_iload_n hz dX11_chance_4 rfl ?_
  obtain ⟨b3, e_b3, h⟩ := x_bnd h
  obtain ⟨v4, H2, e_H2, h⟩ := x_b2 h
  refine x_callVi (as := [.inl a1]) (st := []) cs_X11_133 (ci := 2) ⟨rfl, rfl⟩ rfl rfl hz (by omega) (by decide) dX11_chance_5 e_b3 (M_X2_hasThing e_H2) ?_
  refine x_if_eq (t := 36) hz dX11_chance_8 (by decide) (fun c5 => ?_) (fun c5 => ?_)
  · replace h := x_ip c5 h
    exact x_wk (xwk_c (xwk_c (xwk_c (xwk_c (xwk_n xwk_0))))) ((P_X11_chance_J36 hZ) a0 a1 a2 a3 H2 h)
  · replace h := x_in c5 h
    refine x_iload_n hz dX11_chance_11 rfl ?_
    refine x_iconst (v := (-1 : Int32)) hz dX11_chance_12 (by decide) ?_
    refine x_icmp_lt (t := 36) hz dX11_chance_13 (by decide) (fun c6 => ?_) (fun c6 => ?_)
    · replace h := x_ip c6 h
      exact x_wk (xwk_c (xwk_c (xwk_c (xwk_c (xwk_n xwk_0))))) ((P_X11_chance_J36 hZ) a0 a1 a2 a3 H2 h)
    · replace h := x_in c6 h
      refine x_iload_n hz dX11_chance_16 rfl ?_
      refine x_bipush (v := (7 : Int32)) hz dX11_chance_17 (by decide) ?_
      refine x_icmp_gt (t := 36) hz dX11_chance_19 (by decide) (fun c7 => ?_) (fun c7 => ?_)
      · replace h := x_ip c7 h
        exact x_wk (xwk_c (xwk_c (xwk_c (xwk_c (xwk_n xwk_0))))) ((P_X11_chance_J36 hZ) a0 a1 a2 a3 H2 h)
      · replace h := x_in c7 h
        refine x_iload_n hz dX11_chance_22 rfl ?_
        refine x_if_lt (t := 36) hz dX11_chance_23 (by decide) (fun c8 => ?_) (fun c8 => ?_)
        · replace h := x_ip c8 h
          exact x_wk (xwk_c (xwk_c (xwk_c (xwk_c (xwk_n xwk_0))))) ((P_X11_chance_J36 hZ) a0 a1 a2 a3 H2 h)
        · replace h := x_in c8 h
          refine x_iload_n hz dX11_chance_26 rfl ?_
          refine x_bipush (v := (100 : Int32)) hz dX11_chance_27 (by decide) ?_
          refine x_icmp_gt (t := 36) hz dX11_chance_29 (by decide) (fun c9 => ?_) (fun c9 => ?_)
          · replace h := x_ip c9 h
            exact x_wk (xwk_c (xwk_c (xwk_c (xwk_c (xwk_n xwk_0))))) ((P_X11_chance_J36 hZ) a0 a1 a2 a3 H2 h)
          · replace h := x_in c9 h
            refine x_iconst (v := (1 : Int32)) hz dX11_chance_32 (by decide) ?_
            refine x_goto (t := 37) hz dX11_chance_33 (by decide) ?_
            exact x_wk (xwk_c (xwk_c (xwk_c (xwk_c (xwk_n xwk_0))))) ((P_X11_chance_J37 hZ) a0 a1 a2 a3 (1 : Int32) H2 h)
theorem M_X11_chance {N : Nat} {a0 : (Option Nat)} {a1 : Int32} {a2 : Int32} {a3 : Int32} {H H1 : xH} {r1 : Int32} (h : F_X11_chance N a0 a1 a2 a3 H = some (r1, H1)) : xM yX11_chance cX11_chance 5 (some .boolean) 3 [.inr (.inr a0), .inl a1, .inl a2, .inl a3] H (some (.int r1)) H1 :=
  xM_of (by decide +kernel) (xT_tb 662 (by decide +kernel) (by decide +kernel)) (by simp [xargs, x2]) rfl (P_X11_chance rfl a0 a1 a2 a3 H h)
/-! BettingBook.sell(IIII)Z -/
noncomputable def F_X11_sell (N : Nat) (a0 : (Option Nat)) (a1 : Int32) (a2 : Int32) (a3 : Int32) (a4 : Int32) (H : xH) : Option (Int32 × xH) :=
  (xgA H a0 10 5).bind fun v1 =>
  (xob H v1 2).bind fun b3 =>
  x_bd2 (F_X2_betAt N v1 a1 H) fun v4 H2 =>
  if v4 = none then (some ((0 : Int32), H2)) else (if a2 < 0 then (some ((0 : Int32), H2)) else (if (1 : Int32) < a2 then (some ((0 : Int32), H2)) else ((xgA H2 a0 10 5).bind fun v8 =>
  (xob H2 v8 2).bind fun b10 =>
  x_bd2 (F_X2_hasMember N v8 a3 H2) fun v11 H9 =>
  if v11 = 0 then (some ((0 : Int32), H9)) else (if a4 < 0 then (some ((0 : Int32), H9)) else (if a4 ≤ (9999 : Int32) then ((xgA H9 a0 10 7).bind fun v15 =>
  (xob H9 v15 4).bind fun b17 =>
  x_bd2 (F_X4_holder N v15 a1 a2 H9) fun v18 H16 =>
  if v18 = a3 then (some ((0 : Int32), H16)) else ((xgA H16 a0 10 6).bind fun v20 =>
  (xob H16 v20 6).bind fun b22 =>
  x_bd2 (F_X6_isSure N v20 a1 H16) fun v23 H21 =>
  if v23 = 0 then ((xgA H21 a0 10 7).bind fun v25 =>
  (xob H21 v25 4).bind fun b27 =>
  (F_X4_sellSide N v25 a1 a2 a3 a4 H21).bind fun H26 =>
  some ((1 : Int32), H26)) else (some ((0 : Int32), H21)))) else (some ((0 : Int32), H9)))))))
set_option maxRecDepth 20000 in
set_option maxHeartbeats 4000000 in
theorem P_X11_sell {N : Nat} {Z : xZ} {rv : Int32} {Hf : xH} (hZ : Z = xZm cX11_sell yX11_sell 6 4 (some .boolean) (some (.int rv)) Hf) : ∀ (a0 : (Option Nat)) (a1 : Int32) (a2 : Int32) (a3 : Int32) (a4 : Int32) (H : xH), F_X11_sell N a0 a1 a2 a3 a4 H = some (rv, Hf) → xWq Z H 0 [xA a0, xI a1, xI a2, xI a3, xI a4, xN] [] := by
  have hz : Z.1 = (cX11_sell, yX11_sell, 6) := by rw [hZ]; rfl
  have hδ : Z.2.1 = 4 := by rw [hZ]; rfl
  intro a0 a1 a2 a3 a4 H h
  unfold F_X11_sell at h
  refine x_aload_n hz dX11_sell_0 rfl ?_
  obtain ⟨v1, e_v1, h⟩ := x_bnd h
  refine x_getA hz dX11_sell_1 fs_X11_27 e_v1 ?_
  refine x_iload_n hz dX11_sell_4 rfl ?_
  obtain ⟨b3, e_b3, h⟩ := x_bnd h
  obtain ⟨v4, H2, e_H2, h⟩ := x_b2 h
  refine x_callVa (as := [.inl a1]) (st := []) cs_X11_147 (ci := 2) ⟨rfl, rfl⟩ rfl rfl hz (by omega) (by decide) dX11_sell_5 e_b3 (M_X2_betAt e_H2) ?_
  refine x_ifnull (t := 44) hz dX11_sell_8 (by decide) (fun c5 => ?_) (fun c5 => ?_)
  · replace h := x_ip c5 h
    refine x_iconst (v := (0 : Int32)) hz dX11_sell_44 (by decide) ?_
    cases h
    exact x_zret01 hZ (Or.inl rfl) dX11_sell_45
  · replace h := x_in c5 h
    refine x_iload_n hz dX11_sell_11 rfl ?_
    refine x_if_lt (t := 44) hz dX11_sell_12 (by decide) (fun c6 => ?_) (fun c6 => ?_)
    · replace h := x_ip c6 h
      refine x_iconst (v := (0 : Int32)) hz dX11_sell_44 (by decide) ?_
      cases h
      exact x_zret01 hZ (Or.inl rfl) dX11_sell_45
    · replace h := x_in c6 h
      refine x_iload_n hz dX11_sell_15 rfl ?_
      refine x_iconst (v := (1 : Int32)) hz dX11_sell_16 (by decide) ?_
      refine x_icmp_gt (t := 44) hz dX11_sell_17 (by decide) (fun c7 => ?_) (fun c7 => ?_)
      · replace h := x_ip c7 h
        refine x_iconst (v := (0 : Int32)) hz dX11_sell_44 (by decide) ?_
        cases h
        exact x_zret01 hZ (Or.inl rfl) dX11_sell_45
      · replace h := x_in c7 h
        refine x_aload_n hz dX11_sell_20 rfl ?_
        obtain ⟨v8, e_v8, h⟩ := x_bnd h
        refine x_getA hz dX11_sell_21 fs_X11_27 e_v8 ?_
        refine x_iload_n hz dX11_sell_24 rfl ?_
        obtain ⟨b10, e_b10, h⟩ := x_bnd h
        obtain ⟨v11, H9, e_H9, h⟩ := x_b2 h
        refine x_callVi (as := [.inl a3]) (st := []) cs_X11_185 (ci := 2) ⟨rfl, rfl⟩ rfl rfl hz (by omega) (by decide) dX11_sell_25 e_b10 (M_X2_hasMember e_H9) ?_
        refine x_if_eq (t := 44) hz dX11_sell_28 (by decide) (fun c12 => ?_) (fun c12 => ?_)
        · replace h := x_ip c12 h
          refine x_iconst (v := (0 : Int32)) hz dX11_sell_44 (by decide) ?_
          cases h
          exact x_zret01 hZ (Or.inl rfl) dX11_sell_45
        · replace h := x_in c12 h
          refine x_iload hz dX11_sell_31 rfl ?_
          refine x_if_lt (t := 44) hz dX11_sell_33 (by decide) (fun c13 => ?_) (fun c13 => ?_)
          · replace h := x_ip c13 h
            refine x_iconst (v := (0 : Int32)) hz dX11_sell_44 (by decide) ?_
            cases h
            exact x_zret01 hZ (Or.inl rfl) dX11_sell_45
          · replace h := x_in c13 h
            refine x_iload hz dX11_sell_36 rfl ?_
            refine x_sipush (v := (9999 : Int32)) hz dX11_sell_38 (by decide) ?_
            refine x_icmp_le (t := 46) hz dX11_sell_41 (by decide) (fun c14 => ?_) (fun c14 => ?_)
            · replace h := x_ip c14 h
              refine x_aload_n hz dX11_sell_46 rfl ?_
              obtain ⟨v15, e_v15, h⟩ := x_bnd h
              refine x_getA hz dX11_sell_47 fs_X11_41 e_v15 ?_
              refine x_iload_n hz dX11_sell_50 rfl ?_
              refine x_iload_n hz dX11_sell_51 rfl ?_
              obtain ⟨b17, e_b17, h⟩ := x_bnd h
              obtain ⟨v18, H16, e_H16, h⟩ := x_b2 h
              refine x_callVi (as := [.inl a1, .inl a2]) (st := []) cs_X11_151 (ci := 4) ⟨rfl, rfl⟩ rfl rfl hz (by omega) (by decide) dX11_sell_52 e_b17 (M_X4_holder e_H16) ?_
              refine x_istore (pl' := [xA a0, xI a1, xI a2, xI a3, xI a4, xI v18]) hz dX11_sell_55 (by decide) rfl ?_
              refine x_iload hz dX11_sell_57 rfl ?_
              refine x_iload_n hz dX11_sell_59 rfl ?_
              refine x_icmp_eq (t := 74) hz dX11_sell_60 (by decide) (fun c19 => ?_) (fun c19 => ?_)
              · replace h := x_ip c19 h
                refine x_iconst (v := (0 : Int32)) hz dX11_sell_74 (by decide) ?_
                cases h
                exact x_zret01 hZ (Or.inl rfl) dX11_sell_75
              · replace h := x_in c19 h
                refine x_aload_n hz dX11_sell_63 rfl ?_
                obtain ⟨v20, e_v20, h⟩ := x_bnd h
                refine x_getA hz dX11_sell_64 fs_X11_34 e_v20 ?_
                refine x_iload_n hz dX11_sell_67 rfl ?_
                obtain ⟨b22, e_b22, h⟩ := x_bnd h
                obtain ⟨v23, H21, e_H21, h⟩ := x_b2 h
                refine x_callVi (as := [.inl a1]) (st := []) cs_X11_188 (ci := 6) ⟨rfl, rfl⟩ rfl rfl hz (by omega) (by decide) dX11_sell_68 e_b22 (M_X6_isSure e_H21) ?_
                refine x_if_eq (t := 76) hz dX11_sell_71 (by decide) (fun c24 => ?_) (fun c24 => ?_)
                · replace h := x_ip c24 h
                  refine x_aload_n hz dX11_sell_76 rfl ?_
                  obtain ⟨v25, e_v25, h⟩ := x_bnd h
                  refine x_getA hz dX11_sell_77 fs_X11_41 e_v25 ?_
                  refine x_iload_n hz dX11_sell_80 rfl ?_
                  refine x_iload_n hz dX11_sell_81 rfl ?_
                  refine x_iload_n hz dX11_sell_82 rfl ?_
                  refine x_iload hz dX11_sell_83 rfl ?_
                  obtain ⟨b27, e_b27, h⟩ := x_bnd h
                  obtain ⟨H26, e_H26, h⟩ := x_bnd h
                  refine x_callVv (as := [.inl a1, .inl a2, .inl a3, .inl a4]) (st := []) cs_X11_191 (ci := 4) ⟨rfl, rfl⟩ rfl rfl hz (by omega) (by decide) dX11_sell_85 e_b27 (M_X4_sellSide e_H26) ?_
                  refine x_iconst (v := (1 : Int32)) hz dX11_sell_88 (by decide) ?_
                  cases h
                  exact x_zret01 hZ (Or.inr rfl) dX11_sell_89
                · replace h := x_in c24 h
                  refine x_iconst (v := (0 : Int32)) hz dX11_sell_74 (by decide) ?_
                  cases h
                  exact x_zret01 hZ (Or.inl rfl) dX11_sell_75
            · replace h := x_in c14 h
              refine x_iconst (v := (0 : Int32)) hz dX11_sell_44 (by decide) ?_
              cases h
              exact x_zret01 hZ (Or.inl rfl) dX11_sell_45
theorem M_X11_sell {N : Nat} {a0 : (Option Nat)} {a1 : Int32} {a2 : Int32} {a3 : Int32} {a4 : Int32} {H H1 : xH} {r1 : Int32} (h : F_X11_sell N a0 a1 a2 a3 a4 H = some (r1, H1)) : xM yX11_sell cX11_sell 6 (some .boolean) 4 [.inr (.inr a0), .inl a1, .inl a2, .inl a3, .inl a4] H (some (.int r1)) H1 :=
  xM_of (by decide +kernel) (xT_tb 671 (by decide +kernel) (by decide +kernel)) (by simp [xargs, x2]) rfl (P_X11_sell rfl a0 a1 a2 a3 a4 H h)
/-! BettingBook.paid(III)Z -/
noncomputable def F_X11_paid (N : Nat) (a0 : (Option Nat)) (a1 : Int32) (a2 : Int32) (a3 : Int32) (H : xH) : Option (Int32 × xH) :=
  (xgA H a0 10 5).bind fun v1 =>
  (xob H v1 2).bind fun b3 =>
  x_bd2 (F_X2_hasMember N v1 a1 H) fun v4 H2 =>
  if v4 = 0 then (some ((0 : Int32), H2)) else ((xgA H2 a0 10 5).bind fun v6 =>
  (xob H2 v6 2).bind fun b8 =>
  x_bd2 (F_X2_hasMember N v6 a2 H2) fun v9 H7 =>
  if v9 = 0 then (some ((0 : Int32), H7)) else (if a1 = a2 then (some ((0 : Int32), H7)) else (if a3 < (1 : Int32) then (some ((0 : Int32), H7)) else (if a3 ≤ (9999 : Int32) then ((xgA H7 a0 10 7).bind fun v14 =>
  (xob H7 v14 4).bind fun b16 =>
  (F_X4_credit N v14 a1 a2 a3 H7).bind fun H15 =>
  some ((1 : Int32), H15)) else (some ((0 : Int32), H7))))))
set_option maxRecDepth 20000 in
set_option maxHeartbeats 4000000 in
theorem P_X11_paid {N : Nat} {Z : xZ} {rv : Int32} {Hf : xH} (hZ : Z = xZm cX11_paid yX11_paid 4 3 (some .boolean) (some (.int rv)) Hf) : ∀ (a0 : (Option Nat)) (a1 : Int32) (a2 : Int32) (a3 : Int32) (H : xH), F_X11_paid N a0 a1 a2 a3 H = some (rv, Hf) → xWq Z H 0 [xA a0, xI a1, xI a2, xI a3] [] := by
  have hz : Z.1 = (cX11_paid, yX11_paid, 4) := by rw [hZ]; rfl
  have hδ : Z.2.1 = 3 := by rw [hZ]; rfl
  intro a0 a1 a2 a3 H h
  unfold F_X11_paid at h
  refine x_aload_n hz dX11_paid_0 rfl ?_
  obtain ⟨v1, e_v1, h⟩ := x_bnd h
  refine x_getA hz dX11_paid_1 fs_X11_27 e_v1 ?_
  refine x_iload_n hz dX11_paid_4 rfl ?_
  obtain ⟨b3, e_b3, h⟩ := x_bnd h
  obtain ⟨v4, H2, e_H2, h⟩ := x_b2 h
  refine x_callVi (as := [.inl a1]) (st := []) cs_X11_185 (ci := 2) ⟨rfl, rfl⟩ rfl rfl hz (by omega) (by decide) dX11_paid_5 e_b3 (M_X2_hasMember e_H2) ?_
  refine x_if_eq (t := 39) hz dX11_paid_8 (by decide) (fun c5 => ?_) (fun c5 => ?_)
  · replace h := x_ip c5 h
    refine x_iconst (v := (0 : Int32)) hz dX11_paid_39 (by decide) ?_
    cases h
    exact x_zret01 hZ (Or.inl rfl) dX11_paid_40
  · replace h := x_in c5 h
    refine x_aload_n hz dX11_paid_11 rfl ?_
    obtain ⟨v6, e_v6, h⟩ := x_bnd h
    refine x_getA hz dX11_paid_12 fs_X11_27 e_v6 ?_
    refine x_iload_n hz dX11_paid_15 rfl ?_
    obtain ⟨b8, e_b8, h⟩ := x_bnd h
    obtain ⟨v9, H7, e_H7, h⟩ := x_b2 h
    refine x_callVi (as := [.inl a2]) (st := []) cs_X11_185 (ci := 2) ⟨rfl, rfl⟩ rfl rfl hz (by omega) (by decide) dX11_paid_16 e_b8 (M_X2_hasMember e_H7) ?_
    refine x_if_eq (t := 39) hz dX11_paid_19 (by decide) (fun c10 => ?_) (fun c10 => ?_)
    · replace h := x_ip c10 h
      refine x_iconst (v := (0 : Int32)) hz dX11_paid_39 (by decide) ?_
      cases h
      exact x_zret01 hZ (Or.inl rfl) dX11_paid_40
    · replace h := x_in c10 h
      refine x_iload_n hz dX11_paid_22 rfl ?_
      refine x_iload_n hz dX11_paid_23 rfl ?_
      refine x_icmp_eq (t := 39) hz dX11_paid_24 (by decide) (fun c11 => ?_) (fun c11 => ?_)
      · replace h := x_ip c11 h
        refine x_iconst (v := (0 : Int32)) hz dX11_paid_39 (by decide) ?_
        cases h
        exact x_zret01 hZ (Or.inl rfl) dX11_paid_40
      · replace h := x_in c11 h
        refine x_iload_n hz dX11_paid_27 rfl ?_
        refine x_iconst (v := (1 : Int32)) hz dX11_paid_28 (by decide) ?_
        refine x_icmp_lt (t := 39) hz dX11_paid_29 (by decide) (fun c12 => ?_) (fun c12 => ?_)
        · replace h := x_ip c12 h
          refine x_iconst (v := (0 : Int32)) hz dX11_paid_39 (by decide) ?_
          cases h
          exact x_zret01 hZ (Or.inl rfl) dX11_paid_40
        · replace h := x_in c12 h
          refine x_iload_n hz dX11_paid_32 rfl ?_
          refine x_sipush (v := (9999 : Int32)) hz dX11_paid_33 (by decide) ?_
          refine x_icmp_le (t := 41) hz dX11_paid_36 (by decide) (fun c13 => ?_) (fun c13 => ?_)
          · replace h := x_ip c13 h
            refine x_aload_n hz dX11_paid_41 rfl ?_
            obtain ⟨v14, e_v14, h⟩ := x_bnd h
            refine x_getA hz dX11_paid_42 fs_X11_41 e_v14 ?_
            refine x_iload_n hz dX11_paid_45 rfl ?_
            refine x_iload_n hz dX11_paid_46 rfl ?_
            refine x_iload_n hz dX11_paid_47 rfl ?_
            obtain ⟨b16, e_b16, h⟩ := x_bnd h
            obtain ⟨H15, e_H15, h⟩ := x_bnd h
            refine x_callVv (as := [.inl a1, .inl a2, .inl a3]) (st := []) cs_X11_195 (ci := 4) ⟨rfl, rfl⟩ rfl rfl hz (by omega) (by decide) dX11_paid_48 e_b16 (M_X4_credit e_H15) ?_
            refine x_iconst (v := (1 : Int32)) hz dX11_paid_51 (by decide) ?_
            cases h
            exact x_zret01 hZ (Or.inr rfl) dX11_paid_52
          · replace h := x_in c13 h
            refine x_iconst (v := (0 : Int32)) hz dX11_paid_39 (by decide) ?_
            cases h
            exact x_zret01 hZ (Or.inl rfl) dX11_paid_40
theorem M_X11_paid {N : Nat} {a0 : (Option Nat)} {a1 : Int32} {a2 : Int32} {a3 : Int32} {H H1 : xH} {r1 : Int32} (h : F_X11_paid N a0 a1 a2 a3 H = some (r1, H1)) : xM yX11_paid cX11_paid 4 (some .boolean) 3 [.inr (.inr a0), .inl a1, .inl a2, .inl a3] H (some (.int r1)) H1 :=
  xM_of (by decide +kernel) (xT_tb 692 (by decide +kernel) (by decide +kernel)) (by simp [xargs, x2]) rfl (P_X11_paid rfl a0 a1 a2 a3 H h)
/-! BettingBook.rows(I)I -/
noncomputable def F_X11_rows (N : Nat) (a0 : (Option Nat)) (a1 : Int32) (H : xH) : Option (Int32 × xH) :=
  if a1 = (-1 : Int32) then ((xgA H a0 10 6).bind fun v6 =>
  (xgI H v6 6 3).bind fun v7 =>
  some (v7, H)) else ((xgA H a0 10 6).bind fun v2 =>
  (xob H v2 6).bind fun b4 =>
  x_bd2 (F_X6_leftCode N v2 a1 H) fun v5 H3 =>
  some (v5, H3))
set_option maxRecDepth 20000 in
set_option maxHeartbeats 4000000 in
theorem P_X11_rows {N : Nat} {Z : xZ} {rv : Int32} {Hf : xH} (hZ : Z = xZm cX11_rows yX11_rows 2 3 (some .int) (some (.int rv)) Hf) : ∀ (a0 : (Option Nat)) (a1 : Int32) (H : xH), F_X11_rows N a0 a1 H = some (rv, Hf) → xWq Z H 0 [xA a0, xI a1] [] := by
  have hz : Z.1 = (cX11_rows, yX11_rows, 2) := by rw [hZ]; rfl
  have hδ : Z.2.1 = 3 := by rw [hZ]; rfl
  intro a0 a1 H h
  unfold F_X11_rows at h
  refine x_iload_n hz dX11_rows_0 rfl ?_
  refine x_iconst (v := (-1 : Int32)) hz dX11_rows_1 (by decide) ?_
  refine x_icmp_ne (t := 15) hz dX11_rows_2 (by decide) (fun c1 => ?_) (fun c1 => ?_)
  · replace h := x_in c1 h
    refine x_aload_n hz dX11_rows_15 rfl ?_
    obtain ⟨v2, e_v2, h⟩ := x_bnd h
    refine x_getA hz dX11_rows_16 fs_X11_34 e_v2 ?_
    refine x_iload_n hz dX11_rows_19 rfl ?_
    obtain ⟨b4, e_b4, h⟩ := x_bnd h
    obtain ⟨v5, H3, e_H3, h⟩ := x_b2 h
    refine x_callVi (as := [.inl a1]) (st := []) cs_X11_198 (ci := 6) ⟨rfl, rfl⟩ rfl rfl hz (by omega) (by decide) dX11_rows_20 e_b4 (M_X6_leftCode e_H3) ?_
    cases h
    exact x_iret hZ dX11_rows_23
  · replace h := x_ip c1 h
    refine x_aload_n hz dX11_rows_5 rfl ?_
    obtain ⟨v6, e_v6, h⟩ := x_bnd h
    refine x_getA hz dX11_rows_6 fs_X11_34 e_v6 ?_
    obtain ⟨v7, e_v7, h⟩ := x_bnd h
    refine x_getI hz dX11_rows_9 fs_X11_171 e_v7 ?_
    refine x_goto (t := 23) hz dX11_rows_12 (by decide) ?_
    cases h
    exact x_iret hZ dX11_rows_23
theorem M_X11_rows {N : Nat} {a0 : (Option Nat)} {a1 : Int32} {H H1 : xH} {r1 : Int32} (h : F_X11_rows N a0 a1 H = some (r1, H1)) : xM yX11_rows cX11_rows 2 (some .int) 3 [.inr (.inr a0), .inl a1] H (some (.int r1)) H1 :=
  xM_of (by decide +kernel) (xT_tb 697 (by decide +kernel) (by decide +kernel)) (by simp [xargs, x2]) rfl (P_X11_rows rfl a0 a1 H h)
/-! BettingBook.fits(I)I -/
noncomputable def F_X11_fits (N : Nat) (a0 : (Option Nat)) (a1 : Int32) (H : xH) : Option (Int32 × xH) :=
  (xgA H a0 10 6).bind fun v1 =>
  (xob H v1 6).bind fun b3 =>
  x_bd2 (F_X6_cellAt N v1 a1 H) fun v4 H2 =>
  if (lg_cmp v4 (0 : Int64)) = 0 then (some ((-1 : Int32), H2)) else (if (lg_cmp (v4 &&& (4611686018427387904 : Int64)) (0 : Int64)) = 0 then (if (lg_cmp (v4 &&& (2305843009213693952 : Int64)) (0 : Int64)) = 0 then (some ((0 : Int32), H2)) else (some ((1 : Int32), H2))) else (some ((2 : Int32), H2)))
set_option maxRecDepth 20000 in
set_option maxHeartbeats 4000000 in
theorem P_X11_fits {N : Nat} {Z : xZ} {rv : Int32} {Hf : xH} (hZ : Z = xZm cX11_fits yX11_fits 4 2 (some .int) (some (.int rv)) Hf) : ∀ (a0 : (Option Nat)) (a1 : Int32) (H : xH), F_X11_fits N a0 a1 H = some (rv, Hf) → xWq Z H 0 [xA a0, xI a1, xN, xN] [] := by
  have hz : Z.1 = (cX11_fits, yX11_fits, 4) := by rw [hZ]; rfl
  have hδ : Z.2.1 = 2 := by rw [hZ]; rfl
  intro a0 a1 H h
  unfold F_X11_fits at h
  refine x_aload_n hz dX11_fits_0 rfl ?_
  obtain ⟨v1, e_v1, h⟩ := x_bnd h
  refine x_getA hz dX11_fits_1 fs_X11_34 e_v1 ?_
  refine x_iload_n hz dX11_fits_4 rfl ?_
  obtain ⟨b3, e_b3, h⟩ := x_bnd h
  obtain ⟨v4, H2, e_H2, h⟩ := x_b2 h
  refine x_callVl (as := [.inl a1]) (st := []) cs_X11_201 (ci := 6) ⟨rfl, rfl⟩ rfl rfl hz (by omega) (by decide) dX11_fits_5 e_b3 (M_X6_cellAt e_H2) ?_
  refine x_lstore_n (pl' := [xA a0, xI a1, xJ v4, xN]) hz dX11_fits_8 (by decide) rfl ?_
  refine x_lload_n hz dX11_fits_9 rfl ?_
  refine x_lconst (v := (0 : Int64)) hz dX11_fits_10 (by decide) ?_
  refine x_lcmp hz dX11_fits_11 ?_
  refine x_if_ne (t := 17) hz dX11_fits_12 (by decide) (fun c5 => ?_) (fun c5 => ?_)
  · replace h := x_in c5 h
    refine x_lload_n hz dX11_fits_17 rfl ?_
    refine x_ldc2 (v := (4611686018427387904 : Int64)) hz dX11_fits_18 wc_X11_205 ?_
    refine x_land hz dX11_fits_21 ?_
    refine x_lconst (v := (0 : Int64)) hz dX11_fits_22 (by decide) ?_
    refine x_lcmp hz dX11_fits_23 ?_
    refine x_if_eq (t := 31) hz dX11_fits_24 (by decide) (fun c6 => ?_) (fun c6 => ?_)
    · replace h := x_ip c6 h
      refine x_lload_n hz dX11_fits_31 rfl ?_
      refine x_ldc2 (v := (2305843009213693952 : Int64)) hz dX11_fits_32 wc_X11_207 ?_
      refine x_land hz dX11_fits_35 ?_
      refine x_lconst (v := (0 : Int64)) hz dX11_fits_36 (by decide) ?_
      refine x_lcmp hz dX11_fits_37 ?_
      refine x_if_eq (t := 45) hz dX11_fits_38 (by decide) (fun c7 => ?_) (fun c7 => ?_)
      · replace h := x_ip c7 h
        refine x_iconst (v := (0 : Int32)) hz dX11_fits_45 (by decide) ?_
        cases h
        exact x_iret hZ dX11_fits_46
      · replace h := x_in c7 h
        refine x_iconst (v := (1 : Int32)) hz dX11_fits_41 (by decide) ?_
        refine x_goto (t := 46) hz dX11_fits_42 (by decide) ?_
        cases h
        exact x_iret hZ dX11_fits_46
    · replace h := x_in c6 h
      refine x_iconst (v := (2 : Int32)) hz dX11_fits_27 (by decide) ?_
      refine x_goto (t := 46) hz dX11_fits_28 (by decide) ?_
      cases h
      exact x_iret hZ dX11_fits_46
  · replace h := x_ip c5 h
    refine x_iconst (v := (-1 : Int32)) hz dX11_fits_15 (by decide) ?_
    cases h
    exact x_iret hZ dX11_fits_16
theorem M_X11_fits {N : Nat} {a0 : (Option Nat)} {a1 : Int32} {H H1 : xH} {r1 : Int32} (h : F_X11_fits N a0 a1 H = some (r1, H1)) : xM yX11_fits cX11_fits 4 (some .int) 2 [.inr (.inr a0), .inl a1] H (some (.int r1)) H1 :=
  xM_of (by decide +kernel) (xT_tb 709 (by decide +kernel) (by decide +kernel)) (by simp [xargs, x2]) rfl (P_X11_fits rfl a0 a1 H h)
/-! BettingBook.pays(II)I -/
noncomputable def F_X11_pays (N : Nat) (a0 : (Option Nat)) (a1 : Int32) (a2 : Int32) (H : xH) : Option (Int32 × xH) :=
  (xgA H a0 10 5).bind fun v1 =>
  (xob H v1 2).bind fun b3 =>
  x_bd2 (F_X2_betAt N v1 a1 H) fun v4 H2 =>
  (xgA H2 a0 10 6).bind fun v5 =>
  (xob H2 v5 6).bind fun b7 =>
  x_bd2 (F_X6_cellAt N v5 a2 H2) fun v8 H6 =>
  if v4 = none then (some ((-1000000 : Int32), H6)) else (if (lg_cmp v8 (0 : Int64)) = 0 then (some ((-1000000 : Int32), H6)) else (x_bd2 (F_X11_outcome N v8 a1 H6) fun v12 H11 =>
  (xob H11 v4 0).bind fun b14 =>
  x_bd2 (F_X0_coinOf N v4 v12 H11) fun v15 H13 =>
  some (v15, H13)))
set_option maxRecDepth 20000 in
set_option maxHeartbeats 4000000 in
theorem P_X11_pays {N : Nat} {Z : xZ} {rv : Int32} {Hf : xH} (hZ : Z = xZm cX11_pays yX11_pays 6 3 (some .int) (some (.int rv)) Hf) : ∀ (a0 : (Option Nat)) (a1 : Int32) (a2 : Int32) (H : xH), F_X11_pays N a0 a1 a2 H = some (rv, Hf) → xWq Z H 0 [xA a0, xI a1, xI a2, xN, xN, xN] [] := by
  have hz : Z.1 = (cX11_pays, yX11_pays, 6) := by rw [hZ]; rfl
  have hδ : Z.2.1 = 3 := by rw [hZ]; rfl
  intro a0 a1 a2 H h
  unfold F_X11_pays at h
  refine x_aload_n hz dX11_pays_0 rfl ?_
  obtain ⟨v1, e_v1, h⟩ := x_bnd h
  refine x_getA hz dX11_pays_1 fs_X11_27 e_v1 ?_
  refine x_iload_n hz dX11_pays_4 rfl ?_
  obtain ⟨b3, e_b3, h⟩ := x_bnd h
  obtain ⟨v4, H2, e_H2, h⟩ := x_b2 h
  refine x_callVa (as := [.inl a1]) (st := []) cs_X11_147 (ci := 2) ⟨rfl, rfl⟩ rfl rfl hz (by omega) (by decide) dX11_pays_5 e_b3 (M_X2_betAt e_H2) ?_
  refine x_astore_n (pl' := [xA a0, xI a1, xI a2, xA v4, xN, xN]) hz dX11_pays_8 (by decide) rfl ?_
  refine x_aload_n hz dX11_pays_9 rfl ?_
  obtain ⟨v5, e_v5, h⟩ := x_bnd h
  refine x_getA hz dX11_pays_10 fs_X11_34 e_v5 ?_
  refine x_iload_n hz dX11_pays_13 rfl ?_
  obtain ⟨b7, e_b7, h⟩ := x_bnd h
  obtain ⟨v8, H6, e_H6, h⟩ := x_b2 h
  refine x_callVl (as := [.inl a2]) (st := []) cs_X11_201 (ci := 6) ⟨rfl, rfl⟩ rfl rfl hz (by omega) (by decide) dX11_pays_14 e_b7 (M_X6_cellAt e_H6) ?_
  refine x_lstore (pl' := [xA a0, xI a1, xI a2, xA v4, xJ v8, xN]) hz dX11_pays_17 (by decide) rfl ?_
  refine x_aload_n hz dX11_pays_19 rfl ?_
  refine x_ifnull (t := 30) hz dX11_pays_20 (by decide) (fun c9 => ?_) (fun c9 => ?_)
  · replace h := x_ip c9 h
    refine x_ldc (v := (-1000000 : Int32)) hz dX11_pays_30 wc_X11_209 ?_
    refine x_goto (t := 45) hz dX11_pays_32 (by decide) ?_
    cases h
    exact x_iret hZ dX11_pays_45
  · replace h := x_in c9 h
    refine x_lload hz dX11_pays_23 rfl ?_
    refine x_lconst (v := (0 : Int64)) hz dX11_pays_25 (by decide) ?_
    refine x_lcmp hz dX11_pays_26 ?_
    refine x_if_ne (t := 35) hz dX11_pays_27 (by decide) (fun c10 => ?_) (fun c10 => ?_)
    · replace h := x_in c10 h
      refine x_aload_n hz dX11_pays_35 rfl ?_
      refine x_lload hz dX11_pays_36 rfl ?_
      refine x_iload_n hz dX11_pays_38 rfl ?_
      obtain ⟨v12, H11, e_H11, h⟩ := x_b2 h
      refine x_callSi (as := [.inr (.inl v8), .inl a1]) (st := [va_rf v4]) cs_X11_210 rfl rfl hz (by omega) (Nat.le_trans (x_sm1 (x_rfc _) x_sm0) (by decide)) dX11_pays_39 (M_X11_outcome e_H11) ?_
      obtain ⟨b14, e_b14, h⟩ := x_bnd h
      obtain ⟨v15, H13, e_H13, h⟩ := x_b2 h
      refine x_callVi (as := [.inl v12]) (st := []) cs_X11_214 (ci := 0) ⟨rfl, rfl⟩ rfl rfl hz (by omega) (by decide) dX11_pays_42 e_b14 (M_X0_coinOf e_H13) ?_
      cases h
      exact x_iret hZ dX11_pays_45
    · replace h := x_ip c10 h
      refine x_ldc (v := (-1000000 : Int32)) hz dX11_pays_30 wc_X11_209 ?_
      refine x_goto (t := 45) hz dX11_pays_32 (by decide) ?_
      cases h
      exact x_iret hZ dX11_pays_45
theorem M_X11_pays {N : Nat} {a0 : (Option Nat)} {a1 : Int32} {a2 : Int32} {H H1 : xH} {r1 : Int32} (h : F_X11_pays N a0 a1 a2 H = some (r1, H1)) : xM yX11_pays cX11_pays 6 (some .int) 3 [.inr (.inr a0), .inl a1, .inl a2] H (some (.int r1)) H1 :=
  xM_of (by decide +kernel) (xT_tb 716 (by decide +kernel) (by decide +kernel)) (by simp [xargs, x2]) rfl (P_X11_pays rfl a0 a1 a2 H h)
/-! BettingBook.sure(II)I -/
noncomputable def F_X11_sure (N : Nat) (a0 : (Option Nat)) (a1 : Int32) (a2 : Int32) (H : xH) : Option (Int32 × xH) :=
  (xgA H a0 10 5).bind fun v1 =>
  (xob H v1 2).bind fun b3 =>
  x_bd2 (F_X2_betAt N v1 a1 H) fun v4 H2 =>
  if v4 = none then (some ((-1000000 : Int32), H2)) else (if a2 < 0 then (some ((-1000000 : Int32), H2)) else (if a2 ≤ (1 : Int32) then ((xgA H2 a0 10 6).bind fun v8 =>
  (xob H2 v8 6).bind fun b10 =>
  x_bd2 (F_X6_isSure N v8 a1 H2) fun v11 H9 =>
  if v11 = 0 then (some ((0 : Int32), H9)) else (if a2 = 0 then (some ((1 : Int32), H9)) else ((xgA H9 a0 10 6).bind fun v14 =>
  (xgJ H9 v14 6 4).bind fun v15 =>
  x_bd2 (F_X11_outcome N v15 a1 H9) fun v17 H16 =>
  (xob H16 v4 0).bind fun b19 =>
  x_bd2 (F_X0_coinOf N v4 v17 H16) fun v20 H18 =>
  some (v20, H18)))) else (some ((-1000000 : Int32), H2))))
set_option maxRecDepth 20000 in
set_option maxHeartbeats 4000000 in
theorem P_X11_sure {N : Nat} {Z : xZ} {rv : Int32} {Hf : xH} (hZ : Z = xZm cX11_sure yX11_sure 4 3 (some .int) (some (.int rv)) Hf) : ∀ (a0 : (Option Nat)) (a1 : Int32) (a2 : Int32) (H : xH), F_X11_sure N a0 a1 a2 H = some (rv, Hf) → xWq Z H 0 [xA a0, xI a1, xI a2, xN] [] := by
  have hz : Z.1 = (cX11_sure, yX11_sure, 4) := by rw [hZ]; rfl
  have hδ : Z.2.1 = 3 := by rw [hZ]; rfl
  intro a0 a1 a2 H h
  unfold F_X11_sure at h
  refine x_aload_n hz dX11_sure_0 rfl ?_
  obtain ⟨v1, e_v1, h⟩ := x_bnd h
  refine x_getA hz dX11_sure_1 fs_X11_27 e_v1 ?_
  refine x_iload_n hz dX11_sure_4 rfl ?_
  obtain ⟨b3, e_b3, h⟩ := x_bnd h
  obtain ⟨v4, H2, e_H2, h⟩ := x_b2 h
  refine x_callVa (as := [.inl a1]) (st := []) cs_X11_147 (ci := 2) ⟨rfl, rfl⟩ rfl rfl hz (by omega) (by decide) dX11_sure_5 e_b3 (M_X2_betAt e_H2) ?_
  refine x_astore_n (pl' := [xA a0, xI a1, xI a2, xA v4]) hz dX11_sure_8 (by decide) rfl ?_
  refine x_aload_n hz dX11_sure_9 rfl ?_
  refine x_ifnull (t := 22) hz dX11_sure_10 (by decide) (fun c5 => ?_) (fun c5 => ?_)
  · replace h := x_ip c5 h
    refine x_ldc (v := (-1000000 : Int32)) hz dX11_sure_22 wc_X11_209 ?_
    cases h
    exact x_iret hZ dX11_sure_24
  · replace h := x_in c5 h
    refine x_iload_n hz dX11_sure_13 rfl ?_
    refine x_if_lt (t := 22) hz dX11_sure_14 (by decide) (fun c6 => ?_) (fun c6 => ?_)
    · replace h := x_ip c6 h
      refine x_ldc (v := (-1000000 : Int32)) hz dX11_sure_22 wc_X11_209 ?_
      cases h
      exact x_iret hZ dX11_sure_24
    · replace h := x_in c6 h
      refine x_iload_n hz dX11_sure_17 rfl ?_
      refine x_iconst (v := (1 : Int32)) hz dX11_sure_18 (by decide) ?_
      refine x_icmp_le (t := 25) hz dX11_sure_19 (by decide) (fun c7 => ?_) (fun c7 => ?_)
      · replace h := x_ip c7 h
        refine x_aload_n hz dX11_sure_25 rfl ?_
        obtain ⟨v8, e_v8, h⟩ := x_bnd h
        refine x_getA hz dX11_sure_26 fs_X11_34 e_v8 ?_
        refine x_iload_n hz dX11_sure_29 rfl ?_
        obtain ⟨b10, e_b10, h⟩ := x_bnd h
        obtain ⟨v11, H9, e_H9, h⟩ := x_b2 h
        refine x_callVi (as := [.inl a1]) (st := []) cs_X11_188 (ci := 6) ⟨rfl, rfl⟩ rfl rfl hz (by omega) (by decide) dX11_sure_30 e_b10 (M_X6_isSure e_H9) ?_
        refine x_if_ne (t := 38) hz dX11_sure_33 (by decide) (fun c12 => ?_) (fun c12 => ?_)
        · replace h := x_in c12 h
          refine x_iload_n hz dX11_sure_38 rfl ?_
          refine x_if_ne (t := 46) hz dX11_sure_39 (by decide) (fun c13 => ?_) (fun c13 => ?_)
          · replace h := x_in c13 h
            refine x_aload_n hz dX11_sure_46 rfl ?_
            refine x_aload_n hz dX11_sure_47 rfl ?_
            obtain ⟨v14, e_v14, h⟩ := x_bnd h
            refine x_getA hz dX11_sure_48 fs_X11_34 e_v14 ?_
            obtain ⟨v15, e_v15, h⟩ := x_bnd h
            refine x_getJ hz dX11_sure_51 fs_X11_217 e_v15 ?_
            refine x_iload_n hz dX11_sure_54 rfl ?_
            obtain ⟨v17, H16, e_H16, h⟩ := x_b2 h
            refine x_callSi (as := [.inr (.inl v15), .inl a1]) (st := [va_rf v4]) cs_X11_210 rfl rfl hz (by omega) (Nat.le_trans (x_sm1 (x_rfc _) x_sm0) (by decide)) dX11_sure_55 (M_X11_outcome e_H16) ?_
            obtain ⟨b19, e_b19, h⟩ := x_bnd h
            obtain ⟨v20, H18, e_H18, h⟩ := x_b2 h
            refine x_callVi (as := [.inl v17]) (st := []) cs_X11_214 (ci := 0) ⟨rfl, rfl⟩ rfl rfl hz (by omega) (by decide) dX11_sure_58 e_b19 (M_X0_coinOf e_H18) ?_
            cases h
            exact x_iret hZ dX11_sure_61
          · replace h := x_ip c13 h
            refine x_iconst (v := (1 : Int32)) hz dX11_sure_42 (by decide) ?_
            refine x_goto (t := 61) hz dX11_sure_43 (by decide) ?_
            cases h
            exact x_iret hZ dX11_sure_61
        · replace h := x_ip c12 h
          refine x_iconst (v := (0 : Int32)) hz dX11_sure_36 (by decide) ?_
          cases h
          exact x_iret hZ dX11_sure_37
      · replace h := x_in c7 h
        refine x_ldc (v := (-1000000 : Int32)) hz dX11_sure_22 wc_X11_209 ?_
        cases h
        exact x_iret hZ dX11_sure_24
theorem M_X11_sure {N : Nat} {a0 : (Option Nat)} {a1 : Int32} {a2 : Int32} {H H1 : xH} {r1 : Int32} (h : F_X11_sure N a0 a1 a2 H = some (r1, H1)) : xM yX11_sure cX11_sure 4 (some .int) 3 [.inr (.inr a0), .inl a1, .inl a2] H (some (.int r1)) H1 :=
  xM_of (by decide +kernel) (xT_tb 733 (by decide +kernel) (by decide +kernel)) (by simp [xargs, x2]) rfl (P_X11_sure rfl a0 a1 a2 H h)
/-! BettingBook.split(II)I -/
noncomputable def F_X11_split (N : Nat) (a0 : (Option Nat)) (a1 : Int32) (a2 : Int32) (H : xH) : Option (Int32 × xH) :=
  (xgA H a0 10 5).bind fun v1 =>
  (xob H v1 2).bind fun b3 =>
  x_bd2 (F_X2_betAt N v1 a1 H) fun v4 H2 =>
  if v4 = none then (some ((-1 : Int32), H2)) else (if a2 = 0 then ((xgA H2 a0 10 6).bind fun v7 =>
  (xob H2 v7 6).bind fun b9 =>
  x_bd2 (F_X6_countLeft N v7 a1 (24 : Int32) H2) fun v10 H8 =>
  some (v10, H8)) else (if a2 = 1 then ((xgA H2 a0 10 6).bind fun v12 =>
  (xob H2 v12 6).bind fun b14 =>
  x_bd2 (F_X6_countLeft N v12 a1 (6 : Int32) H2) fun v15 H13 =>
  some (v15, H13)) else (if a2 = 2 then ((xgA H2 a0 10 6).bind fun v17 =>
  (xob H2 v17 6).bind fun b19 =>
  x_bd2 (F_X6_countLeft N v17 a1 (1 : Int32) H2) fun v20 H18 =>
  some (v20, H18)) else (if a2 = 3 then ((xgA H2 a0 10 6).bind fun v22 =>
  (xob H2 v22 6).bind fun b24 =>
  x_bd2 (F_X6_countLeft N v22 a1 (20 : Int32) H2) fun v25 H23 =>
  some (v25, H23)) else (some ((-1 : Int32), H2))))))
set_option maxRecDepth 20000 in
set_option maxHeartbeats 4000000 in
theorem P_X11_split {N : Nat} {Z : xZ} {rv : Int32} {Hf : xH} (hZ : Z = xZm cX11_split yX11_split 3 3 (some .int) (some (.int rv)) Hf) : ∀ (a0 : (Option Nat)) (a1 : Int32) (a2 : Int32) (H : xH), F_X11_split N a0 a1 a2 H = some (rv, Hf) → xWq Z H 0 [xA a0, xI a1, xI a2] [] := by
  have hz : Z.1 = (cX11_split, yX11_split, 3) := by rw [hZ]; rfl
  have hδ : Z.2.1 = 3 := by rw [hZ]; rfl
  intro a0 a1 a2 H h
  unfold F_X11_split at h
  refine x_aload_n hz dX11_split_0 rfl ?_
  obtain ⟨v1, e_v1, h⟩ := x_bnd h
  refine x_getA hz dX11_split_1 fs_X11_27 e_v1 ?_
  refine x_iload_n hz dX11_split_4 rfl ?_
  obtain ⟨b3, e_b3, h⟩ := x_bnd h
  obtain ⟨v4, H2, e_H2, h⟩ := x_b2 h
  refine x_callVa (as := [.inl a1]) (st := []) cs_X11_147 (ci := 2) ⟨rfl, rfl⟩ rfl rfl hz (by omega) (by decide) dX11_split_5 e_b3 (M_X2_betAt e_H2) ?_
  refine x_ifnonnull (t := 13) hz dX11_split_8 (by decide) (fun c5 => ?_) (fun c5 => ?_)
  · replace h := x_in c5 h
    refine x_iload_n hz dX11_split_13 rfl ?_
    by_cases c6 : a2 = 0
    · replace h := x_ip c6 h
      refine x_tsIn (t := 44) (off := 30) hz dX11_split_14 (by rw [c6]; decide) (by rw [c6]; decide) (by rw [c6]; decide) (by decide) ?_
      refine x_aload_n hz dX11_split_44 rfl ?_
      obtain ⟨v7, e_v7, h⟩ := x_bnd h
      refine x_getA hz dX11_split_45 fs_X11_34 e_v7 ?_
      refine x_iload_n hz dX11_split_48 rfl ?_
      refine x_bipush (v := (24 : Int32)) hz dX11_split_49 (by decide) ?_
      obtain ⟨b9, e_b9, h⟩ := x_bnd h
      obtain ⟨v10, H8, e_H8, h⟩ := x_b2 h
      refine x_callVi (as := [.inl a1, .inl (24 : Int32)]) (st := []) cs_X11_221 (ci := 6) ⟨rfl, rfl⟩ rfl rfl hz (by omega) (by decide) dX11_split_51 e_b9 (M_X6_countLeft e_H8) ?_
      cases h
      exact x_iret hZ dX11_split_54
    replace h := x_in c6 h
    by_cases c11 : a2 = 1
    · replace h := x_ip c11 h
      refine x_tsIn (t := 55) (off := 41) hz dX11_split_14 (by rw [c11]; decide) (by rw [c11]; decide) (by rw [c11]; decide) (by decide) ?_
      refine x_aload_n hz dX11_split_55 rfl ?_
      obtain ⟨v12, e_v12, h⟩ := x_bnd h
      refine x_getA hz dX11_split_56 fs_X11_34 e_v12 ?_
      refine x_iload_n hz dX11_split_59 rfl ?_
      refine x_bipush (v := (6 : Int32)) hz dX11_split_60 (by decide) ?_
      obtain ⟨b14, e_b14, h⟩ := x_bnd h
      obtain ⟨v15, H13, e_H13, h⟩ := x_b2 h
      refine x_callVi (as := [.inl a1, .inl (6 : Int32)]) (st := []) cs_X11_221 (ci := 6) ⟨rfl, rfl⟩ rfl rfl hz (by omega) (by decide) dX11_split_62 e_b14 (M_X6_countLeft e_H13) ?_
      cases h
      exact x_iret hZ dX11_split_65
    replace h := x_in c11 h
    by_cases c16 : a2 = 2
    · replace h := x_ip c16 h
      refine x_tsIn (t := 66) (off := 52) hz dX11_split_14 (by rw [c16]; decide) (by rw [c16]; decide) (by rw [c16]; decide) (by decide) ?_
      refine x_aload_n hz dX11_split_66 rfl ?_
      obtain ⟨v17, e_v17, h⟩ := x_bnd h
      refine x_getA hz dX11_split_67 fs_X11_34 e_v17 ?_
      refine x_iload_n hz dX11_split_70 rfl ?_
      refine x_iconst (v := (1 : Int32)) hz dX11_split_71 (by decide) ?_
      obtain ⟨b19, e_b19, h⟩ := x_bnd h
      obtain ⟨v20, H18, e_H18, h⟩ := x_b2 h
      refine x_callVi (as := [.inl a1, .inl (1 : Int32)]) (st := []) cs_X11_221 (ci := 6) ⟨rfl, rfl⟩ rfl rfl hz (by omega) (by decide) dX11_split_72 e_b19 (M_X6_countLeft e_H18) ?_
      cases h
      exact x_iret hZ dX11_split_75
    replace h := x_in c16 h
    by_cases c21 : a2 = 3
    · replace h := x_ip c21 h
      refine x_tsIn (t := 76) (off := 62) hz dX11_split_14 (by rw [c21]; decide) (by rw [c21]; decide) (by rw [c21]; decide) (by decide) ?_
      refine x_aload_n hz dX11_split_76 rfl ?_
      obtain ⟨v22, e_v22, h⟩ := x_bnd h
      refine x_getA hz dX11_split_77 fs_X11_34 e_v22 ?_
      refine x_iload_n hz dX11_split_80 rfl ?_
      refine x_bipush (v := (20 : Int32)) hz dX11_split_81 (by decide) ?_
      obtain ⟨b24, e_b24, h⟩ := x_bnd h
      obtain ⟨v25, H23, e_H23, h⟩ := x_b2 h
      refine x_callVi (as := [.inl a1, .inl (20 : Int32)]) (st := []) cs_X11_221 (ci := 6) ⟨rfl, rfl⟩ rfl rfl hz (by omega) (by decide) dX11_split_83 e_b24 (M_X6_countLeft e_H23) ?_
      cases h
      exact x_iret hZ dX11_split_86
    replace h := x_in c21 h
    refine x_tsOut (t := 87) hz dX11_split_14 (x_tsN a2 (0) (3) (by decide) (by decide) (fun i h1 h2 => ?_)) (by decide) ?_
    · (have h3 : i = 0 ∨ i = 1 ∨ i = 2 ∨ i = 3 := by omega); rcases h3 with rfl | rfl | rfl | rfl <;> intro e <;> first | exact c6 (Int32.toInt_inj.mp (e.trans rfl)) | exact c11 (Int32.toInt_inj.mp (e.trans rfl)) | exact c16 (Int32.toInt_inj.mp (e.trans rfl)) | exact c21 (Int32.toInt_inj.mp (e.trans rfl))
    refine x_iconst (v := (-1 : Int32)) hz dX11_split_87 (by decide) ?_
    cases h
    exact x_iret hZ dX11_split_88
  · replace h := x_ip c5 h
    refine x_iconst (v := (-1 : Int32)) hz dX11_split_11 (by decide) ?_
    cases h
    exact x_iret hZ dX11_split_12
theorem M_X11_split {N : Nat} {a0 : (Option Nat)} {a1 : Int32} {a2 : Int32} {H H1 : xH} {r1 : Int32} (h : F_X11_split N a0 a1 a2 H = some (r1, H1)) : xM yX11_split cX11_split 3 (some .int) 3 [.inr (.inr a0), .inl a1, .inl a2] H (some (.int r1)) H1 :=
  xM_of (by decide +kernel) (xT_tb 737 (by decide +kernel) (by decide +kernel)) (by simp [xargs, x2]) rfl (P_X11_split rfl a0 a1 a2 H h)
/-! BettingBook.when(II)I -/
noncomputable def F_X11_when_J33 (N : Nat) (x0 : (Option Nat)) (x1 : Int32) (x2 : Int32) (s0 : Int32) (H : xH) : Option (Int32 × xH) :=
  if s0 = 0 then (some ((-1 : Int32), H)) else ((xgA H x0 10 6).bind fun v2 =>
  (xob H v2 6).bind fun b4 =>
  x_bd2 (F_X6_decidedOn N v2 x1 x2 H) fun v5 H3 =>
  some (v5, H3))
set_option maxRecDepth 20000 in
set_option maxHeartbeats 4000000 in
theorem P_X11_when_J33 {N : Nat} {Z : xZ} {rv : Int32} {Hf : xH} (hZ : Z = xZm cX11_when yX11_when 4 3 (some .int) (some (.int rv)) Hf) : ∀ (x0 : (Option Nat)) (x1 : Int32) (x2 : Int32) (s0 : Int32) (H : xH), F_X11_when_J33 N x0 x1 x2 s0 H = some (rv, Hf) → xWq Z H 33 [xA x0, xI x1, xI x2, xN] [.int s0] := by
  have hz : Z.1 = (cX11_when, yX11_when, 4) := by rw [hZ]; rfl
  have hδ : Z.2.1 = 3 := by rw [hZ]; rfl
  intro x0 x1 x2 s0 H h
  unfold F_X11_when_J33 at h
  refine x_istore_n (pl' := [xA x0, xI x1, xI x2, xI s0]) hz dX11_when_33 (by decide) rfl ?_
  refine x_iload_n hz dX11_when_34 rfl ?_
  refine x_if_eq (t := 50) hz dX11_when_35 (by decide) (fun c1 => ?_) (fun c1 => ?_)
  · replace h := x_ip c1 h
    refine x_iconst (v := (-1 : Int32)) hz dX11_when_50 (by decide) ?_
    cases h
    exact x_iret hZ dX11_when_51
  · replace h := x_in c1 h
    refine x_aload_n hz dX11_when_38 rfl ?_
    obtain ⟨v2, e_v2, h⟩ := x_bnd h
    refine x_getA hz dX11_when_39 fs_X11_34 e_v2 ?_
    refine x_iload_n hz dX11_when_42 rfl ?_
    refine x_iload_n hz dX11_when_43 rfl ?_
    obtain ⟨b4, e_b4, h⟩ := x_bnd h
    obtain ⟨v5, H3, e_H3, h⟩ := x_b2 h
    refine x_callVi (as := [.inl x1, .inl x2]) (st := []) cs_X11_224 (ci := 6) ⟨rfl, rfl⟩ rfl rfl hz (by omega) (by decide) dX11_when_44 e_b4 (M_X6_decidedOn e_H3) ?_
    refine x_goto (t := 51) hz dX11_when_47 (by decide) ?_
    cases h
    exact x_iret hZ dX11_when_51
noncomputable def F_X11_when_J32 (N : Nat) (x0 : (Option Nat)) (x1 : Int32) (x2 : Int32) (H : xH) : Option (Int32 × xH) :=
  (F_X11_when_J33 N) x0 x1 x2 (0 : Int32) H
set_option maxRecDepth 20000 in
set_option maxHeartbeats 4000000 in
theorem P_X11_when_J32 {N : Nat} {Z : xZ} {rv : Int32} {Hf : xH} (hZ : Z = xZm cX11_when yX11_when 4 3 (some .int) (some (.int rv)) Hf) : ∀ (x0 : (Option Nat)) (x1 : Int32) (x2 : Int32) (H : xH), F_X11_when_J32 N x0 x1 x2 H = some (rv, Hf) → xWq Z H 32 [xA x0, xI x1, xI x2, xN] [] := by
  have hz : Z.1 = (cX11_when, yX11_when, 4) := by rw [hZ]; rfl
  have hδ : Z.2.1 = 3 := by rw [hZ]; rfl
  intro x0 x1 x2 H h
  unfold F_X11_when_J32 at h
  refine x_iconst (v := (0 : Int32)) hz dX11_when_32 (by decide) ?_
  exact x_wk (xwk_c (xwk_c (xwk_c (xwk_n xwk_0)))) ((P_X11_when_J33 hZ) x0 x1 x2 (0 : Int32) H h)
noncomputable def F_X11_when (N : Nat) (a0 : (Option Nat)) (a1 : Int32) (a2 : Int32) (H : xH) : Option (Int32 × xH) :=
  (xgA H a0 10 5).bind fun v1 =>
  (xob H v1 2).bind fun b3 =>
  x_bd2 (F_X2_betAt N v1 a1 H) fun v4 H2 =>
  if v4 = none then ((F_X11_when_J32 N) a0 a1 a2 H2) else ((xgA H2 a0 10 6).bind fun v6 =>
  (xob H2 v6 6).bind fun b8 =>
  x_bd2 (F_X6_cellAt N v6 a2 H2) fun v9 H7 =>
  if (lg_cmp (v9 &&& (2305843009213693952 : Int64)) (0 : Int64)) = 0 then ((F_X11_when_J32 N) a0 a1 a2 H7) else ((F_X11_when_J33 N) a0 a1 a2 (1 : Int32) H7))
set_option maxRecDepth 20000 in
set_option maxHeartbeats 4000000 in
theorem P_X11_when {N : Nat} {Z : xZ} {rv : Int32} {Hf : xH} (hZ : Z = xZm cX11_when yX11_when 4 3 (some .int) (some (.int rv)) Hf) : ∀ (a0 : (Option Nat)) (a1 : Int32) (a2 : Int32) (H : xH), F_X11_when N a0 a1 a2 H = some (rv, Hf) → xWq Z H 0 [xA a0, xI a1, xI a2, xN] [] := by
  have hz : Z.1 = (cX11_when, yX11_when, 4) := by rw [hZ]; rfl
  have hδ : Z.2.1 = 3 := by rw [hZ]; rfl
  intro a0 a1 a2 H h
  unfold F_X11_when at h
  refine x_aload_n hz dX11_when_0 rfl ?_
  obtain ⟨v1, e_v1, h⟩ := x_bnd h
  refine x_getA hz dX11_when_1 fs_X11_27 e_v1 ?_
  refine x_iload_n hz dX11_when_4 rfl ?_
  obtain ⟨b3, e_b3, h⟩ := x_bnd h
  obtain ⟨v4, H2, e_H2, h⟩ := x_b2 h
  refine x_callVa (as := [.inl a1]) (st := []) cs_X11_147 (ci := 2) ⟨rfl, rfl⟩ rfl rfl hz (by omega) (by decide) dX11_when_5 e_b3 (M_X2_betAt e_H2) ?_
  refine x_ifnull (t := 32) hz dX11_when_8 (by decide) (fun c5 => ?_) (fun c5 => ?_)
  · replace h := x_ip c5 h
    exact x_wk (xwk_c (xwk_c (xwk_c (xwk_n xwk_0)))) ((P_X11_when_J32 hZ) a0 a1 a2 H2 h)
  · replace h := x_in c5 h
    refine x_aload_n hz dX11_when_11 rfl ?_
    obtain ⟨v6, e_v6, h⟩ := x_bnd h
    refine x_getA hz dX11_when_12 fs_X11_34 e_v6 ?_
    refine x_iload_n hz dX11_when_15 rfl ?_
    obtain ⟨b8, e_b8, h⟩ := x_bnd h
    obtain ⟨v9, H7, e_H7, h⟩ := x_b2 h
    refine x_callVl (as := [.inl a2]) (st := []) cs_X11_201 (ci := 6) ⟨rfl, rfl⟩ rfl rfl hz (by omega) (by decide) dX11_when_16 e_b8 (M_X6_cellAt e_H7) ?_
    refine x_ldc2 (v := (2305843009213693952 : Int64)) hz dX11_when_19 wc_X11_207 ?_
    refine x_land hz dX11_when_22 ?_
    refine x_lconst (v := (0 : Int64)) hz dX11_when_23 (by decide) ?_
    refine x_lcmp hz dX11_when_24 ?_
    refine x_if_eq (t := 32) hz dX11_when_25 (by decide) (fun c10 => ?_) (fun c10 => ?_)
    · replace h := x_ip c10 h
      exact x_wk (xwk_c (xwk_c (xwk_c (xwk_n xwk_0)))) ((P_X11_when_J32 hZ) a0 a1 a2 H7 h)
    · replace h := x_in c10 h
      refine x_iconst (v := (1 : Int32)) hz dX11_when_28 (by decide) ?_
      refine x_goto (t := 33) hz dX11_when_29 (by decide) ?_
      exact x_wk (xwk_c (xwk_c (xwk_c (xwk_n xwk_0)))) ((P_X11_when_J33 hZ) a0 a1 a2 (1 : Int32) H7 h)
theorem M_X11_when {N : Nat} {a0 : (Option Nat)} {a1 : Int32} {a2 : Int32} {H H1 : xH} {r1 : Int32} (h : F_X11_when N a0 a1 a2 H = some (r1, H1)) : xM yX11_when cX11_when 4 (some .int) 3 [.inr (.inr a0), .inl a1, .inl a2] H (some (.int r1)) H1 :=
  xM_of (by decide +kernel) (xT_tb 745 (by decide +kernel) (by decide +kernel)) (by simp [xargs, x2]) rfl (P_X11_when rfl a0 a1 a2 H h)
/-! BettingBook.latest(I)I -/
noncomputable def F_X11_latest (N : Nat) (a0 : (Option Nat)) (a1 : Int32) (H : xH) : Option (Int32 × xH) :=
  (xgA H a0 10 5).bind fun v1 =>
  (xob H v1 2).bind fun b3 =>
  x_bd2 (F_X2_betAt N v1 a1 H) fun v4 H2 =>
  if v4 = none then (some ((-1 : Int32), H2)) else ((xgA H2 a0 10 6).bind fun v6 =>
  (xob H2 v6 6).bind fun b8 =>
  x_bd2 (F_X6_lastDecided N v6 a1 H2) fun v9 H7 =>
  some (v9, H7))
set_option maxRecDepth 20000 in
set_option maxHeartbeats 4000000 in
theorem P_X11_latest {N : Nat} {Z : xZ} {rv : Int32} {Hf : xH} (hZ : Z = xZm cX11_latest yX11_latest 2 5 (some .int) (some (.int rv)) Hf) : ∀ (a0 : (Option Nat)) (a1 : Int32) (H : xH), F_X11_latest N a0 a1 H = some (rv, Hf) → xWq Z H 0 [xA a0, xI a1] [] := by
  have hz : Z.1 = (cX11_latest, yX11_latest, 2) := by rw [hZ]; rfl
  have hδ : Z.2.1 = 5 := by rw [hZ]; rfl
  intro a0 a1 H h
  unfold F_X11_latest at h
  refine x_aload_n hz dX11_latest_0 rfl ?_
  obtain ⟨v1, e_v1, h⟩ := x_bnd h
  refine x_getA hz dX11_latest_1 fs_X11_27 e_v1 ?_
  refine x_iload_n hz dX11_latest_4 rfl ?_
  obtain ⟨b3, e_b3, h⟩ := x_bnd h
  obtain ⟨v4, H2, e_H2, h⟩ := x_b2 h
  refine x_callVa (as := [.inl a1]) (st := []) cs_X11_147 (ci := 2) ⟨rfl, rfl⟩ rfl rfl hz (by omega) (by decide) dX11_latest_5 e_b3 (M_X2_betAt e_H2) ?_
  refine x_ifnonnull (t := 15) hz dX11_latest_8 (by decide) (fun c5 => ?_) (fun c5 => ?_)
  · replace h := x_in c5 h
    refine x_aload_n hz dX11_latest_15 rfl ?_
    obtain ⟨v6, e_v6, h⟩ := x_bnd h
    refine x_getA hz dX11_latest_16 fs_X11_34 e_v6 ?_
    refine x_iload_n hz dX11_latest_19 rfl ?_
    obtain ⟨b8, e_b8, h⟩ := x_bnd h
    obtain ⟨v9, H7, e_H7, h⟩ := x_b2 h
    refine x_callVi (as := [.inl a1]) (st := []) cs_X11_227 (ci := 6) ⟨rfl, rfl⟩ rfl rfl hz (by omega) (by decide) dX11_latest_20 e_b8 (M_X6_lastDecided e_H7) ?_
    cases h
    exact x_iret hZ dX11_latest_23
  · replace h := x_ip c5 h
    refine x_iconst (v := (-1 : Int32)) hz dX11_latest_11 (by decide) ?_
    refine x_goto (t := 23) hz dX11_latest_12 (by decide) ?_
    cases h
    exact x_iret hZ dX11_latest_23
theorem M_X11_latest {N : Nat} {a0 : (Option Nat)} {a1 : Int32} {H H1 : xH} {r1 : Int32} (h : F_X11_latest N a0 a1 H = some (r1, H1)) : xM yX11_latest cX11_latest 2 (some .int) 5 [.inr (.inr a0), .inl a1] H (some (.int r1)) H1 :=
  xM_of (by decide +kernel) (xT_tb 763 (by decide +kernel) (by decide +kernel)) (by simp [xargs, x2]) rfl (P_X11_latest rfl a0 a1 H h)
/-! BettingBook.hang(I)I -/
noncomputable def F_X11_hang (N : Nat) (a0 : (Option Nat)) (a1 : Int32) (H : xH) : Option (Int32 × xH) :=
  (xgA H a0 10 5).bind fun v1 =>
  (xob H v1 2).bind fun b3 =>
  x_bd2 (F_X2_betAt N v1 a1 H) fun v4 H2 =>
  if v4 = none then (some ((-1 : Int32), H2)) else ((xgA H2 a0 10 6).bind fun v6 =>
  (xob H2 v6 6).bind fun b8 =>
  x_bd2 (F_X6_hangingOn N v6 a1 H2) fun v9 H7 =>
  some (v9, H7))
set_option maxRecDepth 20000 in
set_option maxHeartbeats 4000000 in
theorem P_X11_hang {N : Nat} {Z : xZ} {rv : Int32} {Hf : xH} (hZ : Z = xZm cX11_hang yX11_hang 2 49 (some .int) (some (.int rv)) Hf) : ∀ (a0 : (Option Nat)) (a1 : Int32) (H : xH), F_X11_hang N a0 a1 H = some (rv, Hf) → xWq Z H 0 [xA a0, xI a1] [] := by
  have hz : Z.1 = (cX11_hang, yX11_hang, 2) := by rw [hZ]; rfl
  have hδ : Z.2.1 = 49 := by rw [hZ]; rfl
  intro a0 a1 H h
  unfold F_X11_hang at h
  refine x_aload_n hz dX11_hang_0 rfl ?_
  obtain ⟨v1, e_v1, h⟩ := x_bnd h
  refine x_getA hz dX11_hang_1 fs_X11_27 e_v1 ?_
  refine x_iload_n hz dX11_hang_4 rfl ?_
  obtain ⟨b3, e_b3, h⟩ := x_bnd h
  obtain ⟨v4, H2, e_H2, h⟩ := x_b2 h
  refine x_callVa (as := [.inl a1]) (st := []) cs_X11_147 (ci := 2) ⟨rfl, rfl⟩ rfl rfl hz (by omega) (by decide) dX11_hang_5 e_b3 (M_X2_betAt e_H2) ?_
  refine x_ifnonnull (t := 15) hz dX11_hang_8 (by decide) (fun c5 => ?_) (fun c5 => ?_)
  · replace h := x_in c5 h
    refine x_aload_n hz dX11_hang_15 rfl ?_
    obtain ⟨v6, e_v6, h⟩ := x_bnd h
    refine x_getA hz dX11_hang_16 fs_X11_34 e_v6 ?_
    refine x_iload_n hz dX11_hang_19 rfl ?_
    obtain ⟨b8, e_b8, h⟩ := x_bnd h
    obtain ⟨v9, H7, e_H7, h⟩ := x_b2 h
    refine x_callVi (as := [.inl a1]) (st := []) cs_X11_230 (ci := 6) ⟨rfl, rfl⟩ rfl rfl hz (by omega) (by decide) dX11_hang_20 e_b8 (M_X6_hangingOn e_H7) ?_
    cases h
    exact x_iret hZ dX11_hang_23
  · replace h := x_ip c5 h
    refine x_iconst (v := (-1 : Int32)) hz dX11_hang_11 (by decide) ?_
    refine x_goto (t := 23) hz dX11_hang_12 (by decide) ?_
    cases h
    exact x_iret hZ dX11_hang_23
theorem M_X11_hang {N : Nat} {a0 : (Option Nat)} {a1 : Int32} {H H1 : xH} {r1 : Int32} (h : F_X11_hang N a0 a1 H = some (r1, H1)) : xM yX11_hang cX11_hang 2 (some .int) 49 [.inr (.inr a0), .inl a1] H (some (.int r1)) H1 :=
  xM_of (by decide +kernel) (xT_tb 787 (by decide +kernel) (by decide +kernel)) (by simp [xargs, x2]) rfl (P_X11_hang rfl a0 a1 H h)
/-! BettingBook.same(II)I -/
noncomputable def F_X11_same_J95 (N : Nat) (k34 : (Option Nat) → Int32 → Int32 → (Option Nat) → (Option Nat) → Int32 → xH → Option (Int32 × xH)) (x0 : (Option Nat)) (x1 : Int32) (x2 : Int32) (x3 : (Option Nat)) (x4 : (Option Nat)) (x5 : Int32) (H : xH) : Option (Int32 × xH) :=
  k34 x0 x1 x2 x3 x4 (x5 + 1) H
set_option maxRecDepth 20000 in
set_option maxHeartbeats 4000000 in
theorem P_X11_same_J95 {N : Nat} {Z : xZ} {rv : Int32} {Hf : xH} (hZ : Z = xZm cX11_same yX11_same 8 3 (some .int) (some (.int rv)) Hf) {k34 : (Option Nat) → Int32 → Int32 → (Option Nat) → (Option Nat) → Int32 → xH → Option (Int32 × xH)} (hk34 : ∀ (x0 : (Option Nat)) (x1 : Int32) (x2 : Int32) (x3 : (Option Nat)) (x4 : (Option Nat)) (x5 : Int32) (H : xH), k34 x0 x1 x2 x3 x4 x5 H = some (rv, Hf) → xWq Z H 34 [xA x0, xI x1, xI x2, xA x3, xA x4, xI x5, xN, xN] []) : ∀ (x0 : (Option Nat)) (x1 : Int32) (x2 : Int32) (x3 : (Option Nat)) (x4 : (Option Nat)) (x5 : Int32) (H : xH), F_X11_same_J95 N k34 x0 x1 x2 x3 x4 x5 H = some (rv, Hf) → xWq Z H 95 [xA x0, xI x1, xI x2, xA x3, xA x4, xI x5, xN, xN] [] := by
  have hz : Z.1 = (cX11_same, yX11_same, 8) := by rw [hZ]; rfl
  have hδ : Z.2.1 = 3 := by rw [hZ]; rfl
  intro x0 x1 x2 x3 x4 x5 H h
  unfold F_X11_same_J95 at h
  refine x_iinc (w := (x5 + 1)) (pl' := [xA x0, xI x1, xI x2, xA x3, xA x4, xI (x5 + 1), xN, xN]) hz dX11_same_95 rfl rfl (by decide) rfl ?_
  refine x_goto (t := 34) hz dX11_same_98 (by decide) ?_
  exact x_wk (xwk_c (xwk_c (xwk_c (xwk_c (xwk_c (xwk_c (xwk_n (xwk_n xwk_0)))))))) (hk34 x0 x1 x2 x3 x4 (x5 + 1) H h)
noncomputable def F_X11_same_J34 (N : Nat) (k34 : (Option Nat) → Int32 → Int32 → (Option Nat) → (Option Nat) → Int32 → xH → Option (Int32 × xH)) (x0 : (Option Nat)) (x1 : Int32) (x2 : Int32) (x3 : (Option Nat)) (x4 : (Option Nat)) (x5 : Int32) (H : xH) : Option (Int32 × xH) :=
  (xgA H x0 10 6).bind fun v1 =>
  (xgI H v1 6 1).bind fun v2 =>
  if v2 ≤ x5 then (some ((-1 : Int32), H)) else ((xgA H x0 10 6).bind fun v4 =>
  (xob H v4 6).bind fun b6 =>
  x_bd2 (F_X6_cellAt N v4 x5 H) fun v7 H5 =>
  if (lg_cmp (v7 &&& (2305843009213693952 : Int64)) (0 : Int64)) = 0 then ((F_X11_same_J95 N k34) x0 x1 x2 x3 x4 x5 H5) else (x_bd2 (F_X11_outcome N v7 x1 H5) fun v10 H9 =>
  (xob H9 x3 0).bind fun b12 =>
  x_bd2 (F_X0_coinOf N x3 v10 H9) fun v13 H11 =>
  x_bd2 (F_X11_outcome N v7 x2 H11) fun v15 H14 =>
  (xob H14 x4 0).bind fun b17 =>
  x_bd2 (F_X0_coinOf N x4 v15 H14) fun v18 H16 =>
  if v13 = v18 then ((F_X11_same_J95 N k34) x0 x1 x2 x3 x4 x5 H16) else (some (x5, H16))))
set_option maxRecDepth 20000 in
set_option maxHeartbeats 4000000 in
theorem P_X11_same_J34 {N : Nat} {Z : xZ} {rv : Int32} {Hf : xH} (hZ : Z = xZm cX11_same yX11_same 8 3 (some .int) (some (.int rv)) Hf) {k34 : (Option Nat) → Int32 → Int32 → (Option Nat) → (Option Nat) → Int32 → xH → Option (Int32 × xH)} (hk34 : ∀ (x0 : (Option Nat)) (x1 : Int32) (x2 : Int32) (x3 : (Option Nat)) (x4 : (Option Nat)) (x5 : Int32) (H : xH), k34 x0 x1 x2 x3 x4 x5 H = some (rv, Hf) → xWq Z H 34 [xA x0, xI x1, xI x2, xA x3, xA x4, xI x5, xN, xN] []) : ∀ (x0 : (Option Nat)) (x1 : Int32) (x2 : Int32) (x3 : (Option Nat)) (x4 : (Option Nat)) (x5 : Int32) (H : xH), F_X11_same_J34 N k34 x0 x1 x2 x3 x4 x5 H = some (rv, Hf) → xWq Z H 34 [xA x0, xI x1, xI x2, xA x3, xA x4, xI x5, xN, xN] [] := by
  have hz : Z.1 = (cX11_same, yX11_same, 8) := by rw [hZ]; rfl
  have hδ : Z.2.1 = 3 := by rw [hZ]; rfl
  intro x0 x1 x2 x3 x4 x5 H h
  unfold F_X11_same_J34 at h
  refine x_iload hz dX11_same_34 rfl ?_
  refine x_aload_n hz dX11_same_36 rfl ?_
  obtain ⟨v1, e_v1, h⟩ := x_bnd h
  refine x_getA hz dX11_same_37 fs_X11_34 e_v1 ?_
  obtain ⟨v2, e_v2, h⟩ := x_bnd h
  refine x_getI hz dX11_same_40 fs_X11_233 e_v2 ?_
  refine x_icmp_ge (t := 101) hz dX11_same_43 (by decide) (fun c3 => ?_) (fun c3 => ?_)
  · replace h := x_ip c3 h
    refine x_iconst (v := (-1 : Int32)) hz dX11_same_101 (by decide) ?_
    cases h
    exact x_iret hZ dX11_same_102
  · replace h := x_in c3 h
    refine x_aload_n hz dX11_same_46 rfl ?_
    obtain ⟨v4, e_v4, h⟩ := x_bnd h
    refine x_getA hz dX11_same_47 fs_X11_34 e_v4 ?_
    refine x_iload hz dX11_same_50 rfl ?_
    obtain ⟨b6, e_b6, h⟩ := x_bnd h
    obtain ⟨v7, H5, e_H5, h⟩ := x_b2 h
    refine x_callVl (as := [.inl x5]) (st := []) cs_X11_201 (ci := 6) ⟨rfl, rfl⟩ rfl rfl hz (by omega) (by decide) dX11_same_52 e_b6 (M_X6_cellAt e_H5) ?_
    refine x_lstore (pl' := [xA x0, xI x1, xI x2, xA x3, xA x4, xI x5, xJ v7, xN]) hz dX11_same_55 (by decide) rfl ?_
    refine x_lload hz dX11_same_57 rfl ?_
    refine x_ldc2 (v := (2305843009213693952 : Int64)) hz dX11_same_59 wc_X11_207 ?_
    refine x_land hz dX11_same_62 ?_
    refine x_lconst (v := (0 : Int64)) hz dX11_same_63 (by decide) ?_
    refine x_lcmp hz dX11_same_64 ?_
    refine x_if_eq (t := 95) hz dX11_same_65 (by decide) (fun c8 => ?_) (fun c8 => ?_)
    · replace h := x_ip c8 h
      exact x_wk (xwk_c (xwk_c (xwk_c (xwk_c (xwk_c (xwk_c (xwk_n (xwk_n xwk_0)))))))) ((P_X11_same_J95 hZ hk34) x0 x1 x2 x3 x4 x5 H5 h)
    · replace h := x_in c8 h
      refine x_aload_n hz dX11_same_68 rfl ?_
      refine x_lload hz dX11_same_69 rfl ?_
      refine x_iload_n hz dX11_same_71 rfl ?_
      obtain ⟨v10, H9, e_H9, h⟩ := x_b2 h
      refine x_callSi (as := [.inr (.inl v7), .inl x1]) (st := [va_rf x3]) cs_X11_210 rfl rfl hz (by omega) (Nat.le_trans (x_sm1 (x_rfc _) x_sm0) (by decide)) dX11_same_72 (M_X11_outcome e_H9) ?_
      obtain ⟨b12, e_b12, h⟩ := x_bnd h
      obtain ⟨v13, H11, e_H11, h⟩ := x_b2 h
      refine x_callVi (as := [.inl v10]) (st := []) cs_X11_214 (ci := 0) ⟨rfl, rfl⟩ rfl rfl hz (by omega) (by decide) dX11_same_75 e_b12 (M_X0_coinOf e_H11) ?_
      refine x_aload hz dX11_same_78 rfl ?_
      refine x_lload hz dX11_same_80 rfl ?_
      refine x_iload_n hz dX11_same_82 rfl ?_
      obtain ⟨v15, H14, e_H14, h⟩ := x_b2 h
      refine x_callSi (as := [.inr (.inl v7), .inl x2]) (st := [va_rf x4, .int v13]) cs_X11_210 rfl rfl hz (by omega) (Nat.le_trans (x_sm1 (x_rfc _) (x_sm1 rfl x_sm0)) (by decide)) dX11_same_83 (M_X11_outcome e_H14) ?_
      obtain ⟨b17, e_b17, h⟩ := x_bnd h
      obtain ⟨v18, H16, e_H16, h⟩ := x_b2 h
      refine x_callVi (as := [.inl v15]) (st := [.int v13]) cs_X11_214 (ci := 0) ⟨rfl, rfl⟩ rfl rfl hz (by omega) (Nat.le_trans (x_sm1 rfl x_sm0) (by decide)) dX11_same_86 e_b17 (M_X0_coinOf e_H16) ?_
      refine x_icmp_eq (t := 95) hz dX11_same_89 (by decide) (fun c19 => ?_) (fun c19 => ?_)
      · replace h := x_ip c19 h
        exact x_wk (xwk_c (xwk_c (xwk_c (xwk_c (xwk_c (xwk_c (xwk_n (xwk_n xwk_0)))))))) ((P_X11_same_J95 hZ hk34) x0 x1 x2 x3 x4 x5 H16 h)
      · replace h := x_in c19 h
        refine x_iload hz dX11_same_92 rfl ?_
        cases h
        exact x_iret hZ dX11_same_94
noncomputable def F_X11_same_L34 (N : Nat) : Nat → (Option Nat) → Int32 → Int32 → (Option Nat) → (Option Nat) → Int32 → xH → Option (Int32 × xH)
  | 0 => fun _ _ _ _ _ _ _ => none
  | n + 1 => F_X11_same_J34 N (F_X11_same_L34 N n)
theorem P_X11_same_L34 {N : Nat} {Z : xZ} {rv : Int32} {Hf : xH} (hZ : Z = xZm cX11_same yX11_same 8 3 (some .int) (some (.int rv)) Hf) : ∀ (n : Nat) (x0 : (Option Nat)) (x1 : Int32) (x2 : Int32) (x3 : (Option Nat)) (x4 : (Option Nat)) (x5 : Int32) (H : xH), F_X11_same_L34 N n x0 x1 x2 x3 x4 x5 H = some (rv, Hf) → xWq Z H 34 [xA x0, xI x1, xI x2, xA x3, xA x4, xI x5, xN, xN] [] := by
  intro n
  induction n with
  | zero => intro _ _ _ _ _ _ _ h; cases h
  | succ n ih => exact P_X11_same_J34 hZ ih
noncomputable def F_X11_same (N : Nat) (a0 : (Option Nat)) (a1 : Int32) (a2 : Int32) (H : xH) : Option (Int32 × xH) :=
  (xgA H a0 10 5).bind fun v1 =>
  (xob H v1 2).bind fun b3 =>
  x_bd2 (F_X2_betAt N v1 a1 H) fun v4 H2 =>
  (xgA H2 a0 10 5).bind fun v5 =>
  (xob H2 v5 2).bind fun b7 =>
  x_bd2 (F_X2_betAt N v5 a2 H2) fun v8 H6 =>
  if v4 = none then (some ((-2 : Int32), H6)) else (if v8 = none then (some ((-2 : Int32), H6)) else ((F_X11_same_L34 N N) a0 a1 a2 v4 v8 (0 : Int32) H6))
set_option maxRecDepth 20000 in
set_option maxHeartbeats 4000000 in
theorem P_X11_same {N : Nat} {Z : xZ} {rv : Int32} {Hf : xH} (hZ : Z = xZm cX11_same yX11_same 8 3 (some .int) (some (.int rv)) Hf) : ∀ (a0 : (Option Nat)) (a1 : Int32) (a2 : Int32) (H : xH), F_X11_same N a0 a1 a2 H = some (rv, Hf) → xWq Z H 0 [xA a0, xI a1, xI a2, xN, xN, xN, xN, xN] [] := by
  have hz : Z.1 = (cX11_same, yX11_same, 8) := by rw [hZ]; rfl
  have hδ : Z.2.1 = 3 := by rw [hZ]; rfl
  intro a0 a1 a2 H h
  unfold F_X11_same at h
  refine x_aload_n hz dX11_same_0 rfl ?_
  obtain ⟨v1, e_v1, h⟩ := x_bnd h
  refine x_getA hz dX11_same_1 fs_X11_27 e_v1 ?_
  refine x_iload_n hz dX11_same_4 rfl ?_
  obtain ⟨b3, e_b3, h⟩ := x_bnd h
  obtain ⟨v4, H2, e_H2, h⟩ := x_b2 h
  refine x_callVa (as := [.inl a1]) (st := []) cs_X11_147 (ci := 2) ⟨rfl, rfl⟩ rfl rfl hz (by omega) (by decide) dX11_same_5 e_b3 (M_X2_betAt e_H2) ?_
  refine x_astore_n (pl' := [xA a0, xI a1, xI a2, xA v4, xN, xN, xN, xN]) hz dX11_same_8 (by decide) rfl ?_
  refine x_aload_n hz dX11_same_9 rfl ?_
  obtain ⟨v5, e_v5, h⟩ := x_bnd h
  refine x_getA hz dX11_same_10 fs_X11_27 e_v5 ?_
  refine x_iload_n hz dX11_same_13 rfl ?_
  obtain ⟨b7, e_b7, h⟩ := x_bnd h
  obtain ⟨v8, H6, e_H6, h⟩ := x_b2 h
  refine x_callVa (as := [.inl a2]) (st := []) cs_X11_147 (ci := 2) ⟨rfl, rfl⟩ rfl rfl hz (by omega) (by decide) dX11_same_14 e_b7 (M_X2_betAt e_H6) ?_
  refine x_astore (pl' := [xA a0, xI a1, xI a2, xA v4, xA v8, xN, xN, xN]) hz dX11_same_17 (by decide) rfl ?_
  refine x_aload_n hz dX11_same_19 rfl ?_
  refine x_ifnull (t := 28) hz dX11_same_20 (by decide) (fun c9 => ?_) (fun c9 => ?_)
  · replace h := x_ip c9 h
    refine x_bipush (v := (-2 : Int32)) hz dX11_same_28 (by decide) ?_
    cases h
    exact x_iret hZ dX11_same_30
  · replace h := x_in c9 h
    refine x_aload hz dX11_same_23 rfl ?_
    refine x_ifnonnull (t := 31) hz dX11_same_25 (by decide) (fun c10 => ?_) (fun c10 => ?_)
    · replace h := x_in c10 h
      refine x_iconst (v := (0 : Int32)) hz dX11_same_31 (by decide) ?_
      refine x_istore (pl' := [xA a0, xI a1, xI a2, xA v4, xA v8, xI (0 : Int32), xN, xN]) hz dX11_same_32 (by decide) rfl ?_
      exact x_wk (xwk_c (xwk_c (xwk_c (xwk_c (xwk_c (xwk_c (xwk_n (xwk_n xwk_0)))))))) ((P_X11_same_L34 hZ N) a0 a1 a2 v4 v8 (0 : Int32) H6 h)
    · replace h := x_ip c10 h
      refine x_bipush (v := (-2 : Int32)) hz dX11_same_28 (by decide) ?_
      cases h
      exact x_iret hZ dX11_same_30
theorem M_X11_same {N : Nat} {a0 : (Option Nat)} {a1 : Int32} {a2 : Int32} {H H1 : xH} {r1 : Int32} (h : F_X11_same N a0 a1 a2 H = some (r1, H1)) : xM yX11_same cX11_same 8 (some .int) 3 [.inr (.inr a0), .inl a1, .inl a2] H (some (.int r1)) H1 :=
  xM_of (by decide +kernel) (xT_tb 814 (by decide +kernel) (by decide +kernel)) (by simp [xargs, x2]) rfl (P_X11_same rfl a0 a1 a2 H h)
/-! BettingBook.hasNow(I)I -/
noncomputable def F_X11_hasNow (N : Nat) (a0 : (Option Nat)) (a1 : Int32) (H : xH) : Option (Int32 × xH) :=
  (xgA H a0 10 11).bind fun v1 =>
  (xgA H a0 10 5).bind fun v2 =>
  (xgA H a0 10 7).bind fun v3 =>
  (xob H v1 3).bind fun b5 =>
  (F_X3_ofMember N v1 v2 v3 a1 H).bind fun H4 =>
  (xgA H4 a0 10 7).bind fun v6 =>
  (xgA H4 v6 4 4).bind fun v7 =>
  x_bd2 (F_X11_at N v7 a1 H4) fun v9 H8 =>
  (xgA H8 a0 10 11).bind fun v10 =>
  (xgA H8 a0 10 6).bind fun v11 =>
  (xgJ H8 v11 6 4).bind fun v12 =>
  (xob H8 v10 3).bind fun b14 =>
  x_bd2 (F_X3_sum N v10 v12 H8) fun v15 H13 =>
  some ((v9 + v15), H13)
set_option maxRecDepth 20000 in
set_option maxHeartbeats 4000000 in
theorem P_X11_hasNow {N : Nat} {Z : xZ} {rv : Int32} {Hf : xH} (hZ : Z = xZm cX11_hasNow yX11_hasNow 2 4 (some .int) (some (.int rv)) Hf) : ∀ (a0 : (Option Nat)) (a1 : Int32) (H : xH), F_X11_hasNow N a0 a1 H = some (rv, Hf) → xWq Z H 0 [xA a0, xI a1] [] := by
  have hz : Z.1 = (cX11_hasNow, yX11_hasNow, 2) := by rw [hZ]; rfl
  have hδ : Z.2.1 = 4 := by rw [hZ]; rfl
  intro a0 a1 H h
  unfold F_X11_hasNow at h
  refine x_aload_n hz dX11_hasNow_0 rfl ?_
  obtain ⟨v1, e_v1, h⟩ := x_bnd h
  refine x_getA hz dX11_hasNow_1 fs_X11_59 e_v1 ?_
  refine x_aload_n hz dX11_hasNow_4 rfl ?_
  obtain ⟨v2, e_v2, h⟩ := x_bnd h
  refine x_getA hz dX11_hasNow_5 fs_X11_27 e_v2 ?_
  refine x_aload_n hz dX11_hasNow_8 rfl ?_
  obtain ⟨v3, e_v3, h⟩ := x_bnd h
  refine x_getA hz dX11_hasNow_9 fs_X11_41 e_v3 ?_
  refine x_iload_n hz dX11_hasNow_12 rfl ?_
  obtain ⟨b5, e_b5, h⟩ := x_bnd h
  obtain ⟨H4, e_H4, h⟩ := x_bnd h
  refine x_callVv (as := [.inr (.inr v2), .inr (.inr v3), .inl a1]) (st := []) cs_X11_239 (ci := 3) ⟨rfl, rfl⟩ rfl rfl hz (by omega) (by decide) dX11_hasNow_13 e_b5 (M_X3_ofMember e_H4) ?_
  refine x_aload_n hz dX11_hasNow_16 rfl ?_
  obtain ⟨v6, e_v6, h⟩ := x_bnd h
  refine x_getA hz dX11_hasNow_17 fs_X11_41 e_v6 ?_
  obtain ⟨v7, e_v7, h⟩ := x_bnd h
  refine x_getA hz dX11_hasNow_20 fs_X11_255 e_v7 ?_
  refine x_iload_n hz dX11_hasNow_23 rfl ?_
  obtain ⟨v9, H8, e_H8, h⟩ := x_b2 h
  refine x_callSi (as := [.inr (.inr v7), .inl a1]) (st := []) cs_X11_140 rfl rfl hz (by omega) (by decide) dX11_hasNow_24 (M_X11_at e_H8) ?_
  refine x_aload_n hz dX11_hasNow_27 rfl ?_
  obtain ⟨v10, e_v10, h⟩ := x_bnd h
  refine x_getA hz dX11_hasNow_28 fs_X11_59 e_v10 ?_
  refine x_aload_n hz dX11_hasNow_31 rfl ?_
  obtain ⟨v11, e_v11, h⟩ := x_bnd h
  refine x_getA hz dX11_hasNow_32 fs_X11_34 e_v11 ?_
  obtain ⟨v12, e_v12, h⟩ := x_bnd h
  refine x_getJ hz dX11_hasNow_35 fs_X11_217 e_v12 ?_
  obtain ⟨b14, e_b14, h⟩ := x_bnd h
  obtain ⟨v15, H13, e_H13, h⟩ := x_b2 h
  refine x_callVi (as := [.inr (.inl v12)]) (st := [.int v9]) cs_X11_243 (ci := 3) ⟨rfl, rfl⟩ rfl rfl hz (by omega) (Nat.le_trans (x_sm1 rfl x_sm0) (by decide)) dX11_hasNow_38 e_b14 (M_X3_sum e_H13) ?_
  refine x_iadd hz dX11_hasNow_41 ?_
  cases h
  exact x_iret hZ dX11_hasNow_42
theorem M_X11_hasNow {N : Nat} {a0 : (Option Nat)} {a1 : Int32} {H H1 : xH} {r1 : Int32} (h : F_X11_hasNow N a0 a1 H = some (r1, H1)) : xM yX11_hasNow cX11_hasNow 2 (some .int) 4 [.inr (.inr a0), .inl a1] H (some (.int r1)) H1 :=
  xM_of (by decide +kernel) (xT_tb 822 (by decide +kernel) (by decide +kernel)) (by simp [xargs, x2]) rfl (P_X11_hasNow rfl a0 a1 H h)
/-! BettingBook.has(I)I -/
noncomputable def F_X11_has (N : Nat) (a0 : (Option Nat)) (a1 : Int32) (H : xH) : Option (Int32 × xH) :=
  (xgA H a0 10 5).bind fun v1 =>
  (xob H v1 2).bind fun b3 =>
  x_bd2 (F_X2_hasMember N v1 a1 H) fun v4 H2 =>
  if v4 = 0 then (some ((-1000000 : Int32), H2)) else ((xob H2 a0 10).bind fun b7 =>
  x_bd2 (F_X11_hasNow N a0 a1 H2) fun v8 H6 =>
  some (v8, H6))
set_option maxRecDepth 20000 in
set_option maxHeartbeats 4000000 in
theorem P_X11_has {N : Nat} {Z : xZ} {rv : Int32} {Hf : xH} (hZ : Z = xZm cX11_has yX11_has 2 5 (some .int) (some (.int rv)) Hf) : ∀ (a0 : (Option Nat)) (a1 : Int32) (H : xH), F_X11_has N a0 a1 H = some (rv, Hf) → xWq Z H 0 [xA a0, xI a1] [] := by
  have hz : Z.1 = (cX11_has, yX11_has, 2) := by rw [hZ]; rfl
  have hδ : Z.2.1 = 5 := by rw [hZ]; rfl
  intro a0 a1 H h
  unfold F_X11_has at h
  refine x_aload_n hz dX11_has_0 rfl ?_
  obtain ⟨v1, e_v1, h⟩ := x_bnd h
  refine x_getA hz dX11_has_1 fs_X11_27 e_v1 ?_
  refine x_iload_n hz dX11_has_4 rfl ?_
  obtain ⟨b3, e_b3, h⟩ := x_bnd h
  obtain ⟨v4, H2, e_H2, h⟩ := x_b2 h
  refine x_callVi (as := [.inl a1]) (st := []) cs_X11_185 (ci := 2) ⟨rfl, rfl⟩ rfl rfl hz (by omega) (by decide) dX11_has_5 e_b3 (M_X2_hasMember e_H2) ?_
  refine x_if_eq (t := 19) hz dX11_has_8 (by decide) (fun c5 => ?_) (fun c5 => ?_)
  · replace h := x_ip c5 h
    refine x_ldc (v := (-1000000 : Int32)) hz dX11_has_19 wc_X11_209 ?_
    cases h
    exact x_iret hZ dX11_has_21
  · replace h := x_in c5 h
    refine x_aload_n hz dX11_has_11 rfl ?_
    refine x_iload_n hz dX11_has_12 rfl ?_
    obtain ⟨b7, e_b7, h⟩ := x_bnd h
    obtain ⟨v8, H6, e_H6, h⟩ := x_b2 h
    refine x_callVi (as := [.inl a1]) (st := []) cs_X11_236 (ci := 10) ⟨rfl, rfl⟩ rfl rfl hz (by omega) (by decide) dX11_has_13 e_b7 (M_X11_hasNow e_H6) ?_
    refine x_goto (t := 21) hz dX11_has_16 (by decide) ?_
    cases h
    exact x_iret hZ dX11_has_21
theorem M_X11_has {N : Nat} {a0 : (Option Nat)} {a1 : Int32} {H H1 : xH} {r1 : Int32} (h : F_X11_has N a0 a1 H = some (r1, H1)) : xM yX11_has cX11_has 2 (some .int) 5 [.inr (.inr a0), .inl a1] H (some (.int r1)) H1 :=
  xM_of (by decide +kernel) (xT_tb 818 (by decide +kernel) (by decide +kernel)) (by simp [xargs, x2]) rfl (P_X11_has rfl a0 a1 H h)
/-! BettingBook.may(II)I -/
noncomputable def F_X11_may_J134 (N : Nat) (k50 : (Option Nat) → Int32 → Int32 → Int32 → Int32 → Int32 → Int32 → xH → Option (Int32 × xH)) (x0 : (Option Nat)) (x1 : Int32) (x2 : Int32) (x3 : Int32) (x4 : Int32) (x5 : Int32) (x6 : Int32) (H : xH) : Option (Int32 × xH) :=
  k50 x0 x1 x2 x3 x4 x5 (x6 + 1) H
set_option maxRecDepth 20000 in
set_option maxHeartbeats 4000000 in
theorem P_X11_may_J134 {N : Nat} {Z : xZ} {rv : Int32} {Hf : xH} (hZ : Z = xZm cX11_may yX11_may 10 4 (some .int) (some (.int rv)) Hf) {k50 : (Option Nat) → Int32 → Int32 → Int32 → Int32 → Int32 → Int32 → xH → Option (Int32 × xH)} (hk50 : ∀ (x0 : (Option Nat)) (x1 : Int32) (x2 : Int32) (x3 : Int32) (x4 : Int32) (x5 : Int32) (x6 : Int32) (H : xH), k50 x0 x1 x2 x3 x4 x5 x6 H = some (rv, Hf) → xWq Z H 50 [xA x0, xI x1, xI x2, xI x3, xI x4, xI x5, xI x6, xN, xN, xN] []) : ∀ (x0 : (Option Nat)) (x1 : Int32) (x2 : Int32) (x3 : Int32) (x4 : Int32) (x5 : Int32) (x6 : Int32) (H : xH), F_X11_may_J134 N k50 x0 x1 x2 x3 x4 x5 x6 H = some (rv, Hf) → xWq Z H 134 [xA x0, xI x1, xI x2, xI x3, xI x4, xI x5, xI x6, xN, xN, xN] [] := by
  have hz : Z.1 = (cX11_may, yX11_may, 10) := by rw [hZ]; rfl
  have hδ : Z.2.1 = 4 := by rw [hZ]; rfl
  intro x0 x1 x2 x3 x4 x5 x6 H h
  unfold F_X11_may_J134 at h
  refine x_iinc (w := (x6 + 1)) (pl' := [xA x0, xI x1, xI x2, xI x3, xI x4, xI x5, xI (x6 + 1), xN, xN, xN]) hz dX11_may_134 rfl rfl (by decide) rfl ?_
  refine x_goto (t := 50) hz dX11_may_137 (by decide) ?_
  exact x_wk (xwk_c (xwk_c (xwk_c (xwk_c (xwk_c (xwk_c (xwk_c (xwk_n (xwk_n (xwk_n xwk_0)))))))))) (hk50 x0 x1 x2 x3 x4 x5 (x6 + 1) H h)
noncomputable def F_X11_may_J129 (N : Nat) (k50 : (Option Nat) → Int32 → Int32 → Int32 → Int32 → Int32 → Int32 → xH → Option (Int32 × xH)) (x0 : (Option Nat)) (x1 : Int32) (x2 : Int32) (x3 : Int32) (x6 : Int32) (s0 : Int32) (H : xH) : Option (Int32 × xH) :=
  (F_X11_may_J134 N k50) x0 x1 x2 x3 s0 (0 : Int32) x6 H
set_option maxRecDepth 20000 in
set_option maxHeartbeats 4000000 in
theorem P_X11_may_J129 {N : Nat} {Z : xZ} {rv : Int32} {Hf : xH} (hZ : Z = xZm cX11_may yX11_may 10 4 (some .int) (some (.int rv)) Hf) {k50 : (Option Nat) → Int32 → Int32 → Int32 → Int32 → Int32 → Int32 → xH → Option (Int32 × xH)} (hk50 : ∀ (x0 : (Option Nat)) (x1 : Int32) (x2 : Int32) (x3 : Int32) (x4 : Int32) (x5 : Int32) (x6 : Int32) (H : xH), k50 x0 x1 x2 x3 x4 x5 x6 H = some (rv, Hf) → xWq Z H 50 [xA x0, xI x1, xI x2, xI x3, xI x4, xI x5, xI x6, xN, xN, xN] []) : ∀ (x0 : (Option Nat)) (x1 : Int32) (x2 : Int32) (x3 : Int32) (x6 : Int32) (s0 : Int32) (H : xH), F_X11_may_J129 N k50 x0 x1 x2 x3 x6 s0 H = some (rv, Hf) → xWq Z H 129 [xA x0, xI x1, xI x2, xI x3, xN, xN, xI x6, xN, xN, xN] [.int s0] := by
  have hz : Z.1 = (cX11_may, yX11_may, 10) := by rw [hZ]; rfl
  have hδ : Z.2.1 = 4 := by rw [hZ]; rfl
  intro x0 x1 x2 x3 x6 s0 H h
  unfold F_X11_may_J129 at h
  refine x_istore (pl' := [xA x0, xI x1, xI x2, xI x3, xI s0, xN, xI x6, xN, xN, xN]) hz dX11_may_129 (by decide) rfl ?_
  refine x_iconst (v := (0 : Int32)) hz dX11_may_131 (by decide) ?_
  refine x_istore (pl' := [xA x0, xI x1, xI x2, xI x3, xI s0, xI (0 : Int32), xI x6, xN, xN, xN]) hz dX11_may_132 (by decide) rfl ?_
  exact x_wk (xwk_c (xwk_c (xwk_c (xwk_c (xwk_c (xwk_c (xwk_c (xwk_n (xwk_n (xwk_n xwk_0)))))))))) ((P_X11_may_J134 hZ hk50) x0 x1 x2 x3 s0 (0 : Int32) x6 H h)
noncomputable def F_X11_may_J111 (N : Nat) (k50 : (Option Nat) → Int32 → Int32 → Int32 → Int32 → Int32 → Int32 → xH → Option (Int32 × xH)) (x0 : (Option Nat)) (x1 : Int32) (x2 : Int32) (x4 : Int32) (x5 : Int32) (x6 : Int32) (x9 : Int32) (s0 : Int32) (H : xH) : Option (Int32 × xH) :=
  if x5 = 0 then ((F_X11_may_J129 N k50) x0 x1 x2 s0 x6 (xmax x4 x9) H) else ((F_X11_may_J129 N k50) x0 x1 x2 s0 x6 x9 H)
set_option maxRecDepth 20000 in
set_option maxHeartbeats 4000000 in
theorem P_X11_may_J111 {N : Nat} {Z : xZ} {rv : Int32} {Hf : xH} (hZ : Z = xZm cX11_may yX11_may 10 4 (some .int) (some (.int rv)) Hf) {k50 : (Option Nat) → Int32 → Int32 → Int32 → Int32 → Int32 → Int32 → xH → Option (Int32 × xH)} (hk50 : ∀ (x0 : (Option Nat)) (x1 : Int32) (x2 : Int32) (x3 : Int32) (x4 : Int32) (x5 : Int32) (x6 : Int32) (H : xH), k50 x0 x1 x2 x3 x4 x5 x6 H = some (rv, Hf) → xWq Z H 50 [xA x0, xI x1, xI x2, xI x3, xI x4, xI x5, xI x6, xN, xN, xN] []) : ∀ (x0 : (Option Nat)) (x1 : Int32) (x2 : Int32) (x4 : Int32) (x5 : Int32) (x6 : Int32) (x9 : Int32) (s0 : Int32) (H : xH), F_X11_may_J111 N k50 x0 x1 x2 x4 x5 x6 x9 s0 H = some (rv, Hf) → xWq Z H 111 [xA x0, xI x1, xI x2, xN, xI x4, xI x5, xI x6, xN, xN, xI x9] [.int s0] := by
  have hz : Z.1 = (cX11_may, yX11_may, 10) := by rw [hZ]; rfl
  have hδ : Z.2.1 = 4 := by rw [hZ]; rfl
  intro x0 x1 x2 x4 x5 x6 x9 s0 H h
  unfold F_X11_may_J111 at h
  refine x_istore_n (pl' := [xA x0, xI x1, xI x2, xI s0, xI x4, xI x5, xI x6, xN, xN, xI x9]) hz dX11_may_111 (by decide) rfl ?_
  refine x_iload hz dX11_may_112 rfl ?_
  refine x_if_eq (t := 122) hz dX11_may_114 (by decide) (fun c1 => ?_) (fun c1 => ?_)
  · replace h := x_ip c1 h
    refine x_iload hz dX11_may_122 rfl ?_
    refine x_iload hz dX11_may_124 rfl ?_
    refine x_mmax (st := []) jm_max_X11_252 hz (by omega) (by decide) dX11_may_126 ?_
    exact x_wk (xwk_c (xwk_c (xwk_c (xwk_c (xwk_n (xwk_n (xwk_c (xwk_n (xwk_n (xwk_n xwk_0)))))))))) ((P_X11_may_J129 hZ hk50) x0 x1 x2 s0 x6 (xmax x4 x9) H h)
  · replace h := x_in c1 h
    refine x_iload hz dX11_may_117 rfl ?_
    refine x_goto (t := 129) hz dX11_may_119 (by decide) ?_
    exact x_wk (xwk_c (xwk_c (xwk_c (xwk_c (xwk_n (xwk_n (xwk_c (xwk_n (xwk_n (xwk_n xwk_0)))))))))) ((P_X11_may_J129 hZ hk50) x0 x1 x2 s0 x6 x9 H h)
noncomputable def F_X11_may_J50 (N : Nat) (k50 : (Option Nat) → Int32 → Int32 → Int32 → Int32 → Int32 → Int32 → xH → Option (Int32 × xH)) (k140 : (Option Nat) → Int32 → Int32 → Int32 → Int32 → xH → Option (Int32 × xH)) (x0 : (Option Nat)) (x1 : Int32) (x2 : Int32) (x3 : Int32) (x4 : Int32) (x5 : Int32) (x6 : Int32) (H : xH) : Option (Int32 × xH) :=
  (xgA H x0 10 6).bind fun v1 =>
  (xgI H v1 6 1).bind fun v2 =>
  if v2 ≤ x6 then (k140 x0 x1 x2 x3 x4 H) else ((xgA H x0 10 6).bind fun v4 =>
  (xob H v4 6).bind fun b6 =>
  x_bd2 (F_X6_cellAt N v4 x6 H) fun v7 H5 =>
  if (lg_cmp (v7 &&& (4611686018427387904 : Int64)) (0 : Int64)) = 0 then ((F_X11_may_J134 N k50) x0 x1 x2 x3 x4 x5 x6 H5) else ((xgA H5 x0 10 11).bind fun v9 =>
  (xob H5 v9 3).bind fun b11 =>
  x_bd2 (F_X3_sum N v9 v7 H5) fun v12 H10 =>
  if x5 = 0 then ((F_X11_may_J111 N k50) x0 x1 x2 x4 x5 x6 v12 (xmin x3 v12) H10) else ((F_X11_may_J111 N k50) x0 x1 x2 x4 x5 x6 v12 v12 H10)))
set_option maxRecDepth 20000 in
set_option maxHeartbeats 4000000 in
theorem P_X11_may_J50 {N : Nat} {Z : xZ} {rv : Int32} {Hf : xH} (hZ : Z = xZm cX11_may yX11_may 10 4 (some .int) (some (.int rv)) Hf) {k50 : (Option Nat) → Int32 → Int32 → Int32 → Int32 → Int32 → Int32 → xH → Option (Int32 × xH)} (hk50 : ∀ (x0 : (Option Nat)) (x1 : Int32) (x2 : Int32) (x3 : Int32) (x4 : Int32) (x5 : Int32) (x6 : Int32) (H : xH), k50 x0 x1 x2 x3 x4 x5 x6 H = some (rv, Hf) → xWq Z H 50 [xA x0, xI x1, xI x2, xI x3, xI x4, xI x5, xI x6, xN, xN, xN] []) {k140 : (Option Nat) → Int32 → Int32 → Int32 → Int32 → xH → Option (Int32 × xH)} (hk140 : ∀ (x0 : (Option Nat)) (x1 : Int32) (x2 : Int32) (x3 : Int32) (x4 : Int32) (H : xH), k140 x0 x1 x2 x3 x4 H = some (rv, Hf) → xWq Z H 140 [xA x0, xI x1, xI x2, xI x3, xI x4, xN, xN, xN, xN, xN] []) : ∀ (x0 : (Option Nat)) (x1 : Int32) (x2 : Int32) (x3 : Int32) (x4 : Int32) (x5 : Int32) (x6 : Int32) (H : xH), F_X11_may_J50 N k50 k140 x0 x1 x2 x3 x4 x5 x6 H = some (rv, Hf) → xWq Z H 50 [xA x0, xI x1, xI x2, xI x3, xI x4, xI x5, xI x6, xN, xN, xN] [] := by
  have hz : Z.1 = (cX11_may, yX11_may, 10) := by rw [hZ]; rfl
  have hδ : Z.2.1 = 4 := by rw [hZ]; rfl
  intro x0 x1 x2 x3 x4 x5 x6 H h
  unfold F_X11_may_J50 at h
  refine x_iload hz dX11_may_50 rfl ?_
  refine x_aload_n hz dX11_may_52 rfl ?_
  obtain ⟨v1, e_v1, h⟩ := x_bnd h
  refine x_getA hz dX11_may_53 fs_X11_34 e_v1 ?_
  obtain ⟨v2, e_v2, h⟩ := x_bnd h
  refine x_getI hz dX11_may_56 fs_X11_233 e_v2 ?_
  refine x_icmp_ge (t := 140) hz dX11_may_59 (by decide) (fun c3 => ?_) (fun c3 => ?_)
  · replace h := x_ip c3 h
    exact x_wk (xwk_c (xwk_c (xwk_c (xwk_c (xwk_c (xwk_n (xwk_n (xwk_n (xwk_n (xwk_n xwk_0)))))))))) (hk140 x0 x1 x2 x3 x4 H h)
  · replace h := x_in c3 h
    refine x_aload_n hz dX11_may_62 rfl ?_
    obtain ⟨v4, e_v4, h⟩ := x_bnd h
    refine x_getA hz dX11_may_63 fs_X11_34 e_v4 ?_
    refine x_iload hz dX11_may_66 rfl ?_
    obtain ⟨b6, e_b6, h⟩ := x_bnd h
    obtain ⟨v7, H5, e_H5, h⟩ := x_b2 h
    refine x_callVl (as := [.inl x6]) (st := []) cs_X11_201 (ci := 6) ⟨rfl, rfl⟩ rfl rfl hz (by omega) (by decide) dX11_may_68 e_b6 (M_X6_cellAt e_H5) ?_
    refine x_lstore (pl' := [xA x0, xI x1, xI x2, xI x3, xI x4, xI x5, xI x6, xJ v7, xN, xN]) hz dX11_may_71 (by decide) rfl ?_
    refine x_lload hz dX11_may_73 rfl ?_
    refine x_ldc2 (v := (4611686018427387904 : Int64)) hz dX11_may_75 wc_X11_205 ?_
    refine x_land hz dX11_may_78 ?_
    refine x_lconst (v := (0 : Int64)) hz dX11_may_79 (by decide) ?_
    refine x_lcmp hz dX11_may_80 ?_
    refine x_if_eq (t := 134) hz dX11_may_81 (by decide) (fun c8 => ?_) (fun c8 => ?_)
    · replace h := x_ip c8 h
      exact x_wk (xwk_c (xwk_c (xwk_c (xwk_c (xwk_c (xwk_c (xwk_c (xwk_n (xwk_n (xwk_n xwk_0)))))))))) ((P_X11_may_J134 hZ hk50) x0 x1 x2 x3 x4 x5 x6 H5 h)
    · replace h := x_in c8 h
      refine x_aload_n hz dX11_may_84 rfl ?_
      obtain ⟨v9, e_v9, h⟩ := x_bnd h
      refine x_getA hz dX11_may_85 fs_X11_59 e_v9 ?_
      refine x_lload hz dX11_may_88 rfl ?_
      obtain ⟨b11, e_b11, h⟩ := x_bnd h
      obtain ⟨v12, H10, e_H10, h⟩ := x_b2 h
      refine x_callVi (as := [.inr (.inl v7)]) (st := []) cs_X11_243 (ci := 3) ⟨rfl, rfl⟩ rfl rfl hz (by omega) (by decide) dX11_may_90 e_b11 (M_X3_sum e_H10) ?_
      refine x_istore (pl' := [xA x0, xI x1, xI x2, xI x3, xI x4, xI x5, xI x6, xJ v7, xN, xI v12]) hz dX11_may_93 (by decide) rfl ?_
      refine x_iload hz dX11_may_95 rfl ?_
      refine x_if_eq (t := 105) hz dX11_may_97 (by decide) (fun c13 => ?_) (fun c13 => ?_)
      · replace h := x_ip c13 h
        refine x_iload_n hz dX11_may_105 rfl ?_
        refine x_iload hz dX11_may_106 rfl ?_
        refine x_mmin (st := []) jm_min_X11_247 hz (by omega) (by decide) dX11_may_108 ?_
        exact x_wk (xwk_c (xwk_c (xwk_c (xwk_n (xwk_c (xwk_c (xwk_c (xwk_n (xwk_n (xwk_c xwk_0)))))))))) ((P_X11_may_J111 hZ hk50) x0 x1 x2 x4 x5 x6 v12 (xmin x3 v12) H10 h)
      · replace h := x_in c13 h
        refine x_iload hz dX11_may_100 rfl ?_
        refine x_goto (t := 111) hz dX11_may_102 (by decide) ?_
        exact x_wk (xwk_c (xwk_c (xwk_c (xwk_n (xwk_c (xwk_c (xwk_c (xwk_n (xwk_n (xwk_c xwk_0)))))))))) ((P_X11_may_J111 hZ hk50) x0 x1 x2 x4 x5 x6 v12 v12 H10 h)
noncomputable def F_X11_may_L50 (N : Nat) (k140 : (Option Nat) → Int32 → Int32 → Int32 → Int32 → xH → Option (Int32 × xH)) : Nat → (Option Nat) → Int32 → Int32 → Int32 → Int32 → Int32 → Int32 → xH → Option (Int32 × xH)
  | 0 => fun _ _ _ _ _ _ _ _ => none
  | n + 1 => F_X11_may_J50 N (F_X11_may_L50 N k140 n) k140
theorem P_X11_may_L50 {N : Nat} {Z : xZ} {rv : Int32} {Hf : xH} (hZ : Z = xZm cX11_may yX11_may 10 4 (some .int) (some (.int rv)) Hf) {k140 : (Option Nat) → Int32 → Int32 → Int32 → Int32 → xH → Option (Int32 × xH)} (hk140 : ∀ (x0 : (Option Nat)) (x1 : Int32) (x2 : Int32) (x3 : Int32) (x4 : Int32) (H : xH), k140 x0 x1 x2 x3 x4 H = some (rv, Hf) → xWq Z H 140 [xA x0, xI x1, xI x2, xI x3, xI x4, xN, xN, xN, xN, xN] []) : ∀ (n : Nat) (x0 : (Option Nat)) (x1 : Int32) (x2 : Int32) (x3 : Int32) (x4 : Int32) (x5 : Int32) (x6 : Int32) (H : xH), F_X11_may_L50 N k140 n x0 x1 x2 x3 x4 x5 x6 H = some (rv, Hf) → xWq Z H 50 [xA x0, xI x1, xI x2, xI x3, xI x4, xI x5, xI x6, xN, xN, xN] [] := by
  intro n
  induction n with
  | zero => intro _ _ _ _ _ _ _ _ h; cases h
  | succ n ih => exact P_X11_may_J50 hZ ih hk140
noncomputable def F_X11_may_J161 (N : Nat) (s0 : Int32) (s1 : Int32) (H : xH) : Option (Int32 × xH) :=
  some ((s0 + s1), H)
set_option maxRecDepth 20000 in
set_option maxHeartbeats 4000000 in
theorem P_X11_may_J161 {N : Nat} {Z : xZ} {rv : Int32} {Hf : xH} (hZ : Z = xZm cX11_may yX11_may 10 4 (some .int) (some (.int rv)) Hf) : ∀ (s0 : Int32) (s1 : Int32) (H : xH), F_X11_may_J161 N s0 s1 H = some (rv, Hf) → xWq Z H 161 [xN, xN, xN, xN, xN, xN, xN, xN, xN, xN] [.int s1, .int s0] := by
  have hz : Z.1 = (cX11_may, yX11_may, 10) := by rw [hZ]; rfl
  have hδ : Z.2.1 = 4 := by rw [hZ]; rfl
  intro s0 s1 H h
  unfold F_X11_may_J161 at h
  refine x_iadd hz dX11_may_161 ?_
  cases h
  exact x_iret hZ dX11_may_162
noncomputable def F_X11_may_J140 (N : Nat) (x0 : (Option Nat)) (x1 : Int32) (x2 : Int32) (x3 : Int32) (x4 : Int32) (H : xH) : Option (Int32 × xH) :=
  (xgA H x0 10 7).bind fun v1 =>
  (xgA H v1 4 4).bind fun v2 =>
  x_bd2 (F_X11_at N v2 x1 H) fun v4 H3 =>
  if x2 = 0 then ((F_X11_may_J161 N) v4 x3 H3) else ((F_X11_may_J161 N) v4 x4 H3)
set_option maxRecDepth 20000 in
set_option maxHeartbeats 4000000 in
theorem P_X11_may_J140 {N : Nat} {Z : xZ} {rv : Int32} {Hf : xH} (hZ : Z = xZm cX11_may yX11_may 10 4 (some .int) (some (.int rv)) Hf) : ∀ (x0 : (Option Nat)) (x1 : Int32) (x2 : Int32) (x3 : Int32) (x4 : Int32) (H : xH), F_X11_may_J140 N x0 x1 x2 x3 x4 H = some (rv, Hf) → xWq Z H 140 [xA x0, xI x1, xI x2, xI x3, xI x4, xN, xN, xN, xN, xN] [] := by
  have hz : Z.1 = (cX11_may, yX11_may, 10) := by rw [hZ]; rfl
  have hδ : Z.2.1 = 4 := by rw [hZ]; rfl
  intro x0 x1 x2 x3 x4 H h
  unfold F_X11_may_J140 at h
  refine x_aload_n hz dX11_may_140 rfl ?_
  obtain ⟨v1, e_v1, h⟩ := x_bnd h
  refine x_getA hz dX11_may_141 fs_X11_41 e_v1 ?_
  obtain ⟨v2, e_v2, h⟩ := x_bnd h
  refine x_getA hz dX11_may_144 fs_X11_255 e_v2 ?_
  refine x_iload_n hz dX11_may_147 rfl ?_
  obtain ⟨v4, H3, e_H3, h⟩ := x_b2 h
  refine x_callSi (as := [.inr (.inr v2), .inl x1]) (st := []) cs_X11_140 rfl rfl hz (by omega) (by decide) dX11_may_148 (M_X11_at e_H3) ?_
  refine x_iload_n hz dX11_may_151 rfl ?_
  refine x_if_ne (t := 159) hz dX11_may_152 (by decide) (fun c5 => ?_) (fun c5 => ?_)
  · replace h := x_in c5 h
    refine x_iload hz dX11_may_159 rfl ?_
    exact x_wk (xwk_n (xwk_n (xwk_n (xwk_n (xwk_n (xwk_n (xwk_n (xwk_n (xwk_n (xwk_n xwk_0)))))))))) ((P_X11_may_J161 hZ) v4 x4 H3 h)
  · replace h := x_ip c5 h
    refine x_iload_n hz dX11_may_155 rfl ?_
    refine x_goto (t := 161) hz dX11_may_156 (by decide) ?_
    exact x_wk (xwk_n (xwk_n (xwk_n (xwk_n (xwk_n (xwk_n (xwk_n (xwk_n (xwk_n (xwk_n xwk_0)))))))))) ((P_X11_may_J161 hZ) v4 x3 H3 h)
noncomputable def F_X11_may (N : Nat) (a0 : (Option Nat)) (a1 : Int32) (a2 : Int32) (H : xH) : Option (Int32 × xH) :=
  (xgA H a0 10 5).bind fun v1 =>
  (xob H v1 2).bind fun b3 =>
  x_bd2 (F_X2_hasMember N v1 a1 H) fun v4 H2 =>
  if v4 = 0 then (some ((-1000000 : Int32), H2)) else (if a2 < 0 then (some ((-1000000 : Int32), H2)) else (if a2 ≤ (1 : Int32) then ((xgA H2 a0 10 11).bind fun v8 =>
  (xgA H2 a0 10 5).bind fun v9 =>
  (xgA H2 a0 10 7).bind fun v10 =>
  (xob H2 v8 3).bind fun b12 =>
  (F_X3_ofMember N v8 v9 v10 a1 H2).bind fun H11 =>
  (F_X11_may_L50 N (F_X11_may_J140 N) N) a0 a1 a2 (0 : Int32) (0 : Int32) (1 : Int32) (0 : Int32) H11) else (some ((-1000000 : Int32), H2))))
set_option maxRecDepth 20000 in
set_option maxHeartbeats 4000000 in
theorem P_X11_may {N : Nat} {Z : xZ} {rv : Int32} {Hf : xH} (hZ : Z = xZm cX11_may yX11_may 10 4 (some .int) (some (.int rv)) Hf) : ∀ (a0 : (Option Nat)) (a1 : Int32) (a2 : Int32) (H : xH), F_X11_may N a0 a1 a2 H = some (rv, Hf) → xWq Z H 0 [xA a0, xI a1, xI a2, xN, xN, xN, xN, xN, xN, xN] [] := by
  have hz : Z.1 = (cX11_may, yX11_may, 10) := by rw [hZ]; rfl
  have hδ : Z.2.1 = 4 := by rw [hZ]; rfl
  intro a0 a1 a2 H h
  unfold F_X11_may at h
  refine x_aload_n hz dX11_may_0 rfl ?_
  obtain ⟨v1, e_v1, h⟩ := x_bnd h
  refine x_getA hz dX11_may_1 fs_X11_27 e_v1 ?_
  refine x_iload_n hz dX11_may_4 rfl ?_
  obtain ⟨b3, e_b3, h⟩ := x_bnd h
  obtain ⟨v4, H2, e_H2, h⟩ := x_b2 h
  refine x_callVi (as := [.inl a1]) (st := []) cs_X11_185 (ci := 2) ⟨rfl, rfl⟩ rfl rfl hz (by omega) (by decide) dX11_may_5 e_b3 (M_X2_hasMember e_H2) ?_
  refine x_if_eq (t := 20) hz dX11_may_8 (by decide) (fun c5 => ?_) (fun c5 => ?_)
  · replace h := x_ip c5 h
    refine x_ldc (v := (-1000000 : Int32)) hz dX11_may_20 wc_X11_209 ?_
    cases h
    exact x_iret hZ dX11_may_22
  · replace h := x_in c5 h
    refine x_iload_n hz dX11_may_11 rfl ?_
    refine x_if_lt (t := 20) hz dX11_may_12 (by decide) (fun c6 => ?_) (fun c6 => ?_)
    · replace h := x_ip c6 h
      refine x_ldc (v := (-1000000 : Int32)) hz dX11_may_20 wc_X11_209 ?_
      cases h
      exact x_iret hZ dX11_may_22
    · replace h := x_in c6 h
      refine x_iload_n hz dX11_may_15 rfl ?_
      refine x_iconst (v := (1 : Int32)) hz dX11_may_16 (by decide) ?_
      refine x_icmp_le (t := 23) hz dX11_may_17 (by decide) (fun c7 => ?_) (fun c7 => ?_)
      · replace h := x_ip c7 h
        refine x_aload_n hz dX11_may_23 rfl ?_
        obtain ⟨v8, e_v8, h⟩ := x_bnd h
        refine x_getA hz dX11_may_24 fs_X11_59 e_v8 ?_
        refine x_aload_n hz dX11_may_27 rfl ?_
        obtain ⟨v9, e_v9, h⟩ := x_bnd h
        refine x_getA hz dX11_may_28 fs_X11_27 e_v9 ?_
        refine x_aload_n hz dX11_may_31 rfl ?_
        obtain ⟨v10, e_v10, h⟩ := x_bnd h
        refine x_getA hz dX11_may_32 fs_X11_41 e_v10 ?_
        refine x_iload_n hz dX11_may_35 rfl ?_
        obtain ⟨b12, e_b12, h⟩ := x_bnd h
        obtain ⟨H11, e_H11, h⟩ := x_bnd h
        refine x_callVv (as := [.inr (.inr v9), .inr (.inr v10), .inl a1]) (st := []) cs_X11_239 (ci := 3) ⟨rfl, rfl⟩ rfl rfl hz (by omega) (by decide) dX11_may_36 e_b12 (M_X3_ofMember e_H11) ?_
        refine x_iconst (v := (0 : Int32)) hz dX11_may_39 (by decide) ?_
        refine x_istore_n (pl' := [xA a0, xI a1, xI a2, xI (0 : Int32), xN, xN, xN, xN, xN, xN]) hz dX11_may_40 (by decide) rfl ?_
        refine x_iconst (v := (0 : Int32)) hz dX11_may_41 (by decide) ?_
        refine x_istore (pl' := [xA a0, xI a1, xI a2, xI (0 : Int32), xI (0 : Int32), xN, xN, xN, xN, xN]) hz dX11_may_42 (by decide) rfl ?_
        refine x_iconst (v := (1 : Int32)) hz dX11_may_44 (by decide) ?_
        refine x_istore (pl' := [xA a0, xI a1, xI a2, xI (0 : Int32), xI (0 : Int32), xI (1 : Int32), xN, xN, xN, xN]) hz dX11_may_45 (by decide) rfl ?_
        refine x_iconst (v := (0 : Int32)) hz dX11_may_47 (by decide) ?_
        refine x_istore (pl' := [xA a0, xI a1, xI a2, xI (0 : Int32), xI (0 : Int32), xI (1 : Int32), xI (0 : Int32), xN, xN, xN]) hz dX11_may_48 (by decide) rfl ?_
        exact x_wk (xwk_c (xwk_c (xwk_c (xwk_c (xwk_c (xwk_c (xwk_c (xwk_n (xwk_n (xwk_n xwk_0)))))))))) ((P_X11_may_L50 hZ (P_X11_may_J140 hZ) N) a0 a1 a2 (0 : Int32) (0 : Int32) (1 : Int32) (0 : Int32) H11 h)
      · replace h := x_in c7 h
        refine x_ldc (v := (-1000000 : Int32)) hz dX11_may_20 wc_X11_209 ?_
        cases h
        exact x_iret hZ dX11_may_22
theorem M_X11_may {N : Nat} {a0 : (Option Nat)} {a1 : Int32} {a2 : Int32} {H H1 : xH} {r1 : Int32} (h : F_X11_may N a0 a1 a2 H = some (r1, H1)) : xM yX11_may cX11_may 10 (some .int) 4 [.inr (.inr a0), .inl a1, .inl a2] H (some (.int r1)) H1 :=
  xM_of (by decide +kernel) (xT_tb 853 (by decide +kernel) (by decide +kernel)) (by simp [xargs, x2]) rfl (P_X11_may rfl a0 a1 a2 H h)
/-! BettingBook.end(II)I -/
noncomputable def F_X11_end (N : Nat) (a0 : (Option Nat)) (a1 : Int32) (a2 : Int32) (H : xH) : Option (Int32 × xH) :=
  (xgA H a0 10 6).bind fun v1 =>
  (xob H v1 6).bind fun b3 =>
  x_bd2 (F_X6_cellAt N v1 a2 H) fun v4 H2 =>
  (xgA H2 a0 10 5).bind fun v5 =>
  (xob H2 v5 2).bind fun b7 =>
  x_bd2 (F_X2_hasMember N v5 a1 H2) fun v8 H6 =>
  if v8 = 0 then (some ((-1000000 : Int32), H6)) else (if (lg_cmp v4 (0 : Int64)) = 0 then (some ((-1000000 : Int32), H6)) else ((xgA H6 a0 10 11).bind fun v11 =>
  (xgA H6 a0 10 5).bind fun v12 =>
  (xgA H6 a0 10 7).bind fun v13 =>
  (xob H6 v11 3).bind fun b15 =>
  (F_X3_ofMember N v11 v12 v13 a1 H6).bind fun H14 =>
  (xgA H14 a0 10 7).bind fun v16 =>
  (xgA H14 v16 4 4).bind fun v17 =>
  x_bd2 (F_X11_at N v17 a1 H14) fun v19 H18 =>
  (xgA H18 a0 10 11).bind fun v20 =>
  (xob H18 v20 3).bind fun b22 =>
  x_bd2 (F_X3_sum N v20 v4 H18) fun v23 H21 =>
  some ((v19 + v23), H21)))
set_option maxRecDepth 20000 in
set_option maxHeartbeats 4000000 in
theorem P_X11_end {N : Nat} {Z : xZ} {rv : Int32} {Hf : xH} (hZ : Z = xZm cX11_end yX11_end 5 4 (some .int) (some (.int rv)) Hf) : ∀ (a0 : (Option Nat)) (a1 : Int32) (a2 : Int32) (H : xH), F_X11_end N a0 a1 a2 H = some (rv, Hf) → xWq Z H 0 [xA a0, xI a1, xI a2, xN, xN] [] := by
  have hz : Z.1 = (cX11_end, yX11_end, 5) := by rw [hZ]; rfl
  have hδ : Z.2.1 = 4 := by rw [hZ]; rfl
  intro a0 a1 a2 H h
  unfold F_X11_end at h
  refine x_aload_n hz dX11_end_0 rfl ?_
  obtain ⟨v1, e_v1, h⟩ := x_bnd h
  refine x_getA hz dX11_end_1 fs_X11_34 e_v1 ?_
  refine x_iload_n hz dX11_end_4 rfl ?_
  obtain ⟨b3, e_b3, h⟩ := x_bnd h
  obtain ⟨v4, H2, e_H2, h⟩ := x_b2 h
  refine x_callVl (as := [.inl a2]) (st := []) cs_X11_201 (ci := 6) ⟨rfl, rfl⟩ rfl rfl hz (by omega) (by decide) dX11_end_5 e_b3 (M_X6_cellAt e_H2) ?_
  refine x_lstore_n (pl' := [xA a0, xI a1, xI a2, xJ v4, xN]) hz dX11_end_8 (by decide) rfl ?_
  refine x_aload_n hz dX11_end_9 rfl ?_
  obtain ⟨v5, e_v5, h⟩ := x_bnd h
  refine x_getA hz dX11_end_10 fs_X11_27 e_v5 ?_
  refine x_iload_n hz dX11_end_13 rfl ?_
  obtain ⟨b7, e_b7, h⟩ := x_bnd h
  obtain ⟨v8, H6, e_H6, h⟩ := x_b2 h
  refine x_callVi (as := [.inl a1]) (st := []) cs_X11_185 (ci := 2) ⟨rfl, rfl⟩ rfl rfl hz (by omega) (by decide) dX11_end_14 e_b7 (M_X2_hasMember e_H6) ?_
  refine x_if_eq (t := 26) hz dX11_end_17 (by decide) (fun c9 => ?_) (fun c9 => ?_)
  · replace h := x_ip c9 h
    refine x_ldc (v := (-1000000 : Int32)) hz dX11_end_26 wc_X11_209 ?_
    cases h
    exact x_iret hZ dX11_end_28
  · replace h := x_in c9 h
    refine x_lload_n hz dX11_end_20 rfl ?_
    refine x_lconst (v := (0 : Int64)) hz dX11_end_21 (by decide) ?_
    refine x_lcmp hz dX11_end_22 ?_
    refine x_if_ne (t := 29) hz dX11_end_23 (by decide) (fun c10 => ?_) (fun c10 => ?_)
    · replace h := x_in c10 h
      refine x_aload_n hz dX11_end_29 rfl ?_
      obtain ⟨v11, e_v11, h⟩ := x_bnd h
      refine x_getA hz dX11_end_30 fs_X11_59 e_v11 ?_
      refine x_aload_n hz dX11_end_33 rfl ?_
      obtain ⟨v12, e_v12, h⟩ := x_bnd h
      refine x_getA hz dX11_end_34 fs_X11_27 e_v12 ?_
      refine x_aload_n hz dX11_end_37 rfl ?_
      obtain ⟨v13, e_v13, h⟩ := x_bnd h
      refine x_getA hz dX11_end_38 fs_X11_41 e_v13 ?_
      refine x_iload_n hz dX11_end_41 rfl ?_
      obtain ⟨b15, e_b15, h⟩ := x_bnd h
      obtain ⟨H14, e_H14, h⟩ := x_bnd h
      refine x_callVv (as := [.inr (.inr v12), .inr (.inr v13), .inl a1]) (st := []) cs_X11_239 (ci := 3) ⟨rfl, rfl⟩ rfl rfl hz (by omega) (by decide) dX11_end_42 e_b15 (M_X3_ofMember e_H14) ?_
      refine x_aload_n hz dX11_end_45 rfl ?_
      obtain ⟨v16, e_v16, h⟩ := x_bnd h
      refine x_getA hz dX11_end_46 fs_X11_41 e_v16 ?_
      obtain ⟨v17, e_v17, h⟩ := x_bnd h
      refine x_getA hz dX11_end_49 fs_X11_255 e_v17 ?_
      refine x_iload_n hz dX11_end_52 rfl ?_
      obtain ⟨v19, H18, e_H18, h⟩ := x_b2 h
      refine x_callSi (as := [.inr (.inr v17), .inl a1]) (st := []) cs_X11_140 rfl rfl hz (by omega) (by decide) dX11_end_53 (M_X11_at e_H18) ?_
      refine x_aload_n hz dX11_end_56 rfl ?_
      obtain ⟨v20, e_v20, h⟩ := x_bnd h
      refine x_getA hz dX11_end_57 fs_X11_59 e_v20 ?_
      refine x_lload_n hz dX11_end_60 rfl ?_
      obtain ⟨b22, e_b22, h⟩ := x_bnd h
      obtain ⟨v23, H21, e_H21, h⟩ := x_b2 h
      refine x_callVi (as := [.inr (.inl v4)]) (st := [.int v19]) cs_X11_243 (ci := 3) ⟨rfl, rfl⟩ rfl rfl hz (by omega) (Nat.le_trans (x_sm1 rfl x_sm0) (by decide)) dX11_end_61 e_b22 (M_X3_sum e_H21) ?_
      refine x_iadd hz dX11_end_64 ?_
      cases h
      exact x_iret hZ dX11_end_65
    · replace h := x_ip c10 h
      refine x_ldc (v := (-1000000 : Int32)) hz dX11_end_26 wc_X11_209 ?_
      cases h
      exact x_iret hZ dX11_end_28
theorem M_X11_end {N : Nat} {a0 : (Option Nat)} {a1 : Int32} {a2 : Int32} {H H1 : xH} {r1 : Int32} (h : F_X11_end N a0 a1 a2 H = some (r1, H1)) : xM yX11_end cX11_end 5 (some .int) 4 [.inr (.inr a0), .inl a1, .inl a2] H (some (.int r1)) H1 :=
  xM_of (by decide +kernel) (xT_tb 859 (by decide +kernel) (by decide +kernel)) (by simp [xargs, x2]) rfl (P_X11_end rfl a0 a1 a2 H h)
/-! BettingBook.settle()I -/
noncomputable def F_X11_settle_J10 (N : Nat) (k10 : (Option Nat) → Int32 → Int32 → xH → Option (Int32 × xH)) (k34 : (Option Nat) → Int32 → xH → Option (Int32 × xH)) (x0 : (Option Nat)) (x1 : Int32) (x2 : Int32) (H : xH) : Option (Int32 × xH) :=
  if x1 ≤ x2 then (k34 x0 x1 H) else ((xgA H x0 10 13).bind fun v2 =>
  (xob H x0 10).bind fun b4 =>
  x_bd2 (F_X11_hasNow N x0 x2 H) fun v5 H3 =>
  (F_X11_set N v2 x2 v5 H3).bind fun H6 =>
  k10 x0 x1 (x2 + 1) H6)
set_option maxRecDepth 20000 in
set_option maxHeartbeats 4000000 in
theorem P_X11_settle_J10 {N : Nat} {Z : xZ} {rv : Int32} {Hf : xH} (hZ : Z = xZm cX11_settle yX11_settle 7 5 (some .int) (some (.int rv)) Hf) {k10 : (Option Nat) → Int32 → Int32 → xH → Option (Int32 × xH)} (hk10 : ∀ (x0 : (Option Nat)) (x1 : Int32) (x2 : Int32) (H : xH), k10 x0 x1 x2 H = some (rv, Hf) → xWq Z H 10 [xA x0, xI x1, xI x2, xN, xN, xN, xN] []) {k34 : (Option Nat) → Int32 → xH → Option (Int32 × xH)} (hk34 : ∀ (x0 : (Option Nat)) (x1 : Int32) (H : xH), k34 x0 x1 H = some (rv, Hf) → xWq Z H 34 [xA x0, xI x1, xN, xN, xN, xN, xN] []) : ∀ (x0 : (Option Nat)) (x1 : Int32) (x2 : Int32) (H : xH), F_X11_settle_J10 N k10 k34 x0 x1 x2 H = some (rv, Hf) → xWq Z H 10 [xA x0, xI x1, xI x2, xN, xN, xN, xN] [] := by
  have hz : Z.1 = (cX11_settle, yX11_settle, 7) := by rw [hZ]; rfl
  have hδ : Z.2.1 = 5 := by rw [hZ]; rfl
  intro x0 x1 x2 H h
  unfold F_X11_settle_J10 at h
  refine x_iload_n hz dX11_settle_10 rfl ?_
  refine x_iload_n hz dX11_settle_11 rfl ?_
  refine x_icmp_ge (t := 34) hz dX11_settle_12 (by decide) (fun c1 => ?_) (fun c1 => ?_)
  · replace h := x_ip c1 h
    exact x_wk (xwk_c (xwk_c (xwk_n (xwk_n (xwk_n (xwk_n (xwk_n xwk_0))))))) (hk34 x0 x1 H h)
  · replace h := x_in c1 h
    refine x_aload_n hz dX11_settle_15 rfl ?_
    obtain ⟨v2, e_v2, h⟩ := x_bnd h
    refine x_getA hz dX11_settle_16 fs_X11_70 e_v2 ?_
    refine x_iload_n hz dX11_settle_19 rfl ?_
    refine x_aload_n hz dX11_settle_20 rfl ?_
    refine x_iload_n hz dX11_settle_21 rfl ?_
    obtain ⟨b4, e_b4, h⟩ := x_bnd h
    obtain ⟨v5, H3, e_H3, h⟩ := x_b2 h
    refine x_callVi (as := [.inl x2]) (st := [.int x2, va_rf v2]) cs_X11_236 (ci := 10) ⟨rfl, rfl⟩ rfl rfl hz (by omega) (Nat.le_trans (x_sm1 rfl (x_sm1 (x_rfc _) x_sm0)) (by decide)) dX11_settle_22 e_b4 (M_X11_hasNow e_H3) ?_
    obtain ⟨H6, e_H6, h⟩ := x_bnd h
    refine x_callSv (as := [.inr (.inr v2), .inl x2, .inl v5]) (st := []) cs_X11_177 rfl rfl hz (by omega) (by decide) dX11_settle_25 (M_X11_set e_H6) ?_
    refine x_iinc (w := (x2 + 1)) (pl' := [xA x0, xI x1, xI (x2 + 1), xN, xN, xN, xN]) hz dX11_settle_28 rfl rfl (by decide) rfl ?_
    refine x_goto (t := 10) hz dX11_settle_31 (by decide) ?_
    exact x_wk (xwk_c (xwk_c (xwk_c (xwk_n (xwk_n (xwk_n (xwk_n xwk_0))))))) (hk10 x0 x1 (x2 + 1) H6 h)
noncomputable def F_X11_settle_L10 (N : Nat) (k34 : (Option Nat) → Int32 → xH → Option (Int32 × xH)) : Nat → (Option Nat) → Int32 → Int32 → xH → Option (Int32 × xH)
  | 0 => fun _ _ _ _ => none
  | n + 1 => F_X11_settle_J10 N (F_X11_settle_L10 N k34 n) k34
theorem P_X11_settle_L10 {N : Nat} {Z : xZ} {rv : Int32} {Hf : xH} (hZ : Z = xZm cX11_settle yX11_settle 7 5 (some .int) (some (.int rv)) Hf) {k34 : (Option Nat) → Int32 → xH → Option (Int32 × xH)} (hk34 : ∀ (x0 : (Option Nat)) (x1 : Int32) (H : xH), k34 x0 x1 H = some (rv, Hf) → xWq Z H 34 [xA x0, xI x1, xN, xN, xN, xN, xN] []) : ∀ (n : Nat) (x0 : (Option Nat)) (x1 : Int32) (x2 : Int32) (H : xH), F_X11_settle_L10 N k34 n x0 x1 x2 H = some (rv, Hf) → xWq Z H 10 [xA x0, xI x1, xI x2, xN, xN, xN, xN] [] := by
  intro n
  induction n with
  | zero => intro _ _ _ _ h; cases h
  | succ n ih => exact P_X11_settle_J10 hZ ih hk34
noncomputable def F_X11_settle_J116 (N : Nat) (k65 : (Option Nat) → Int32 → Int32 → Int32 → Int32 → Int32 → Int32 → xH → Option (Int32 × xH)) (x0 : (Option Nat)) (x1 : Int32) (x2 : Int32) (x3 : Int32) (x4 : Int32) (x5 : Int32) (x6 : Int32) (H : xH) : Option (Int32 × xH) :=
  k65 x0 x1 x2 x3 x4 x5 (x6 + 1) H
set_option maxRecDepth 20000 in
set_option maxHeartbeats 4000000 in
theorem P_X11_settle_J116 {N : Nat} {Z : xZ} {rv : Int32} {Hf : xH} (hZ : Z = xZm cX11_settle yX11_settle 7 5 (some .int) (some (.int rv)) Hf) {k65 : (Option Nat) → Int32 → Int32 → Int32 → Int32 → Int32 → Int32 → xH → Option (Int32 × xH)} (hk65 : ∀ (x0 : (Option Nat)) (x1 : Int32) (x2 : Int32) (x3 : Int32) (x4 : Int32) (x5 : Int32) (x6 : Int32) (H : xH), k65 x0 x1 x2 x3 x4 x5 x6 H = some (rv, Hf) → xWq Z H 65 [xA x0, xI x1, xI x2, xI x3, xI x4, xI x5, xI x6] []) : ∀ (x0 : (Option Nat)) (x1 : Int32) (x2 : Int32) (x3 : Int32) (x4 : Int32) (x5 : Int32) (x6 : Int32) (H : xH), F_X11_settle_J116 N k65 x0 x1 x2 x3 x4 x5 x6 H = some (rv, Hf) → xWq Z H 116 [xA x0, xI x1, xI x2, xI x3, xI x4, xI x5, xI x6] [] := by
  have hz : Z.1 = (cX11_settle, yX11_settle, 7) := by rw [hZ]; rfl
  have hδ : Z.2.1 = 5 := by rw [hZ]; rfl
  intro x0 x1 x2 x3 x4 x5 x6 H h
  unfold F_X11_settle_J116 at h
  refine x_iinc (w := (x6 + 1)) (pl' := [xA x0, xI x1, xI x2, xI x3, xI x4, xI x5, xI (x6 + 1)]) hz dX11_settle_116 rfl rfl (by decide) rfl ?_
  refine x_goto (t := 65) hz dX11_settle_119 (by decide) ?_
  exact x_wk (xwk_c (xwk_c (xwk_c (xwk_c (xwk_c (xwk_c (xwk_c xwk_0))))))) (hk65 x0 x1 x2 x3 x4 x5 (x6 + 1) H h)
noncomputable def F_X11_settle_J65 (N : Nat) (k65 : (Option Nat) → Int32 → Int32 → Int32 → Int32 → Int32 → Int32 → xH → Option (Int32 × xH)) (k122 : (Option Nat) → Int32 → Int32 → Int32 → Int32 → Int32 → xH → Option (Int32 × xH)) (x0 : (Option Nat)) (x1 : Int32) (x2 : Int32) (x3 : Int32) (x4 : Int32) (x5 : Int32) (x6 : Int32) (H : xH) : Option (Int32 × xH) :=
  if x1 ≤ x6 then (k122 x0 x1 x2 x3 x4 x5 H) else (if ((x3 >>> (x6 &&& 31)) &&& (1 : Int32)) = 0 then ((F_X11_settle_J116 N k65) x0 x1 x2 x3 x4 x5 x6 H) else ((xgA H x0 10 13).bind fun v3 =>
  x_bd2 (F_X11_at N v3 x6 H) fun v5 H4 =>
  (xgA H4 x0 10 14).bind fun v6 =>
  x_bd2 (F_X11_at N v6 (x3 &&& (((1 : Int32) <<< (x6 &&& 31)) ^^^ (-1 : Int32))) H4) fun v8 H7 =>
  (F_X11_settle_J116 N k65) x0 x1 x2 x3 (x4 + v5) (xmax x5 v8) x6 H7))
set_option maxRecDepth 20000 in
set_option maxHeartbeats 4000000 in
theorem P_X11_settle_J65 {N : Nat} {Z : xZ} {rv : Int32} {Hf : xH} (hZ : Z = xZm cX11_settle yX11_settle 7 5 (some .int) (some (.int rv)) Hf) {k65 : (Option Nat) → Int32 → Int32 → Int32 → Int32 → Int32 → Int32 → xH → Option (Int32 × xH)} (hk65 : ∀ (x0 : (Option Nat)) (x1 : Int32) (x2 : Int32) (x3 : Int32) (x4 : Int32) (x5 : Int32) (x6 : Int32) (H : xH), k65 x0 x1 x2 x3 x4 x5 x6 H = some (rv, Hf) → xWq Z H 65 [xA x0, xI x1, xI x2, xI x3, xI x4, xI x5, xI x6] []) {k122 : (Option Nat) → Int32 → Int32 → Int32 → Int32 → Int32 → xH → Option (Int32 × xH)} (hk122 : ∀ (x0 : (Option Nat)) (x1 : Int32) (x2 : Int32) (x3 : Int32) (x4 : Int32) (x5 : Int32) (H : xH), k122 x0 x1 x2 x3 x4 x5 H = some (rv, Hf) → xWq Z H 122 [xA x0, xI x1, xI x2, xI x3, xI x4, xI x5, xN] []) : ∀ (x0 : (Option Nat)) (x1 : Int32) (x2 : Int32) (x3 : Int32) (x4 : Int32) (x5 : Int32) (x6 : Int32) (H : xH), F_X11_settle_J65 N k65 k122 x0 x1 x2 x3 x4 x5 x6 H = some (rv, Hf) → xWq Z H 65 [xA x0, xI x1, xI x2, xI x3, xI x4, xI x5, xI x6] [] := by
  have hz : Z.1 = (cX11_settle, yX11_settle, 7) := by rw [hZ]; rfl
  have hδ : Z.2.1 = 5 := by rw [hZ]; rfl
  intro x0 x1 x2 x3 x4 x5 x6 H h
  unfold F_X11_settle_J65 at h
  refine x_iload hz dX11_settle_65 rfl ?_
  refine x_iload_n hz dX11_settle_67 rfl ?_
  refine x_icmp_ge (t := 122) hz dX11_settle_68 (by decide) (fun c1 => ?_) (fun c1 => ?_)
  · replace h := x_ip c1 h
    exact x_wk (xwk_c (xwk_c (xwk_c (xwk_c (xwk_c (xwk_c (xwk_n xwk_0))))))) (hk122 x0 x1 x2 x3 x4 x5 H h)
  · replace h := x_in c1 h
    refine x_iload_n hz dX11_settle_71 rfl ?_
    refine x_iload hz dX11_settle_72 rfl ?_
    refine x_ishr hz dX11_settle_74 ?_
    refine x_iconst (v := (1 : Int32)) hz dX11_settle_75 (by decide) ?_
    refine x_iand hz dX11_settle_76 ?_
    refine x_if_eq (t := 116) hz dX11_settle_77 (by decide) (fun c2 => ?_) (fun c2 => ?_)
    · replace h := x_ip c2 h
      exact x_wk (xwk_c (xwk_c (xwk_c (xwk_c (xwk_c (xwk_c (xwk_c xwk_0))))))) ((P_X11_settle_J116 hZ hk65) x0 x1 x2 x3 x4 x5 x6 H h)
    · replace h := x_in c2 h
      refine x_iload hz dX11_settle_80 rfl ?_
      refine x_aload_n hz dX11_settle_82 rfl ?_
      obtain ⟨v3, e_v3, h⟩ := x_bnd h
      refine x_getA hz dX11_settle_83 fs_X11_70 e_v3 ?_
      refine x_iload hz dX11_settle_86 rfl ?_
      obtain ⟨v5, H4, e_H4, h⟩ := x_b2 h
      refine x_callSi (as := [.inr (.inr v3), .inl x6]) (st := [.int x4]) cs_X11_140 rfl rfl hz (by omega) (Nat.le_trans (x_sm1 rfl x_sm0) (by decide)) dX11_settle_88 (M_X11_at e_H4) ?_
      refine x_iadd hz dX11_settle_91 ?_
      refine x_istore (pl' := [xA x0, xI x1, xI x2, xI x3, xI (x4 + v5), xI x5, xI x6]) hz dX11_settle_92 (by decide) rfl ?_
      refine x_iload hz dX11_settle_94 rfl ?_
      refine x_aload_n hz dX11_settle_96 rfl ?_
      obtain ⟨v6, e_v6, h⟩ := x_bnd h
      refine x_getA hz dX11_settle_97 fs_X11_74 e_v6 ?_
      refine x_iload_n hz dX11_settle_100 rfl ?_
      refine x_iconst (v := (1 : Int32)) hz dX11_settle_101 (by decide) ?_
      refine x_iload hz dX11_settle_102 rfl ?_
      refine x_ishl hz dX11_settle_104 ?_
      refine x_iconst (v := (-1 : Int32)) hz dX11_settle_105 (by decide) ?_
      refine x_ixor hz dX11_settle_106 ?_
      refine x_iand hz dX11_settle_107 ?_
      obtain ⟨v8, H7, e_H7, h⟩ := x_b2 h
      refine x_callSi (as := [.inr (.inr v6), .inl (x3 &&& (((1 : Int32) <<< (x6 &&& 31)) ^^^ (-1 : Int32)))]) (st := [.int x5]) cs_X11_140 rfl rfl hz (by omega) (Nat.le_trans (x_sm1 rfl x_sm0) (by decide)) dX11_settle_108 (M_X11_at e_H7) ?_
      refine x_mmax (st := []) jm_max_X11_252 hz (by omega) (by decide) dX11_settle_111 ?_
      refine x_istore (pl' := [xA x0, xI x1, xI x2, xI x3, xI (x4 + v5), xI (xmax x5 v8), xI x6]) hz dX11_settle_114 (by decide) rfl ?_
      exact x_wk (xwk_c (xwk_c (xwk_c (xwk_c (xwk_c (xwk_c (xwk_c xwk_0))))))) ((P_X11_settle_J116 hZ hk65) x0 x1 x2 x3 (x4 + v5) (xmax x5 v8) x6 H7 h)
noncomputable def F_X11_settle_L65 (N : Nat) (k122 : (Option Nat) → Int32 → Int32 → Int32 → Int32 → Int32 → xH → Option (Int32 × xH)) : Nat → (Option Nat) → Int32 → Int32 → Int32 → Int32 → Int32 → Int32 → xH → Option (Int32 × xH)
  | 0 => fun _ _ _ _ _ _ _ _ => none
  | n + 1 => F_X11_settle_J65 N (F_X11_settle_L65 N k122 n) k122
theorem P_X11_settle_L65 {N : Nat} {Z : xZ} {rv : Int32} {Hf : xH} (hZ : Z = xZm cX11_settle yX11_settle 7 5 (some .int) (some (.int rv)) Hf) {k122 : (Option Nat) → Int32 → Int32 → Int32 → Int32 → Int32 → xH → Option (Int32 × xH)} (hk122 : ∀ (x0 : (Option Nat)) (x1 : Int32) (x2 : Int32) (x3 : Int32) (x4 : Int32) (x5 : Int32) (H : xH), k122 x0 x1 x2 x3 x4 x5 H = some (rv, Hf) → xWq Z H 122 [xA x0, xI x1, xI x2, xI x3, xI x4, xI x5, xN] []) : ∀ (n : Nat) (x0 : (Option Nat)) (x1 : Int32) (x2 : Int32) (x3 : Int32) (x4 : Int32) (x5 : Int32) (x6 : Int32) (H : xH), F_X11_settle_L65 N k122 n x0 x1 x2 x3 x4 x5 x6 H = some (rv, Hf) → xWq Z H 65 [xA x0, xI x1, xI x2, xI x3, xI x4, xI x5, xI x6] [] := by
  intro n
  induction n with
  | zero => intro _ _ _ _ _ _ _ _ h; cases h
  | succ n ih => exact P_X11_settle_J65 hZ ih hk122
noncomputable def F_X11_settle_J141 (N : Nat) (k51 : (Option Nat) → Int32 → Int32 → Int32 → xH → Option (Int32 × xH)) (x0 : (Option Nat)) (x1 : Int32) (x2 : Int32) (x3 : Int32) (s0 : (Option Nat)) (s1 : Int32) (s2 : Int32) (H : xH) : Option (Int32 × xH) :=
  (F_X11_set N s0 s1 s2 H).bind fun H1 =>
  k51 x0 x1 x2 (x3 + 1) H1
set_option maxRecDepth 20000 in
set_option maxHeartbeats 4000000 in
theorem P_X11_settle_J141 {N : Nat} {Z : xZ} {rv : Int32} {Hf : xH} (hZ : Z = xZm cX11_settle yX11_settle 7 5 (some .int) (some (.int rv)) Hf) {k51 : (Option Nat) → Int32 → Int32 → Int32 → xH → Option (Int32 × xH)} (hk51 : ∀ (x0 : (Option Nat)) (x1 : Int32) (x2 : Int32) (x3 : Int32) (H : xH), k51 x0 x1 x2 x3 H = some (rv, Hf) → xWq Z H 51 [xA x0, xI x1, xI x2, xI x3, xN, xN, xN] []) : ∀ (x0 : (Option Nat)) (x1 : Int32) (x2 : Int32) (x3 : Int32) (s0 : (Option Nat)) (s1 : Int32) (s2 : Int32) (H : xH), F_X11_settle_J141 N k51 x0 x1 x2 x3 s0 s1 s2 H = some (rv, Hf) → xWq Z H 141 [xA x0, xI x1, xI x2, xI x3, xN, xN, xN] [.int s2, .int s1, va_rf s0] := by
  have hz : Z.1 = (cX11_settle, yX11_settle, 7) := by rw [hZ]; rfl
  have hδ : Z.2.1 = 5 := by rw [hZ]; rfl
  intro x0 x1 x2 x3 s0 s1 s2 H h
  unfold F_X11_settle_J141 at h
  obtain ⟨H1, e_H1, h⟩ := x_bnd h
  refine x_callSv (as := [.inr (.inr s0), .inl s1, .inl s2]) (st := []) cs_X11_177 rfl rfl hz (by omega) (by decide) dX11_settle_141 (M_X11_set e_H1) ?_
  refine x_iinc (w := (x3 + 1)) (pl' := [xA x0, xI x1, xI x2, xI (x3 + 1), xN, xN, xN]) hz dX11_settle_144 rfl rfl (by decide) rfl ?_
  refine x_goto (t := 51) hz dX11_settle_147 (by decide) ?_
  exact x_wk (xwk_c (xwk_c (xwk_c (xwk_c (xwk_n (xwk_n (xwk_n xwk_0))))))) (hk51 x0 x1 x2 (x3 + 1) H1 h)
noncomputable def F_X11_settle_J122 (N : Nat) (k51 : (Option Nat) → Int32 → Int32 → Int32 → xH → Option (Int32 × xH)) (x0 : (Option Nat)) (x1 : Int32) (x2 : Int32) (x3 : Int32) (x4 : Int32) (x5 : Int32) (H : xH) : Option (Int32 × xH) :=
  (xgA H x0 10 14).bind fun v1 =>
  if x4 = 0 then ((F_X11_settle_J141 N k51) x0 x1 x2 x3 v1 x3 (x5 + (1 : Int32)) H) else ((F_X11_settle_J141 N k51) x0 x1 x2 x3 v1 x3 x5 H)
set_option maxRecDepth 20000 in
set_option maxHeartbeats 4000000 in
theorem P_X11_settle_J122 {N : Nat} {Z : xZ} {rv : Int32} {Hf : xH} (hZ : Z = xZm cX11_settle yX11_settle 7 5 (some .int) (some (.int rv)) Hf) {k51 : (Option Nat) → Int32 → Int32 → Int32 → xH → Option (Int32 × xH)} (hk51 : ∀ (x0 : (Option Nat)) (x1 : Int32) (x2 : Int32) (x3 : Int32) (H : xH), k51 x0 x1 x2 x3 H = some (rv, Hf) → xWq Z H 51 [xA x0, xI x1, xI x2, xI x3, xN, xN, xN] []) : ∀ (x0 : (Option Nat)) (x1 : Int32) (x2 : Int32) (x3 : Int32) (x4 : Int32) (x5 : Int32) (H : xH), F_X11_settle_J122 N k51 x0 x1 x2 x3 x4 x5 H = some (rv, Hf) → xWq Z H 122 [xA x0, xI x1, xI x2, xI x3, xI x4, xI x5, xN] [] := by
  have hz : Z.1 = (cX11_settle, yX11_settle, 7) := by rw [hZ]; rfl
  have hδ : Z.2.1 = 5 := by rw [hZ]; rfl
  intro x0 x1 x2 x3 x4 x5 H h
  unfold F_X11_settle_J122 at h
  refine x_aload_n hz dX11_settle_122 rfl ?_
  obtain ⟨v1, e_v1, h⟩ := x_bnd h
  refine x_getA hz dX11_settle_123 fs_X11_74 e_v1 ?_
  refine x_iload_n hz dX11_settle_126 rfl ?_
  refine x_iload hz dX11_settle_127 rfl ?_
  refine x_if_ne (t := 139) hz dX11_settle_129 (by decide) (fun c2 => ?_) (fun c2 => ?_)
  · replace h := x_in c2 h
    refine x_iload hz dX11_settle_139 rfl ?_
    exact x_wk (xwk_c (xwk_c (xwk_c (xwk_c (xwk_n (xwk_n (xwk_n xwk_0))))))) ((P_X11_settle_J141 hZ hk51) x0 x1 x2 x3 v1 x3 x5 H h)
  · replace h := x_ip c2 h
    refine x_iload hz dX11_settle_132 rfl ?_
    refine x_iconst (v := (1 : Int32)) hz dX11_settle_134 (by decide) ?_
    refine x_iadd hz dX11_settle_135 ?_
    refine x_goto (t := 141) hz dX11_settle_136 (by decide) ?_
    exact x_wk (xwk_c (xwk_c (xwk_c (xwk_c (xwk_n (xwk_n (xwk_n xwk_0))))))) ((P_X11_settle_J141 hZ hk51) x0 x1 x2 x3 v1 x3 (x5 + (1 : Int32)) H h)
noncomputable def F_X11_settle_J51 (N : Nat) (k51 : (Option Nat) → Int32 → Int32 → Int32 → xH → Option (Int32 × xH)) (k150 : (Option Nat) → Int32 → Int32 → xH → Option (Int32 × xH)) (x0 : (Option Nat)) (x1 : Int32) (x2 : Int32) (x3 : Int32) (H : xH) : Option (Int32 × xH) :=
  if x2 < x3 then (k150 x0 x1 x2 H) else ((F_X11_settle_L65 N (F_X11_settle_J122 N k51) N) x0 x1 x2 x3 (0 : Int32) (0 : Int32) (0 : Int32) H)
set_option maxRecDepth 20000 in
set_option maxHeartbeats 4000000 in
theorem P_X11_settle_J51 {N : Nat} {Z : xZ} {rv : Int32} {Hf : xH} (hZ : Z = xZm cX11_settle yX11_settle 7 5 (some .int) (some (.int rv)) Hf) {k51 : (Option Nat) → Int32 → Int32 → Int32 → xH → Option (Int32 × xH)} (hk51 : ∀ (x0 : (Option Nat)) (x1 : Int32) (x2 : Int32) (x3 : Int32) (H : xH), k51 x0 x1 x2 x3 H = some (rv, Hf) → xWq Z H 51 [xA x0, xI x1, xI x2, xI x3, xN, xN, xN] []) {k150 : (Option Nat) → Int32 → Int32 → xH → Option (Int32 × xH)} (hk150 : ∀ (x0 : (Option Nat)) (x1 : Int32) (x2 : Int32) (H : xH), k150 x0 x1 x2 H = some (rv, Hf) → xWq Z H 150 [xA x0, xI x1, xI x2, xN, xN, xN, xN] []) : ∀ (x0 : (Option Nat)) (x1 : Int32) (x2 : Int32) (x3 : Int32) (H : xH), F_X11_settle_J51 N k51 k150 x0 x1 x2 x3 H = some (rv, Hf) → xWq Z H 51 [xA x0, xI x1, xI x2, xI x3, xN, xN, xN] [] := by
  have hz : Z.1 = (cX11_settle, yX11_settle, 7) := by rw [hZ]; rfl
  have hδ : Z.2.1 = 5 := by rw [hZ]; rfl
  intro x0 x1 x2 x3 H h
  unfold F_X11_settle_J51 at h
  refine x_iload_n hz dX11_settle_51 rfl ?_
  refine x_iload_n hz dX11_settle_52 rfl ?_
  refine x_icmp_gt (t := 150) hz dX11_settle_53 (by decide) (fun c1 => ?_) (fun c1 => ?_)
  · replace h := x_ip c1 h
    exact x_wk (xwk_c (xwk_c (xwk_c (xwk_n (xwk_n (xwk_n (xwk_n xwk_0))))))) (hk150 x0 x1 x2 H h)
  · replace h := x_in c1 h
    refine x_iconst (v := (0 : Int32)) hz dX11_settle_56 (by decide) ?_
    refine x_istore (pl' := [xA x0, xI x1, xI x2, xI x3, xI (0 : Int32), xN, xN]) hz dX11_settle_57 (by decide) rfl ?_
    refine x_iconst (v := (0 : Int32)) hz dX11_settle_59 (by decide) ?_
    refine x_istore (pl' := [xA x0, xI x1, xI x2, xI x3, xI (0 : Int32), xI (0 : Int32), xN]) hz dX11_settle_60 (by decide) rfl ?_
    refine x_iconst (v := (0 : Int32)) hz dX11_settle_62 (by decide) ?_
    refine x_istore (pl' := [xA x0, xI x1, xI x2, xI x3, xI (0 : Int32), xI (0 : Int32), xI (0 : Int32)]) hz dX11_settle_63 (by decide) rfl ?_
    exact x_wk (xwk_c (xwk_c (xwk_c (xwk_c (xwk_c (xwk_c (xwk_c xwk_0))))))) ((P_X11_settle_L65 hZ (P_X11_settle_J122 hZ hk51) N) x0 x1 x2 x3 (0 : Int32) (0 : Int32) (0 : Int32) H h)
noncomputable def F_X11_settle_L51 (N : Nat) (k150 : (Option Nat) → Int32 → Int32 → xH → Option (Int32 × xH)) : Nat → (Option Nat) → Int32 → Int32 → Int32 → xH → Option (Int32 × xH)
  | 0 => fun _ _ _ _ _ => none
  | n + 1 => F_X11_settle_J51 N (F_X11_settle_L51 N k150 n) k150
theorem P_X11_settle_L51 {N : Nat} {Z : xZ} {rv : Int32} {Hf : xH} (hZ : Z = xZm cX11_settle yX11_settle 7 5 (some .int) (some (.int rv)) Hf) {k150 : (Option Nat) → Int32 → Int32 → xH → Option (Int32 × xH)} (hk150 : ∀ (x0 : (Option Nat)) (x1 : Int32) (x2 : Int32) (H : xH), k150 x0 x1 x2 H = some (rv, Hf) → xWq Z H 150 [xA x0, xI x1, xI x2, xN, xN, xN, xN] []) : ∀ (n : Nat) (x0 : (Option Nat)) (x1 : Int32) (x2 : Int32) (x3 : Int32) (H : xH), F_X11_settle_L51 N k150 n x0 x1 x2 x3 H = some (rv, Hf) → xWq Z H 51 [xA x0, xI x1, xI x2, xI x3, xN, xN, xN] [] := by
  intro n
  induction n with
  | zero => intro _ _ _ _ _ h; cases h
  | succ n ih => exact P_X11_settle_J51 hZ ih hk150
noncomputable def F_X11_settle_J150 (N : Nat) (x0 : (Option Nat)) (x1 : Int32) (x2 : Int32) (H : xH) : Option (Int32 × xH) :=
  (xgA H x0 10 14).bind fun v1 =>
  x_bd2 (F_X11_at N v1 x2 H) fun v3 H2 =>
  some ((x1 - v3), H2)
set_option maxRecDepth 20000 in
set_option maxHeartbeats 4000000 in
theorem P_X11_settle_J150 {N : Nat} {Z : xZ} {rv : Int32} {Hf : xH} (hZ : Z = xZm cX11_settle yX11_settle 7 5 (some .int) (some (.int rv)) Hf) : ∀ (x0 : (Option Nat)) (x1 : Int32) (x2 : Int32) (H : xH), F_X11_settle_J150 N x0 x1 x2 H = some (rv, Hf) → xWq Z H 150 [xA x0, xI x1, xI x2, xN, xN, xN, xN] [] := by
  have hz : Z.1 = (cX11_settle, yX11_settle, 7) := by rw [hZ]; rfl
  have hδ : Z.2.1 = 5 := by rw [hZ]; rfl
  intro x0 x1 x2 H h
  unfold F_X11_settle_J150 at h
  refine x_iload_n hz dX11_settle_150 rfl ?_
  refine x_aload_n hz dX11_settle_151 rfl ?_
  obtain ⟨v1, e_v1, h⟩ := x_bnd h
  refine x_getA hz dX11_settle_152 fs_X11_74 e_v1 ?_
  refine x_iload_n hz dX11_settle_155 rfl ?_
  obtain ⟨v3, H2, e_H2, h⟩ := x_b2 h
  refine x_callSi (as := [.inr (.inr v1), .inl x2]) (st := [.int x1]) cs_X11_140 rfl rfl hz (by omega) (Nat.le_trans (x_sm1 rfl x_sm0) (by decide)) dX11_settle_156 (M_X11_at e_H2) ?_
  refine x_isub hz dX11_settle_159 ?_
  cases h
  exact x_iret hZ dX11_settle_160
noncomputable def F_X11_settle_J34 (N : Nat) (x0 : (Option Nat)) (x1 : Int32) (H : xH) : Option (Int32 × xH) :=
  (xgA H x0 10 14).bind fun v1 =>
  (F_X11_set N v1 (0 : Int32) (0 : Int32) H).bind fun H2 =>
  (F_X11_settle_L51 N (F_X11_settle_J150 N) N) x0 x1 (((1 : Int32) <<< (x1 &&& 31)) - (1 : Int32)) (1 : Int32) H2
set_option maxRecDepth 20000 in
set_option maxHeartbeats 4000000 in
theorem P_X11_settle_J34 {N : Nat} {Z : xZ} {rv : Int32} {Hf : xH} (hZ : Z = xZm cX11_settle yX11_settle 7 5 (some .int) (some (.int rv)) Hf) : ∀ (x0 : (Option Nat)) (x1 : Int32) (H : xH), F_X11_settle_J34 N x0 x1 H = some (rv, Hf) → xWq Z H 34 [xA x0, xI x1, xN, xN, xN, xN, xN] [] := by
  have hz : Z.1 = (cX11_settle, yX11_settle, 7) := by rw [hZ]; rfl
  have hδ : Z.2.1 = 5 := by rw [hZ]; rfl
  intro x0 x1 H h
  unfold F_X11_settle_J34 at h
  refine x_iconst (v := (1 : Int32)) hz dX11_settle_34 (by decide) ?_
  refine x_iload_n hz dX11_settle_35 rfl ?_
  refine x_ishl hz dX11_settle_36 ?_
  refine x_iconst (v := (1 : Int32)) hz dX11_settle_37 (by decide) ?_
  refine x_isub hz dX11_settle_38 ?_
  refine x_istore_n (pl' := [xA x0, xI x1, xI (((1 : Int32) <<< (x1 &&& 31)) - (1 : Int32)), xN, xN, xN, xN]) hz dX11_settle_39 (by decide) rfl ?_
  refine x_aload_n hz dX11_settle_40 rfl ?_
  obtain ⟨v1, e_v1, h⟩ := x_bnd h
  refine x_getA hz dX11_settle_41 fs_X11_74 e_v1 ?_
  refine x_iconst (v := (0 : Int32)) hz dX11_settle_44 (by decide) ?_
  refine x_iconst (v := (0 : Int32)) hz dX11_settle_45 (by decide) ?_
  obtain ⟨H2, e_H2, h⟩ := x_bnd h
  refine x_callSv (as := [.inr (.inr v1), .inl (0 : Int32), .inl (0 : Int32)]) (st := []) cs_X11_177 rfl rfl hz (by omega) (by decide) dX11_settle_46 (M_X11_set e_H2) ?_
  refine x_iconst (v := (1 : Int32)) hz dX11_settle_49 (by decide) ?_
  refine x_istore_n (pl' := [xA x0, xI x1, xI (((1 : Int32) <<< (x1 &&& 31)) - (1 : Int32)), xI (1 : Int32), xN, xN, xN]) hz dX11_settle_50 (by decide) rfl ?_
  exact x_wk (xwk_c (xwk_c (xwk_c (xwk_c (xwk_n (xwk_n (xwk_n xwk_0))))))) ((P_X11_settle_L51 hZ (P_X11_settle_J150 hZ) N) x0 x1 (((1 : Int32) <<< (x1 &&& 31)) - (1 : Int32)) (1 : Int32) H2 h)
noncomputable def F_X11_settle (N : Nat) (a0 : (Option Nat)) (H : xH) : Option (Int32 × xH) :=
  (xgA H a0 10 5).bind fun v1 =>
  (xgI H v1 2 1).bind fun v2 =>
  (F_X11_settle_L10 N (F_X11_settle_J34 N) N) a0 v2 (0 : Int32) H
set_option maxRecDepth 20000 in
set_option maxHeartbeats 4000000 in
theorem P_X11_settle {N : Nat} {Z : xZ} {rv : Int32} {Hf : xH} (hZ : Z = xZm cX11_settle yX11_settle 7 5 (some .int) (some (.int rv)) Hf) : ∀ (a0 : (Option Nat)) (H : xH), F_X11_settle N a0 H = some (rv, Hf) → xWq Z H 0 [xA a0, xN, xN, xN, xN, xN, xN] [] := by
  have hz : Z.1 = (cX11_settle, yX11_settle, 7) := by rw [hZ]; rfl
  have hδ : Z.2.1 = 5 := by rw [hZ]; rfl
  intro a0 H h
  unfold F_X11_settle at h
  refine x_aload_n hz dX11_settle_0 rfl ?_
  obtain ⟨v1, e_v1, h⟩ := x_bnd h
  refine x_getA hz dX11_settle_1 fs_X11_27 e_v1 ?_
  obtain ⟨v2, e_v2, h⟩ := x_bnd h
  refine x_getI hz dX11_settle_4 fs_X11_127 e_v2 ?_
  refine x_istore_n (pl' := [xA a0, xI v2, xN, xN, xN, xN, xN]) hz dX11_settle_7 (by decide) rfl ?_
  refine x_iconst (v := (0 : Int32)) hz dX11_settle_8 (by decide) ?_
  refine x_istore_n (pl' := [xA a0, xI v2, xI (0 : Int32), xN, xN, xN, xN]) hz dX11_settle_9 (by decide) rfl ?_
  exact x_wk (xwk_c (xwk_c (xwk_c (xwk_n (xwk_n (xwk_n (xwk_n xwk_0))))))) ((P_X11_settle_L10 hZ (P_X11_settle_J34 hZ) N) a0 v2 (0 : Int32) H h)
theorem M_X11_settle {N : Nat} {a0 : (Option Nat)} {H H1 : xH} {r1 : Int32} (h : F_X11_settle N a0 H = some (r1, H1)) : xM yX11_settle cX11_settle 7 (some .int) 5 [.inr (.inr a0)] H (some (.int r1)) H1 :=
  xM_of (by decide +kernel) (xT_tb 863 (by decide +kernel) (by decide +kernel)) (by simp [xargs, x2]) rfl (P_X11_settle rfl a0 H h)
/-! BettingBook.best(I)I -/
noncomputable def F_X11_best_J69 (N : Nat) (k18 : (Option Nat) → Int32 → Int32 → Int32 → Int32 → xH → Option (Int32 × xH)) (x0 : (Option Nat)) (x1 : Int32) (x2 : Int32) (x3 : Int32) (x4 : Int32) (H : xH) : Option (Int32 × xH) :=
  k18 x0 x1 x2 x3 (x4 + 1) H
set_option maxRecDepth 20000 in
set_option maxHeartbeats 4000000 in
theorem P_X11_best_J69 {N : Nat} {Z : xZ} {rv : Int32} {Hf : xH} (hZ : Z = xZm cX11_best yX11_best 6 5 (some .int) (some (.int rv)) Hf) {k18 : (Option Nat) → Int32 → Int32 → Int32 → Int32 → xH → Option (Int32 × xH)} (hk18 : ∀ (x0 : (Option Nat)) (x1 : Int32) (x2 : Int32) (x3 : Int32) (x4 : Int32) (H : xH), k18 x0 x1 x2 x3 x4 H = some (rv, Hf) → xWq Z H 18 [xA x0, xI x1, xI x2, xI x3, xI x4, xN] []) : ∀ (x0 : (Option Nat)) (x1 : Int32) (x2 : Int32) (x3 : Int32) (x4 : Int32) (H : xH), F_X11_best_J69 N k18 x0 x1 x2 x3 x4 H = some (rv, Hf) → xWq Z H 69 [xA x0, xI x1, xI x2, xI x3, xI x4, xN] [] := by
  have hz : Z.1 = (cX11_best, yX11_best, 6) := by rw [hZ]; rfl
  have hδ : Z.2.1 = 5 := by rw [hZ]; rfl
  intro x0 x1 x2 x3 x4 H h
  unfold F_X11_best_J69 at h
  refine x_iinc (w := (x4 + 1)) (pl' := [xA x0, xI x1, xI x2, xI x3, xI (x4 + 1), xN]) hz dX11_best_69 rfl rfl (by decide) rfl ?_
  refine x_goto (t := 18) hz dX11_best_72 (by decide) ?_
  exact x_wk (xwk_c (xwk_c (xwk_c (xwk_c (xwk_c (xwk_n xwk_0)))))) (hk18 x0 x1 x2 x3 (x4 + 1) H h)
noncomputable def F_X11_best_J63 (N : Nat) (k18 : (Option Nat) → Int32 → Int32 → Int32 → Int32 → xH → Option (Int32 × xH)) (x0 : (Option Nat)) (x1 : Int32) (x4 : Int32) (x5 : Int32) (H : xH) : Option (Int32 × xH) :=
  (F_X11_best_J69 N k18) x0 x1 x4 x5 x4 H
set_option maxRecDepth 20000 in
set_option maxHeartbeats 4000000 in
theorem P_X11_best_J63 {N : Nat} {Z : xZ} {rv : Int32} {Hf : xH} (hZ : Z = xZm cX11_best yX11_best 6 5 (some .int) (some (.int rv)) Hf) {k18 : (Option Nat) → Int32 → Int32 → Int32 → Int32 → xH → Option (Int32 × xH)} (hk18 : ∀ (x0 : (Option Nat)) (x1 : Int32) (x2 : Int32) (x3 : Int32) (x4 : Int32) (H : xH), k18 x0 x1 x2 x3 x4 H = some (rv, Hf) → xWq Z H 18 [xA x0, xI x1, xI x2, xI x3, xI x4, xN] []) : ∀ (x0 : (Option Nat)) (x1 : Int32) (x4 : Int32) (x5 : Int32) (H : xH), F_X11_best_J63 N k18 x0 x1 x4 x5 H = some (rv, Hf) → xWq Z H 63 [xA x0, xI x1, xN, xN, xI x4, xI x5] [] := by
  have hz : Z.1 = (cX11_best, yX11_best, 6) := by rw [hZ]; rfl
  have hδ : Z.2.1 = 5 := by rw [hZ]; rfl
  intro x0 x1 x4 x5 H h
  unfold F_X11_best_J63 at h
  refine x_iload hz dX11_best_63 rfl ?_
  refine x_istore_n (pl' := [xA x0, xI x1, xI x4, xN, xI x4, xI x5]) hz dX11_best_65 (by decide) rfl ?_
  refine x_iload hz dX11_best_66 rfl ?_
  refine x_istore_n (pl' := [xA x0, xI x1, xI x4, xI x5, xI x4, xI x5]) hz dX11_best_68 (by decide) rfl ?_
  exact x_wk (xwk_c (xwk_c (xwk_c (xwk_c (xwk_c (xwk_n xwk_0)))))) ((P_X11_best_J69 hZ hk18) x0 x1 x4 x5 x4 H h)
noncomputable def F_X11_best_J50 (N : Nat) (k18 : (Option Nat) → Int32 → Int32 → Int32 → Int32 → xH → Option (Int32 × xH)) (x0 : (Option Nat)) (x1 : Int32) (x2 : Int32) (x3 : Int32) (x4 : Int32) (s0 : Int32) (H : xH) : Option (Int32 × xH) :=
  if x2 = (-1 : Int32) then ((F_X11_best_J63 N k18) x0 x1 x4 s0 H) else (if s0 ≤ x3 then ((F_X11_best_J69 N k18) x0 x1 x2 x3 x4 H) else ((F_X11_best_J63 N k18) x0 x1 x4 s0 H))
set_option maxRecDepth 20000 in
set_option maxHeartbeats 4000000 in
theorem P_X11_best_J50 {N : Nat} {Z : xZ} {rv : Int32} {Hf : xH} (hZ : Z = xZm cX11_best yX11_best 6 5 (some .int) (some (.int rv)) Hf) {k18 : (Option Nat) → Int32 → Int32 → Int32 → Int32 → xH → Option (Int32 × xH)} (hk18 : ∀ (x0 : (Option Nat)) (x1 : Int32) (x2 : Int32) (x3 : Int32) (x4 : Int32) (H : xH), k18 x0 x1 x2 x3 x4 H = some (rv, Hf) → xWq Z H 18 [xA x0, xI x1, xI x2, xI x3, xI x4, xN] []) : ∀ (x0 : (Option Nat)) (x1 : Int32) (x2 : Int32) (x3 : Int32) (x4 : Int32) (s0 : Int32) (H : xH), F_X11_best_J50 N k18 x0 x1 x2 x3 x4 s0 H = some (rv, Hf) → xWq Z H 50 [xA x0, xI x1, xI x2, xI x3, xI x4, xN] [.int s0] := by
  have hz : Z.1 = (cX11_best, yX11_best, 6) := by rw [hZ]; rfl
  have hδ : Z.2.1 = 5 := by rw [hZ]; rfl
  intro x0 x1 x2 x3 x4 s0 H h
  unfold F_X11_best_J50 at h
  refine x_istore (pl' := [xA x0, xI x1, xI x2, xI x3, xI x4, xI s0]) hz dX11_best_50 (by decide) rfl ?_
  refine x_iload_n hz dX11_best_52 rfl ?_
  refine x_iconst (v := (-1 : Int32)) hz dX11_best_53 (by decide) ?_
  refine x_icmp_eq (t := 63) hz dX11_best_54 (by decide) (fun c1 => ?_) (fun c1 => ?_)
  · replace h := x_ip c1 h
    exact x_wk (xwk_c (xwk_c (xwk_n (xwk_n (xwk_c (xwk_c xwk_0)))))) ((P_X11_best_J63 hZ hk18) x0 x1 x4 s0 H h)
  · replace h := x_in c1 h
    refine x_iload hz dX11_best_57 rfl ?_
    refine x_iload_n hz dX11_best_59 rfl ?_
    refine x_icmp_le (t := 69) hz dX11_best_60 (by decide) (fun c2 => ?_) (fun c2 => ?_)
    · replace h := x_ip c2 h
      exact x_wk (xwk_c (xwk_c (xwk_c (xwk_c (xwk_c (xwk_n xwk_0)))))) ((P_X11_best_J69 hZ hk18) x0 x1 x2 x3 x4 H h)
    · replace h := x_in c2 h
      exact x_wk (xwk_c (xwk_c (xwk_n (xwk_n (xwk_c (xwk_c xwk_0)))))) ((P_X11_best_J63 hZ hk18) x0 x1 x4 s0 H h)
noncomputable def F_X11_best_J18 (N : Nat) (k18 : (Option Nat) → Int32 → Int32 → Int32 → Int32 → xH → Option (Int32 × xH)) (x0 : (Option Nat)) (x1 : Int32) (x2 : Int32) (x3 : Int32) (x4 : Int32) (H : xH) : Option (Int32 × xH) :=
  (xgA H x0 10 5).bind fun v1 =>
  (xgI H v1 2 1).bind fun v2 =>
  if v2 ≤ x4 then (some (x2, H)) else (if x1 = 0 then ((xob H x0 10).bind fun b9 =>
  x_bd2 (F_X11_hasNow N x0 x4 H) fun v10 H8 =>
  (F_X11_best_J50 N k18) x0 x1 x2 x3 x4 v10 H8) else ((xob H x0 10).bind fun b6 =>
  x_bd2 (F_X11_hasNow N x0 x4 H) fun v7 H5 =>
  (F_X11_best_J50 N k18) x0 x1 x2 x3 x4 (-v7) H5))
set_option maxRecDepth 20000 in
set_option maxHeartbeats 4000000 in
theorem P_X11_best_J18 {N : Nat} {Z : xZ} {rv : Int32} {Hf : xH} (hZ : Z = xZm cX11_best yX11_best 6 5 (some .int) (some (.int rv)) Hf) {k18 : (Option Nat) → Int32 → Int32 → Int32 → Int32 → xH → Option (Int32 × xH)} (hk18 : ∀ (x0 : (Option Nat)) (x1 : Int32) (x2 : Int32) (x3 : Int32) (x4 : Int32) (H : xH), k18 x0 x1 x2 x3 x4 H = some (rv, Hf) → xWq Z H 18 [xA x0, xI x1, xI x2, xI x3, xI x4, xN] []) : ∀ (x0 : (Option Nat)) (x1 : Int32) (x2 : Int32) (x3 : Int32) (x4 : Int32) (H : xH), F_X11_best_J18 N k18 x0 x1 x2 x3 x4 H = some (rv, Hf) → xWq Z H 18 [xA x0, xI x1, xI x2, xI x3, xI x4, xN] [] := by
  have hz : Z.1 = (cX11_best, yX11_best, 6) := by rw [hZ]; rfl
  have hδ : Z.2.1 = 5 := by rw [hZ]; rfl
  intro x0 x1 x2 x3 x4 H h
  unfold F_X11_best_J18 at h
  refine x_iload hz dX11_best_18 rfl ?_
  refine x_aload_n hz dX11_best_20 rfl ?_
  obtain ⟨v1, e_v1, h⟩ := x_bnd h
  refine x_getA hz dX11_best_21 fs_X11_27 e_v1 ?_
  obtain ⟨v2, e_v2, h⟩ := x_bnd h
  refine x_getI hz dX11_best_24 fs_X11_127 e_v2 ?_
  refine x_icmp_ge (t := 75) hz dX11_best_27 (by decide) (fun c3 => ?_) (fun c3 => ?_)
  · replace h := x_ip c3 h
    refine x_iload_n hz dX11_best_75 rfl ?_
    cases h
    exact x_iret hZ dX11_best_76
  · replace h := x_in c3 h
    refine x_iload_n hz dX11_best_30 rfl ?_
    refine x_if_ne (t := 43) hz dX11_best_31 (by decide) (fun c4 => ?_) (fun c4 => ?_)
    · replace h := x_in c4 h
      refine x_aload_n hz dX11_best_43 rfl ?_
      refine x_iload hz dX11_best_44 rfl ?_
      obtain ⟨b6, e_b6, h⟩ := x_bnd h
      obtain ⟨v7, H5, e_H5, h⟩ := x_b2 h
      refine x_callVi (as := [.inl x4]) (st := []) cs_X11_236 (ci := 10) ⟨rfl, rfl⟩ rfl rfl hz (by omega) (by decide) dX11_best_46 e_b6 (M_X11_hasNow e_H5) ?_
      refine x_ineg hz dX11_best_49 ?_
      exact x_wk (xwk_c (xwk_c (xwk_c (xwk_c (xwk_c (xwk_n xwk_0)))))) ((P_X11_best_J50 hZ hk18) x0 x1 x2 x3 x4 (-v7) H5 h)
    · replace h := x_ip c4 h
      refine x_aload_n hz dX11_best_34 rfl ?_
      refine x_iload hz dX11_best_35 rfl ?_
      obtain ⟨b9, e_b9, h⟩ := x_bnd h
      obtain ⟨v10, H8, e_H8, h⟩ := x_b2 h
      refine x_callVi (as := [.inl x4]) (st := []) cs_X11_236 (ci := 10) ⟨rfl, rfl⟩ rfl rfl hz (by omega) (by decide) dX11_best_37 e_b9 (M_X11_hasNow e_H8) ?_
      refine x_goto (t := 50) hz dX11_best_40 (by decide) ?_
      exact x_wk (xwk_c (xwk_c (xwk_c (xwk_c (xwk_c (xwk_n xwk_0)))))) ((P_X11_best_J50 hZ hk18) x0 x1 x2 x3 x4 v10 H8 h)
noncomputable def F_X11_best_L18 (N : Nat) : Nat → (Option Nat) → Int32 → Int32 → Int32 → Int32 → xH → Option (Int32 × xH)
  | 0 => fun _ _ _ _ _ _ => none
  | n + 1 => F_X11_best_J18 N (F_X11_best_L18 N n)
theorem P_X11_best_L18 {N : Nat} {Z : xZ} {rv : Int32} {Hf : xH} (hZ : Z = xZm cX11_best yX11_best 6 5 (some .int) (some (.int rv)) Hf) : ∀ (n : Nat) (x0 : (Option Nat)) (x1 : Int32) (x2 : Int32) (x3 : Int32) (x4 : Int32) (H : xH), F_X11_best_L18 N n x0 x1 x2 x3 x4 H = some (rv, Hf) → xWq Z H 18 [xA x0, xI x1, xI x2, xI x3, xI x4, xN] [] := by
  intro n
  induction n with
  | zero => intro _ _ _ _ _ _ h; cases h
  | succ n ih => exact P_X11_best_J18 hZ ih
noncomputable def F_X11_best (N : Nat) (a0 : (Option Nat)) (a1 : Int32) (H : xH) : Option (Int32 × xH) :=
  if a1 < 0 then (some ((-1 : Int32), H)) else (if a1 ≤ (1 : Int32) then ((F_X11_best_L18 N N) a0 a1 (-1 : Int32) (0 : Int32) (0 : Int32) H) else (some ((-1 : Int32), H)))
set_option maxRecDepth 20000 in
set_option maxHeartbeats 4000000 in
theorem P_X11_best {N : Nat} {Z : xZ} {rv : Int32} {Hf : xH} (hZ : Z = xZm cX11_best yX11_best 6 5 (some .int) (some (.int rv)) Hf) : ∀ (a0 : (Option Nat)) (a1 : Int32) (H : xH), F_X11_best N a0 a1 H = some (rv, Hf) → xWq Z H 0 [xA a0, xI a1, xN, xN, xN, xN] [] := by
  have hz : Z.1 = (cX11_best, yX11_best, 6) := by rw [hZ]; rfl
  have hδ : Z.2.1 = 5 := by rw [hZ]; rfl
  intro a0 a1 H h
  unfold F_X11_best at h
  refine x_iload_n hz dX11_best_0 rfl ?_
  refine x_if_lt (t := 9) hz dX11_best_1 (by decide) (fun c1 => ?_) (fun c1 => ?_)
  · replace h := x_ip c1 h
    refine x_iconst (v := (-1 : Int32)) hz dX11_best_9 (by decide) ?_
    cases h
    exact x_iret hZ dX11_best_10
  · replace h := x_in c1 h
    refine x_iload_n hz dX11_best_4 rfl ?_
    refine x_iconst (v := (1 : Int32)) hz dX11_best_5 (by decide) ?_
    refine x_icmp_le (t := 11) hz dX11_best_6 (by decide) (fun c2 => ?_) (fun c2 => ?_)
    · replace h := x_ip c2 h
      refine x_iconst (v := (-1 : Int32)) hz dX11_best_11 (by decide) ?_
      refine x_istore_n (pl' := [xA a0, xI a1, xI (-1 : Int32), xN, xN, xN]) hz dX11_best_12 (by decide) rfl ?_
      refine x_iconst (v := (0 : Int32)) hz dX11_best_13 (by decide) ?_
      refine x_istore_n (pl' := [xA a0, xI a1, xI (-1 : Int32), xI (0 : Int32), xN, xN]) hz dX11_best_14 (by decide) rfl ?_
      refine x_iconst (v := (0 : Int32)) hz dX11_best_15 (by decide) ?_
      refine x_istore (pl' := [xA a0, xI a1, xI (-1 : Int32), xI (0 : Int32), xI (0 : Int32), xN]) hz dX11_best_16 (by decide) rfl ?_
      exact x_wk (xwk_c (xwk_c (xwk_c (xwk_c (xwk_c (xwk_n xwk_0)))))) ((P_X11_best_L18 hZ N) a0 a1 (-1 : Int32) (0 : Int32) (0 : Int32) H h)
    · replace h := x_in c2 h
      refine x_iconst (v := (-1 : Int32)) hz dX11_best_9 (by decide) ?_
      cases h
      exact x_iret hZ dX11_best_10
theorem M_X11_best {N : Nat} {a0 : (Option Nat)} {a1 : Int32} {H H1 : xH} {r1 : Int32} (h : F_X11_best N a0 a1 H = some (r1, H1)) : xM yX11_best cX11_best 6 (some .int) 5 [.inr (.inr a0), .inl a1] H (some (.int r1)) H1 :=
  xM_of (by decide +kernel) (xT_tb 867 (by decide +kernel) (by decide +kernel)) (by simp [xargs, x2]) rfl (P_X11_best rfl a0 a1 H h)
/-! BettingBook.win(II)I -/
noncomputable def F_X11_win (N : Nat) (a0 : (Option Nat)) (a1 : Int32) (a2 : Int32) (H : xH) : Option (Int32 × xH) :=
  if a1 < 0 then (some ((-1 : Int32), H)) else ((xgA H a0 10 5).bind fun v2 =>
  (xgI H v2 2 2).bind fun v3 =>
  if ((1 : Int32) <<< (v3 &&& 31)) ≤ a1 then (some ((-1 : Int32), H)) else (if a2 < 0 then (some ((-1 : Int32), H)) else (if a2 ≤ (1 : Int32) then ((xgA H a0 10 12).bind fun v7 =>
  (xgA H a0 10 5).bind fun v8 =>
  (xgA H a0 10 6).bind fun v9 =>
  (xob H v7 9).bind fun b11 =>
  x_bd2 (F_X9_choose N v7 v8 v9 a1 H) fun v12 H10 =>
  if v12 = 0 then (some ((-1 : Int32), H10)) else ((xgA H10 a0 10 12).bind fun v14 =>
  (xgA H10 a0 10 11).bind fun v15 =>
  (xob H10 v14 9).bind fun b17 =>
  (F_X9_search N v14 v15 H10).bind fun H16 =>
  if a2 = 0 then ((xgA H16 a0 10 12).bind fun v21 =>
  (xgI H16 v21 9 5).bind fun v22 =>
  some (v22, H16)) else ((xgA H16 a0 10 12).bind fun v19 =>
  (xgI H16 v19 9 6).bind fun v20 =>
  some (v20, H16)))) else (some ((-1 : Int32), H)))))
set_option maxRecDepth 20000 in
set_option maxHeartbeats 4000000 in
theorem P_X11_win {N : Nat} {Z : xZ} {rv : Int32} {Hf : xH} (hZ : Z = xZm cX11_win yX11_win 3 6 (some .int) (some (.int rv)) Hf) : ∀ (a0 : (Option Nat)) (a1 : Int32) (a2 : Int32) (H : xH), F_X11_win N a0 a1 a2 H = some (rv, Hf) → xWq Z H 0 [xA a0, xI a1, xI a2] [] := by
  have hz : Z.1 = (cX11_win, yX11_win, 3) := by rw [hZ]; rfl
  have hδ : Z.2.1 = 6 := by rw [hZ]; rfl
  intro a0 a1 a2 H h
  unfold F_X11_win at h
  refine x_iload_n hz dX11_win_0 rfl ?_
  refine x_if_lt (t := 26) hz dX11_win_1 (by decide) (fun c1 => ?_) (fun c1 => ?_)
  · replace h := x_ip c1 h
    refine x_iconst (v := (-1 : Int32)) hz dX11_win_26 (by decide) ?_
    cases h
    exact x_iret hZ dX11_win_27
  · replace h := x_in c1 h
    refine x_iload_n hz dX11_win_4 rfl ?_
    refine x_iconst (v := (1 : Int32)) hz dX11_win_5 (by decide) ?_
    refine x_aload_n hz dX11_win_6 rfl ?_
    obtain ⟨v2, e_v2, h⟩ := x_bnd h
    refine x_getA hz dX11_win_7 fs_X11_27 e_v2 ?_
    obtain ⟨v3, e_v3, h⟩ := x_bnd h
    refine x_getI hz dX11_win_10 fs_X11_121 e_v3 ?_
    refine x_ishl hz dX11_win_13 ?_
    refine x_icmp_ge (t := 26) hz dX11_win_14 (by decide) (fun c4 => ?_) (fun c4 => ?_)
    · replace h := x_ip c4 h
      refine x_iconst (v := (-1 : Int32)) hz dX11_win_26 (by decide) ?_
      cases h
      exact x_iret hZ dX11_win_27
    · replace h := x_in c4 h
      refine x_iload_n hz dX11_win_17 rfl ?_
      refine x_if_lt (t := 26) hz dX11_win_18 (by decide) (fun c5 => ?_) (fun c5 => ?_)
      · replace h := x_ip c5 h
        refine x_iconst (v := (-1 : Int32)) hz dX11_win_26 (by decide) ?_
        cases h
        exact x_iret hZ dX11_win_27
      · replace h := x_in c5 h
        refine x_iload_n hz dX11_win_21 rfl ?_
        refine x_iconst (v := (1 : Int32)) hz dX11_win_22 (by decide) ?_
        refine x_icmp_le (t := 28) hz dX11_win_23 (by decide) (fun c6 => ?_) (fun c6 => ?_)
        · replace h := x_ip c6 h
          refine x_aload_n hz dX11_win_28 rfl ?_
          obtain ⟨v7, e_v7, h⟩ := x_bnd h
          refine x_getA hz dX11_win_29 fs_X11_66 e_v7 ?_
          refine x_aload_n hz dX11_win_32 rfl ?_
          obtain ⟨v8, e_v8, h⟩ := x_bnd h
          refine x_getA hz dX11_win_33 fs_X11_27 e_v8 ?_
          refine x_aload_n hz dX11_win_36 rfl ?_
          obtain ⟨v9, e_v9, h⟩ := x_bnd h
          refine x_getA hz dX11_win_37 fs_X11_34 e_v9 ?_
          refine x_iload_n hz dX11_win_40 rfl ?_
          obtain ⟨b11, e_b11, h⟩ := x_bnd h
          obtain ⟨v12, H10, e_H10, h⟩ := x_b2 h
          refine x_callVi (as := [.inr (.inr v8), .inr (.inr v9), .inl a1]) (st := []) cs_X11_258 (ci := 9) ⟨rfl, rfl⟩ rfl rfl hz (by omega) (by decide) dX11_win_41 e_b11 (M_X9_choose e_H10) ?_
          refine x_if_ne (t := 49) hz dX11_win_44 (by decide) (fun c13 => ?_) (fun c13 => ?_)
          · replace h := x_in c13 h
            refine x_aload_n hz dX11_win_49 rfl ?_
            obtain ⟨v14, e_v14, h⟩ := x_bnd h
            refine x_getA hz dX11_win_50 fs_X11_66 e_v14 ?_
            refine x_aload_n hz dX11_win_53 rfl ?_
            obtain ⟨v15, e_v15, h⟩ := x_bnd h
            refine x_getA hz dX11_win_54 fs_X11_59 e_v15 ?_
            obtain ⟨b17, e_b17, h⟩ := x_bnd h
            obtain ⟨H16, e_H16, h⟩ := x_bnd h
            refine x_callVv (as := [.inr (.inr v15)]) (st := []) cs_X11_262 (ci := 9) ⟨rfl, rfl⟩ rfl rfl hz (by omega) (by decide) dX11_win_57 e_b17 (M_X9_search e_H16) ?_
            refine x_iload_n hz dX11_win_60 rfl ?_
            refine x_if_ne (t := 74) hz dX11_win_61 (by decide) (fun c18 => ?_) (fun c18 => ?_)
            · replace h := x_in c18 h
              refine x_aload_n hz dX11_win_74 rfl ?_
              obtain ⟨v19, e_v19, h⟩ := x_bnd h
              refine x_getA hz dX11_win_75 fs_X11_66 e_v19 ?_
              obtain ⟨v20, e_v20, h⟩ := x_bnd h
              refine x_getI hz dX11_win_78 fs_X11_269 e_v20 ?_
              cases h
              exact x_iret hZ dX11_win_81
            · replace h := x_ip c18 h
              refine x_aload_n hz dX11_win_64 rfl ?_
              obtain ⟨v21, e_v21, h⟩ := x_bnd h
              refine x_getA hz dX11_win_65 fs_X11_66 e_v21 ?_
              obtain ⟨v22, e_v22, h⟩ := x_bnd h
              refine x_getI hz dX11_win_68 fs_X11_266 e_v22 ?_
              refine x_goto (t := 81) hz dX11_win_71 (by decide) ?_
              cases h
              exact x_iret hZ dX11_win_81
          · replace h := x_ip c13 h
            refine x_iconst (v := (-1 : Int32)) hz dX11_win_47 (by decide) ?_
            cases h
            exact x_iret hZ dX11_win_48
        · replace h := x_in c6 h
          refine x_iconst (v := (-1 : Int32)) hz dX11_win_26 (by decide) ?_
          cases h
          exact x_iret hZ dX11_win_27
theorem M_X11_win {N : Nat} {a0 : (Option Nat)} {a1 : Int32} {a2 : Int32} {H H1 : xH} {r1 : Int32} (h : F_X11_win N a0 a1 a2 H = some (r1, H1)) : xM yX11_win cX11_win 3 (some .int) 6 [.inr (.inr a0), .inl a1, .inl a2] H (some (.int r1)) H1 :=
  xM_of (by decide +kernel) (xT_tb 871 (by decide +kernel) (by decide +kernel)) (by simp [xargs, x2]) rfl (P_X11_win rfl a0 a1 a2 H h)
