/-! BettingBook$Teller.tellThing()Z -/
noncomputable def F_X7_tellThing_J101 (N : Nat) (x0 : (Option Nat)) (x1 : Int64) (x3 : Int32) (s0 : Int32) (H : xH) : Option (Int32 × xH) :=
  if 0 ≤ s0 then ((xgA H x0 7 1).bind fun v2 =>
  (xob H v2 2).bind fun b4 =>
  (F_X2_addThing N v2 x1 x3 s0 H).bind fun H3 =>
  some ((1 : Int32), H3)) else (some ((0 : Int32), H))
set_option maxRecDepth 20000 in
set_option maxHeartbeats 4000000 in
theorem P_X7_tellThing_J101 {N : Nat} {Z : xZ} {rv : Int32} {Hf : xH} (hZ : Z = xZm cX7_tellThing yX7_tellThing 5 3 (some .boolean) (some (.int rv)) Hf) : ∀ (x0 : (Option Nat)) (x1 : Int64) (x3 : Int32) (s0 : Int32) (H : xH), F_X7_tellThing_J101 N x0 x1 x3 s0 H = some (rv, Hf) → xWq Z H 101 [xA x0, xJ x1, xN, xI x3, xN] [.int s0] := by
  have hz : Z.1 = (cX7_tellThing, yX7_tellThing, 5) := by rw [hZ]; rfl
  have hδ : Z.2.1 = 3 := by rw [hZ]; rfl
  intro x0 x1 x3 s0 H h
  unfold F_X7_tellThing_J101 at h
  refine x_istore (pl' := [xA x0, xJ x1, xN, xI x3, xI s0]) hz dX7_tellThing_101 (by decide) rfl ?_
  refine x_iload hz dX7_tellThing_103 rfl ?_
  refine x_if_ge (t := 110) hz dX7_tellThing_105 (by decide) (fun c1 => ?_) (fun c1 => ?_)
  · replace h := x_ip c1 h
    refine x_aload_n hz dX7_tellThing_110 rfl ?_
    obtain ⟨v2, e_v2, h⟩ := x_bnd h
    refine x_getA hz dX7_tellThing_111 fs_X7_15 e_v2 ?_
    refine x_lload_n hz dX7_tellThing_114 rfl ?_
    refine x_iload_n hz dX7_tellThing_115 rfl ?_
    refine x_iload hz dX7_tellThing_116 rfl ?_
    obtain ⟨b4, e_b4, h⟩ := x_bnd h
    obtain ⟨H3, e_H3, h⟩ := x_bnd h
    refine x_callVv (as := [.inr (.inl x1), .inl x3, .inl s0]) (st := []) cs_X7_96 (ci := 2) ⟨rfl, rfl⟩ rfl rfl hz (by omega) (by decide) dX7_tellThing_118 e_b4 (M_X2_addThing e_H3) ?_
    refine x_iconst (v := (1 : Int32)) hz dX7_tellThing_121 (by decide) ?_
    cases h
    exact x_zret01 hZ (Or.inr rfl) dX7_tellThing_122
  · replace h := x_in c1 h
    refine x_iconst (v := (0 : Int32)) hz dX7_tellThing_108 (by decide) ?_
    cases h
    exact x_zret01 hZ (Or.inl rfl) dX7_tellThing_109
noncomputable def F_X7_tellThing_J66 (N : Nat) (x0 : (Option Nat)) (x1 : Int64) (s0 : Int32) (H : xH) : Option (Int32 × xH) :=
  if 0 ≤ s0 then ((xgA H x0 7 0).bind fun v2 =>
  (xob H v2 8).bind fun b4 =>
  x_bd2 (F_X8_take N v2 (some (H.2.2.2 2)) H) fun v5 H3 =>
  if v5 = 0 then ((F_X7_tellThing_J101 N) x0 x1 s0 (7 : Int32) H3) else ((xgA H3 x0 7 0).bind fun v7 =>
  (xob H3 v7 8).bind fun b9 =>
  x_bd2 (F_X8_takeNumber N v7 s0 (7 : Int32) H3) fun v10 H8 =>
  (F_X7_tellThing_J101 N) x0 x1 s0 v10 H8)) else (some ((0 : Int32), H))
set_option maxRecDepth 20000 in
set_option maxHeartbeats 4000000 in
theorem P_X7_tellThing_J66 {N : Nat} {Z : xZ} {rv : Int32} {Hf : xH} (hZ : Z = xZm cX7_tellThing yX7_tellThing 5 3 (some .boolean) (some (.int rv)) Hf) : ∀ (x0 : (Option Nat)) (x1 : Int64) (s0 : Int32) (H : xH), F_X7_tellThing_J66 N x0 x1 s0 H = some (rv, Hf) → xWq Z H 66 [xA x0, xJ x1, xN, xN, xN] [.int s0] := by
  have hz : Z.1 = (cX7_tellThing, yX7_tellThing, 5) := by rw [hZ]; rfl
  have hδ : Z.2.1 = 3 := by rw [hZ]; rfl
  intro x0 x1 s0 H h
  unfold F_X7_tellThing_J66 at h
  refine x_istore_n (pl' := [xA x0, xJ x1, xN, xI s0, xN]) hz dX7_tellThing_66 (by decide) rfl ?_
  refine x_iload_n hz dX7_tellThing_67 rfl ?_
  refine x_if_ge (t := 73) hz dX7_tellThing_68 (by decide) (fun c1 => ?_) (fun c1 => ?_)
  · replace h := x_ip c1 h
    refine x_aload_n hz dX7_tellThing_73 rfl ?_
    obtain ⟨v2, e_v2, h⟩ := x_bnd h
    refine x_getA hz dX7_tellThing_74 fs_X7_9 e_v2 ?_
    refine x_gets (i := 2) hz dX7_tellThing_77 (by decide) gw_X7_93 ?_
    obtain ⟨b4, e_b4, h⟩ := x_bnd h
    obtain ⟨v5, H3, e_H3, h⟩ := x_b2 h
    refine x_callVi (as := [.inr (.inr (some (H.2.2.2 2)))]) (st := []) cs_X7_31 (ci := 8) ⟨rfl, rfl⟩ rfl rfl hz (by omega) (by decide) dX7_tellThing_80 e_b4 (M_X8_take e_H3) ?_
    refine x_if_eq (t := 99) hz dX7_tellThing_83 (by decide) (fun c6 => ?_) (fun c6 => ?_)
    · replace h := x_ip c6 h
      refine x_bipush (v := (7 : Int32)) hz dX7_tellThing_99 (by decide) ?_
      exact x_wk (xwk_c (xwk_c (xwk_n (xwk_c (xwk_n xwk_0))))) ((P_X7_tellThing_J101 hZ) x0 x1 s0 (7 : Int32) H3 h)
    · replace h := x_in c6 h
      refine x_aload_n hz dX7_tellThing_86 rfl ?_
      obtain ⟨v7, e_v7, h⟩ := x_bnd h
      refine x_getA hz dX7_tellThing_87 fs_X7_9 e_v7 ?_
      refine x_iload_n hz dX7_tellThing_90 rfl ?_
      refine x_bipush (v := (7 : Int32)) hz dX7_tellThing_91 (by decide) ?_
      obtain ⟨b9, e_b9, h⟩ := x_bnd h
      obtain ⟨v10, H8, e_H8, h⟩ := x_b2 h
      refine x_callVi (as := [.inl s0, .inl (7 : Int32)]) (st := []) cs_X7_89 (ci := 8) ⟨rfl, rfl⟩ rfl rfl hz (by omega) (by decide) dX7_tellThing_93 e_b9 (M_X8_takeNumber e_H8) ?_
      refine x_goto (t := 101) hz dX7_tellThing_96 (by decide) ?_
      exact x_wk (xwk_c (xwk_c (xwk_n (xwk_c (xwk_n xwk_0))))) ((P_X7_tellThing_J101 hZ) x0 x1 s0 v10 H8 h)
  · replace h := x_in c1 h
    refine x_iconst (v := (0 : Int32)) hz dX7_tellThing_71 (by decide) ?_
    cases h
    exact x_zret01 hZ (Or.inl rfl) dX7_tellThing_72
noncomputable def F_X7_tellThing (N : Nat) (a0 : (Option Nat)) (H : xH) : Option (Int32 × xH) :=
  (xgA H a0 7 0).bind fun v1 =>
  (xob H v1 8).bind fun b3 =>
  x_bd2 (F_X8_name N v1 H) fun v4 H2 =>
  (xgA H2 a0 7 1).bind fun v5 =>
  (xob H2 v5 2).bind fun b7 =>
  x_bd2 (F_X2_isFree N v5 v4 H2) fun v8 H6 =>
  if v8 = 0 then (some ((0 : Int32), H6)) else ((xgA H6 a0 7 1).bind fun v10 =>
  (xgI H6 v10 2 0).bind fun v11 =>
  if v11 < (5 : Int32) then ((xgA H6 a0 7 0).bind fun v13 =>
  (xob H6 v13 8).bind fun b15 =>
  (F_X8_skip N v13 H6).bind fun H14 =>
  (xgA H14 a0 7 0).bind fun v16 =>
  (xob H14 v16 8).bind fun b18 =>
  x_bd2 (F_X8_take N v16 (some (H14.2.2.2 1)) H14) fun v19 H17 =>
  if v19 = 0 then ((F_X7_tellThing_J66 N) a0 v4 (0 : Int32) H17) else ((xgA H17 a0 7 0).bind fun v21 =>
  (xob H17 v21 8).bind fun b23 =>
  x_bd2 (F_X8_takeNumber N v21 (0 : Int32) (7 : Int32) H17) fun v24 H22 =>
  (F_X7_tellThing_J66 N) a0 v4 v24 H22)) else (some ((0 : Int32), H6)))
set_option maxRecDepth 20000 in
set_option maxHeartbeats 4000000 in
theorem P_X7_tellThing {N : Nat} {Z : xZ} {rv : Int32} {Hf : xH} (hZ : Z = xZm cX7_tellThing yX7_tellThing 5 3 (some .boolean) (some (.int rv)) Hf) : ∀ (a0 : (Option Nat)) (H : xH), F_X7_tellThing N a0 H = some (rv, Hf) → xWq Z H 0 [xA a0, xN, xN, xN, xN] [] := by
  have hz : Z.1 = (cX7_tellThing, yX7_tellThing, 5) := by rw [hZ]; rfl
  have hδ : Z.2.1 = 3 := by rw [hZ]; rfl
  intro a0 H h
  unfold F_X7_tellThing at h
  refine x_aload_n hz dX7_tellThing_0 rfl ?_
  obtain ⟨v1, e_v1, h⟩ := x_bnd h
  refine x_getA hz dX7_tellThing_1 fs_X7_9 e_v1 ?_
  obtain ⟨b3, e_b3, h⟩ := x_bnd h
  obtain ⟨v4, H2, e_H2, h⟩ := x_b2 h
  refine x_callVl (as := []) (st := []) cs_X7_72 (ci := 8) ⟨rfl, rfl⟩ rfl rfl hz (by omega) (by decide) dX7_tellThing_4 e_b3 (M_X8_name e_H2) ?_
  refine x_lstore_n (pl' := [xA a0, xJ v4, xN, xN, xN]) hz dX7_tellThing_7 (by decide) rfl ?_
  refine x_aload_n hz dX7_tellThing_8 rfl ?_
  obtain ⟨v5, e_v5, h⟩ := x_bnd h
  refine x_getA hz dX7_tellThing_9 fs_X7_15 e_v5 ?_
  refine x_lload_n hz dX7_tellThing_12 rfl ?_
  obtain ⟨b7, e_b7, h⟩ := x_bnd h
  obtain ⟨v8, H6, e_H6, h⟩ := x_b2 h
  refine x_callVi (as := [.inr (.inl v4)]) (st := []) cs_X7_76 (ci := 2) ⟨rfl, rfl⟩ rfl rfl hz (by omega) (by decide) dX7_tellThing_13 e_b7 (M_X2_isFree e_H6) ?_
  refine x_if_eq (t := 30) hz dX7_tellThing_16 (by decide) (fun c9 => ?_) (fun c9 => ?_)
  · replace h := x_ip c9 h
    refine x_iconst (v := (0 : Int32)) hz dX7_tellThing_30 (by decide) ?_
    cases h
    exact x_zret01 hZ (Or.inl rfl) dX7_tellThing_31
  · replace h := x_in c9 h
    refine x_aload_n hz dX7_tellThing_19 rfl ?_
    obtain ⟨v10, e_v10, h⟩ := x_bnd h
    refine x_getA hz dX7_tellThing_20 fs_X7_15 e_v10 ?_
    obtain ⟨v11, e_v11, h⟩ := x_bnd h
    refine x_getI hz dX7_tellThing_23 fs_X7_80 e_v11 ?_
    refine x_iconst (v := (5 : Int32)) hz dX7_tellThing_26 (by decide) ?_
    refine x_icmp_lt (t := 32) hz dX7_tellThing_27 (by decide) (fun c12 => ?_) (fun c12 => ?_)
    · replace h := x_ip c12 h
      refine x_aload_n hz dX7_tellThing_32 rfl ?_
      obtain ⟨v13, e_v13, h⟩ := x_bnd h
      refine x_getA hz dX7_tellThing_33 fs_X7_9 e_v13 ?_
      obtain ⟨b15, e_b15, h⟩ := x_bnd h
      obtain ⟨H14, e_H14, h⟩ := x_bnd h
      refine x_callVv (as := []) (st := []) cs_X7_83 (ci := 8) ⟨rfl, rfl⟩ rfl rfl hz (by omega) (by decide) dX7_tellThing_36 e_b15 (M_X8_skip e_H14) ?_
      refine x_aload_n hz dX7_tellThing_39 rfl ?_
      obtain ⟨v16, e_v16, h⟩ := x_bnd h
      refine x_getA hz dX7_tellThing_40 fs_X7_9 e_v16 ?_
      refine x_gets (i := 1) hz dX7_tellThing_43 (by decide) gw_X7_86 ?_
      obtain ⟨b18, e_b18, h⟩ := x_bnd h
      obtain ⟨v19, H17, e_H17, h⟩ := x_b2 h
      refine x_callVi (as := [.inr (.inr (some (H14.2.2.2 1)))]) (st := []) cs_X7_31 (ci := 8) ⟨rfl, rfl⟩ rfl rfl hz (by omega) (by decide) dX7_tellThing_46 e_b18 (M_X8_take e_H17) ?_
      refine x_if_eq (t := 65) hz dX7_tellThing_49 (by decide) (fun c20 => ?_) (fun c20 => ?_)
      · replace h := x_ip c20 h
        refine x_iconst (v := (0 : Int32)) hz dX7_tellThing_65 (by decide) ?_
        exact x_wk (xwk_c (xwk_c (xwk_n (xwk_n (xwk_n xwk_0))))) ((P_X7_tellThing_J66 hZ) a0 v4 (0 : Int32) H17 h)
      · replace h := x_in c20 h
        refine x_aload_n hz dX7_tellThing_52 rfl ?_
        obtain ⟨v21, e_v21, h⟩ := x_bnd h
        refine x_getA hz dX7_tellThing_53 fs_X7_9 e_v21 ?_
        refine x_iconst (v := (0 : Int32)) hz dX7_tellThing_56 (by decide) ?_
        refine x_bipush (v := (7 : Int32)) hz dX7_tellThing_57 (by decide) ?_
        obtain ⟨b23, e_b23, h⟩ := x_bnd h
        obtain ⟨v24, H22, e_H22, h⟩ := x_b2 h
        refine x_callVi (as := [.inl (0 : Int32), .inl (7 : Int32)]) (st := []) cs_X7_89 (ci := 8) ⟨rfl, rfl⟩ rfl rfl hz (by omega) (by decide) dX7_tellThing_59 e_b23 (M_X8_takeNumber e_H22) ?_
        refine x_goto (t := 66) hz dX7_tellThing_62 (by decide) ?_
        exact x_wk (xwk_c (xwk_c (xwk_n (xwk_n (xwk_n xwk_0))))) ((P_X7_tellThing_J66 hZ) a0 v4 v24 H22 h)
    · replace h := x_in c12 h
      refine x_iconst (v := (0 : Int32)) hz dX7_tellThing_30 (by decide) ?_
      cases h
      exact x_zret01 hZ (Or.inl rfl) dX7_tellThing_31
theorem M_X7_tellThing {N : Nat} {a0 : (Option Nat)} {H H1 : xH} {r1 : Int32} (h : F_X7_tellThing N a0 H = some (r1, H1)) : xM yX7_tellThing cX7_tellThing 5 (some .boolean) 3 [.inr (.inr a0)] H (some (.int r1)) H1 :=
  xM_of (by decide +kernel) (xT_tb 425 (by decide +kernel) (by decide +kernel)) (by simp [xargs, x2]) rfl (P_X7_tellThing rfl a0 H h)
/-! BettingBook$Teller.tellMember()Z -/
noncomputable def F_X7_tellMember (N : Nat) (a0 : (Option Nat)) (H : xH) : Option (Int32 × xH) :=
  (xgA H a0 7 0).bind fun v1 =>
  (xob H v1 8).bind fun b3 =>
  x_bd2 (F_X8_name N v1 H) fun v4 H2 =>
  (xgA H2 a0 7 1).bind fun v5 =>
  (xob H2 v5 2).bind fun b7 =>
  x_bd2 (F_X2_isFree N v5 v4 H2) fun v8 H6 =>
  if v8 = 0 then (some ((0 : Int32), H6)) else ((xgA H6 a0 7 1).bind fun v10 =>
  (xgI H6 v10 2 1).bind fun v11 =>
  if v11 < (6 : Int32) then ((xgA H6 a0 7 0).bind fun v13 =>
  (xob H6 v13 8).bind fun b15 =>
  (F_X8_skip N v13 H6).bind fun H14 =>
  (xgA H14 a0 7 1).bind fun v16 =>
  (xob H14 v16 2).bind fun b18 =>
  (F_X2_addMember N v16 v4 H14).bind fun H17 =>
  some ((1 : Int32), H17)) else (some ((0 : Int32), H6)))
set_option maxRecDepth 20000 in
set_option maxHeartbeats 4000000 in
theorem P_X7_tellMember {N : Nat} {Z : xZ} {rv : Int32} {Hf : xH} (hZ : Z = xZm cX7_tellMember yX7_tellMember 3 3 (some .boolean) (some (.int rv)) Hf) : ∀ (a0 : (Option Nat)) (H : xH), F_X7_tellMember N a0 H = some (rv, Hf) → xWq Z H 0 [xA a0, xN, xN] [] := by
  have hz : Z.1 = (cX7_tellMember, yX7_tellMember, 3) := by rw [hZ]; rfl
  have hδ : Z.2.1 = 3 := by rw [hZ]; rfl
  intro a0 H h
  unfold F_X7_tellMember at h
  refine x_aload_n hz dX7_tellMember_0 rfl ?_
  obtain ⟨v1, e_v1, h⟩ := x_bnd h
  refine x_getA hz dX7_tellMember_1 fs_X7_9 e_v1 ?_
  obtain ⟨b3, e_b3, h⟩ := x_bnd h
  obtain ⟨v4, H2, e_H2, h⟩ := x_b2 h
  refine x_callVl (as := []) (st := []) cs_X7_72 (ci := 8) ⟨rfl, rfl⟩ rfl rfl hz (by omega) (by decide) dX7_tellMember_4 e_b3 (M_X8_name e_H2) ?_
  refine x_lstore_n (pl' := [xA a0, xJ v4, xN]) hz dX7_tellMember_7 (by decide) rfl ?_
  refine x_aload_n hz dX7_tellMember_8 rfl ?_
  obtain ⟨v5, e_v5, h⟩ := x_bnd h
  refine x_getA hz dX7_tellMember_9 fs_X7_15 e_v5 ?_
  refine x_lload_n hz dX7_tellMember_12 rfl ?_
  obtain ⟨b7, e_b7, h⟩ := x_bnd h
  obtain ⟨v8, H6, e_H6, h⟩ := x_b2 h
  refine x_callVi (as := [.inr (.inl v4)]) (st := []) cs_X7_76 (ci := 2) ⟨rfl, rfl⟩ rfl rfl hz (by omega) (by decide) dX7_tellMember_13 e_b7 (M_X2_isFree e_H6) ?_
  refine x_if_eq (t := 31) hz dX7_tellMember_16 (by decide) (fun c9 => ?_) (fun c9 => ?_)
  · replace h := x_ip c9 h
    refine x_iconst (v := (0 : Int32)) hz dX7_tellMember_31 (by decide) ?_
    cases h
    exact x_zret01 hZ (Or.inl rfl) dX7_tellMember_32
  · replace h := x_in c9 h
    refine x_aload_n hz dX7_tellMember_19 rfl ?_
    obtain ⟨v10, e_v10, h⟩ := x_bnd h
    refine x_getA hz dX7_tellMember_20 fs_X7_15 e_v10 ?_
    obtain ⟨v11, e_v11, h⟩ := x_bnd h
    refine x_getI hz dX7_tellMember_23 fs_X7_100 e_v11 ?_
    refine x_bipush (v := (6 : Int32)) hz dX7_tellMember_26 (by decide) ?_
    refine x_icmp_lt (t := 33) hz dX7_tellMember_28 (by decide) (fun c12 => ?_) (fun c12 => ?_)
    · replace h := x_ip c12 h
      refine x_aload_n hz dX7_tellMember_33 rfl ?_
      obtain ⟨v13, e_v13, h⟩ := x_bnd h
      refine x_getA hz dX7_tellMember_34 fs_X7_9 e_v13 ?_
      obtain ⟨b15, e_b15, h⟩ := x_bnd h
      obtain ⟨H14, e_H14, h⟩ := x_bnd h
      refine x_callVv (as := []) (st := []) cs_X7_83 (ci := 8) ⟨rfl, rfl⟩ rfl rfl hz (by omega) (by decide) dX7_tellMember_37 e_b15 (M_X8_skip e_H14) ?_
      refine x_aload_n hz dX7_tellMember_40 rfl ?_
      obtain ⟨v16, e_v16, h⟩ := x_bnd h
      refine x_getA hz dX7_tellMember_41 fs_X7_15 e_v16 ?_
      refine x_lload_n hz dX7_tellMember_44 rfl ?_
      obtain ⟨b18, e_b18, h⟩ := x_bnd h
      obtain ⟨H17, e_H17, h⟩ := x_bnd h
      refine x_callVv (as := [.inr (.inl v4)]) (st := []) cs_X7_103 (ci := 2) ⟨rfl, rfl⟩ rfl rfl hz (by omega) (by decide) dX7_tellMember_45 e_b18 (M_X2_addMember e_H17) ?_
      refine x_iconst (v := (1 : Int32)) hz dX7_tellMember_48 (by decide) ?_
      cases h
      exact x_zret01 hZ (Or.inr rfl) dX7_tellMember_49
    · replace h := x_in c12 h
      refine x_iconst (v := (0 : Int32)) hz dX7_tellMember_31 (by decide) ?_
      cases h
      exact x_zret01 hZ (Or.inl rfl) dX7_tellMember_32
theorem M_X7_tellMember {N : Nat} {a0 : (Option Nat)} {H H1 : xH} {r1 : Int32} (h : F_X7_tellMember N a0 H = some (r1, H1)) : xM yX7_tellMember cX7_tellMember 3 (some .boolean) 3 [.inr (.inr a0)] H (some (.int r1)) H1 :=
  xM_of (by decide +kernel) (xT_tb 461 (by decide +kernel) (by decide +kernel)) (by simp [xargs, x2]) rfl (P_X7_tellMember rfl a0 H h)
/-! BettingBook$Tokens.takeTold([JII)I -/
noncomputable def F_X8_takeTold_J77 (N : Nat) (k35 : (Option Nat) → (Option Nat) → Int32 → Int32 → Int64 → Int32 → xH → Option (Int32 × xH)) (x0 : (Option Nat)) (x1 : (Option Nat)) (x2 : Int32) (x3 : Int32) (x4 : Int64) (x6 : Int32) (H : xH) : Option (Int32 × xH) :=
  k35 x0 x1 x2 x3 x4 (x6 + 1) H
set_option maxRecDepth 20000 in
set_option maxHeartbeats 4000000 in
theorem P_X8_takeTold_J77 {N : Nat} {Z : xZ} {rv : Int32} {Hf : xH} (hZ : Z = xZm cX8_takeTold yX8_takeTold 7 2 (some .int) (some (.int rv)) Hf) {k35 : (Option Nat) → (Option Nat) → Int32 → Int32 → Int64 → Int32 → xH → Option (Int32 × xH)} (hk35 : ∀ (x0 : (Option Nat)) (x1 : (Option Nat)) (x2 : Int32) (x3 : Int32) (x4 : Int64) (x6 : Int32) (H : xH), k35 x0 x1 x2 x3 x4 x6 H = some (rv, Hf) → xWq Z H 35 [xA x0, xA x1, xI x2, xI x3, xJ x4, xN, xI x6] []) : ∀ (x0 : (Option Nat)) (x1 : (Option Nat)) (x2 : Int32) (x3 : Int32) (x4 : Int64) (x6 : Int32) (H : xH), F_X8_takeTold_J77 N k35 x0 x1 x2 x3 x4 x6 H = some (rv, Hf) → xWq Z H 77 [xA x0, xA x1, xI x2, xI x3, xJ x4, xN, xI x6] [] := by
  have hz : Z.1 = (cX8_takeTold, yX8_takeTold, 7) := by rw [hZ]; rfl
  have hδ : Z.2.1 = 2 := by rw [hZ]; rfl
  intro x0 x1 x2 x3 x4 x6 H h
  unfold F_X8_takeTold_J77 at h
  refine x_iinc (w := (x6 + 1)) (pl' := [xA x0, xA x1, xI x2, xI x3, xJ x4, xN, xI (x6 + 1)]) hz dX8_takeTold_77 rfl rfl (by decide) rfl ?_
  refine x_goto (t := 35) hz dX8_takeTold_80 (by decide) ?_
  exact x_wk (xwk_c (xwk_c (xwk_c (xwk_c (xwk_c (xwk_n (xwk_c xwk_0))))))) (hk35 x0 x1 x2 x3 x4 (x6 + 1) H h)
noncomputable def F_X8_takeTold_J35 (N : Nat) (k35 : (Option Nat) → (Option Nat) → Int32 → Int32 → Int64 → Int32 → xH → Option (Int32 × xH)) (k64 : (Option Nat) → Int32 → xH → Option (Int32 × xH)) (x0 : (Option Nat)) (x1 : (Option Nat)) (x2 : Int32) (x3 : Int32) (x4 : Int64) (x6 : Int32) (H : xH) : Option (Int32 × xH) :=
  if x2 ≤ x6 then (some ((-1 : Int32), H)) else ((xal .long H x1).bind fun v2 =>
  if v2 ≤ x6 then (some ((-1 : Int32), H)) else ((xlJ H x1 x6).bind fun v4 =>
  if (lg_cmp v4 x4) = 0 then (if x6 = x3 then ((F_X8_takeTold_J77 N k35) x0 x1 x2 x3 x4 x6 H) else (k64 x0 x6 H)) else ((F_X8_takeTold_J77 N k35) x0 x1 x2 x3 x4 x6 H)))
set_option maxRecDepth 20000 in
set_option maxHeartbeats 4000000 in
theorem P_X8_takeTold_J35 {N : Nat} {Z : xZ} {rv : Int32} {Hf : xH} (hZ : Z = xZm cX8_takeTold yX8_takeTold 7 2 (some .int) (some (.int rv)) Hf) {k35 : (Option Nat) → (Option Nat) → Int32 → Int32 → Int64 → Int32 → xH → Option (Int32 × xH)} (hk35 : ∀ (x0 : (Option Nat)) (x1 : (Option Nat)) (x2 : Int32) (x3 : Int32) (x4 : Int64) (x6 : Int32) (H : xH), k35 x0 x1 x2 x3 x4 x6 H = some (rv, Hf) → xWq Z H 35 [xA x0, xA x1, xI x2, xI x3, xJ x4, xN, xI x6] []) {k64 : (Option Nat) → Int32 → xH → Option (Int32 × xH)} (hk64 : ∀ (x0 : (Option Nat)) (x6 : Int32) (H : xH), k64 x0 x6 H = some (rv, Hf) → xWq Z H 64 [xA x0, xN, xN, xN, xN, xN, xI x6] []) : ∀ (x0 : (Option Nat)) (x1 : (Option Nat)) (x2 : Int32) (x3 : Int32) (x4 : Int64) (x6 : Int32) (H : xH), F_X8_takeTold_J35 N k35 k64 x0 x1 x2 x3 x4 x6 H = some (rv, Hf) → xWq Z H 35 [xA x0, xA x1, xI x2, xI x3, xJ x4, xN, xI x6] [] := by
  have hz : Z.1 = (cX8_takeTold, yX8_takeTold, 7) := by rw [hZ]; rfl
  have hδ : Z.2.1 = 2 := by rw [hZ]; rfl
  intro x0 x1 x2 x3 x4 x6 H h
  unfold F_X8_takeTold_J35 at h
  refine x_iload hz dX8_takeTold_35 rfl ?_
  refine x_iload_n hz dX8_takeTold_37 rfl ?_
  refine x_icmp_ge (t := 83) hz dX8_takeTold_38 (by decide) (fun c1 => ?_) (fun c1 => ?_)
  · replace h := x_ip c1 h
    refine x_iconst (v := (-1 : Int32)) hz dX8_takeTold_83 (by decide) ?_
    cases h
    exact x_iret hZ dX8_takeTold_84
  · replace h := x_in c1 h
    refine x_iload hz dX8_takeTold_41 rfl ?_
    refine x_aload_n hz dX8_takeTold_43 rfl ?_
    obtain ⟨v2, e_v2, h⟩ := x_bnd h
    refine x_alen (t0 := 1) (fun _ => rfl) hz dX8_takeTold_44 e_v2 ?_
    refine x_icmp_ge (t := 83) hz dX8_takeTold_45 (by decide) (fun c3 => ?_) (fun c3 => ?_)
    · replace h := x_ip c3 h
      refine x_iconst (v := (-1 : Int32)) hz dX8_takeTold_83 (by decide) ?_
      cases h
      exact x_iret hZ dX8_takeTold_84
    · replace h := x_in c3 h
      refine x_aload_n hz dX8_takeTold_48 rfl ?_
      refine x_iload hz dX8_takeTold_49 rfl ?_
      obtain ⟨v4, e_v4, h⟩ := x_bnd h
      refine x_lald hz dX8_takeTold_51 e_v4 ?_
      refine x_lload hz dX8_takeTold_52 rfl ?_
      refine x_lcmp hz dX8_takeTold_54 ?_
      refine x_if_ne (t := 77) hz dX8_takeTold_55 (by decide) (fun c5 => ?_) (fun c5 => ?_)
      · replace h := x_in c5 h
        exact x_wk (xwk_c (xwk_c (xwk_c (xwk_c (xwk_c (xwk_n (xwk_c xwk_0))))))) ((P_X8_takeTold_J77 hZ hk35) x0 x1 x2 x3 x4 x6 H h)
      · replace h := x_ip c5 h
        refine x_iload hz dX8_takeTold_58 rfl ?_
        refine x_iload_n hz dX8_takeTold_60 rfl ?_
        refine x_icmp_eq (t := 77) hz dX8_takeTold_61 (by decide) (fun c6 => ?_) (fun c6 => ?_)
        · replace h := x_ip c6 h
          exact x_wk (xwk_c (xwk_c (xwk_c (xwk_c (xwk_c (xwk_n (xwk_c xwk_0))))))) ((P_X8_takeTold_J77 hZ hk35) x0 x1 x2 x3 x4 x6 H h)
        · replace h := x_in c6 h
          exact x_wk (xwk_c (xwk_n (xwk_n (xwk_n (xwk_n (xwk_n (xwk_c xwk_0))))))) (hk64 x0 x6 H h)
noncomputable def F_X8_takeTold_L35 (N : Nat) (k64 : (Option Nat) → Int32 → xH → Option (Int32 × xH)) : Nat → (Option Nat) → (Option Nat) → Int32 → Int32 → Int64 → Int32 → xH → Option (Int32 × xH)
  | 0 => fun _ _ _ _ _ _ _ => none
  | n + 1 => F_X8_takeTold_J35 N (F_X8_takeTold_L35 N k64 n) k64
theorem P_X8_takeTold_L35 {N : Nat} {Z : xZ} {rv : Int32} {Hf : xH} (hZ : Z = xZm cX8_takeTold yX8_takeTold 7 2 (some .int) (some (.int rv)) Hf) {k64 : (Option Nat) → Int32 → xH → Option (Int32 × xH)} (hk64 : ∀ (x0 : (Option Nat)) (x6 : Int32) (H : xH), k64 x0 x6 H = some (rv, Hf) → xWq Z H 64 [xA x0, xN, xN, xN, xN, xN, xI x6] []) : ∀ (n : Nat) (x0 : (Option Nat)) (x1 : (Option Nat)) (x2 : Int32) (x3 : Int32) (x4 : Int64) (x6 : Int32) (H : xH), F_X8_takeTold_L35 N k64 n x0 x1 x2 x3 x4 x6 H = some (rv, Hf) → xWq Z H 35 [xA x0, xA x1, xI x2, xI x3, xJ x4, xN, xI x6] [] := by
  intro n
  induction n with
  | zero => intro _ _ _ _ _ _ _ h; cases h
  | succ n ih => exact P_X8_takeTold_J35 hZ ih hk64
noncomputable def F_X8_takeTold_J64 (N : Nat) (x0 : (Option Nat)) (x6 : Int32) (H : xH) : Option (Int32 × xH) :=
  (xgI H x0 8 3).bind fun v1 =>
  (xpI H x0 8 3 (v1 + (1 : Int32))).bind fun H2 =>
  some (x6, H2)
set_option maxRecDepth 20000 in
set_option maxHeartbeats 4000000 in
theorem P_X8_takeTold_J64 {N : Nat} {Z : xZ} {rv : Int32} {Hf : xH} (hZ : Z = xZm cX8_takeTold yX8_takeTold 7 2 (some .int) (some (.int rv)) Hf) : ∀ (x0 : (Option Nat)) (x6 : Int32) (H : xH), F_X8_takeTold_J64 N x0 x6 H = some (rv, Hf) → xWq Z H 64 [xA x0, xN, xN, xN, xN, xN, xI x6] [] := by
  have hz : Z.1 = (cX8_takeTold, yX8_takeTold, 7) := by rw [hZ]; rfl
  have hδ : Z.2.1 = 2 := by rw [hZ]; rfl
  intro x0 x6 H h
  unfold F_X8_takeTold_J64 at h
  refine x_aload_n hz dX8_takeTold_64 rfl ?_
  refine x_dup hz dX8_takeTold_65 (x_rfc _) ?_
  obtain ⟨v1, e_v1, h⟩ := x_bnd h
  refine x_getI hz dX8_takeTold_66 fs_X8_22 e_v1 ?_
  refine x_iconst (v := (1 : Int32)) hz dX8_takeTold_69 (by decide) ?_
  refine x_iadd hz dX8_takeTold_70 ?_
  obtain ⟨H2, e_H2, h⟩ := x_bnd h
  refine x_putV (v := .int (v1 + (1 : Int32))) hz dX8_takeTold_71 fs_X8_22 rfl rfl e_H2 ?_
  refine x_iload hz dX8_takeTold_74 rfl ?_
  cases h
  exact x_iret hZ dX8_takeTold_76
noncomputable def F_X8_takeTold_J30 (N : Nat) (x0 : (Option Nat)) (x1 : (Option Nat)) (x2 : Int32) (x3 : Int32) (s0 : Int64) (H : xH) : Option (Int32 × xH) :=
  (F_X8_takeTold_L35 N (F_X8_takeTold_J64 N) N) x0 x1 x2 x3 s0 (0 : Int32) H
set_option maxRecDepth 20000 in
set_option maxHeartbeats 4000000 in
theorem P_X8_takeTold_J30 {N : Nat} {Z : xZ} {rv : Int32} {Hf : xH} (hZ : Z = xZm cX8_takeTold yX8_takeTold 7 2 (some .int) (some (.int rv)) Hf) : ∀ (x0 : (Option Nat)) (x1 : (Option Nat)) (x2 : Int32) (x3 : Int32) (s0 : Int64) (H : xH), F_X8_takeTold_J30 N x0 x1 x2 x3 s0 H = some (rv, Hf) → xWq Z H 30 [xA x0, xA x1, xI x2, xI x3, xN, xN, xN] [.long s0] := by
  have hz : Z.1 = (cX8_takeTold, yX8_takeTold, 7) := by rw [hZ]; rfl
  have hδ : Z.2.1 = 2 := by rw [hZ]; rfl
  intro x0 x1 x2 x3 s0 H h
  unfold F_X8_takeTold_J30 at h
  refine x_lstore (pl' := [xA x0, xA x1, xI x2, xI x3, xJ s0, xN, xN]) hz dX8_takeTold_30 (by decide) rfl ?_
  refine x_iconst (v := (0 : Int32)) hz dX8_takeTold_32 (by decide) ?_
  refine x_istore (pl' := [xA x0, xA x1, xI x2, xI x3, xJ s0, xN, xI (0 : Int32)]) hz dX8_takeTold_33 (by decide) rfl ?_
  exact x_wk (xwk_c (xwk_c (xwk_c (xwk_c (xwk_c (xwk_n (xwk_c xwk_0))))))) ((P_X8_takeTold_L35 hZ (P_X8_takeTold_J64 hZ) N) x0 x1 x2 x3 s0 (0 : Int32) H h)
noncomputable def F_X8_takeTold (N : Nat) (a0 : (Option Nat)) (a1 : (Option Nat)) (a2 : Int32) (a3 : Int32) (H : xH) : Option (Int32 × xH) :=
  (xgA H a0 8 0).bind fun v1 =>
  (xgI H a0 8 3).bind fun v2 =>
  x_bd2 (F_X11_at N v1 v2 H) fun v4 H3 =>
  if v4 = (2 : Int32) then ((xgA H3 a0 8 2).bind fun v6 =>
  (xgI H3 a0 8 3).bind fun v7 =>
  x_bd2 (F_X11_at_ N v6 v7 H3) fun v9 H8 =>
  (F_X8_takeTold_J30 N) a0 a1 a2 a3 v9 H8) else ((F_X8_takeTold_J30 N) a0 a1 a2 a3 (0 : Int64) H3)
set_option maxRecDepth 20000 in
set_option maxHeartbeats 4000000 in
theorem P_X8_takeTold {N : Nat} {Z : xZ} {rv : Int32} {Hf : xH} (hZ : Z = xZm cX8_takeTold yX8_takeTold 7 2 (some .int) (some (.int rv)) Hf) : ∀ (a0 : (Option Nat)) (a1 : (Option Nat)) (a2 : Int32) (a3 : Int32) (H : xH), F_X8_takeTold N a0 a1 a2 a3 H = some (rv, Hf) → xWq Z H 0 [xA a0, xA a1, xI a2, xI a3, xN, xN, xN] [] := by
  have hz : Z.1 = (cX8_takeTold, yX8_takeTold, 7) := by rw [hZ]; rfl
  have hδ : Z.2.1 = 2 := by rw [hZ]; rfl
  intro a0 a1 a2 a3 H h
  unfold F_X8_takeTold at h
  refine x_aload_n hz dX8_takeTold_0 rfl ?_
  obtain ⟨v1, e_v1, h⟩ := x_bnd h
  refine x_getA hz dX8_takeTold_1 fs_X8_9 e_v1 ?_
  refine x_aload_n hz dX8_takeTold_4 rfl ?_
  obtain ⟨v2, e_v2, h⟩ := x_bnd h
  refine x_getI hz dX8_takeTold_5 fs_X8_22 e_v2 ?_
  obtain ⟨v4, H3, e_H3, h⟩ := x_b2 h
  refine x_callSi (as := [.inr (.inr v1), .inl v2]) (st := []) cs_X8_37 rfl rfl hz (by omega) (by decide) dX8_takeTold_8 (M_X11_at e_H3) ?_
  refine x_iconst (v := (2 : Int32)) hz dX8_takeTold_11 (by decide) ?_
  refine x_icmp_ne (t := 29) hz dX8_takeTold_12 (by decide) (fun c5 => ?_) (fun c5 => ?_)
  · replace h := x_in c5 h
    refine x_lconst (v := (0 : Int64)) hz dX8_takeTold_29 (by decide) ?_
    exact x_wk (xwk_c (xwk_c (xwk_c (xwk_c (xwk_n (xwk_n (xwk_n xwk_0))))))) ((P_X8_takeTold_J30 hZ) a0 a1 a2 a3 (0 : Int64) H3 h)
  · replace h := x_ip c5 h
    refine x_aload_n hz dX8_takeTold_15 rfl ?_
    obtain ⟨v6, e_v6, h⟩ := x_bnd h
    refine x_getA hz dX8_takeTold_16 fs_X8_18 e_v6 ?_
    refine x_aload_n hz dX8_takeTold_19 rfl ?_
    obtain ⟨v7, e_v7, h⟩ := x_bnd h
    refine x_getI hz dX8_takeTold_20 fs_X8_22 e_v7 ?_
    obtain ⟨v9, H8, e_H8, h⟩ := x_b2 h
    refine x_callSl (as := [.inr (.inr v6), .inl v7]) (st := []) cs_X8_41 rfl rfl hz (by omega) (by decide) dX8_takeTold_23 (M_X11_at_ e_H8) ?_
    refine x_goto (t := 30) hz dX8_takeTold_26 (by decide) ?_
    exact x_wk (xwk_c (xwk_c (xwk_c (xwk_c (xwk_n (xwk_n (xwk_n xwk_0))))))) ((P_X8_takeTold_J30 hZ) a0 a1 a2 a3 v9 H8 h)
theorem M_X8_takeTold {N : Nat} {a0 : (Option Nat)} {a1 : (Option Nat)} {a2 : Int32} {a3 : Int32} {H H1 : xH} {r1 : Int32} (h : F_X8_takeTold N a0 a1 a2 a3 H = some (r1, H1)) : xM yX8_takeTold cX8_takeTold 7 (some .int) 2 [.inr (.inr a0), .inr (.inr a1), .inl a2, .inl a3] H (some (.int r1)) H1 :=
  xM_of (by decide +kernel) (xT_tb 475 (by decide +kernel) (by decide +kernel)) (by simp [xargs, x2]) rfl (P_X8_takeTold rfl a0 a1 a2 a3 H h)
/-! BettingBook$Teller.tellRule(Z)Z -/
noncomputable def F_X7_tellRule_J103 (N : Nat) (x0 : (Option Nat)) (x2 : Int32) (x3 : Int32) (x4 : Int32) (H : xH) : Option (Int32 × xH) :=
  (xgA H x0 7 1).bind fun v1 =>
  (xob H v1 2).bind fun b3 =>
  (F_X2_addRule N v1 x2 x3 x4 H).bind fun H2 =>
  some ((1 : Int32), H2)
set_option maxRecDepth 20000 in
set_option maxHeartbeats 4000000 in
theorem P_X7_tellRule_J103 {N : Nat} {Z : xZ} {rv : Int32} {Hf : xH} (hZ : Z = xZm cX7_tellRule yX7_tellRule 5 3 (some .boolean) (some (.int rv)) Hf) : ∀ (x0 : (Option Nat)) (x2 : Int32) (x3 : Int32) (x4 : Int32) (H : xH), F_X7_tellRule_J103 N x0 x2 x3 x4 H = some (rv, Hf) → xWq Z H 103 [xA x0, xN, xI x2, xI x3, xI x4] [] := by
  have hz : Z.1 = (cX7_tellRule, yX7_tellRule, 5) := by rw [hZ]; rfl
  have hδ : Z.2.1 = 3 := by rw [hZ]; rfl
  intro x0 x2 x3 x4 H h
  unfold F_X7_tellRule_J103 at h
  refine x_aload_n hz dX7_tellRule_103 rfl ?_
  obtain ⟨v1, e_v1, h⟩ := x_bnd h
  refine x_getA hz dX7_tellRule_104 fs_X7_15 e_v1 ?_
  refine x_iload_n hz dX7_tellRule_107 rfl ?_
  refine x_iload_n hz dX7_tellRule_108 rfl ?_
  refine x_iload hz dX7_tellRule_109 rfl ?_
  obtain ⟨b3, e_b3, h⟩ := x_bnd h
  obtain ⟨H2, e_H2, h⟩ := x_bnd h
  refine x_callVv (as := [.inl x2, .inl x3, .inl x4]) (st := []) cs_X7_118 (ci := 2) ⟨rfl, rfl⟩ rfl rfl hz (by omega) (by decide) dX7_tellRule_111 e_b3 (M_X2_addRule e_H2) ?_
  refine x_iconst (v := (1 : Int32)) hz dX7_tellRule_114 (by decide) ?_
  cases h
  exact x_zret01 hZ (Or.inr rfl) dX7_tellRule_115
noncomputable def F_X7_tellRule_J94 (N : Nat) (x0 : (Option Nat)) (x2 : Int32) (x3 : Int32) (s0 : Int32) (H : xH) : Option (Int32 × xH) :=
  if 0 ≤ s0 then ((F_X7_tellRule_J103 N) x0 x2 x3 s0 H) else (some ((0 : Int32), H))
set_option maxRecDepth 20000 in
set_option maxHeartbeats 4000000 in
theorem P_X7_tellRule_J94 {N : Nat} {Z : xZ} {rv : Int32} {Hf : xH} (hZ : Z = xZm cX7_tellRule yX7_tellRule 5 3 (some .boolean) (some (.int rv)) Hf) : ∀ (x0 : (Option Nat)) (x2 : Int32) (x3 : Int32) (s0 : Int32) (H : xH), F_X7_tellRule_J94 N x0 x2 x3 s0 H = some (rv, Hf) → xWq Z H 94 [xA x0, xN, xI x2, xI x3, xN] [.int s0] := by
  have hz : Z.1 = (cX7_tellRule, yX7_tellRule, 5) := by rw [hZ]; rfl
  have hδ : Z.2.1 = 3 := by rw [hZ]; rfl
  intro x0 x2 x3 s0 H h
  unfold F_X7_tellRule_J94 at h
  refine x_istore (pl' := [xA x0, xN, xI x2, xI x3, xI s0]) hz dX7_tellRule_94 (by decide) rfl ?_
  refine x_iload hz dX7_tellRule_96 rfl ?_
  refine x_if_ge (t := 103) hz dX7_tellRule_98 (by decide) (fun c1 => ?_) (fun c1 => ?_)
  · replace h := x_ip c1 h
    exact x_wk (xwk_c (xwk_n (xwk_c (xwk_c (xwk_c xwk_0))))) ((P_X7_tellRule_J103 hZ) x0 x2 x3 s0 H h)
  · replace h := x_in c1 h
    refine x_iconst (v := (0 : Int32)) hz dX7_tellRule_101 (by decide) ?_
    cases h
    exact x_zret01 hZ (Or.inl rfl) dX7_tellRule_102
noncomputable def F_X7_tellRule_J53 (N : Nat) (x0 : (Option Nat)) (x1 : Int32) (x2 : Int32) (s0 : Int32) (H : xH) : Option (Int32 × xH) :=
  if 0 ≤ s0 then (if x1 = 0 then ((F_X7_tellRule_J103 N) x0 x2 s0 (-1 : Int32) H) else ((xgA H x0 7 0).bind fun v3 =>
  (xob H v3 8).bind fun b5 =>
  x_bd2 (F_X8_take N v3 (some (H.2.2.2 6)) H) fun v6 H4 =>
  if v6 = 0 then ((F_X7_tellRule_J94 N) x0 x2 s0 (-1 : Int32) H4) else ((xgA H4 x0 7 0).bind fun v8 =>
  (xob H4 v8 8).bind fun b10 =>
  x_bd2 (F_X8_takeNumber N v8 (0 : Int32) (7 : Int32) H4) fun v11 H9 =>
  (F_X7_tellRule_J94 N) x0 x2 s0 v11 H9))) else (some ((0 : Int32), H))
set_option maxRecDepth 20000 in
set_option maxHeartbeats 4000000 in
theorem P_X7_tellRule_J53 {N : Nat} {Z : xZ} {rv : Int32} {Hf : xH} (hZ : Z = xZm cX7_tellRule yX7_tellRule 5 3 (some .boolean) (some (.int rv)) Hf) : ∀ (x0 : (Option Nat)) (x1 : Int32) (x2 : Int32) (s0 : Int32) (H : xH), F_X7_tellRule_J53 N x0 x1 x2 s0 H = some (rv, Hf) → xWq Z H 53 [xA x0, xI x1, xI x2, xN, xN] [.int s0] := by
  have hz : Z.1 = (cX7_tellRule, yX7_tellRule, 5) := by rw [hZ]; rfl
  have hδ : Z.2.1 = 3 := by rw [hZ]; rfl
  intro x0 x1 x2 s0 H h
  unfold F_X7_tellRule_J53 at h
  refine x_istore_n (pl' := [xA x0, xI x1, xI x2, xI s0, xN]) hz dX7_tellRule_53 (by decide) rfl ?_
  refine x_iload_n hz dX7_tellRule_54 rfl ?_
  refine x_if_ge (t := 60) hz dX7_tellRule_55 (by decide) (fun c1 => ?_) (fun c1 => ?_)
  · replace h := x_ip c1 h
    refine x_iconst (v := (-1 : Int32)) hz dX7_tellRule_60 (by decide) ?_
    refine x_istore (pl' := [xA x0, xI x1, xI x2, xI s0, xI (-1 : Int32)]) hz dX7_tellRule_61 (by decide) rfl ?_
    refine x_iload_n hz dX7_tellRule_63 rfl ?_
    refine x_if_eq (t := 103) hz dX7_tellRule_64 (by decide) (fun c2 => ?_) (fun c2 => ?_)
    · replace h := x_ip c2 h
      exact x_wk (xwk_c (xwk_n (xwk_c (xwk_c (xwk_c xwk_0))))) ((P_X7_tellRule_J103 hZ) x0 x2 s0 (-1 : Int32) H h)
    · replace h := x_in c2 h
      refine x_aload_n hz dX7_tellRule_67 rfl ?_
      obtain ⟨v3, e_v3, h⟩ := x_bnd h
      refine x_getA hz dX7_tellRule_68 fs_X7_9 e_v3 ?_
      refine x_gets (i := 6) hz dX7_tellRule_71 (by decide) gw_X7_115 ?_
      obtain ⟨b5, e_b5, h⟩ := x_bnd h
      obtain ⟨v6, H4, e_H4, h⟩ := x_b2 h
      refine x_callVi (as := [.inr (.inr (some (H.2.2.2 6)))]) (st := []) cs_X7_31 (ci := 8) ⟨rfl, rfl⟩ rfl rfl hz (by omega) (by decide) dX7_tellRule_74 e_b5 (M_X8_take e_H4) ?_
      refine x_if_eq (t := 93) hz dX7_tellRule_77 (by decide) (fun c7 => ?_) (fun c7 => ?_)
      · replace h := x_ip c7 h
        refine x_iconst (v := (-1 : Int32)) hz dX7_tellRule_93 (by decide) ?_
        exact x_wk (xwk_c (xwk_n (xwk_c (xwk_c (xwk_n xwk_0))))) ((P_X7_tellRule_J94 hZ) x0 x2 s0 (-1 : Int32) H4 h)
      · replace h := x_in c7 h
        refine x_aload_n hz dX7_tellRule_80 rfl ?_
        obtain ⟨v8, e_v8, h⟩ := x_bnd h
        refine x_getA hz dX7_tellRule_81 fs_X7_9 e_v8 ?_
        refine x_iconst (v := (0 : Int32)) hz dX7_tellRule_84 (by decide) ?_
        refine x_bipush (v := (7 : Int32)) hz dX7_tellRule_85 (by decide) ?_
        obtain ⟨b10, e_b10, h⟩ := x_bnd h
        obtain ⟨v11, H9, e_H9, h⟩ := x_b2 h
        refine x_callVi (as := [.inl (0 : Int32), .inl (7 : Int32)]) (st := []) cs_X7_89 (ci := 8) ⟨rfl, rfl⟩ rfl rfl hz (by omega) (by decide) dX7_tellRule_87 e_b10 (M_X8_takeNumber e_H9) ?_
        refine x_goto (t := 94) hz dX7_tellRule_90 (by decide) ?_
        exact x_wk (xwk_c (xwk_n (xwk_c (xwk_c (xwk_n xwk_0))))) ((P_X7_tellRule_J94 hZ) x0 x2 s0 v11 H9 h)
  · replace h := x_in c1 h
    refine x_iconst (v := (0 : Int32)) hz dX7_tellRule_58 (by decide) ?_
    cases h
    exact x_zret01 hZ (Or.inl rfl) dX7_tellRule_59
noncomputable def F_X7_tellRule (N : Nat) (a0 : (Option Nat)) (a1 : Int32) (H : xH) : Option (Int32 × xH) :=
  (xgA H a0 7 0).bind fun v1 =>
  (xgA H a0 7 1).bind fun v2 =>
  (xgA H v2 2 5).bind fun v3 =>
  (xgA H a0 7 1).bind fun v4 =>
  (xgI H v4 2 0).bind fun v5 =>
  (xob H v1 8).bind fun b7 =>
  x_bd2 (F_X8_takeTold N v1 v3 v5 (-1 : Int32) H) fun v8 H6 =>
  if 0 ≤ v8 then ((xgA H6 a0 7 0).bind fun v10 =>
  (xgA H6 a0 7 1).bind fun v11 =>
  (xgA H6 v11 2 5).bind fun v12 =>
  (xgA H6 a0 7 1).bind fun v13 =>
  (xgI H6 v13 2 0).bind fun v14 =>
  (xob H6 v10 8).bind fun b16 =>
  x_bd2 (F_X8_takeTold N v10 v12 v14 v8 H6) fun v17 H15 =>
  (F_X7_tellRule_J53 N) a0 a1 v8 v17 H15) else ((F_X7_tellRule_J53 N) a0 a1 v8 (-1 : Int32) H6)
set_option maxRecDepth 20000 in
set_option maxHeartbeats 4000000 in
theorem P_X7_tellRule {N : Nat} {Z : xZ} {rv : Int32} {Hf : xH} (hZ : Z = xZm cX7_tellRule yX7_tellRule 5 3 (some .boolean) (some (.int rv)) Hf) : ∀ (a0 : (Option Nat)) (a1 : Int32) (H : xH), F_X7_tellRule N a0 a1 H = some (rv, Hf) → xWq Z H 0 [xA a0, xI a1, xN, xN, xN] [] := by
  have hz : Z.1 = (cX7_tellRule, yX7_tellRule, 5) := by rw [hZ]; rfl
  have hδ : Z.2.1 = 3 := by rw [hZ]; rfl
  intro a0 a1 H h
  unfold F_X7_tellRule at h
  refine x_aload_n hz dX7_tellRule_0 rfl ?_
  obtain ⟨v1, e_v1, h⟩ := x_bnd h
  refine x_getA hz dX7_tellRule_1 fs_X7_9 e_v1 ?_
  refine x_aload_n hz dX7_tellRule_4 rfl ?_
  obtain ⟨v2, e_v2, h⟩ := x_bnd h
  refine x_getA hz dX7_tellRule_5 fs_X7_15 e_v2 ?_
  obtain ⟨v3, e_v3, h⟩ := x_bnd h
  refine x_getA hz dX7_tellRule_8 fs_X7_107 e_v3 ?_
  refine x_aload_n hz dX7_tellRule_11 rfl ?_
  obtain ⟨v4, e_v4, h⟩ := x_bnd h
  refine x_getA hz dX7_tellRule_12 fs_X7_15 e_v4 ?_
  obtain ⟨v5, e_v5, h⟩ := x_bnd h
  refine x_getI hz dX7_tellRule_15 fs_X7_80 e_v5 ?_
  refine x_iconst (v := (-1 : Int32)) hz dX7_tellRule_18 (by decide) ?_
  obtain ⟨b7, e_b7, h⟩ := x_bnd h
  obtain ⟨v8, H6, e_H6, h⟩ := x_b2 h
  refine x_callVi (as := [.inr (.inr v3), .inl v5, .inl (-1 : Int32)]) (st := []) cs_X7_111 (ci := 8) ⟨rfl, rfl⟩ rfl rfl hz (by omega) (by decide) dX7_tellRule_19 e_b7 (M_X8_takeTold e_H6) ?_
  refine x_istore_n (pl' := [xA a0, xI a1, xI v8, xN, xN]) hz dX7_tellRule_22 (by decide) rfl ?_
  refine x_iload_n hz dX7_tellRule_23 rfl ?_
  refine x_if_ge (t := 31) hz dX7_tellRule_24 (by decide) (fun c9 => ?_) (fun c9 => ?_)
  · replace h := x_ip c9 h
    refine x_aload_n hz dX7_tellRule_31 rfl ?_
    obtain ⟨v10, e_v10, h⟩ := x_bnd h
    refine x_getA hz dX7_tellRule_32 fs_X7_9 e_v10 ?_
    refine x_aload_n hz dX7_tellRule_35 rfl ?_
    obtain ⟨v11, e_v11, h⟩ := x_bnd h
    refine x_getA hz dX7_tellRule_36 fs_X7_15 e_v11 ?_
    obtain ⟨v12, e_v12, h⟩ := x_bnd h
    refine x_getA hz dX7_tellRule_39 fs_X7_107 e_v12 ?_
    refine x_aload_n hz dX7_tellRule_42 rfl ?_
    obtain ⟨v13, e_v13, h⟩ := x_bnd h
    refine x_getA hz dX7_tellRule_43 fs_X7_15 e_v13 ?_
    obtain ⟨v14, e_v14, h⟩ := x_bnd h
    refine x_getI hz dX7_tellRule_46 fs_X7_80 e_v14 ?_
    refine x_iload_n hz dX7_tellRule_49 rfl ?_
    obtain ⟨b16, e_b16, h⟩ := x_bnd h
    obtain ⟨v17, H15, e_H15, h⟩ := x_b2 h
    refine x_callVi (as := [.inr (.inr v12), .inl v14, .inl v8]) (st := []) cs_X7_111 (ci := 8) ⟨rfl, rfl⟩ rfl rfl hz (by omega) (by decide) dX7_tellRule_50 e_b16 (M_X8_takeTold e_H15) ?_
    exact x_wk (xwk_c (xwk_c (xwk_c (xwk_n (xwk_n xwk_0))))) ((P_X7_tellRule_J53 hZ) a0 a1 v8 v17 H15 h)
  · replace h := x_in c9 h
    refine x_iconst (v := (-1 : Int32)) hz dX7_tellRule_27 (by decide) ?_
    refine x_goto (t := 53) hz dX7_tellRule_28 (by decide) ?_
    exact x_wk (xwk_c (xwk_c (xwk_c (xwk_n (xwk_n xwk_0))))) ((P_X7_tellRule_J53 hZ) a0 a1 v8 (-1 : Int32) H6 h)
theorem M_X7_tellRule {N : Nat} {a0 : (Option Nat)} {a1 : Int32} {H H1 : xH} {r1 : Int32} (h : F_X7_tellRule N a0 a1 H = some (r1, H1)) : xM yX7_tellRule cX7_tellRule 5 (some .boolean) 3 [.inr (.inr a0), .inl a1] H (some (.int r1)) H1 :=
  xM_of (by decide +kernel) (xT_tb 471 (by decide +kernel) (by decide +kernel)) (by simp [xargs, x2]) rfl (P_X7_tellRule rfl a0 a1 H h)
/-! BettingBook$Tokens.isNext(LBettingBook$Word;)Z -/
noncomputable def F_X8_isNext (N : Nat) (a0 : (Option Nat)) (a1 : (Option Nat)) (H : xH) : Option (Int32 × xH) :=
  (xgA H a0 8 0).bind fun v1 =>
  (xgI H a0 8 3).bind fun v2 =>
  x_bd2 (F_X11_at N v1 v2 H) fun v4 H3 =>
  if v4 = (2 : Int32) then ((xgA H3 a0 8 2).bind fun v6 =>
  (xgI H3 a0 8 3).bind fun v7 =>
  x_bd2 (F_X11_at_ N v6 v7 H3) fun v9 H8 =>
  (xgW H8 a1).bind fun v10 =>
  if (lg_cmp v9 v10) = 0 then (some ((1 : Int32), H8)) else (some ((0 : Int32), H8))) else (some ((0 : Int32), H3))
set_option maxRecDepth 20000 in
set_option maxHeartbeats 4000000 in
theorem P_X8_isNext {N : Nat} {Z : xZ} {rv : Int32} {Hf : xH} (hZ : Z = xZm cX8_isNext yX8_isNext 2 2 (some .boolean) (some (.int rv)) Hf) : ∀ (a0 : (Option Nat)) (a1 : (Option Nat)) (H : xH), F_X8_isNext N a0 a1 H = some (rv, Hf) → xWq Z H 0 [xA a0, xA a1] [] := by
  have hz : Z.1 = (cX8_isNext, yX8_isNext, 2) := by rw [hZ]; rfl
  have hδ : Z.2.1 = 2 := by rw [hZ]; rfl
  intro a0 a1 H h
  unfold F_X8_isNext at h
  refine x_aload_n hz dX8_isNext_0 rfl ?_
  obtain ⟨v1, e_v1, h⟩ := x_bnd h
  refine x_getA hz dX8_isNext_1 fs_X8_9 e_v1 ?_
  refine x_aload_n hz dX8_isNext_4 rfl ?_
  obtain ⟨v2, e_v2, h⟩ := x_bnd h
  refine x_getI hz dX8_isNext_5 fs_X8_22 e_v2 ?_
  obtain ⟨v4, H3, e_H3, h⟩ := x_b2 h
  refine x_callSi (as := [.inr (.inr v1), .inl v2]) (st := []) cs_X8_37 rfl rfl hz (by omega) (by decide) dX8_isNext_8 (M_X11_at e_H3) ?_
  refine x_iconst (v := (2 : Int32)) hz dX8_isNext_11 (by decide) ?_
  refine x_icmp_ne (t := 38) hz dX8_isNext_12 (by decide) (fun c5 => ?_) (fun c5 => ?_)
  · replace h := x_in c5 h
    refine x_iconst (v := (0 : Int32)) hz dX8_isNext_38 (by decide) ?_
    cases h
    exact x_zret01 hZ (Or.inl rfl) dX8_isNext_39
  · replace h := x_ip c5 h
    refine x_aload_n hz dX8_isNext_15 rfl ?_
    obtain ⟨v6, e_v6, h⟩ := x_bnd h
    refine x_getA hz dX8_isNext_16 fs_X8_18 e_v6 ?_
    refine x_aload_n hz dX8_isNext_19 rfl ?_
    obtain ⟨v7, e_v7, h⟩ := x_bnd h
    refine x_getI hz dX8_isNext_20 fs_X8_22 e_v7 ?_
    obtain ⟨v9, H8, e_H8, h⟩ := x_b2 h
    refine x_callSl (as := [.inr (.inr v6), .inl v7]) (st := []) cs_X8_41 rfl rfl hz (by omega) (by decide) dX8_isNext_23 (M_X11_at_ e_H8) ?_
    refine x_aload_n hz dX8_isNext_26 rfl ?_
    obtain ⟨v10, e_v10, h⟩ := x_bnd h
    refine x_getW hz dX8_isNext_27 fw_X8_44 e_v10 ?_
    refine x_lcmp hz dX8_isNext_30 ?_
    refine x_if_ne (t := 38) hz dX8_isNext_31 (by decide) (fun c11 => ?_) (fun c11 => ?_)
    · replace h := x_in c11 h
      refine x_iconst (v := (0 : Int32)) hz dX8_isNext_38 (by decide) ?_
      cases h
      exact x_zret01 hZ (Or.inl rfl) dX8_isNext_39
    · replace h := x_ip c11 h
      refine x_iconst (v := (1 : Int32)) hz dX8_isNext_34 (by decide) ?_
      refine x_goto (t := 39) hz dX8_isNext_35 (by decide) ?_
      cases h
      exact x_zret01 hZ (Or.inr rfl) dX8_isNext_39
theorem M_X8_isNext {N : Nat} {a0 : (Option Nat)} {a1 : (Option Nat)} {H H1 : xH} {r1 : Int32} (h : F_X8_isNext N a0 a1 H = some (r1, H1)) : xM yX8_isNext cX8_isNext 2 (some .boolean) 2 [.inr (.inr a0), .inr (.inr a1)] H (some (.int r1)) H1 :=
  xM_of (by decide +kernel) (xT_tb 509 (by decide +kernel) (by decide +kernel)) (by simp [xargs, x2]) rfl (P_X8_isNext rfl a0 a1 H h)
/-! BettingBook$Tokens.isNext(C)Z -/
noncomputable def F_X8_isNext_ (N : Nat) (a0 : (Option Nat)) (a1 : Int32) (H : xH) : Option (Int32 × xH) :=
  (xgA H a0 8 0).bind fun v1 =>
  (xgI H a0 8 3).bind fun v2 =>
  x_bd2 (F_X11_at N v1 v2 H) fun v4 H3 =>
  if v4 = a1 then (some ((1 : Int32), H3)) else (some ((0 : Int32), H3))
set_option maxRecDepth 20000 in
set_option maxHeartbeats 4000000 in
theorem P_X8_isNext_ {N : Nat} {Z : xZ} {rv : Int32} {Hf : xH} (hZ : Z = xZm cX8_isNext_ yX8_isNext_ 2 2 (some .boolean) (some (.int rv)) Hf) : ∀ (a0 : (Option Nat)) (a1 : Int32) (H : xH), F_X8_isNext_ N a0 a1 H = some (rv, Hf) → xWq Z H 0 [xA a0, xI a1] [] := by
  have hz : Z.1 = (cX8_isNext_, yX8_isNext_, 2) := by rw [hZ]; rfl
  have hδ : Z.2.1 = 2 := by rw [hZ]; rfl
  intro a0 a1 H h
  unfold F_X8_isNext_ at h
  refine x_aload_n hz dX8_isNext__0 rfl ?_
  obtain ⟨v1, e_v1, h⟩ := x_bnd h
  refine x_getA hz dX8_isNext__1 fs_X8_9 e_v1 ?_
  refine x_aload_n hz dX8_isNext__4 rfl ?_
  obtain ⟨v2, e_v2, h⟩ := x_bnd h
  refine x_getI hz dX8_isNext__5 fs_X8_22 e_v2 ?_
  obtain ⟨v4, H3, e_H3, h⟩ := x_b2 h
  refine x_callSi (as := [.inr (.inr v1), .inl v2]) (st := []) cs_X8_37 rfl rfl hz (by omega) (by decide) dX8_isNext__8 (M_X11_at e_H3) ?_
  refine x_iload_n hz dX8_isNext__11 rfl ?_
  refine x_icmp_ne (t := 19) hz dX8_isNext__12 (by decide) (fun c5 => ?_) (fun c5 => ?_)
  · replace h := x_in c5 h
    refine x_iconst (v := (0 : Int32)) hz dX8_isNext__19 (by decide) ?_
    cases h
    exact x_zret01 hZ (Or.inl rfl) dX8_isNext__20
  · replace h := x_ip c5 h
    refine x_iconst (v := (1 : Int32)) hz dX8_isNext__15 (by decide) ?_
    refine x_goto (t := 20) hz dX8_isNext__16 (by decide) ?_
    cases h
    exact x_zret01 hZ (Or.inr rfl) dX8_isNext__20
theorem M_X8_isNext_ {N : Nat} {a0 : (Option Nat)} {a1 : Int32} {H H1 : xH} {r1 : Int32} (h : F_X8_isNext_ N a0 a1 H = some (r1, H1)) : xM yX8_isNext_ cX8_isNext_ 2 (some .boolean) 2 [.inr (.inr a0), .inl a1] H (some (.int r1)) H1 :=
  xM_of (by decide +kernel) (xT_tb 513 (by decide +kernel) (by decide +kernel)) (by simp [xargs, x2]) rfl (P_X8_isNext_ rfl a0 a1 H h)
/-! BettingBook$Tokens.take(C)Z -/
noncomputable def F_X8_take__J35 (N : Nat) (x2 : Int32) (s0 : (Option Nat)) (s1 : Int32) (s2 : Int32) (H : xH) : Option (Int32 × xH) :=
  (xpI H s0 8 3 (s1 + s2)).bind fun H1 =>
  if x2 = 0 ∨ x2 = 1 then some (x2, H1) else none
set_option maxRecDepth 20000 in
set_option maxHeartbeats 4000000 in
theorem P_X8_take__J35 {N : Nat} {Z : xZ} {rv : Int32} {Hf : xH} (hZ : Z = xZm cX8_take_ yX8_take_ 3 2 (some .boolean) (some (.int rv)) Hf) : ∀ (x2 : Int32) (s0 : (Option Nat)) (s1 : Int32) (s2 : Int32) (H : xH), F_X8_take__J35 N x2 s0 s1 s2 H = some (rv, Hf) → xWq Z H 35 [xN, xN, xI x2] [.int s2, .int s1, va_rf s0] := by
  have hz : Z.1 = (cX8_take_, yX8_take_, 3) := by rw [hZ]; rfl
  have hδ : Z.2.1 = 2 := by rw [hZ]; rfl
  intro x2 s0 s1 s2 H h
  unfold F_X8_take__J35 at h
  refine x_iadd hz dX8_take__35 ?_
  obtain ⟨H1, e_H1, h⟩ := x_bnd h
  refine x_putV (v := .int (s1 + s2)) hz dX8_take__36 fs_X8_22 rfl rfl e_H1 ?_
  refine x_iload_n hz dX8_take__39 rfl ?_
  obtain ⟨c2, h⟩ := x_inv h
  cases h
  exact x_zret01 hZ c2 dX8_take__40
noncomputable def F_X8_take__J20 (N : Nat) (x0 : (Option Nat)) (s0 : Int32) (H : xH) : Option (Int32 × xH) :=
  (xgI H x0 8 3).bind fun v1 =>
  if s0 = 0 then ((F_X8_take__J35 N) s0 x0 v1 (0 : Int32) H) else ((F_X8_take__J35 N) s0 x0 v1 (1 : Int32) H)
set_option maxRecDepth 20000 in
set_option maxHeartbeats 4000000 in
theorem P_X8_take__J20 {N : Nat} {Z : xZ} {rv : Int32} {Hf : xH} (hZ : Z = xZm cX8_take_ yX8_take_ 3 2 (some .boolean) (some (.int rv)) Hf) : ∀ (x0 : (Option Nat)) (s0 : Int32) (H : xH), F_X8_take__J20 N x0 s0 H = some (rv, Hf) → xWq Z H 20 [xA x0, xN, xN] [.int s0] := by
  have hz : Z.1 = (cX8_take_, yX8_take_, 3) := by rw [hZ]; rfl
  have hδ : Z.2.1 = 2 := by rw [hZ]; rfl
  intro x0 s0 H h
  unfold F_X8_take__J20 at h
  refine x_istore_n (pl' := [xA x0, xN, xI s0]) hz dX8_take__20 (by decide) rfl ?_
  refine x_aload_n hz dX8_take__21 rfl ?_
  refine x_dup hz dX8_take__22 (x_rfc _) ?_
  obtain ⟨v1, e_v1, h⟩ := x_bnd h
  refine x_getI hz dX8_take__23 fs_X8_22 e_v1 ?_
  refine x_iload_n hz dX8_take__26 rfl ?_
  refine x_if_eq (t := 34) hz dX8_take__27 (by decide) (fun c2 => ?_) (fun c2 => ?_)
  · replace h := x_ip c2 h
    refine x_iconst (v := (0 : Int32)) hz dX8_take__34 (by decide) ?_
    exact x_wk (xwk_n (xwk_n (xwk_c xwk_0))) ((P_X8_take__J35 hZ) s0 x0 v1 (0 : Int32) H h)
  · replace h := x_in c2 h
    refine x_iconst (v := (1 : Int32)) hz dX8_take__30 (by decide) ?_
    refine x_goto (t := 35) hz dX8_take__31 (by decide) ?_
    exact x_wk (xwk_n (xwk_n (xwk_c xwk_0))) ((P_X8_take__J35 hZ) s0 x0 v1 (1 : Int32) H h)
noncomputable def F_X8_take_ (N : Nat) (a0 : (Option Nat)) (a1 : Int32) (H : xH) : Option (Int32 × xH) :=
  (xgA H a0 8 0).bind fun v1 =>
  (xgI H a0 8 3).bind fun v2 =>
  x_bd2 (F_X11_at N v1 v2 H) fun v4 H3 =>
  if v4 = a1 then ((F_X8_take__J20 N) a0 (1 : Int32) H3) else ((F_X8_take__J20 N) a0 (0 : Int32) H3)
set_option maxRecDepth 20000 in
set_option maxHeartbeats 4000000 in
theorem P_X8_take_ {N : Nat} {Z : xZ} {rv : Int32} {Hf : xH} (hZ : Z = xZm cX8_take_ yX8_take_ 3 2 (some .boolean) (some (.int rv)) Hf) : ∀ (a0 : (Option Nat)) (a1 : Int32) (H : xH), F_X8_take_ N a0 a1 H = some (rv, Hf) → xWq Z H 0 [xA a0, xI a1, xN] [] := by
  have hz : Z.1 = (cX8_take_, yX8_take_, 3) := by rw [hZ]; rfl
  have hδ : Z.2.1 = 2 := by rw [hZ]; rfl
  intro a0 a1 H h
  unfold F_X8_take_ at h
  refine x_aload_n hz dX8_take__0 rfl ?_
  obtain ⟨v1, e_v1, h⟩ := x_bnd h
  refine x_getA hz dX8_take__1 fs_X8_9 e_v1 ?_
  refine x_aload_n hz dX8_take__4 rfl ?_
  obtain ⟨v2, e_v2, h⟩ := x_bnd h
  refine x_getI hz dX8_take__5 fs_X8_22 e_v2 ?_
  obtain ⟨v4, H3, e_H3, h⟩ := x_b2 h
  refine x_callSi (as := [.inr (.inr v1), .inl v2]) (st := []) cs_X8_37 rfl rfl hz (by omega) (by decide) dX8_take__8 (M_X11_at e_H3) ?_
  refine x_iload_n hz dX8_take__11 rfl ?_
  refine x_icmp_ne (t := 19) hz dX8_take__12 (by decide) (fun c5 => ?_) (fun c5 => ?_)
  · replace h := x_in c5 h
    refine x_iconst (v := (0 : Int32)) hz dX8_take__19 (by decide) ?_
    exact x_wk (xwk_c (xwk_n (xwk_n xwk_0))) ((P_X8_take__J20 hZ) a0 (0 : Int32) H3 h)
  · replace h := x_ip c5 h
    refine x_iconst (v := (1 : Int32)) hz dX8_take__15 (by decide) ?_
    refine x_goto (t := 20) hz dX8_take__16 (by decide) ?_
    exact x_wk (xwk_c (xwk_n (xwk_n xwk_0))) ((P_X8_take__J20 hZ) a0 (1 : Int32) H3 h)
theorem M_X8_take_ {N : Nat} {a0 : (Option Nat)} {a1 : Int32} {H H1 : xH} {r1 : Int32} (h : F_X8_take_ N a0 a1 H = some (r1, H1)) : xM yX8_take_ cX8_take_ 3 (some .boolean) 2 [.inr (.inr a0), .inl a1] H (some (.int r1)) H1 :=
  xM_of (by decide +kernel) (xT_tb 517 (by decide +kernel) (by decide +kernel)) (by simp [xargs, x2]) rfl (P_X8_take_ rfl a0 a1 H h)
/-! BettingBook$Teller.least()LBettingBook$Claim; -/
noncomputable def F_X7_least_J42 (N : Nat) (x1 : Int32) (s0 : Int32) (H : xH) : Option ((Option Nat) × xH) :=
  if 0 ≤ s0 then (x_bd2 (F_X1_of N (2 : Int32) x1 s0 H) fun v3 H2 =>
  some (v3, H2)) else (some (none, H))
set_option maxRecDepth 20000 in
set_option maxHeartbeats 4000000 in
theorem P_X7_least_J42 {N : Nat} {Z : xZ} {rv : (Option Nat)} {Hf : xH} (hZ : Z = xZm cX7_least yX7_least 3 4 (some (.object "BettingBook$Claim")) (some (va_rf rv)) Hf) : ∀ (x1 : Int32) (s0 : Int32) (H : xH), F_X7_least_J42 N x1 s0 H = some (rv, Hf) → xWq Z H 42 [xN, xI x1, xN] [.int s0] := by
  have hz : Z.1 = (cX7_least, yX7_least, 3) := by rw [hZ]; rfl
  have hδ : Z.2.1 = 4 := by rw [hZ]; rfl
  intro x1 s0 H h
  unfold F_X7_least_J42 at h
  refine x_istore_n (pl' := [xN, xI x1, xI s0]) hz dX7_least_42 (by decide) rfl ?_
  refine x_iload_n hz dX7_least_43 rfl ?_
  refine x_if_ge (t := 51) hz dX7_least_44 (by decide) (fun c1 => ?_) (fun c1 => ?_)
  · replace h := x_ip c1 h
    refine x_iconst (v := (2 : Int32)) hz dX7_least_51 (by decide) ?_
    refine x_iload_n hz dX7_least_52 rfl ?_
    refine x_iload_n hz dX7_least_53 rfl ?_
    obtain ⟨v3, H2, e_H2, h⟩ := x_b2 h
    refine x_callSa (as := [.inl (2 : Int32), .inl x1, .inl s0]) (st := []) cs_X7_190 rfl rfl hz (by omega) (by decide) dX7_least_54 (M_X1_of e_H2) ?_
    cases h
    exact x_aret hZ dX7_least_57
  · replace h := x_in c1 h
    refine x_null hz dX7_least_47 ?_
    refine x_goto (t := 57) hz dX7_least_48 (by decide) ?_
    cases h
    exact x_aret hZ dX7_least_57
noncomputable def F_X7_least_J41 (N : Nat) (x1 : Int32) (H : xH) : Option ((Option Nat) × xH) :=
  (F_X7_least_J42 N) x1 (-1 : Int32) H
set_option maxRecDepth 20000 in
set_option maxHeartbeats 4000000 in
theorem P_X7_least_J41 {N : Nat} {Z : xZ} {rv : (Option Nat)} {Hf : xH} (hZ : Z = xZm cX7_least yX7_least 3 4 (some (.object "BettingBook$Claim")) (some (va_rf rv)) Hf) : ∀ (x1 : Int32) (H : xH), F_X7_least_J41 N x1 H = some (rv, Hf) → xWq Z H 41 [xN, xI x1, xN] [] := by
  have hz : Z.1 = (cX7_least, yX7_least, 3) := by rw [hZ]; rfl
  have hδ : Z.2.1 = 4 := by rw [hZ]; rfl
  intro x1 H h
  unfold F_X7_least_J41 at h
  refine x_iconst (v := (-1 : Int32)) hz dX7_least_41 (by decide) ?_
  exact x_wk (xwk_n (xwk_c (xwk_n xwk_0))) ((P_X7_least_J42 hZ) x1 (-1 : Int32) H h)
noncomputable def F_X7_least (N : Nat) (a0 : (Option Nat)) (H : xH) : Option ((Option Nat) × xH) :=
  (xgA H a0 7 0).bind fun v1 =>
  (xob H v1 8).bind fun b3 =>
  x_bd2 (F_X8_takeNumber N v1 (0 : Int32) (9 : Int32) H) fun v4 H2 =>
  if v4 < 0 then ((F_X7_least_J41 N) v4 H2) else ((xgA H2 a0 7 0).bind fun v6 =>
  (xob H2 v6 8).bind fun b8 =>
  x_bd2 (F_X8_take N v6 (some (H2.2.2.2 16)) H2) fun v9 H7 =>
  if v9 = 0 then ((F_X7_least_J41 N) v4 H7) else ((xgA H7 a0 7 0).bind fun v11 =>
  (xob H7 v11 8).bind fun b13 =>
  x_bd2 (F_X8_takeNumber N v11 (0 : Int32) (7 : Int32) H7) fun v14 H12 =>
  (F_X7_least_J42 N) v4 v14 H12))
set_option maxRecDepth 20000 in
set_option maxHeartbeats 4000000 in
theorem P_X7_least {N : Nat} {Z : xZ} {rv : (Option Nat)} {Hf : xH} (hZ : Z = xZm cX7_least yX7_least 3 4 (some (.object "BettingBook$Claim")) (some (va_rf rv)) Hf) : ∀ (a0 : (Option Nat)) (H : xH), F_X7_least N a0 H = some (rv, Hf) → xWq Z H 0 [xA a0, xN, xN] [] := by
  have hz : Z.1 = (cX7_least, yX7_least, 3) := by rw [hZ]; rfl
  have hδ : Z.2.1 = 4 := by rw [hZ]; rfl
  intro a0 H h
  unfold F_X7_least at h
  refine x_aload_n hz dX7_least_0 rfl ?_
  obtain ⟨v1, e_v1, h⟩ := x_bnd h
  refine x_getA hz dX7_least_1 fs_X7_9 e_v1 ?_
  refine x_iconst (v := (0 : Int32)) hz dX7_least_4 (by decide) ?_
  refine x_bipush (v := (9 : Int32)) hz dX7_least_5 (by decide) ?_
  obtain ⟨b3, e_b3, h⟩ := x_bnd h
  obtain ⟨v4, H2, e_H2, h⟩ := x_b2 h
  refine x_callVi (as := [.inl (0 : Int32), .inl (9 : Int32)]) (st := []) cs_X7_89 (ci := 8) ⟨rfl, rfl⟩ rfl rfl hz (by omega) (by decide) dX7_least_7 e_b3 (M_X8_takeNumber e_H2) ?_
  refine x_istore_n (pl' := [xA a0, xI v4, xN]) hz dX7_least_10 (by decide) rfl ?_
  refine x_iload_n hz dX7_least_11 rfl ?_
  refine x_if_lt (t := 41) hz dX7_least_12 (by decide) (fun c5 => ?_) (fun c5 => ?_)
  · replace h := x_ip c5 h
    exact x_wk (xwk_n (xwk_c (xwk_n xwk_0))) ((P_X7_least_J41 hZ) v4 H2 h)
  · replace h := x_in c5 h
    refine x_aload_n hz dX7_least_15 rfl ?_
    obtain ⟨v6, e_v6, h⟩ := x_bnd h
    refine x_getA hz dX7_least_16 fs_X7_9 e_v6 ?_
    refine x_gets (i := 16) hz dX7_least_19 (by decide) gw_X7_187 ?_
    obtain ⟨b8, e_b8, h⟩ := x_bnd h
    obtain ⟨v9, H7, e_H7, h⟩ := x_b2 h
    refine x_callVi (as := [.inr (.inr (some (H2.2.2.2 16)))]) (st := []) cs_X7_31 (ci := 8) ⟨rfl, rfl⟩ rfl rfl hz (by omega) (by decide) dX7_least_22 e_b8 (M_X8_take e_H7) ?_
    refine x_if_eq (t := 41) hz dX7_least_25 (by decide) (fun c10 => ?_) (fun c10 => ?_)
    · replace h := x_ip c10 h
      exact x_wk (xwk_n (xwk_c (xwk_n xwk_0))) ((P_X7_least_J41 hZ) v4 H7 h)
    · replace h := x_in c10 h
      refine x_aload_n hz dX7_least_28 rfl ?_
      obtain ⟨v11, e_v11, h⟩ := x_bnd h
      refine x_getA hz dX7_least_29 fs_X7_9 e_v11 ?_
      refine x_iconst (v := (0 : Int32)) hz dX7_least_32 (by decide) ?_
      refine x_bipush (v := (7 : Int32)) hz dX7_least_33 (by decide) ?_
      obtain ⟨b13, e_b13, h⟩ := x_bnd h
      obtain ⟨v14, H12, e_H12, h⟩ := x_b2 h
      refine x_callVi (as := [.inl (0 : Int32), .inl (7 : Int32)]) (st := []) cs_X7_89 (ci := 8) ⟨rfl, rfl⟩ rfl rfl hz (by omega) (by decide) dX7_least_35 e_b13 (M_X8_takeNumber e_H12) ?_
      refine x_goto (t := 42) hz dX7_least_38 (by decide) ?_
      exact x_wk (xwk_n (xwk_c (xwk_n xwk_0))) ((P_X7_least_J42 hZ) v4 v14 H12 h)
theorem M_X7_least {N : Nat} {a0 : (Option Nat)} {H H1 : xH} {r1 : (Option Nat)} (h : F_X7_least N a0 H = some (r1, H1)) : xM yX7_least cX7_least 3 (some (.object "BettingBook$Claim")) 4 [.inr (.inr a0)] H (some (va_rf r1)) H1 :=
  xM_of (by decide +kernel) (xT_tb 523 (by decide +kernel) (by decide +kernel)) (by simp [xargs, x2]) rfl (P_X7_least rfl a0 H h)
/-! BettingBook$Teller.ofThing()LBettingBook$Claim; -/
noncomputable def F_X7_ofThing_J128 (N : Nat) (x1 : Int32) (s0 : Int32) (H : xH) : Option ((Option Nat) × xH) :=
  if 0 ≤ s0 then (x_bd2 (F_X1_of N (1 : Int32) x1 s0 H) fun v3 H2 =>
  some (v3, H2)) else (some (none, H))
set_option maxRecDepth 20000 in
set_option maxHeartbeats 4000000 in
theorem P_X7_ofThing_J128 {N : Nat} {Z : xZ} {rv : (Option Nat)} {Hf : xH} (hZ : Z = xZm cX7_ofThing yX7_ofThing 3 4 (some (.object "BettingBook$Claim")) (some (va_rf rv)) Hf) : ∀ (x1 : Int32) (s0 : Int32) (H : xH), F_X7_ofThing_J128 N x1 s0 H = some (rv, Hf) → xWq Z H 128 [xN, xI x1, xN] [.int s0] := by
  have hz : Z.1 = (cX7_ofThing, yX7_ofThing, 3) := by rw [hZ]; rfl
  have hδ : Z.2.1 = 4 := by rw [hZ]; rfl
  intro x1 s0 H h
  unfold F_X7_ofThing_J128 at h
  refine x_istore_n (pl' := [xN, xI x1, xI s0]) hz dX7_ofThing_128 (by decide) rfl ?_
  refine x_iload_n hz dX7_ofThing_129 rfl ?_
  refine x_if_ge (t := 137) hz dX7_ofThing_130 (by decide) (fun c1 => ?_) (fun c1 => ?_)
  · replace h := x_ip c1 h
    refine x_iconst (v := (1 : Int32)) hz dX7_ofThing_137 (by decide) ?_
    refine x_iload_n hz dX7_ofThing_138 rfl ?_
    refine x_iload_n hz dX7_ofThing_139 rfl ?_
    obtain ⟨v3, H2, e_H2, h⟩ := x_b2 h
    refine x_callSa (as := [.inl (1 : Int32), .inl x1, .inl s0]) (st := []) cs_X7_190 rfl rfl hz (by omega) (by decide) dX7_ofThing_140 (M_X1_of e_H2) ?_
    cases h
    exact x_aret hZ dX7_ofThing_143
  · replace h := x_in c1 h
    refine x_null hz dX7_ofThing_133 ?_
    refine x_goto (t := 143) hz dX7_ofThing_134 (by decide) ?_
    cases h
    exact x_aret hZ dX7_ofThing_143
noncomputable def F_X7_ofThing (N : Nat) (a0 : (Option Nat)) (H : xH) : Option ((Option Nat) × xH) :=
  (xgA H a0 7 0).bind fun v1 =>
  (xgA H a0 7 1).bind fun v2 =>
  (xgA H v2 2 5).bind fun v3 =>
  (xgA H a0 7 1).bind fun v4 =>
  (xgI H v4 2 0).bind fun v5 =>
  (xob H v1 8).bind fun b7 =>
  x_bd2 (F_X8_takeTold N v1 v3 v5 (-1 : Int32) H) fun v8 H6 =>
  if 0 ≤ v8 then ((xgA H6 a0 7 0).bind fun v10 =>
  (xob H6 v10 8).bind fun b12 =>
  x_bd2 (F_X8_take N v10 (some (H6.2.2.2 15)) H6) fun v13 H11 =>
  if v13 = 0 then ((xgA H11 a0 7 0).bind fun v15 =>
  (xob H11 v15 8).bind fun b17 =>
  x_bd2 (F_X8_take N v15 (some (H11.2.2.2 16)) H11) fun v18 H16 =>
  if v18 = 0 then ((xgA H16 a0 7 0).bind fun v20 =>
  (xob H16 v20 8).bind fun b22 =>
  x_bd2 (F_X8_take N v20 (some (H16.2.2.2 17)) H16) fun v23 H21 =>
  if v23 = 0 then ((F_X7_ofThing_J128 N) v8 (-1 : Int32) H21) else ((xgA H21 a0 7 0).bind fun v25 =>
  (xgA H21 a0 7 1).bind fun v26 =>
  (xgA H21 v26 2 5).bind fun v27 =>
  (xgA H21 a0 7 1).bind fun v28 =>
  (xgI H21 v28 2 0).bind fun v29 =>
  (xob H21 v25 8).bind fun b31 =>
  x_bd2 (F_X8_takeTold N v25 v27 v29 v8 H21) fun v32 H30 =>
  (F_X7_ofThing_J128 N) v8 v32 H30)) else ((xgA H16 a0 7 0).bind fun v33 =>
  (xob H16 v33 8).bind fun b35 =>
  x_bd2 (F_X8_takeNumber N v33 (0 : Int32) (7 : Int32) H16) fun v36 H34 =>
  if 0 ≤ v36 then (x_bd2 (F_X1_of N (0 : Int32) v8 v36 H34) fun v39 H38 =>
  some (v39, H38)) else (some (none, H34)))) else (x_bd2 (F_X1_of N (0 : Int32) v8 (7 : Int32) H11) fun v41 H40 =>
  some (v41, H40))) else (some (none, H6))
set_option maxRecDepth 20000 in
set_option maxHeartbeats 4000000 in
theorem P_X7_ofThing {N : Nat} {Z : xZ} {rv : (Option Nat)} {Hf : xH} (hZ : Z = xZm cX7_ofThing yX7_ofThing 3 4 (some (.object "BettingBook$Claim")) (some (va_rf rv)) Hf) : ∀ (a0 : (Option Nat)) (H : xH), F_X7_ofThing N a0 H = some (rv, Hf) → xWq Z H 0 [xA a0, xN, xN] [] := by
  have hz : Z.1 = (cX7_ofThing, yX7_ofThing, 3) := by rw [hZ]; rfl
  have hδ : Z.2.1 = 4 := by rw [hZ]; rfl
  intro a0 H h
  unfold F_X7_ofThing at h
  refine x_aload_n hz dX7_ofThing_0 rfl ?_
  obtain ⟨v1, e_v1, h⟩ := x_bnd h
  refine x_getA hz dX7_ofThing_1 fs_X7_9 e_v1 ?_
  refine x_aload_n hz dX7_ofThing_4 rfl ?_
  obtain ⟨v2, e_v2, h⟩ := x_bnd h
  refine x_getA hz dX7_ofThing_5 fs_X7_15 e_v2 ?_
  obtain ⟨v3, e_v3, h⟩ := x_bnd h
  refine x_getA hz dX7_ofThing_8 fs_X7_107 e_v3 ?_
  refine x_aload_n hz dX7_ofThing_11 rfl ?_
  obtain ⟨v4, e_v4, h⟩ := x_bnd h
  refine x_getA hz dX7_ofThing_12 fs_X7_15 e_v4 ?_
  obtain ⟨v5, e_v5, h⟩ := x_bnd h
  refine x_getI hz dX7_ofThing_15 fs_X7_80 e_v5 ?_
  refine x_iconst (v := (-1 : Int32)) hz dX7_ofThing_18 (by decide) ?_
  obtain ⟨b7, e_b7, h⟩ := x_bnd h
  obtain ⟨v8, H6, e_H6, h⟩ := x_b2 h
  refine x_callVi (as := [.inr (.inr v3), .inl v5, .inl (-1 : Int32)]) (st := []) cs_X7_111 (ci := 8) ⟨rfl, rfl⟩ rfl rfl hz (by omega) (by decide) dX7_ofThing_19 e_b7 (M_X8_takeTold e_H6) ?_
  refine x_istore_n (pl' := [xA a0, xI v8, xN]) hz dX7_ofThing_22 (by decide) rfl ?_
  refine x_iload_n hz dX7_ofThing_23 rfl ?_
  refine x_if_ge (t := 29) hz dX7_ofThing_24 (by decide) (fun c9 => ?_) (fun c9 => ?_)
  · replace h := x_ip c9 h
    refine x_aload_n hz dX7_ofThing_29 rfl ?_
    obtain ⟨v10, e_v10, h⟩ := x_bnd h
    refine x_getA hz dX7_ofThing_30 fs_X7_9 e_v10 ?_
    refine x_gets (i := 15) hz dX7_ofThing_33 (by decide) gw_X7_194 ?_
    obtain ⟨b12, e_b12, h⟩ := x_bnd h
    obtain ⟨v13, H11, e_H11, h⟩ := x_b2 h
    refine x_callVi (as := [.inr (.inr (some (H6.2.2.2 15)))]) (st := []) cs_X7_31 (ci := 8) ⟨rfl, rfl⟩ rfl rfl hz (by omega) (by decide) dX7_ofThing_36 e_b12 (M_X8_take e_H11) ?_
    refine x_if_eq (t := 50) hz dX7_ofThing_39 (by decide) (fun c14 => ?_) (fun c14 => ?_)
    · replace h := x_ip c14 h
      refine x_aload_n hz dX7_ofThing_50 rfl ?_
      obtain ⟨v15, e_v15, h⟩ := x_bnd h
      refine x_getA hz dX7_ofThing_51 fs_X7_9 e_v15 ?_
      refine x_gets (i := 16) hz dX7_ofThing_54 (by decide) gw_X7_187 ?_
      obtain ⟨b17, e_b17, h⟩ := x_bnd h
      obtain ⟨v18, H16, e_H16, h⟩ := x_b2 h
      refine x_callVi (as := [.inr (.inr (some (H11.2.2.2 16)))]) (st := []) cs_X7_31 (ci := 8) ⟨rfl, rfl⟩ rfl rfl hz (by omega) (by decide) dX7_ofThing_57 e_b17 (M_X8_take e_H16) ?_
      refine x_if_eq (t := 89) hz dX7_ofThing_60 (by decide) (fun c19 => ?_) (fun c19 => ?_)
      · replace h := x_ip c19 h
        refine x_aload_n hz dX7_ofThing_89 rfl ?_
        obtain ⟨v20, e_v20, h⟩ := x_bnd h
        refine x_getA hz dX7_ofThing_90 fs_X7_9 e_v20 ?_
        refine x_gets (i := 17) hz dX7_ofThing_93 (by decide) gw_X7_197 ?_
        obtain ⟨b22, e_b22, h⟩ := x_bnd h
        obtain ⟨v23, H21, e_H21, h⟩ := x_b2 h
        refine x_callVi (as := [.inr (.inr (some (H16.2.2.2 17)))]) (st := []) cs_X7_31 (ci := 8) ⟨rfl, rfl⟩ rfl rfl hz (by omega) (by decide) dX7_ofThing_96 e_b22 (M_X8_take e_H21) ?_
        refine x_if_eq (t := 127) hz dX7_ofThing_99 (by decide) (fun c24 => ?_) (fun c24 => ?_)
        · replace h := x_ip c24 h
          refine x_iconst (v := (-1 : Int32)) hz dX7_ofThing_127 (by decide) ?_
          exact x_wk (xwk_n (xwk_c (xwk_n xwk_0))) ((P_X7_ofThing_J128 hZ) v8 (-1 : Int32) H21 h)
        · replace h := x_in c24 h
          refine x_aload_n hz dX7_ofThing_102 rfl ?_
          obtain ⟨v25, e_v25, h⟩ := x_bnd h
          refine x_getA hz dX7_ofThing_103 fs_X7_9 e_v25 ?_
          refine x_aload_n hz dX7_ofThing_106 rfl ?_
          obtain ⟨v26, e_v26, h⟩ := x_bnd h
          refine x_getA hz dX7_ofThing_107 fs_X7_15 e_v26 ?_
          obtain ⟨v27, e_v27, h⟩ := x_bnd h
          refine x_getA hz dX7_ofThing_110 fs_X7_107 e_v27 ?_
          refine x_aload_n hz dX7_ofThing_113 rfl ?_
          obtain ⟨v28, e_v28, h⟩ := x_bnd h
          refine x_getA hz dX7_ofThing_114 fs_X7_15 e_v28 ?_
          obtain ⟨v29, e_v29, h⟩ := x_bnd h
          refine x_getI hz dX7_ofThing_117 fs_X7_80 e_v29 ?_
          refine x_iload_n hz dX7_ofThing_120 rfl ?_
          obtain ⟨b31, e_b31, h⟩ := x_bnd h
          obtain ⟨v32, H30, e_H30, h⟩ := x_b2 h
          refine x_callVi (as := [.inr (.inr v27), .inl v29, .inl v8]) (st := []) cs_X7_111 (ci := 8) ⟨rfl, rfl⟩ rfl rfl hz (by omega) (by decide) dX7_ofThing_121 e_b31 (M_X8_takeTold e_H30) ?_
          refine x_goto (t := 128) hz dX7_ofThing_124 (by decide) ?_
          exact x_wk (xwk_n (xwk_c (xwk_n xwk_0))) ((P_X7_ofThing_J128 hZ) v8 v32 H30 h)
      · replace h := x_in c19 h
        refine x_aload_n hz dX7_ofThing_63 rfl ?_
        obtain ⟨v33, e_v33, h⟩ := x_bnd h
        refine x_getA hz dX7_ofThing_64 fs_X7_9 e_v33 ?_
        refine x_iconst (v := (0 : Int32)) hz dX7_ofThing_67 (by decide) ?_
        refine x_bipush (v := (7 : Int32)) hz dX7_ofThing_68 (by decide) ?_
        obtain ⟨b35, e_b35, h⟩ := x_bnd h
        obtain ⟨v36, H34, e_H34, h⟩ := x_b2 h
        refine x_callVi (as := [.inl (0 : Int32), .inl (7 : Int32)]) (st := []) cs_X7_89 (ci := 8) ⟨rfl, rfl⟩ rfl rfl hz (by omega) (by decide) dX7_ofThing_70 e_b35 (M_X8_takeNumber e_H34) ?_
        refine x_istore_n (pl' := [xA a0, xI v8, xI v36]) hz dX7_ofThing_73 (by decide) rfl ?_
        refine x_iload_n hz dX7_ofThing_74 rfl ?_
        refine x_if_ge (t := 82) hz dX7_ofThing_75 (by decide) (fun c37 => ?_) (fun c37 => ?_)
        · replace h := x_ip c37 h
          refine x_iconst (v := (0 : Int32)) hz dX7_ofThing_82 (by decide) ?_
          refine x_iload_n hz dX7_ofThing_83 rfl ?_
          refine x_iload_n hz dX7_ofThing_84 rfl ?_
          obtain ⟨v39, H38, e_H38, h⟩ := x_b2 h
          refine x_callSa (as := [.inl (0 : Int32), .inl v8, .inl v36]) (st := []) cs_X7_190 rfl rfl hz (by omega) (by decide) dX7_ofThing_85 (M_X1_of e_H38) ?_
          cases h
          exact x_aret hZ dX7_ofThing_88
        · replace h := x_in c37 h
          refine x_null hz dX7_ofThing_78 ?_
          refine x_goto (t := 88) hz dX7_ofThing_79 (by decide) ?_
          cases h
          exact x_aret hZ dX7_ofThing_88
    · replace h := x_in c14 h
      refine x_iconst (v := (0 : Int32)) hz dX7_ofThing_42 (by decide) ?_
      refine x_iload_n hz dX7_ofThing_43 rfl ?_
      refine x_bipush (v := (7 : Int32)) hz dX7_ofThing_44 (by decide) ?_
      obtain ⟨v41, H40, e_H40, h⟩ := x_b2 h
      refine x_callSa (as := [.inl (0 : Int32), .inl v8, .inl (7 : Int32)]) (st := []) cs_X7_190 rfl rfl hz (by omega) (by decide) dX7_ofThing_46 (M_X1_of e_H40) ?_
      cases h
      exact x_aret hZ dX7_ofThing_49
  · replace h := x_in c9 h
    refine x_null hz dX7_ofThing_27 ?_
    cases h
    exact x_aret hZ dX7_ofThing_28
theorem M_X7_ofThing {N : Nat} {a0 : (Option Nat)} {H H1 : xH} {r1 : (Option Nat)} (h : F_X7_ofThing N a0 H = some (r1, H1)) : xM yX7_ofThing cX7_ofThing 3 (some (.object "BettingBook$Claim")) 4 [.inr (.inr a0)] H (some (va_rf r1)) H1 :=
  xM_of (by decide +kernel) (xT_tb 555 (by decide +kernel) (by decide +kernel)) (by simp [xargs, x2]) rfl (P_X7_ofThing rfl a0 H h)
/-! BettingBook$Teller.any(I)LBettingBook$Claim; -/
noncomputable def F_X7_any_J46 (N : Nat) (c_X7_any : (Option Nat) → Int32 → xH → Option ((Option Nat) × xH)) (c_X7_one : (Option Nat) → Int32 → xH → Option ((Option Nat) × xH)) (k46 : (Option Nat) → Int32 → (Option Nat) → (Option Nat) → Int32 → (Option Nat) → (Option Nat) → Int32 → xH → Option ((Option Nat) × xH)) (k95 : (Option Nat) → Int32 → (Option Nat) → (Option Nat) → Int32 → (Option Nat) → (Option Nat) → xH → Option ((Option Nat) × xH)) (x0 : (Option Nat)) (x1 : Int32) (x2 : (Option Nat)) (x3 : (Option Nat)) (x4 : Int32) (x5 : (Option Nat)) (x6 : (Option Nat)) (x7 : Int32) (H : xH) : Option ((Option Nat) × xH) :=
  if (1200 : Int32) ≤ x7 then (k95 x0 x1 x2 x3 x4 x5 x6 H) else (if x6 = none then (k95 x0 x1 x2 x3 x4 x5 x6 H) else ((xgA H x0 7 0).bind fun v3 =>
  (xob H v3 8).bind fun b5 =>
  x_bd2 (F_X8_take N v3 (some (H.2.2.2 13)) H) fun v6 H4 =>
  if v6 = 0 then (k95 x0 x1 x2 x3 x4 x5 x6 H4) else ((xob H4 x0 7).bind fun b9 =>
  x_bd2 (c_X7_one x0 x1 H4) fun v10 H8 =>
  (xpA H8 x6 1 4 v10).bind fun H11 =>
  (xgA H11 x6 1 4).bind fun v12 =>
  k46 x0 x1 x2 x3 x4 x5 v12 (x7 + 1) H11)))
set_option maxRecDepth 20000 in
set_option maxHeartbeats 4000000 in
theorem P_X7_any_J46 {N : Nat} {Z : xZ} {rv : (Option Nat)} {Hf : xH} {δ : Nat} (hZ : Z = xZm cX7_any yX7_any 8 (δ + 1) (some (.object "BettingBook$Claim")) (some (va_rf rv)) Hf) (hb : 4 ≤ δ) {c_X7_any : (Option Nat) → Int32 → xH → Option ((Option Nat) × xH)} (hc_X7_any : ∀ {a0 : (Option Nat)} {a1 : Int32} {H H1 : xH} {r1 : (Option Nat)}, c_X7_any a0 a1 H = some (r1, H1) → xM yX7_any cX7_any 8 (some (.object "BettingBook$Claim")) δ [.inr (.inr a0), .inl a1] H (some (va_rf r1)) H1) {c_X7_one : (Option Nat) → Int32 → xH → Option ((Option Nat) × xH)} (hc_X7_one : ∀ {a0 : (Option Nat)} {a1 : Int32} {H H1 : xH} {r1 : (Option Nat)}, c_X7_one a0 a1 H = some (r1, H1) → xM yX7_one cX7_one 6 (some (.object "BettingBook$Claim")) δ [.inr (.inr a0), .inl a1] H (some (va_rf r1)) H1) {k46 : (Option Nat) → Int32 → (Option Nat) → (Option Nat) → Int32 → (Option Nat) → (Option Nat) → Int32 → xH → Option ((Option Nat) × xH)} (hk46 : ∀ (x0 : (Option Nat)) (x1 : Int32) (x2 : (Option Nat)) (x3 : (Option Nat)) (x4 : Int32) (x5 : (Option Nat)) (x6 : (Option Nat)) (x7 : Int32) (H : xH), k46 x0 x1 x2 x3 x4 x5 x6 x7 H = some (rv, Hf) → xWq Z H 46 [xA x0, xI x1, xA x2, xA x3, xI x4, xA x5, xA x6, xI x7] []) {k95 : (Option Nat) → Int32 → (Option Nat) → (Option Nat) → Int32 → (Option Nat) → (Option Nat) → xH → Option ((Option Nat) × xH)} (hk95 : ∀ (x0 : (Option Nat)) (x1 : Int32) (x2 : (Option Nat)) (x3 : (Option Nat)) (x4 : Int32) (x5 : (Option Nat)) (x6 : (Option Nat)) (H : xH), k95 x0 x1 x2 x3 x4 x5 x6 H = some (rv, Hf) → xWq Z H 95 [xA x0, xI x1, xA x2, xA x3, xI x4, xA x5, xA x6, xN] []) : ∀ (x0 : (Option Nat)) (x1 : Int32) (x2 : (Option Nat)) (x3 : (Option Nat)) (x4 : Int32) (x5 : (Option Nat)) (x6 : (Option Nat)) (x7 : Int32) (H : xH), F_X7_any_J46 N c_X7_any c_X7_one k46 k95 x0 x1 x2 x3 x4 x5 x6 x7 H = some (rv, Hf) → xWq Z H 46 [xA x0, xI x1, xA x2, xA x3, xI x4, xA x5, xA x6, xI x7] [] := by
  have hz : Z.1 = (cX7_any, yX7_any, 8) := by rw [hZ]; rfl
  have hδ : Z.2.1 = (δ + 1) := by rw [hZ]; rfl
  intro x0 x1 x2 x3 x4 x5 x6 x7 H h
  unfold F_X7_any_J46 at h
  refine x_iload hz dX7_any_46 rfl ?_
  refine x_sipush (v := (1200 : Int32)) hz dX7_any_48 (by decide) ?_
  refine x_icmp_ge (t := 95) hz dX7_any_51 (by decide) (fun c1 => ?_) (fun c1 => ?_)
  · replace h := x_ip c1 h
    exact x_wk (xwk_c (xwk_c (xwk_c (xwk_c (xwk_c (xwk_c (xwk_c (xwk_n xwk_0)))))))) (hk95 x0 x1 x2 x3 x4 x5 x6 H h)
  · replace h := x_in c1 h
    refine x_aload hz dX7_any_54 rfl ?_
    refine x_ifnull (t := 95) hz dX7_any_56 (by decide) (fun c2 => ?_) (fun c2 => ?_)
    · replace h := x_ip c2 h
      exact x_wk (xwk_c (xwk_c (xwk_c (xwk_c (xwk_c (xwk_c (xwk_c (xwk_n xwk_0)))))))) (hk95 x0 x1 x2 x3 x4 x5 x6 H h)
    · replace h := x_in c2 h
      refine x_aload_n hz dX7_any_59 rfl ?_
      obtain ⟨v3, e_v3, h⟩ := x_bnd h
      refine x_getA hz dX7_any_60 fs_X7_9 e_v3 ?_
      refine x_gets (i := 13) hz dX7_any_63 (by decide) gw_X7_156 ?_
      obtain ⟨b5, e_b5, h⟩ := x_bnd h
      obtain ⟨v6, H4, e_H4, h⟩ := x_b2 h
      refine x_callVi (as := [.inr (.inr (some (H.2.2.2 13)))]) (st := []) cs_X7_31 (ci := 8) ⟨rfl, rfl⟩ rfl rfl hz (by omega) (by decide) dX7_any_66 e_b5 (M_X8_take e_H4) ?_
      refine x_if_eq (t := 95) hz dX7_any_69 (by decide) (fun c7 => ?_) (fun c7 => ?_)
      · replace h := x_ip c7 h
        exact x_wk (xwk_c (xwk_c (xwk_c (xwk_c (xwk_c (xwk_c (xwk_c (xwk_n xwk_0)))))))) (hk95 x0 x1 x2 x3 x4 x5 x6 H4 h)
      · replace h := x_in c7 h
        refine x_aload hz dX7_any_72 rfl ?_
        refine x_aload_n hz dX7_any_74 rfl ?_
        refine x_iload_n hz dX7_any_75 rfl ?_
        obtain ⟨b9, e_b9, h⟩ := x_bnd h
        obtain ⟨v10, H8, e_H8, h⟩ := x_b2 h
        refine x_callVa (as := [.inl x1]) (st := [va_rf x6]) cs_X7_153 (ci := 7) ⟨rfl, rfl⟩ rfl rfl hz (by omega) (Nat.le_trans (x_sm1 (x_rfc _) x_sm0) (by decide)) dX7_any_76 e_b9 (hc_X7_one e_H8) ?_
        obtain ⟨H11, e_H11, h⟩ := x_bnd h
        refine x_putV (v := va_rf v10) hz dX7_any_79 fs_X7_159 (x_nro _ _) (x_fto _ _) e_H11 ?_
        refine x_aload hz dX7_any_82 rfl ?_
        obtain ⟨v12, e_v12, h⟩ := x_bnd h
        refine x_getA hz dX7_any_84 fs_X7_159 e_v12 ?_
        refine x_astore (pl' := [xA x0, xI x1, xA x2, xA x3, xI x4, xA x5, xA v12, xI x7]) hz dX7_any_87 (by decide) rfl ?_
        refine x_iinc (w := (x7 + 1)) (pl' := [xA x0, xI x1, xA x2, xA x3, xI x4, xA x5, xA v12, xI (x7 + 1)]) hz dX7_any_89 rfl rfl (by decide) rfl ?_
        refine x_goto (t := 46) hz dX7_any_92 (by decide) ?_
        exact x_wk (xwk_c (xwk_c (xwk_c (xwk_c (xwk_c (xwk_c (xwk_c (xwk_c xwk_0)))))))) (hk46 x0 x1 x2 x3 x4 x5 v12 (x7 + 1) H11 h)
noncomputable def F_X7_any_L46 (N : Nat) (c_X7_any : (Option Nat) → Int32 → xH → Option ((Option Nat) × xH)) (c_X7_one : (Option Nat) → Int32 → xH → Option ((Option Nat) × xH)) (k95 : (Option Nat) → Int32 → (Option Nat) → (Option Nat) → Int32 → (Option Nat) → (Option Nat) → xH → Option ((Option Nat) × xH)) : Nat → (Option Nat) → Int32 → (Option Nat) → (Option Nat) → Int32 → (Option Nat) → (Option Nat) → Int32 → xH → Option ((Option Nat) × xH)
  | 0 => fun _ _ _ _ _ _ _ _ _ => none
  | n + 1 => F_X7_any_J46 N c_X7_any c_X7_one (F_X7_any_L46 N c_X7_any c_X7_one k95 n) k95
theorem P_X7_any_L46 {N : Nat} {Z : xZ} {rv : (Option Nat)} {Hf : xH} {δ : Nat} (hZ : Z = xZm cX7_any yX7_any 8 (δ + 1) (some (.object "BettingBook$Claim")) (some (va_rf rv)) Hf) (hb : 4 ≤ δ) {c_X7_any : (Option Nat) → Int32 → xH → Option ((Option Nat) × xH)} (hc_X7_any : ∀ {a0 : (Option Nat)} {a1 : Int32} {H H1 : xH} {r1 : (Option Nat)}, c_X7_any a0 a1 H = some (r1, H1) → xM yX7_any cX7_any 8 (some (.object "BettingBook$Claim")) δ [.inr (.inr a0), .inl a1] H (some (va_rf r1)) H1) {c_X7_one : (Option Nat) → Int32 → xH → Option ((Option Nat) × xH)} (hc_X7_one : ∀ {a0 : (Option Nat)} {a1 : Int32} {H H1 : xH} {r1 : (Option Nat)}, c_X7_one a0 a1 H = some (r1, H1) → xM yX7_one cX7_one 6 (some (.object "BettingBook$Claim")) δ [.inr (.inr a0), .inl a1] H (some (va_rf r1)) H1) {k95 : (Option Nat) → Int32 → (Option Nat) → (Option Nat) → Int32 → (Option Nat) → (Option Nat) → xH → Option ((Option Nat) × xH)} (hk95 : ∀ (x0 : (Option Nat)) (x1 : Int32) (x2 : (Option Nat)) (x3 : (Option Nat)) (x4 : Int32) (x5 : (Option Nat)) (x6 : (Option Nat)) (H : xH), k95 x0 x1 x2 x3 x4 x5 x6 H = some (rv, Hf) → xWq Z H 95 [xA x0, xI x1, xA x2, xA x3, xI x4, xA x5, xA x6, xN] []) : ∀ (n : Nat) (x0 : (Option Nat)) (x1 : Int32) (x2 : (Option Nat)) (x3 : (Option Nat)) (x4 : Int32) (x5 : (Option Nat)) (x6 : (Option Nat)) (x7 : Int32) (H : xH), F_X7_any_L46 N c_X7_any c_X7_one k95 n x0 x1 x2 x3 x4 x5 x6 x7 H = some (rv, Hf) → xWq Z H 46 [xA x0, xI x1, xA x2, xA x3, xI x4, xA x5, xA x6, xI x7] [] := by
  intro n
  induction n with
  | zero => intro _ _ _ _ _ _ _ _ _ h; cases h
  | succ n ih => exact P_X7_any_J46 hZ hb hc_X7_any hc_X7_one ih hk95
noncomputable def F_X7_any_J138 (N : Nat) (c_X7_any : (Option Nat) → Int32 → xH → Option ((Option Nat) × xH)) (c_X7_one : (Option Nat) → Int32 → xH → Option ((Option Nat) × xH)) (k7 : (Option Nat) → Int32 → (Option Nat) → (Option Nat) → Int32 → xH → Option ((Option Nat) × xH)) (x0 : (Option Nat)) (x1 : Int32) (x2 : (Option Nat)) (x4 : Int32) (x7 : (Option Nat)) (H : xH) : Option ((Option Nat) × xH) :=
  k7 x0 x1 x2 x7 (x4 + 1) H
set_option maxRecDepth 20000 in
set_option maxHeartbeats 4000000 in
theorem P_X7_any_J138 {N : Nat} {Z : xZ} {rv : (Option Nat)} {Hf : xH} {δ : Nat} (hZ : Z = xZm cX7_any yX7_any 8 (δ + 1) (some (.object "BettingBook$Claim")) (some (va_rf rv)) Hf) (hb : 4 ≤ δ) {c_X7_any : (Option Nat) → Int32 → xH → Option ((Option Nat) × xH)} (hc_X7_any : ∀ {a0 : (Option Nat)} {a1 : Int32} {H H1 : xH} {r1 : (Option Nat)}, c_X7_any a0 a1 H = some (r1, H1) → xM yX7_any cX7_any 8 (some (.object "BettingBook$Claim")) δ [.inr (.inr a0), .inl a1] H (some (va_rf r1)) H1) {c_X7_one : (Option Nat) → Int32 → xH → Option ((Option Nat) × xH)} (hc_X7_one : ∀ {a0 : (Option Nat)} {a1 : Int32} {H H1 : xH} {r1 : (Option Nat)}, c_X7_one a0 a1 H = some (r1, H1) → xM yX7_one cX7_one 6 (some (.object "BettingBook$Claim")) δ [.inr (.inr a0), .inl a1] H (some (va_rf r1)) H1) {k7 : (Option Nat) → Int32 → (Option Nat) → (Option Nat) → Int32 → xH → Option ((Option Nat) × xH)} (hk7 : ∀ (x0 : (Option Nat)) (x1 : Int32) (x2 : (Option Nat)) (x3 : (Option Nat)) (x4 : Int32) (H : xH), k7 x0 x1 x2 x3 x4 H = some (rv, Hf) → xWq Z H 7 [xA x0, xI x1, xA x2, xA x3, xI x4, xN, xN, xN] []) : ∀ (x0 : (Option Nat)) (x1 : Int32) (x2 : (Option Nat)) (x4 : Int32) (x7 : (Option Nat)) (H : xH), F_X7_any_J138 N c_X7_any c_X7_one k7 x0 x1 x2 x4 x7 H = some (rv, Hf) → xWq Z H 138 [xA x0, xI x1, xA x2, xN, xI x4, xN, xN, xA x7] [] := by
  have hz : Z.1 = (cX7_any, yX7_any, 8) := by rw [hZ]; rfl
  have hδ : Z.2.1 = (δ + 1) := by rw [hZ]; rfl
  intro x0 x1 x2 x4 x7 H h
  unfold F_X7_any_J138 at h
  refine x_aload hz dX7_any_138 rfl ?_
  refine x_astore_n (pl' := [xA x0, xI x1, xA x2, xA x7, xI x4, xN, xN, xA x7]) hz dX7_any_140 (by decide) rfl ?_
  refine x_iinc (w := (x4 + 1)) (pl' := [xA x0, xI x1, xA x2, xA x7, xI (x4 + 1), xN, xN, xA x7]) hz dX7_any_141 rfl rfl (by decide) rfl ?_
  refine x_goto (t := 7) hz dX7_any_144 (by decide) ?_
  exact x_wk (xwk_c (xwk_c (xwk_c (xwk_c (xwk_c (xwk_n (xwk_n (xwk_n xwk_0)))))))) (hk7 x0 x1 x2 x7 (x4 + 1) H h)
noncomputable def F_X7_any_J120 (N : Nat) (c_X7_any : (Option Nat) → Int32 → xH → Option ((Option Nat) × xH)) (c_X7_one : (Option Nat) → Int32 → xH → Option ((Option Nat) × xH)) (k7 : (Option Nat) → Int32 → (Option Nat) → (Option Nat) → Int32 → xH → Option ((Option Nat) × xH)) (x0 : (Option Nat)) (x1 : Int32) (x2 : (Option Nat)) (x3 : (Option Nat)) (x4 : Int32) (s0 : (Option Nat)) (H : xH) : Option ((Option Nat) × xH) :=
  if x3 = none then ((F_X7_any_J138 N c_X7_any c_X7_one k7) x0 x1 s0 x4 s0 H) else ((xpA H x3 1 4 s0).bind fun H2 =>
  (F_X7_any_J138 N c_X7_any c_X7_one k7) x0 x1 x2 x4 s0 H2)
set_option maxRecDepth 20000 in
set_option maxHeartbeats 4000000 in
theorem P_X7_any_J120 {N : Nat} {Z : xZ} {rv : (Option Nat)} {Hf : xH} {δ : Nat} (hZ : Z = xZm cX7_any yX7_any 8 (δ + 1) (some (.object "BettingBook$Claim")) (some (va_rf rv)) Hf) (hb : 4 ≤ δ) {c_X7_any : (Option Nat) → Int32 → xH → Option ((Option Nat) × xH)} (hc_X7_any : ∀ {a0 : (Option Nat)} {a1 : Int32} {H H1 : xH} {r1 : (Option Nat)}, c_X7_any a0 a1 H = some (r1, H1) → xM yX7_any cX7_any 8 (some (.object "BettingBook$Claim")) δ [.inr (.inr a0), .inl a1] H (some (va_rf r1)) H1) {c_X7_one : (Option Nat) → Int32 → xH → Option ((Option Nat) × xH)} (hc_X7_one : ∀ {a0 : (Option Nat)} {a1 : Int32} {H H1 : xH} {r1 : (Option Nat)}, c_X7_one a0 a1 H = some (r1, H1) → xM yX7_one cX7_one 6 (some (.object "BettingBook$Claim")) δ [.inr (.inr a0), .inl a1] H (some (va_rf r1)) H1) {k7 : (Option Nat) → Int32 → (Option Nat) → (Option Nat) → Int32 → xH → Option ((Option Nat) × xH)} (hk7 : ∀ (x0 : (Option Nat)) (x1 : Int32) (x2 : (Option Nat)) (x3 : (Option Nat)) (x4 : Int32) (H : xH), k7 x0 x1 x2 x3 x4 H = some (rv, Hf) → xWq Z H 7 [xA x0, xI x1, xA x2, xA x3, xI x4, xN, xN, xN] []) : ∀ (x0 : (Option Nat)) (x1 : Int32) (x2 : (Option Nat)) (x3 : (Option Nat)) (x4 : Int32) (s0 : (Option Nat)) (H : xH), F_X7_any_J120 N c_X7_any c_X7_one k7 x0 x1 x2 x3 x4 s0 H = some (rv, Hf) → xWq Z H 120 [xA x0, xI x1, xA x2, xA x3, xI x4, xN, xN, xN] [va_rf s0] := by
  have hz : Z.1 = (cX7_any, yX7_any, 8) := by rw [hZ]; rfl
  have hδ : Z.2.1 = (δ + 1) := by rw [hZ]; rfl
  intro x0 x1 x2 x3 x4 s0 H h
  unfold F_X7_any_J120 at h
  refine x_astore (pl' := [xA x0, xI x1, xA x2, xA x3, xI x4, xN, xN, xA s0]) hz dX7_any_120 (by decide) rfl ?_
  refine x_aload_n hz dX7_any_122 rfl ?_
  refine x_ifnonnull (t := 132) hz dX7_any_123 (by decide) (fun c1 => ?_) (fun c1 => ?_)
  · replace h := x_in c1 h
    refine x_aload_n hz dX7_any_132 rfl ?_
    refine x_aload hz dX7_any_133 rfl ?_
    obtain ⟨H2, e_H2, h⟩ := x_bnd h
    refine x_putV (v := va_rf s0) hz dX7_any_135 fs_X7_159 (x_nro _ _) (x_fto _ _) e_H2 ?_
    exact x_wk (xwk_c (xwk_c (xwk_c (xwk_n (xwk_c (xwk_n (xwk_n (xwk_c xwk_0)))))))) ((P_X7_any_J138 hZ hb hc_X7_any hc_X7_one hk7) x0 x1 x2 x4 s0 H2 h)
  · replace h := x_ip c1 h
    refine x_aload hz dX7_any_126 rfl ?_
    refine x_astore_n (pl' := [xA x0, xI x1, xA s0, xA x3, xI x4, xN, xN, xA s0]) hz dX7_any_128 (by decide) rfl ?_
    refine x_goto (t := 138) hz dX7_any_129 (by decide) ?_
    exact x_wk (xwk_c (xwk_c (xwk_c (xwk_n (xwk_c (xwk_n (xwk_n (xwk_c xwk_0)))))))) ((P_X7_any_J138 hZ hb hc_X7_any hc_X7_one hk7) x0 x1 s0 x4 s0 H h)
noncomputable def F_X7_any_J95 (N : Nat) (c_X7_any : (Option Nat) → Int32 → xH → Option ((Option Nat) × xH)) (c_X7_one : (Option Nat) → Int32 → xH → Option ((Option Nat) × xH)) (k7 : (Option Nat) → Int32 → (Option Nat) → (Option Nat) → Int32 → xH → Option ((Option Nat) × xH)) (x0 : (Option Nat)) (x1 : Int32) (x2 : (Option Nat)) (x3 : (Option Nat)) (x4 : Int32) (x5 : (Option Nat)) (x6 : (Option Nat)) (H : xH) : Option ((Option Nat) × xH) :=
  if x6 = none then (some (none, H)) else (if x6 = x5 then ((F_X7_any_J120 N c_X7_any c_X7_one k7) x0 x1 x2 x3 x4 x5 H) else (x_bd2 (F_X1_over N (4 : Int32) x5 H) fun v4 H3 =>
  (F_X7_any_J120 N c_X7_any c_X7_one k7) x0 x1 x2 x3 x4 v4 H3))
set_option maxRecDepth 20000 in
set_option maxHeartbeats 4000000 in
theorem P_X7_any_J95 {N : Nat} {Z : xZ} {rv : (Option Nat)} {Hf : xH} {δ : Nat} (hZ : Z = xZm cX7_any yX7_any 8 (δ + 1) (some (.object "BettingBook$Claim")) (some (va_rf rv)) Hf) (hb : 4 ≤ δ) {c_X7_any : (Option Nat) → Int32 → xH → Option ((Option Nat) × xH)} (hc_X7_any : ∀ {a0 : (Option Nat)} {a1 : Int32} {H H1 : xH} {r1 : (Option Nat)}, c_X7_any a0 a1 H = some (r1, H1) → xM yX7_any cX7_any 8 (some (.object "BettingBook$Claim")) δ [.inr (.inr a0), .inl a1] H (some (va_rf r1)) H1) {c_X7_one : (Option Nat) → Int32 → xH → Option ((Option Nat) × xH)} (hc_X7_one : ∀ {a0 : (Option Nat)} {a1 : Int32} {H H1 : xH} {r1 : (Option Nat)}, c_X7_one a0 a1 H = some (r1, H1) → xM yX7_one cX7_one 6 (some (.object "BettingBook$Claim")) δ [.inr (.inr a0), .inl a1] H (some (va_rf r1)) H1) {k7 : (Option Nat) → Int32 → (Option Nat) → (Option Nat) → Int32 → xH → Option ((Option Nat) × xH)} (hk7 : ∀ (x0 : (Option Nat)) (x1 : Int32) (x2 : (Option Nat)) (x3 : (Option Nat)) (x4 : Int32) (H : xH), k7 x0 x1 x2 x3 x4 H = some (rv, Hf) → xWq Z H 7 [xA x0, xI x1, xA x2, xA x3, xI x4, xN, xN, xN] []) : ∀ (x0 : (Option Nat)) (x1 : Int32) (x2 : (Option Nat)) (x3 : (Option Nat)) (x4 : Int32) (x5 : (Option Nat)) (x6 : (Option Nat)) (H : xH), F_X7_any_J95 N c_X7_any c_X7_one k7 x0 x1 x2 x3 x4 x5 x6 H = some (rv, Hf) → xWq Z H 95 [xA x0, xI x1, xA x2, xA x3, xI x4, xA x5, xA x6, xN] [] := by
  have hz : Z.1 = (cX7_any, yX7_any, 8) := by rw [hZ]; rfl
  have hδ : Z.2.1 = (δ + 1) := by rw [hZ]; rfl
  intro x0 x1 x2 x3 x4 x5 x6 H h
  unfold F_X7_any_J95 at h
  refine x_aload hz dX7_any_95 rfl ?_
  refine x_ifnonnull (t := 102) hz dX7_any_97 (by decide) (fun c1 => ?_) (fun c1 => ?_)
  · replace h := x_in c1 h
    refine x_aload hz dX7_any_102 rfl ?_
    refine x_aload hz dX7_any_104 rfl ?_
    refine x_acmp_ne (t := 114) hz dX7_any_106 (by decide) (fun c2 => ?_) (fun c2 => ?_)
    · replace h := x_in c2 h
      refine x_iconst (v := (4 : Int32)) hz dX7_any_114 (by decide) ?_
      refine x_aload hz dX7_any_115 rfl ?_
      obtain ⟨v4, H3, e_H3, h⟩ := x_b2 h
      refine x_callSa (as := [.inl (4 : Int32), .inr (.inr x5)]) (st := []) cs_X7_165 rfl rfl hz (by omega) (by decide) dX7_any_117 (M_X1_over e_H3) ?_
      exact x_wk (xwk_c (xwk_c (xwk_c (xwk_c (xwk_c (xwk_n (xwk_n (xwk_n xwk_0)))))))) ((P_X7_any_J120 hZ hb hc_X7_any hc_X7_one hk7) x0 x1 x2 x3 x4 v4 H3 h)
    · replace h := x_ip c2 h
      refine x_aload hz dX7_any_109 rfl ?_
      refine x_goto (t := 120) hz dX7_any_111 (by decide) ?_
      exact x_wk (xwk_c (xwk_c (xwk_c (xwk_c (xwk_c (xwk_n (xwk_n (xwk_n xwk_0)))))))) ((P_X7_any_J120 hZ hb hc_X7_any hc_X7_one hk7) x0 x1 x2 x3 x4 x5 H h)
  · replace h := x_ip c1 h
    refine x_null hz dX7_any_100 ?_
    cases h
    exact x_aret hZ dX7_any_101
noncomputable def F_X7_any_J32 (N : Nat) (c_X7_any : (Option Nat) → Int32 → xH → Option ((Option Nat) × xH)) (c_X7_one : (Option Nat) → Int32 → xH → Option ((Option Nat) × xH)) (k7 : (Option Nat) → Int32 → (Option Nat) → (Option Nat) → Int32 → xH → Option ((Option Nat) × xH)) (x0 : (Option Nat)) (x1 : Int32) (x2 : (Option Nat)) (x3 : (Option Nat)) (x4 : Int32) (H : xH) : Option ((Option Nat) × xH) :=
  (xob H x0 7).bind fun b2 =>
  x_bd2 (c_X7_one x0 x1 H) fun v3 H1 =>
  (F_X7_any_L46 N c_X7_any c_X7_one (F_X7_any_J95 N c_X7_any c_X7_one k7) N) x0 x1 x2 x3 x4 v3 v3 (0 : Int32) H1
set_option maxRecDepth 20000 in
set_option maxHeartbeats 4000000 in
theorem P_X7_any_J32 {N : Nat} {Z : xZ} {rv : (Option Nat)} {Hf : xH} {δ : Nat} (hZ : Z = xZm cX7_any yX7_any 8 (δ + 1) (some (.object "BettingBook$Claim")) (some (va_rf rv)) Hf) (hb : 4 ≤ δ) {c_X7_any : (Option Nat) → Int32 → xH → Option ((Option Nat) × xH)} (hc_X7_any : ∀ {a0 : (Option Nat)} {a1 : Int32} {H H1 : xH} {r1 : (Option Nat)}, c_X7_any a0 a1 H = some (r1, H1) → xM yX7_any cX7_any 8 (some (.object "BettingBook$Claim")) δ [.inr (.inr a0), .inl a1] H (some (va_rf r1)) H1) {c_X7_one : (Option Nat) → Int32 → xH → Option ((Option Nat) × xH)} (hc_X7_one : ∀ {a0 : (Option Nat)} {a1 : Int32} {H H1 : xH} {r1 : (Option Nat)}, c_X7_one a0 a1 H = some (r1, H1) → xM yX7_one cX7_one 6 (some (.object "BettingBook$Claim")) δ [.inr (.inr a0), .inl a1] H (some (va_rf r1)) H1) {k7 : (Option Nat) → Int32 → (Option Nat) → (Option Nat) → Int32 → xH → Option ((Option Nat) × xH)} (hk7 : ∀ (x0 : (Option Nat)) (x1 : Int32) (x2 : (Option Nat)) (x3 : (Option Nat)) (x4 : Int32) (H : xH), k7 x0 x1 x2 x3 x4 H = some (rv, Hf) → xWq Z H 7 [xA x0, xI x1, xA x2, xA x3, xI x4, xN, xN, xN] []) : ∀ (x0 : (Option Nat)) (x1 : Int32) (x2 : (Option Nat)) (x3 : (Option Nat)) (x4 : Int32) (H : xH), F_X7_any_J32 N c_X7_any c_X7_one k7 x0 x1 x2 x3 x4 H = some (rv, Hf) → xWq Z H 32 [xA x0, xI x1, xA x2, xA x3, xI x4, xN, xN, xN] [] := by
  have hz : Z.1 = (cX7_any, yX7_any, 8) := by rw [hZ]; rfl
  have hδ : Z.2.1 = (δ + 1) := by rw [hZ]; rfl
  intro x0 x1 x2 x3 x4 H h
  unfold F_X7_any_J32 at h
  refine x_aload_n hz dX7_any_32 rfl ?_
  refine x_iload_n hz dX7_any_33 rfl ?_
  obtain ⟨b2, e_b2, h⟩ := x_bnd h
  obtain ⟨v3, H1, e_H1, h⟩ := x_b2 h
  refine x_callVa (as := [.inl x1]) (st := []) cs_X7_153 (ci := 7) ⟨rfl, rfl⟩ rfl rfl hz (by omega) (by decide) dX7_any_34 e_b2 (hc_X7_one e_H1) ?_
  refine x_astore (pl' := [xA x0, xI x1, xA x2, xA x3, xI x4, xA v3, xN, xN]) hz dX7_any_37 (by decide) rfl ?_
  refine x_aload hz dX7_any_39 rfl ?_
  refine x_astore (pl' := [xA x0, xI x1, xA x2, xA x3, xI x4, xA v3, xA v3, xN]) hz dX7_any_41 (by decide) rfl ?_
  refine x_iconst (v := (0 : Int32)) hz dX7_any_43 (by decide) ?_
  refine x_istore (pl' := [xA x0, xI x1, xA x2, xA x3, xI x4, xA v3, xA v3, xI (0 : Int32)]) hz dX7_any_44 (by decide) rfl ?_
  exact x_wk (xwk_c (xwk_c (xwk_c (xwk_c (xwk_c (xwk_c (xwk_c (xwk_c xwk_0)))))))) ((P_X7_any_L46 hZ hb hc_X7_any hc_X7_one (P_X7_any_J95 hZ hb hc_X7_any hc_X7_one hk7) N) x0 x1 x2 x3 x4 v3 v3 (0 : Int32) H1 h)
noncomputable def F_X7_any_J7 (N : Nat) (c_X7_any : (Option Nat) → Int32 → xH → Option ((Option Nat) × xH)) (c_X7_one : (Option Nat) → Int32 → xH → Option ((Option Nat) × xH)) (k7 : (Option Nat) → Int32 → (Option Nat) → (Option Nat) → Int32 → xH → Option ((Option Nat) × xH)) (k147 : (Option Nat) → (Option Nat) → xH → Option ((Option Nat) × xH)) (x0 : (Option Nat)) (x1 : Int32) (x2 : (Option Nat)) (x3 : (Option Nat)) (x4 : Int32) (H : xH) : Option ((Option Nat) × xH) :=
  if (1200 : Int32) ≤ x4 then (k147 x2 x3 H) else (if x3 = none then ((F_X7_any_J32 N c_X7_any c_X7_one k7) x0 x1 x2 x3 x4 H) else ((xgA H x0 7 0).bind fun v3 =>
  (xob H v3 8).bind fun b5 =>
  x_bd2 (F_X8_take N v3 (some (H.2.2.2 12)) H) fun v6 H4 =>
  if v6 = 0 then (k147 x2 x3 H4) else ((F_X7_any_J32 N c_X7_any c_X7_one k7) x0 x1 x2 x3 x4 H4)))
set_option maxRecDepth 20000 in
set_option maxHeartbeats 4000000 in
theorem P_X7_any_J7 {N : Nat} {Z : xZ} {rv : (Option Nat)} {Hf : xH} {δ : Nat} (hZ : Z = xZm cX7_any yX7_any 8 (δ + 1) (some (.object "BettingBook$Claim")) (some (va_rf rv)) Hf) (hb : 4 ≤ δ) {c_X7_any : (Option Nat) → Int32 → xH → Option ((Option Nat) × xH)} (hc_X7_any : ∀ {a0 : (Option Nat)} {a1 : Int32} {H H1 : xH} {r1 : (Option Nat)}, c_X7_any a0 a1 H = some (r1, H1) → xM yX7_any cX7_any 8 (some (.object "BettingBook$Claim")) δ [.inr (.inr a0), .inl a1] H (some (va_rf r1)) H1) {c_X7_one : (Option Nat) → Int32 → xH → Option ((Option Nat) × xH)} (hc_X7_one : ∀ {a0 : (Option Nat)} {a1 : Int32} {H H1 : xH} {r1 : (Option Nat)}, c_X7_one a0 a1 H = some (r1, H1) → xM yX7_one cX7_one 6 (some (.object "BettingBook$Claim")) δ [.inr (.inr a0), .inl a1] H (some (va_rf r1)) H1) {k7 : (Option Nat) → Int32 → (Option Nat) → (Option Nat) → Int32 → xH → Option ((Option Nat) × xH)} (hk7 : ∀ (x0 : (Option Nat)) (x1 : Int32) (x2 : (Option Nat)) (x3 : (Option Nat)) (x4 : Int32) (H : xH), k7 x0 x1 x2 x3 x4 H = some (rv, Hf) → xWq Z H 7 [xA x0, xI x1, xA x2, xA x3, xI x4, xN, xN, xN] []) {k147 : (Option Nat) → (Option Nat) → xH → Option ((Option Nat) × xH)} (hk147 : ∀ (x2 : (Option Nat)) (x3 : (Option Nat)) (H : xH), k147 x2 x3 H = some (rv, Hf) → xWq Z H 147 [xN, xN, xA x2, xA x3, xN, xN, xN, xN] []) : ∀ (x0 : (Option Nat)) (x1 : Int32) (x2 : (Option Nat)) (x3 : (Option Nat)) (x4 : Int32) (H : xH), F_X7_any_J7 N c_X7_any c_X7_one k7 k147 x0 x1 x2 x3 x4 H = some (rv, Hf) → xWq Z H 7 [xA x0, xI x1, xA x2, xA x3, xI x4, xN, xN, xN] [] := by
  have hz : Z.1 = (cX7_any, yX7_any, 8) := by rw [hZ]; rfl
  have hδ : Z.2.1 = (δ + 1) := by rw [hZ]; rfl
  intro x0 x1 x2 x3 x4 H h
  unfold F_X7_any_J7 at h
  refine x_iload hz dX7_any_7 rfl ?_
  refine x_sipush (v := (1200 : Int32)) hz dX7_any_9 (by decide) ?_
  refine x_icmp_ge (t := 147) hz dX7_any_12 (by decide) (fun c1 => ?_) (fun c1 => ?_)
  · replace h := x_ip c1 h
    exact x_wk (xwk_n (xwk_n (xwk_c (xwk_c (xwk_n (xwk_n (xwk_n (xwk_n xwk_0)))))))) (hk147 x2 x3 H h)
  · replace h := x_in c1 h
    refine x_aload_n hz dX7_any_15 rfl ?_
    refine x_ifnull (t := 32) hz dX7_any_16 (by decide) (fun c2 => ?_) (fun c2 => ?_)
    · replace h := x_ip c2 h
      exact x_wk (xwk_c (xwk_c (xwk_c (xwk_c (xwk_c (xwk_n (xwk_n (xwk_n xwk_0)))))))) ((P_X7_any_J32 hZ hb hc_X7_any hc_X7_one hk7) x0 x1 x2 x3 x4 H h)
    · replace h := x_in c2 h
      refine x_aload_n hz dX7_any_19 rfl ?_
      obtain ⟨v3, e_v3, h⟩ := x_bnd h
      refine x_getA hz dX7_any_20 fs_X7_9 e_v3 ?_
      refine x_gets (i := 12) hz dX7_any_23 (by decide) gw_X7_150 ?_
      obtain ⟨b5, e_b5, h⟩ := x_bnd h
      obtain ⟨v6, H4, e_H4, h⟩ := x_b2 h
      refine x_callVi (as := [.inr (.inr (some (H.2.2.2 12)))]) (st := []) cs_X7_31 (ci := 8) ⟨rfl, rfl⟩ rfl rfl hz (by omega) (by decide) dX7_any_26 e_b5 (M_X8_take e_H4) ?_
      refine x_if_eq (t := 147) hz dX7_any_29 (by decide) (fun c7 => ?_) (fun c7 => ?_)
      · replace h := x_ip c7 h
        exact x_wk (xwk_n (xwk_n (xwk_c (xwk_c (xwk_n (xwk_n (xwk_n (xwk_n xwk_0)))))))) (hk147 x2 x3 H4 h)
      · replace h := x_in c7 h
        exact x_wk (xwk_c (xwk_c (xwk_c (xwk_c (xwk_c (xwk_n (xwk_n (xwk_n xwk_0)))))))) ((P_X7_any_J32 hZ hb hc_X7_any hc_X7_one hk7) x0 x1 x2 x3 x4 H4 h)
noncomputable def F_X7_any_L7 (N : Nat) (c_X7_any : (Option Nat) → Int32 → xH → Option ((Option Nat) × xH)) (c_X7_one : (Option Nat) → Int32 → xH → Option ((Option Nat) × xH)) (k147 : (Option Nat) → (Option Nat) → xH → Option ((Option Nat) × xH)) : Nat → (Option Nat) → Int32 → (Option Nat) → (Option Nat) → Int32 → xH → Option ((Option Nat) × xH)
  | 0 => fun _ _ _ _ _ _ => none
  | n + 1 => F_X7_any_J7 N c_X7_any c_X7_one (F_X7_any_L7 N c_X7_any c_X7_one k147 n) k147
theorem P_X7_any_L7 {N : Nat} {Z : xZ} {rv : (Option Nat)} {Hf : xH} {δ : Nat} (hZ : Z = xZm cX7_any yX7_any 8 (δ + 1) (some (.object "BettingBook$Claim")) (some (va_rf rv)) Hf) (hb : 4 ≤ δ) {c_X7_any : (Option Nat) → Int32 → xH → Option ((Option Nat) × xH)} (hc_X7_any : ∀ {a0 : (Option Nat)} {a1 : Int32} {H H1 : xH} {r1 : (Option Nat)}, c_X7_any a0 a1 H = some (r1, H1) → xM yX7_any cX7_any 8 (some (.object "BettingBook$Claim")) δ [.inr (.inr a0), .inl a1] H (some (va_rf r1)) H1) {c_X7_one : (Option Nat) → Int32 → xH → Option ((Option Nat) × xH)} (hc_X7_one : ∀ {a0 : (Option Nat)} {a1 : Int32} {H H1 : xH} {r1 : (Option Nat)}, c_X7_one a0 a1 H = some (r1, H1) → xM yX7_one cX7_one 6 (some (.object "BettingBook$Claim")) δ [.inr (.inr a0), .inl a1] H (some (va_rf r1)) H1) {k147 : (Option Nat) → (Option Nat) → xH → Option ((Option Nat) × xH)} (hk147 : ∀ (x2 : (Option Nat)) (x3 : (Option Nat)) (H : xH), k147 x2 x3 H = some (rv, Hf) → xWq Z H 147 [xN, xN, xA x2, xA x3, xN, xN, xN, xN] []) : ∀ (n : Nat) (x0 : (Option Nat)) (x1 : Int32) (x2 : (Option Nat)) (x3 : (Option Nat)) (x4 : Int32) (H : xH), F_X7_any_L7 N c_X7_any c_X7_one k147 n x0 x1 x2 x3 x4 H = some (rv, Hf) → xWq Z H 7 [xA x0, xI x1, xA x2, xA x3, xI x4, xN, xN, xN] [] := by
  intro n
  induction n with
  | zero => intro _ _ _ _ _ _ h; cases h
  | succ n ih => exact P_X7_any_J7 hZ hb hc_X7_any hc_X7_one ih hk147
noncomputable def F_X7_any_J147 (N : Nat) (c_X7_any : (Option Nat) → Int32 → xH → Option ((Option Nat) × xH)) (c_X7_one : (Option Nat) → Int32 → xH → Option ((Option Nat) × xH)) (x2 : (Option Nat)) (x3 : (Option Nat)) (H : xH) : Option ((Option Nat) × xH) :=
  if x3 = x2 then (some (x2, H)) else (x_bd2 (F_X1_over N (5 : Int32) x2 H) fun v3 H2 =>
  some (v3, H2))
set_option maxRecDepth 20000 in
set_option maxHeartbeats 4000000 in
theorem P_X7_any_J147 {N : Nat} {Z : xZ} {rv : (Option Nat)} {Hf : xH} {δ : Nat} (hZ : Z = xZm cX7_any yX7_any 8 (δ + 1) (some (.object "BettingBook$Claim")) (some (va_rf rv)) Hf) (hb : 4 ≤ δ) {c_X7_any : (Option Nat) → Int32 → xH → Option ((Option Nat) × xH)} (hc_X7_any : ∀ {a0 : (Option Nat)} {a1 : Int32} {H H1 : xH} {r1 : (Option Nat)}, c_X7_any a0 a1 H = some (r1, H1) → xM yX7_any cX7_any 8 (some (.object "BettingBook$Claim")) δ [.inr (.inr a0), .inl a1] H (some (va_rf r1)) H1) {c_X7_one : (Option Nat) → Int32 → xH → Option ((Option Nat) × xH)} (hc_X7_one : ∀ {a0 : (Option Nat)} {a1 : Int32} {H H1 : xH} {r1 : (Option Nat)}, c_X7_one a0 a1 H = some (r1, H1) → xM yX7_one cX7_one 6 (some (.object "BettingBook$Claim")) δ [.inr (.inr a0), .inl a1] H (some (va_rf r1)) H1) : ∀ (x2 : (Option Nat)) (x3 : (Option Nat)) (H : xH), F_X7_any_J147 N c_X7_any c_X7_one x2 x3 H = some (rv, Hf) → xWq Z H 147 [xN, xN, xA x2, xA x3, xN, xN, xN, xN] [] := by
  have hz : Z.1 = (cX7_any, yX7_any, 8) := by rw [hZ]; rfl
  have hδ : Z.2.1 = (δ + 1) := by rw [hZ]; rfl
  intro x2 x3 H h
  unfold F_X7_any_J147 at h
  refine x_aload_n hz dX7_any_147 rfl ?_
  refine x_aload_n hz dX7_any_148 rfl ?_
  refine x_acmp_ne (t := 156) hz dX7_any_149 (by decide) (fun c1 => ?_) (fun c1 => ?_)
  · replace h := x_in c1 h
    refine x_iconst (v := (5 : Int32)) hz dX7_any_156 (by decide) ?_
    refine x_aload_n hz dX7_any_157 rfl ?_
    obtain ⟨v3, H2, e_H2, h⟩ := x_b2 h
    refine x_callSa (as := [.inl (5 : Int32), .inr (.inr x2)]) (st := []) cs_X7_165 rfl rfl hz (by omega) (by decide) dX7_any_158 (M_X1_over e_H2) ?_
    cases h
    exact x_aret hZ dX7_any_161
  · replace h := x_ip c1 h
    refine x_aload_n hz dX7_any_152 rfl ?_
    refine x_goto (t := 161) hz dX7_any_153 (by decide) ?_
    cases h
    exact x_aret hZ dX7_any_161
noncomputable def B_X7_any (N : Nat) (c_X7_any : (Option Nat) → Int32 → xH → Option ((Option Nat) × xH)) (c_X7_one : (Option Nat) → Int32 → xH → Option ((Option Nat) × xH)) (a0 : (Option Nat)) (a1 : Int32) (H : xH) : Option ((Option Nat) × xH) :=
  (F_X7_any_L7 N c_X7_any c_X7_one (F_X7_any_J147 N c_X7_any c_X7_one) N) a0 a1 none none (0 : Int32) H
set_option maxRecDepth 20000 in
set_option maxHeartbeats 4000000 in
theorem P_X7_any {N : Nat} {Z : xZ} {rv : (Option Nat)} {Hf : xH} {δ : Nat} (hZ : Z = xZm cX7_any yX7_any 8 (δ + 1) (some (.object "BettingBook$Claim")) (some (va_rf rv)) Hf) (hb : 4 ≤ δ) {c_X7_any : (Option Nat) → Int32 → xH → Option ((Option Nat) × xH)} (hc_X7_any : ∀ {a0 : (Option Nat)} {a1 : Int32} {H H1 : xH} {r1 : (Option Nat)}, c_X7_any a0 a1 H = some (r1, H1) → xM yX7_any cX7_any 8 (some (.object "BettingBook$Claim")) δ [.inr (.inr a0), .inl a1] H (some (va_rf r1)) H1) {c_X7_one : (Option Nat) → Int32 → xH → Option ((Option Nat) × xH)} (hc_X7_one : ∀ {a0 : (Option Nat)} {a1 : Int32} {H H1 : xH} {r1 : (Option Nat)}, c_X7_one a0 a1 H = some (r1, H1) → xM yX7_one cX7_one 6 (some (.object "BettingBook$Claim")) δ [.inr (.inr a0), .inl a1] H (some (va_rf r1)) H1) : ∀ (a0 : (Option Nat)) (a1 : Int32) (H : xH), B_X7_any N c_X7_any c_X7_one a0 a1 H = some (rv, Hf) → xWq Z H 0 [xA a0, xI a1, xN, xN, xN, xN, xN, xN] [] := by
  have hz : Z.1 = (cX7_any, yX7_any, 8) := by rw [hZ]; rfl
  have hδ : Z.2.1 = (δ + 1) := by rw [hZ]; rfl
  intro a0 a1 H h
  unfold B_X7_any at h
  refine x_null hz dX7_any_0 ?_
  refine x_astore_n (pl' := [xA a0, xI a1, xA none, xN, xN, xN, xN, xN]) hz dX7_any_1 (by decide) rfl ?_
  refine x_null hz dX7_any_2 ?_
  refine x_astore_n (pl' := [xA a0, xI a1, xA none, xA none, xN, xN, xN, xN]) hz dX7_any_3 (by decide) rfl ?_
  refine x_iconst (v := (0 : Int32)) hz dX7_any_4 (by decide) ?_
  refine x_istore (pl' := [xA a0, xI a1, xA none, xA none, xI (0 : Int32), xN, xN, xN]) hz dX7_any_5 (by decide) rfl ?_
  exact x_wk (xwk_c (xwk_c (xwk_c (xwk_c (xwk_c (xwk_n (xwk_n (xwk_n xwk_0)))))))) ((P_X7_any_L7 hZ hb hc_X7_any hc_X7_one (P_X7_any_J147 hZ hb hc_X7_any hc_X7_one) N) a0 a1 none none (0 : Int32) H h)
theorem MB_X7_any {N : Nat} {δ : Nat} (hb : 4 ≤ δ) {c_X7_any : (Option Nat) → Int32 → xH → Option ((Option Nat) × xH)} (hc_X7_any : ∀ {a0 : (Option Nat)} {a1 : Int32} {H H1 : xH} {r1 : (Option Nat)}, c_X7_any a0 a1 H = some (r1, H1) → xM yX7_any cX7_any 8 (some (.object "BettingBook$Claim")) δ [.inr (.inr a0), .inl a1] H (some (va_rf r1)) H1) {c_X7_one : (Option Nat) → Int32 → xH → Option ((Option Nat) × xH)} (hc_X7_one : ∀ {a0 : (Option Nat)} {a1 : Int32} {H H1 : xH} {r1 : (Option Nat)}, c_X7_one a0 a1 H = some (r1, H1) → xM yX7_one cX7_one 6 (some (.object "BettingBook$Claim")) δ [.inr (.inr a0), .inl a1] H (some (va_rf r1)) H1) {a0 : (Option Nat)} {a1 : Int32} {H H1 : xH} {r1 : (Option Nat)} (h : B_X7_any N c_X7_any c_X7_one a0 a1 H = some (r1, H1)) : xM yX7_any cX7_any 8 (some (.object "BettingBook$Claim")) (δ + 1) [.inr (.inr a0), .inl a1] H (some (va_rf r1)) H1 :=
  xM_of (by decide +kernel) (xT_tb 497 (by decide +kernel) (by decide +kernel)) (by simp [xargs, x2]) rfl (P_X7_any rfl hb hc_X7_any hc_X7_one a0 a1 H h)
/-! BettingBook$Teller.one(I)LBettingBook$Claim; -/
noncomputable def F_X7_one_J2 (N : Nat) (c_X7_any : (Option Nat) → Int32 → xH → Option ((Option Nat) × xH)) (c_X7_one : (Option Nat) → Int32 → xH → Option ((Option Nat) × xH)) (k2 : (Option Nat) → Int32 → Int32 → xH → Option ((Option Nat) × xH)) (k29 : (Option Nat) → Int32 → Int32 → xH → Option ((Option Nat) × xH)) (x0 : (Option Nat)) (x1 : Int32) (x2 : Int32) (H : xH) : Option ((Option Nat) × xH) :=
  if (9 : Int32) ≤ (x1 + x2) then (k29 x0 x1 x2 H) else ((xgA H x0 7 0).bind fun v2 =>
  (xob H v2 8).bind fun b4 =>
  x_bd2 (F_X8_take N v2 (some (H.2.2.2 14)) H) fun v5 H3 =>
  if v5 = 0 then (k29 x0 x1 x2 H3) else (k2 x0 x1 (x2 + 1) H3))
set_option maxRecDepth 20000 in
set_option maxHeartbeats 4000000 in
theorem P_X7_one_J2 {N : Nat} {Z : xZ} {rv : (Option Nat)} {Hf : xH} {δ : Nat} (hZ : Z = xZm cX7_one yX7_one 6 (δ + 1) (some (.object "BettingBook$Claim")) (some (va_rf rv)) Hf) (hb : 4 ≤ δ) {c_X7_any : (Option Nat) → Int32 → xH → Option ((Option Nat) × xH)} (hc_X7_any : ∀ {a0 : (Option Nat)} {a1 : Int32} {H H1 : xH} {r1 : (Option Nat)}, c_X7_any a0 a1 H = some (r1, H1) → xM yX7_any cX7_any 8 (some (.object "BettingBook$Claim")) δ [.inr (.inr a0), .inl a1] H (some (va_rf r1)) H1) {c_X7_one : (Option Nat) → Int32 → xH → Option ((Option Nat) × xH)} (hc_X7_one : ∀ {a0 : (Option Nat)} {a1 : Int32} {H H1 : xH} {r1 : (Option Nat)}, c_X7_one a0 a1 H = some (r1, H1) → xM yX7_one cX7_one 6 (some (.object "BettingBook$Claim")) δ [.inr (.inr a0), .inl a1] H (some (va_rf r1)) H1) {k2 : (Option Nat) → Int32 → Int32 → xH → Option ((Option Nat) × xH)} (hk2 : ∀ (x0 : (Option Nat)) (x1 : Int32) (x2 : Int32) (H : xH), k2 x0 x1 x2 H = some (rv, Hf) → xWq Z H 2 [xA x0, xI x1, xI x2, xN, xN, xN] []) {k29 : (Option Nat) → Int32 → Int32 → xH → Option ((Option Nat) × xH)} (hk29 : ∀ (x0 : (Option Nat)) (x1 : Int32) (x2 : Int32) (H : xH), k29 x0 x1 x2 H = some (rv, Hf) → xWq Z H 29 [xA x0, xI x1, xI x2, xN, xN, xN] []) : ∀ (x0 : (Option Nat)) (x1 : Int32) (x2 : Int32) (H : xH), F_X7_one_J2 N c_X7_any c_X7_one k2 k29 x0 x1 x2 H = some (rv, Hf) → xWq Z H 2 [xA x0, xI x1, xI x2, xN, xN, xN] [] := by
  have hz : Z.1 = (cX7_one, yX7_one, 6) := by rw [hZ]; rfl
  have hδ : Z.2.1 = (δ + 1) := by rw [hZ]; rfl
  intro x0 x1 x2 H h
  unfold F_X7_one_J2 at h
  refine x_iload_n hz dX7_one_2 rfl ?_
  refine x_iload_n hz dX7_one_3 rfl ?_
  refine x_iadd hz dX7_one_4 ?_
  refine x_bipush (v := (9 : Int32)) hz dX7_one_5 (by decide) ?_
  refine x_icmp_ge (t := 29) hz dX7_one_7 (by decide) (fun c1 => ?_) (fun c1 => ?_)
  · replace h := x_ip c1 h
    exact x_wk (xwk_c (xwk_c (xwk_c (xwk_n (xwk_n (xwk_n xwk_0)))))) (hk29 x0 x1 x2 H h)
  · replace h := x_in c1 h
    refine x_aload_n hz dX7_one_10 rfl ?_
    obtain ⟨v2, e_v2, h⟩ := x_bnd h
    refine x_getA hz dX7_one_11 fs_X7_9 e_v2 ?_
    refine x_gets (i := 14) hz dX7_one_14 (by decide) gw_X7_169 ?_
    obtain ⟨b4, e_b4, h⟩ := x_bnd h
    obtain ⟨v5, H3, e_H3, h⟩ := x_b2 h
    refine x_callVi (as := [.inr (.inr (some (H.2.2.2 14)))]) (st := []) cs_X7_31 (ci := 8) ⟨rfl, rfl⟩ rfl rfl hz (by omega) (by decide) dX7_one_17 e_b4 (M_X8_take e_H3) ?_
    refine x_if_eq (t := 29) hz dX7_one_20 (by decide) (fun c6 => ?_) (fun c6 => ?_)
    · replace h := x_ip c6 h
      exact x_wk (xwk_c (xwk_c (xwk_c (xwk_n (xwk_n (xwk_n xwk_0)))))) (hk29 x0 x1 x2 H3 h)
    · replace h := x_in c6 h
      refine x_iinc (w := (x2 + 1)) (pl' := [xA x0, xI x1, xI (x2 + 1), xN, xN, xN]) hz dX7_one_23 rfl rfl (by decide) rfl ?_
      refine x_goto (t := 2) hz dX7_one_26 (by decide) ?_
      exact x_wk (xwk_c (xwk_c (xwk_c (xwk_n (xwk_n (xwk_n xwk_0)))))) (hk2 x0 x1 (x2 + 1) H3 h)
noncomputable def F_X7_one_L2 (N : Nat) (c_X7_any : (Option Nat) → Int32 → xH → Option ((Option Nat) × xH)) (c_X7_one : (Option Nat) → Int32 → xH → Option ((Option Nat) × xH)) (k29 : (Option Nat) → Int32 → Int32 → xH → Option ((Option Nat) × xH)) : Nat → (Option Nat) → Int32 → Int32 → xH → Option ((Option Nat) × xH)
  | 0 => fun _ _ _ _ => none
  | n + 1 => F_X7_one_J2 N c_X7_any c_X7_one (F_X7_one_L2 N c_X7_any c_X7_one k29 n) k29
theorem P_X7_one_L2 {N : Nat} {Z : xZ} {rv : (Option Nat)} {Hf : xH} {δ : Nat} (hZ : Z = xZm cX7_one yX7_one 6 (δ + 1) (some (.object "BettingBook$Claim")) (some (va_rf rv)) Hf) (hb : 4 ≤ δ) {c_X7_any : (Option Nat) → Int32 → xH → Option ((Option Nat) × xH)} (hc_X7_any : ∀ {a0 : (Option Nat)} {a1 : Int32} {H H1 : xH} {r1 : (Option Nat)}, c_X7_any a0 a1 H = some (r1, H1) → xM yX7_any cX7_any 8 (some (.object "BettingBook$Claim")) δ [.inr (.inr a0), .inl a1] H (some (va_rf r1)) H1) {c_X7_one : (Option Nat) → Int32 → xH → Option ((Option Nat) × xH)} (hc_X7_one : ∀ {a0 : (Option Nat)} {a1 : Int32} {H H1 : xH} {r1 : (Option Nat)}, c_X7_one a0 a1 H = some (r1, H1) → xM yX7_one cX7_one 6 (some (.object "BettingBook$Claim")) δ [.inr (.inr a0), .inl a1] H (some (va_rf r1)) H1) {k29 : (Option Nat) → Int32 → Int32 → xH → Option ((Option Nat) × xH)} (hk29 : ∀ (x0 : (Option Nat)) (x1 : Int32) (x2 : Int32) (H : xH), k29 x0 x1 x2 H = some (rv, Hf) → xWq Z H 29 [xA x0, xI x1, xI x2, xN, xN, xN] []) : ∀ (n : Nat) (x0 : (Option Nat)) (x1 : Int32) (x2 : Int32) (H : xH), F_X7_one_L2 N c_X7_any c_X7_one k29 n x0 x1 x2 H = some (rv, Hf) → xWq Z H 2 [xA x0, xI x1, xI x2, xN, xN, xN] [] := by
  intro n
  induction n with
  | zero => intro _ _ _ _ h; cases h
  | succ n ih => exact P_X7_one_J2 hZ hb hc_X7_any hc_X7_one ih hk29
noncomputable def F_X7_one_J144 (N : Nat) (c_X7_any : (Option Nat) → Int32 → xH → Option ((Option Nat) × xH)) (c_X7_one : (Option Nat) → Int32 → xH → Option ((Option Nat) × xH)) (x2 : Int32) (x4 : (Option Nat)) (H : xH) : Option ((Option Nat) × xH) :=
  if x4 = none then (some (x4, H)) else (if (x2 - x2 / (2 : Int32) * (2 : Int32)) = 0 then (some (x4, H)) else (x_bd2 (F_X1_over N (3 : Int32) x4 H) fun v4 H3 =>
  some (v4, H3)))
set_option maxRecDepth 20000 in
set_option maxHeartbeats 4000000 in
theorem P_X7_one_J144 {N : Nat} {Z : xZ} {rv : (Option Nat)} {Hf : xH} {δ : Nat} (hZ : Z = xZm cX7_one yX7_one 6 (δ + 1) (some (.object "BettingBook$Claim")) (some (va_rf rv)) Hf) (hb : 4 ≤ δ) {c_X7_any : (Option Nat) → Int32 → xH → Option ((Option Nat) × xH)} (hc_X7_any : ∀ {a0 : (Option Nat)} {a1 : Int32} {H H1 : xH} {r1 : (Option Nat)}, c_X7_any a0 a1 H = some (r1, H1) → xM yX7_any cX7_any 8 (some (.object "BettingBook$Claim")) δ [.inr (.inr a0), .inl a1] H (some (va_rf r1)) H1) {c_X7_one : (Option Nat) → Int32 → xH → Option ((Option Nat) × xH)} (hc_X7_one : ∀ {a0 : (Option Nat)} {a1 : Int32} {H H1 : xH} {r1 : (Option Nat)}, c_X7_one a0 a1 H = some (r1, H1) → xM yX7_one cX7_one 6 (some (.object "BettingBook$Claim")) δ [.inr (.inr a0), .inl a1] H (some (va_rf r1)) H1) : ∀ (x2 : Int32) (x4 : (Option Nat)) (H : xH), F_X7_one_J144 N c_X7_any c_X7_one x2 x4 H = some (rv, Hf) → xWq Z H 144 [xN, xN, xI x2, xN, xA x4, xN] [] := by
  have hz : Z.1 = (cX7_one, yX7_one, 6) := by rw [hZ]; rfl
  have hδ : Z.2.1 = (δ + 1) := by rw [hZ]; rfl
  intro x2 x4 H h
  unfold F_X7_one_J144 at h
  refine x_aload hz dX7_one_144 rfl ?_
  refine x_ifnull (t := 164) hz dX7_one_146 (by decide) (fun c1 => ?_) (fun c1 => ?_)
  · replace h := x_ip c1 h
    refine x_aload hz dX7_one_164 rfl ?_
    cases h
    exact x_aret hZ dX7_one_166
  · replace h := x_in c1 h
    refine x_iload_n hz dX7_one_149 rfl ?_
    refine x_iconst (v := (2 : Int32)) hz dX7_one_150 (by decide) ?_
    refine x_irem hz dX7_one_151 (by decide) ?_
    refine x_if_eq (t := 164) hz dX7_one_152 (by decide) (fun c2 => ?_) (fun c2 => ?_)
    · replace h := x_ip c2 h
      refine x_aload hz dX7_one_164 rfl ?_
      cases h
      exact x_aret hZ dX7_one_166
    · replace h := x_in c2 h
      refine x_iconst (v := (3 : Int32)) hz dX7_one_155 (by decide) ?_
      refine x_aload hz dX7_one_156 rfl ?_
      obtain ⟨v4, H3, e_H3, h⟩ := x_b2 h
      refine x_callSa (as := [.inl (3 : Int32), .inr (.inr x4)]) (st := []) cs_X7_165 rfl rfl hz (by omega) (by decide) dX7_one_158 (M_X1_over e_H3) ?_
      refine x_goto (t := 166) hz dX7_one_161 (by decide) ?_
      cases h
      exact x_aret hZ dX7_one_166
noncomputable def F_X7_one_J105 (N : Nat) (c_X7_any : (Option Nat) → Int32 → xH → Option ((Option Nat) × xH)) (c_X7_one : (Option Nat) → Int32 → xH → Option ((Option Nat) × xH)) (x2 : Int32) (s0 : (Option Nat)) (H : xH) : Option ((Option Nat) × xH) :=
  (F_X7_one_J144 N c_X7_any c_X7_one) x2 s0 H
set_option maxRecDepth 20000 in
set_option maxHeartbeats 4000000 in
theorem P_X7_one_J105 {N : Nat} {Z : xZ} {rv : (Option Nat)} {Hf : xH} {δ : Nat} (hZ : Z = xZm cX7_one yX7_one 6 (δ + 1) (some (.object "BettingBook$Claim")) (some (va_rf rv)) Hf) (hb : 4 ≤ δ) {c_X7_any : (Option Nat) → Int32 → xH → Option ((Option Nat) × xH)} (hc_X7_any : ∀ {a0 : (Option Nat)} {a1 : Int32} {H H1 : xH} {r1 : (Option Nat)}, c_X7_any a0 a1 H = some (r1, H1) → xM yX7_any cX7_any 8 (some (.object "BettingBook$Claim")) δ [.inr (.inr a0), .inl a1] H (some (va_rf r1)) H1) {c_X7_one : (Option Nat) → Int32 → xH → Option ((Option Nat) × xH)} (hc_X7_one : ∀ {a0 : (Option Nat)} {a1 : Int32} {H H1 : xH} {r1 : (Option Nat)}, c_X7_one a0 a1 H = some (r1, H1) → xM yX7_one cX7_one 6 (some (.object "BettingBook$Claim")) δ [.inr (.inr a0), .inl a1] H (some (va_rf r1)) H1) : ∀ (x2 : Int32) (s0 : (Option Nat)) (H : xH), F_X7_one_J105 N c_X7_any c_X7_one x2 s0 H = some (rv, Hf) → xWq Z H 105 [xN, xN, xI x2, xN, xN, xN] [va_rf s0] := by
  have hz : Z.1 = (cX7_one, yX7_one, 6) := by rw [hZ]; rfl
  have hδ : Z.2.1 = (δ + 1) := by rw [hZ]; rfl
  intro x2 s0 H h
  unfold F_X7_one_J105 at h
  refine x_astore (pl' := [xN, xN, xI x2, xN, xA s0, xN]) hz dX7_one_105 (by decide) rfl ?_
  refine x_goto (t := 144) hz dX7_one_107 (by decide) ?_
  exact x_wk (xwk_n (xwk_n (xwk_c (xwk_n (xwk_c (xwk_n xwk_0)))))) ((P_X7_one_J144 hZ hb hc_X7_any hc_X7_one) x2 s0 H h)
noncomputable def F_X7_one_J142 (N : Nat) (c_X7_any : (Option Nat) → Int32 → xH → Option ((Option Nat) × xH)) (c_X7_one : (Option Nat) → Int32 → xH → Option ((Option Nat) × xH)) (x2 : Int32) (s0 : (Option Nat)) (H : xH) : Option ((Option Nat) × xH) :=
  (F_X7_one_J144 N c_X7_any c_X7_one) x2 s0 H
set_option maxRecDepth 20000 in
set_option maxHeartbeats 4000000 in
theorem P_X7_one_J142 {N : Nat} {Z : xZ} {rv : (Option Nat)} {Hf : xH} {δ : Nat} (hZ : Z = xZm cX7_one yX7_one 6 (δ + 1) (some (.object "BettingBook$Claim")) (some (va_rf rv)) Hf) (hb : 4 ≤ δ) {c_X7_any : (Option Nat) → Int32 → xH → Option ((Option Nat) × xH)} (hc_X7_any : ∀ {a0 : (Option Nat)} {a1 : Int32} {H H1 : xH} {r1 : (Option Nat)}, c_X7_any a0 a1 H = some (r1, H1) → xM yX7_any cX7_any 8 (some (.object "BettingBook$Claim")) δ [.inr (.inr a0), .inl a1] H (some (va_rf r1)) H1) {c_X7_one : (Option Nat) → Int32 → xH → Option ((Option Nat) × xH)} (hc_X7_one : ∀ {a0 : (Option Nat)} {a1 : Int32} {H H1 : xH} {r1 : (Option Nat)}, c_X7_one a0 a1 H = some (r1, H1) → xM yX7_one cX7_one 6 (some (.object "BettingBook$Claim")) δ [.inr (.inr a0), .inl a1] H (some (va_rf r1)) H1) : ∀ (x2 : Int32) (s0 : (Option Nat)) (H : xH), F_X7_one_J142 N c_X7_any c_X7_one x2 s0 H = some (rv, Hf) → xWq Z H 142 [xN, xN, xI x2, xN, xN, xN] [va_rf s0] := by
  have hz : Z.1 = (cX7_one, yX7_one, 6) := by rw [hZ]; rfl
  have hδ : Z.2.1 = (δ + 1) := by rw [hZ]; rfl
  intro x2 s0 H h
  unfold F_X7_one_J142 at h
  refine x_astore (pl' := [xN, xN, xI x2, xN, xA s0, xN]) hz dX7_one_142 (by decide) rfl ?_
  exact x_wk (xwk_n (xwk_n (xwk_c (xwk_n (xwk_c (xwk_n xwk_0)))))) ((P_X7_one_J144 hZ hb hc_X7_any hc_X7_one) x2 s0 H h)
noncomputable def F_X7_one_J141 (N : Nat) (c_X7_any : (Option Nat) → Int32 → xH → Option ((Option Nat) × xH)) (c_X7_one : (Option Nat) → Int32 → xH → Option ((Option Nat) × xH)) (x2 : Int32) (H : xH) : Option ((Option Nat) × xH) :=
  (F_X7_one_J142 N c_X7_any c_X7_one) x2 none H
set_option maxRecDepth 20000 in
set_option maxHeartbeats 4000000 in
theorem P_X7_one_J141 {N : Nat} {Z : xZ} {rv : (Option Nat)} {Hf : xH} {δ : Nat} (hZ : Z = xZm cX7_one yX7_one 6 (δ + 1) (some (.object "BettingBook$Claim")) (some (va_rf rv)) Hf) (hb : 4 ≤ δ) {c_X7_any : (Option Nat) → Int32 → xH → Option ((Option Nat) × xH)} (hc_X7_any : ∀ {a0 : (Option Nat)} {a1 : Int32} {H H1 : xH} {r1 : (Option Nat)}, c_X7_any a0 a1 H = some (r1, H1) → xM yX7_any cX7_any 8 (some (.object "BettingBook$Claim")) δ [.inr (.inr a0), .inl a1] H (some (va_rf r1)) H1) {c_X7_one : (Option Nat) → Int32 → xH → Option ((Option Nat) × xH)} (hc_X7_one : ∀ {a0 : (Option Nat)} {a1 : Int32} {H H1 : xH} {r1 : (Option Nat)}, c_X7_one a0 a1 H = some (r1, H1) → xM yX7_one cX7_one 6 (some (.object "BettingBook$Claim")) δ [.inr (.inr a0), .inl a1] H (some (va_rf r1)) H1) : ∀ (x2 : Int32) (H : xH), F_X7_one_J141 N c_X7_any c_X7_one x2 H = some (rv, Hf) → xWq Z H 141 [xN, xN, xI x2, xN, xN, xN] [] := by
  have hz : Z.1 = (cX7_one, yX7_one, 6) := by rw [hZ]; rfl
  have hδ : Z.2.1 = (δ + 1) := by rw [hZ]; rfl
  intro x2 H h
  unfold F_X7_one_J141 at h
  refine x_null hz dX7_one_141 ?_
  exact x_wk (xwk_n (xwk_n (xwk_c (xwk_n (xwk_n (xwk_n xwk_0)))))) ((P_X7_one_J142 hZ hb hc_X7_any hc_X7_one) x2 none H h)
noncomputable def F_X7_one_J66 (N : Nat) (c_X7_any : (Option Nat) → Int32 → xH → Option ((Option Nat) × xH)) (c_X7_one : (Option Nat) → Int32 → xH → Option ((Option Nat) × xH)) (x0 : (Option Nat)) (x2 : Int32) (x3 : Int32) (H : xH) : Option ((Option Nat) × xH) :=
  (xgA H x0 7 0).bind fun v1 =>
  (xob H v1 8).bind fun b3 =>
  x_bd2 (F_X8_take_ N v1 (40 : Int32) H) fun v4 H2 =>
  if v4 = 0 then ((xgA H2 x0 7 0).bind fun v15 =>
  (xob H2 v15 8).bind fun b17 =>
  x_bd2 (F_X8_take N v15 (some (H2.2.2.2 18)) H2) fun v18 H16 =>
  if v18 = 0 then ((xob H16 x0 7).bind fun b21 =>
  x_bd2 (F_X7_ofThing N x0 H16) fun v22 H20 =>
  (F_X7_one_J105 N c_X7_any c_X7_one) x2 v22 H20) else ((xob H16 x0 7).bind fun b24 =>
  x_bd2 (F_X7_least N x0 H16) fun v25 H23 =>
  (F_X7_one_J105 N c_X7_any c_X7_one) x2 v25 H23)) else ((xob H2 x0 7).bind fun b7 =>
  x_bd2 (c_X7_any x0 (x3 + (1 : Int32)) H2) fun v8 H6 =>
  if v8 = none then ((F_X7_one_J141 N c_X7_any c_X7_one) x2 H6) else ((xgA H6 x0 7 0).bind fun v10 =>
  (xob H6 v10 8).bind fun b12 =>
  x_bd2 (F_X8_take_ N v10 (41 : Int32) H6) fun v13 H11 =>
  if v13 = 0 then ((F_X7_one_J141 N c_X7_any c_X7_one) x2 H11) else ((F_X7_one_J142 N c_X7_any c_X7_one) x2 v8 H11)))
set_option maxRecDepth 20000 in
set_option maxHeartbeats 4000000 in
theorem P_X7_one_J66 {N : Nat} {Z : xZ} {rv : (Option Nat)} {Hf : xH} {δ : Nat} (hZ : Z = xZm cX7_one yX7_one 6 (δ + 1) (some (.object "BettingBook$Claim")) (some (va_rf rv)) Hf) (hb : 4 ≤ δ) {c_X7_any : (Option Nat) → Int32 → xH → Option ((Option Nat) × xH)} (hc_X7_any : ∀ {a0 : (Option Nat)} {a1 : Int32} {H H1 : xH} {r1 : (Option Nat)}, c_X7_any a0 a1 H = some (r1, H1) → xM yX7_any cX7_any 8 (some (.object "BettingBook$Claim")) δ [.inr (.inr a0), .inl a1] H (some (va_rf r1)) H1) {c_X7_one : (Option Nat) → Int32 → xH → Option ((Option Nat) × xH)} (hc_X7_one : ∀ {a0 : (Option Nat)} {a1 : Int32} {H H1 : xH} {r1 : (Option Nat)}, c_X7_one a0 a1 H = some (r1, H1) → xM yX7_one cX7_one 6 (some (.object "BettingBook$Claim")) δ [.inr (.inr a0), .inl a1] H (some (va_rf r1)) H1) : ∀ (x0 : (Option Nat)) (x2 : Int32) (x3 : Int32) (H : xH), F_X7_one_J66 N c_X7_any c_X7_one x0 x2 x3 H = some (rv, Hf) → xWq Z H 66 [xA x0, xN, xI x2, xI x3, xN, xN] [] := by
  have hz : Z.1 = (cX7_one, yX7_one, 6) := by rw [hZ]; rfl
  have hδ : Z.2.1 = (δ + 1) := by rw [hZ]; rfl
  intro x0 x2 x3 H h
  unfold F_X7_one_J66 at h
  refine x_null hz dX7_one_66 ?_
  refine x_astore (pl' := [xA x0, xN, xI x2, xI x3, xA none, xN]) hz dX7_one_67 (by decide) rfl ?_
  refine x_aload_n hz dX7_one_69 rfl ?_
  obtain ⟨v1, e_v1, h⟩ := x_bnd h
  refine x_getA hz dX7_one_70 fs_X7_9 e_v1 ?_
  refine x_bipush (v := (40 : Int32)) hz dX7_one_73 (by decide) ?_
  obtain ⟨b3, e_b3, h⟩ := x_bnd h
  obtain ⟨v4, H2, e_H2, h⟩ := x_b2 h
  refine x_callVi (as := [.inl (40 : Int32)]) (st := []) cs_X7_66 (ci := 8) ⟨rfl, rfl⟩ rfl rfl hz (by omega) (by decide) dX7_one_75 e_b3 (M_X8_take_ e_H2) ?_
  refine x_if_ne (t := 110) hz dX7_one_78 (by decide) (fun c5 => ?_) (fun c5 => ?_)
  · replace h := x_in c5 h
    refine x_aload_n hz dX7_one_110 rfl ?_
    refine x_iload_n hz dX7_one_111 rfl ?_
    refine x_iconst (v := (1 : Int32)) hz dX7_one_112 (by decide) ?_
    refine x_iadd hz dX7_one_113 ?_
    obtain ⟨b7, e_b7, h⟩ := x_bnd h
    obtain ⟨v8, H6, e_H6, h⟩ := x_b2 h
    refine x_callVa (as := [.inl (x3 + (1 : Int32))]) (st := []) cs_X7_131 (ci := 7) ⟨rfl, rfl⟩ rfl rfl hz (by omega) (by decide) dX7_one_114 e_b7 (hc_X7_any e_H6) ?_
    refine x_astore (pl' := [xA x0, xN, xI x2, xI x3, xA none, xA v8]) hz dX7_one_117 (by decide) rfl ?_
    refine x_aload hz dX7_one_119 rfl ?_
    refine x_ifnull (t := 141) hz dX7_one_121 (by decide) (fun c9 => ?_) (fun c9 => ?_)
    · replace h := x_ip c9 h
      exact x_wk (xwk_n (xwk_n (xwk_c (xwk_n (xwk_n (xwk_n xwk_0)))))) ((P_X7_one_J141 hZ hb hc_X7_any hc_X7_one) x2 H6 h)
    · replace h := x_in c9 h
      refine x_aload_n hz dX7_one_124 rfl ?_
      obtain ⟨v10, e_v10, h⟩ := x_bnd h
      refine x_getA hz dX7_one_125 fs_X7_9 e_v10 ?_
      refine x_bipush (v := (41 : Int32)) hz dX7_one_128 (by decide) ?_
      obtain ⟨b12, e_b12, h⟩ := x_bnd h
      obtain ⟨v13, H11, e_H11, h⟩ := x_b2 h
      refine x_callVi (as := [.inl (41 : Int32)]) (st := []) cs_X7_66 (ci := 8) ⟨rfl, rfl⟩ rfl rfl hz (by omega) (by decide) dX7_one_130 e_b12 (M_X8_take_ e_H11) ?_
      refine x_if_eq (t := 141) hz dX7_one_133 (by decide) (fun c14 => ?_) (fun c14 => ?_)
      · replace h := x_ip c14 h
        exact x_wk (xwk_n (xwk_n (xwk_c (xwk_n (xwk_n (xwk_n xwk_0)))))) ((P_X7_one_J141 hZ hb hc_X7_any hc_X7_one) x2 H11 h)
      · replace h := x_in c14 h
        refine x_aload hz dX7_one_136 rfl ?_
        refine x_goto (t := 142) hz dX7_one_138 (by decide) ?_
        exact x_wk (xwk_n (xwk_n (xwk_c (xwk_n (xwk_n (xwk_n xwk_0)))))) ((P_X7_one_J142 hZ hb hc_X7_any hc_X7_one) x2 v8 H11 h)
  · replace h := x_ip c5 h
    refine x_aload_n hz dX7_one_81 rfl ?_
    obtain ⟨v15, e_v15, h⟩ := x_bnd h
    refine x_getA hz dX7_one_82 fs_X7_9 e_v15 ?_
    refine x_gets (i := 18) hz dX7_one_85 (by decide) gw_X7_177 ?_
    obtain ⟨b17, e_b17, h⟩ := x_bnd h
    obtain ⟨v18, H16, e_H16, h⟩ := x_b2 h
    refine x_callVi (as := [.inr (.inr (some (H2.2.2.2 18)))]) (st := []) cs_X7_31 (ci := 8) ⟨rfl, rfl⟩ rfl rfl hz (by omega) (by decide) dX7_one_88 e_b17 (M_X8_take e_H16) ?_
    refine x_if_eq (t := 101) hz dX7_one_91 (by decide) (fun c19 => ?_) (fun c19 => ?_)
    · replace h := x_ip c19 h
      refine x_aload_n hz dX7_one_101 rfl ?_
      obtain ⟨b21, e_b21, h⟩ := x_bnd h
      obtain ⟨v22, H20, e_H20, h⟩ := x_b2 h
      refine x_callVa (as := []) (st := []) cs_X7_184 (ci := 7) ⟨rfl, rfl⟩ rfl rfl hz (by omega) (by decide) dX7_one_102 e_b21 (M_X7_ofThing e_H20) ?_
      exact x_wk (xwk_n (xwk_n (xwk_c (xwk_n (xwk_n (xwk_n xwk_0)))))) ((P_X7_one_J105 hZ hb hc_X7_any hc_X7_one) x2 v22 H20 h)
    · replace h := x_in c19 h
      refine x_aload_n hz dX7_one_94 rfl ?_
      obtain ⟨b24, e_b24, h⟩ := x_bnd h
      obtain ⟨v25, H23, e_H23, h⟩ := x_b2 h
      refine x_callVa (as := []) (st := []) cs_X7_180 (ci := 7) ⟨rfl, rfl⟩ rfl rfl hz (by omega) (by decide) dX7_one_95 e_b24 (M_X7_least e_H23) ?_
      refine x_goto (t := 105) hz dX7_one_98 (by decide) ?_
      exact x_wk (xwk_n (xwk_n (xwk_c (xwk_n (xwk_n (xwk_n xwk_0)))))) ((P_X7_one_J105 hZ hb hc_X7_any hc_X7_one) x2 v25 H23 h)
noncomputable def F_X7_one_J29 (N : Nat) (c_X7_any : (Option Nat) → Int32 → xH → Option ((Option Nat) × xH)) (c_X7_one : (Option Nat) → Int32 → xH → Option ((Option Nat) × xH)) (x0 : (Option Nat)) (x1 : Int32) (x2 : Int32) (H : xH) : Option ((Option Nat) × xH) :=
  if (x1 + x2) < (9 : Int32) then ((F_X7_one_J66 N c_X7_any c_X7_one) x0 x2 (x1 + x2) H) else ((xgA H x0 7 0).bind fun v2 =>
  (xob H v2 8).bind fun b4 =>
  x_bd2 (F_X8_isNext N v2 (some (H.2.2.2 14)) H) fun v5 H3 =>
  if v5 = 0 then ((xgA H3 x0 7 0).bind fun v7 =>
  (xob H3 v7 8).bind fun b9 =>
  x_bd2 (F_X8_isNext_ N v7 (40 : Int32) H3) fun v10 H8 =>
  if v10 = 0 then ((F_X7_one_J66 N c_X7_any c_X7_one) x0 x2 (x1 + x2) H8) else (some (none, H8))) else (some (none, H3)))
set_option maxRecDepth 20000 in
set_option maxHeartbeats 4000000 in
theorem P_X7_one_J29 {N : Nat} {Z : xZ} {rv : (Option Nat)} {Hf : xH} {δ : Nat} (hZ : Z = xZm cX7_one yX7_one 6 (δ + 1) (some (.object "BettingBook$Claim")) (some (va_rf rv)) Hf) (hb : 4 ≤ δ) {c_X7_any : (Option Nat) → Int32 → xH → Option ((Option Nat) × xH)} (hc_X7_any : ∀ {a0 : (Option Nat)} {a1 : Int32} {H H1 : xH} {r1 : (Option Nat)}, c_X7_any a0 a1 H = some (r1, H1) → xM yX7_any cX7_any 8 (some (.object "BettingBook$Claim")) δ [.inr (.inr a0), .inl a1] H (some (va_rf r1)) H1) {c_X7_one : (Option Nat) → Int32 → xH → Option ((Option Nat) × xH)} (hc_X7_one : ∀ {a0 : (Option Nat)} {a1 : Int32} {H H1 : xH} {r1 : (Option Nat)}, c_X7_one a0 a1 H = some (r1, H1) → xM yX7_one cX7_one 6 (some (.object "BettingBook$Claim")) δ [.inr (.inr a0), .inl a1] H (some (va_rf r1)) H1) : ∀ (x0 : (Option Nat)) (x1 : Int32) (x2 : Int32) (H : xH), F_X7_one_J29 N c_X7_any c_X7_one x0 x1 x2 H = some (rv, Hf) → xWq Z H 29 [xA x0, xI x1, xI x2, xN, xN, xN] [] := by
  have hz : Z.1 = (cX7_one, yX7_one, 6) := by rw [hZ]; rfl
  have hδ : Z.2.1 = (δ + 1) := by rw [hZ]; rfl
  intro x0 x1 x2 H h
  unfold F_X7_one_J29 at h
  refine x_iload_n hz dX7_one_29 rfl ?_
  refine x_iload_n hz dX7_one_30 rfl ?_
  refine x_iadd hz dX7_one_31 ?_
  refine x_istore_n (pl' := [xA x0, xI x1, xI x2, xI (x1 + x2), xN, xN]) hz dX7_one_32 (by decide) rfl ?_
  refine x_iload_n hz dX7_one_33 rfl ?_
  refine x_bipush (v := (9 : Int32)) hz dX7_one_34 (by decide) ?_
  refine x_icmp_lt (t := 66) hz dX7_one_36 (by decide) (fun c1 => ?_) (fun c1 => ?_)
  · replace h := x_ip c1 h
    exact x_wk (xwk_c (xwk_n (xwk_c (xwk_c (xwk_n (xwk_n xwk_0)))))) ((P_X7_one_J66 hZ hb hc_X7_any hc_X7_one) x0 x2 (x1 + x2) H h)
  · replace h := x_in c1 h
    refine x_aload_n hz dX7_one_39 rfl ?_
    obtain ⟨v2, e_v2, h⟩ := x_bnd h
    refine x_getA hz dX7_one_40 fs_X7_9 e_v2 ?_
    refine x_gets (i := 14) hz dX7_one_43 (by decide) gw_X7_169 ?_
    obtain ⟨b4, e_b4, h⟩ := x_bnd h
    obtain ⟨v5, H3, e_H3, h⟩ := x_b2 h
    refine x_callVi (as := [.inr (.inr (some (H.2.2.2 14)))]) (st := []) cs_X7_172 (ci := 8) ⟨rfl, rfl⟩ rfl rfl hz (by omega) (by decide) dX7_one_46 e_b4 (M_X8_isNext e_H3) ?_
    refine x_if_ne (t := 64) hz dX7_one_49 (by decide) (fun c6 => ?_) (fun c6 => ?_)
    · replace h := x_in c6 h
      refine x_null hz dX7_one_64 ?_
      cases h
      exact x_aret hZ dX7_one_65
    · replace h := x_ip c6 h
      refine x_aload_n hz dX7_one_52 rfl ?_
      obtain ⟨v7, e_v7, h⟩ := x_bnd h
      refine x_getA hz dX7_one_53 fs_X7_9 e_v7 ?_
      refine x_bipush (v := (40 : Int32)) hz dX7_one_56 (by decide) ?_
      obtain ⟨b9, e_b9, h⟩ := x_bnd h
      obtain ⟨v10, H8, e_H8, h⟩ := x_b2 h
      refine x_callVi (as := [.inl (40 : Int32)]) (st := []) cs_X7_175 (ci := 8) ⟨rfl, rfl⟩ rfl rfl hz (by omega) (by decide) dX7_one_58 e_b9 (M_X8_isNext_ e_H8) ?_
      refine x_if_eq (t := 66) hz dX7_one_61 (by decide) (fun c11 => ?_) (fun c11 => ?_)
      · replace h := x_ip c11 h
        exact x_wk (xwk_c (xwk_n (xwk_c (xwk_c (xwk_n (xwk_n xwk_0)))))) ((P_X7_one_J66 hZ hb hc_X7_any hc_X7_one) x0 x2 (x1 + x2) H8 h)
      · replace h := x_in c11 h
        refine x_null hz dX7_one_64 ?_
        cases h
        exact x_aret hZ dX7_one_65
noncomputable def B_X7_one (N : Nat) (c_X7_any : (Option Nat) → Int32 → xH → Option ((Option Nat) × xH)) (c_X7_one : (Option Nat) → Int32 → xH → Option ((Option Nat) × xH)) (a0 : (Option Nat)) (a1 : Int32) (H : xH) : Option ((Option Nat) × xH) :=
  (F_X7_one_L2 N c_X7_any c_X7_one (F_X7_one_J29 N c_X7_any c_X7_one) N) a0 a1 (0 : Int32) H
set_option maxRecDepth 20000 in
set_option maxHeartbeats 4000000 in
theorem P_X7_one {N : Nat} {Z : xZ} {rv : (Option Nat)} {Hf : xH} {δ : Nat} (hZ : Z = xZm cX7_one yX7_one 6 (δ + 1) (some (.object "BettingBook$Claim")) (some (va_rf rv)) Hf) (hb : 4 ≤ δ) {c_X7_any : (Option Nat) → Int32 → xH → Option ((Option Nat) × xH)} (hc_X7_any : ∀ {a0 : (Option Nat)} {a1 : Int32} {H H1 : xH} {r1 : (Option Nat)}, c_X7_any a0 a1 H = some (r1, H1) → xM yX7_any cX7_any 8 (some (.object "BettingBook$Claim")) δ [.inr (.inr a0), .inl a1] H (some (va_rf r1)) H1) {c_X7_one : (Option Nat) → Int32 → xH → Option ((Option Nat) × xH)} (hc_X7_one : ∀ {a0 : (Option Nat)} {a1 : Int32} {H H1 : xH} {r1 : (Option Nat)}, c_X7_one a0 a1 H = some (r1, H1) → xM yX7_one cX7_one 6 (some (.object "BettingBook$Claim")) δ [.inr (.inr a0), .inl a1] H (some (va_rf r1)) H1) : ∀ (a0 : (Option Nat)) (a1 : Int32) (H : xH), B_X7_one N c_X7_any c_X7_one a0 a1 H = some (rv, Hf) → xWq Z H 0 [xA a0, xI a1, xN, xN, xN, xN] [] := by
  have hz : Z.1 = (cX7_one, yX7_one, 6) := by rw [hZ]; rfl
  have hδ : Z.2.1 = (δ + 1) := by rw [hZ]; rfl
  intro a0 a1 H h
  unfold B_X7_one at h
  refine x_iconst (v := (0 : Int32)) hz dX7_one_0 (by decide) ?_
  refine x_istore_n (pl' := [xA a0, xI a1, xI (0 : Int32), xN, xN, xN]) hz dX7_one_1 (by decide) rfl ?_
  exact x_wk (xwk_c (xwk_c (xwk_c (xwk_n (xwk_n (xwk_n xwk_0)))))) ((P_X7_one_L2 hZ hb hc_X7_any hc_X7_one (P_X7_one_J29 hZ hb hc_X7_any hc_X7_one) N) a0 a1 (0 : Int32) H h)
theorem MB_X7_one {N : Nat} {δ : Nat} (hb : 4 ≤ δ) {c_X7_any : (Option Nat) → Int32 → xH → Option ((Option Nat) × xH)} (hc_X7_any : ∀ {a0 : (Option Nat)} {a1 : Int32} {H H1 : xH} {r1 : (Option Nat)}, c_X7_any a0 a1 H = some (r1, H1) → xM yX7_any cX7_any 8 (some (.object "BettingBook$Claim")) δ [.inr (.inr a0), .inl a1] H (some (va_rf r1)) H1) {c_X7_one : (Option Nat) → Int32 → xH → Option ((Option Nat) × xH)} (hc_X7_one : ∀ {a0 : (Option Nat)} {a1 : Int32} {H H1 : xH} {r1 : (Option Nat)}, c_X7_one a0 a1 H = some (r1, H1) → xM yX7_one cX7_one 6 (some (.object "BettingBook$Claim")) δ [.inr (.inr a0), .inl a1] H (some (va_rf r1)) H1) {a0 : (Option Nat)} {a1 : Int32} {H H1 : xH} {r1 : (Option Nat)} (h : B_X7_one N c_X7_any c_X7_one a0 a1 H = some (r1, H1)) : xM yX7_one cX7_one 6 (some (.object "BettingBook$Claim")) (δ + 1) [.inr (.inr a0), .inl a1] H (some (va_rf r1)) H1 :=
  xM_of (by decide +kernel) (xT_tb 503 (by decide +kernel) (by decide +kernel)) (by simp [xargs, x2]) rfl (P_X7_one rfl hb hc_X7_any hc_X7_one a0 a1 H h)
noncomputable def R_X7_any (N : Nat) : Nat → ((Option Nat) → Int32 → xH → Option ((Option Nat) × xH)) × ((Option Nat) → Int32 → xH → Option ((Option Nat) × xH))
  | 0 => (fun _ _ _ => none, fun _ _ _ => none)
  | n + 1 => (B_X7_any N ((R_X7_any N n).1) ((R_X7_any N n).2), B_X7_one N ((R_X7_any N n).1) ((R_X7_any N n).2))
theorem MR_X7_any (N : Nat) : ∀ n : Nat, (∀ {a0 : (Option Nat)} {a1 : Int32} {H H1 : xH} {r1 : (Option Nat)}, ((R_X7_any N n).1) a0 a1 H = some (r1, H1) → xM yX7_any cX7_any 8 (some (.object "BettingBook$Claim")) (4 + n) [.inr (.inr a0), .inl a1] H (some (va_rf r1)) H1) ∧ (∀ {a0 : (Option Nat)} {a1 : Int32} {H H1 : xH} {r1 : (Option Nat)}, ((R_X7_any N n).2) a0 a1 H = some (r1, H1) → xM yX7_one cX7_one 6 (some (.object "BettingBook$Claim")) (4 + n) [.inr (.inr a0), .inl a1] H (some (va_rf r1)) H1) := by
  intro n
  induction n with
  | zero => exact ⟨(fun h => by cases h), (fun h => by cases h)⟩
  | succ n ih => exact ⟨fun h => MB_X7_any (by omega) (ih.1) (ih.2) h, fun h => MB_X7_one (by omega) (ih.1) (ih.2) h⟩
noncomputable def F_X7_any (N : Nat) : (Option Nat) → Int32 → xH → Option ((Option Nat) × xH) := (R_X7_any N 45).1
theorem M_X7_any {N : Nat} {a0 : (Option Nat)} {a1 : Int32} {H H1 : xH} {r1 : (Option Nat)} (h : F_X7_any N a0 a1 H = some (r1, H1)) : xM yX7_any cX7_any 8 (some (.object "BettingBook$Claim")) 49 [.inr (.inr a0), .inl a1] H (some (va_rf r1)) H1 := (MR_X7_any N 45).1 h
noncomputable def F_X7_one (N : Nat) : (Option Nat) → Int32 → xH → Option ((Option Nat) × xH) := (R_X7_any N 45).2
theorem M_X7_one {N : Nat} {a0 : (Option Nat)} {a1 : Int32} {H H1 : xH} {r1 : (Option Nat)} (h : F_X7_one N a0 a1 H = some (r1, H1)) : xM yX7_one cX7_one 6 (some (.object "BettingBook$Claim")) 49 [.inr (.inr a0), .inl a1] H (some (va_rf r1)) H1 := (MR_X7_any N 45).2 h
/-! BettingBook$Teller.tellBet()Z -/
noncomputable def F_X7_tellBet_J254 (N : Nat) (x0 : (Option Nat)) (x1 : Int32) (x2 : Int32) (x3 : Int32) (x4 : Int32) (x5 : (Option Nat)) (x7 : (Option Nat)) (x10 : (Option Nat)) (H : xH) : Option (Int32 × xH) :=
  (xgA H x0 7 1).bind fun v1 =>
  x_lt (xno 0 7 xdf_0 H) fun H2 =>
  (F_X0_init N (some H.2.1) x1 x4 x2 x3 x5 x7 x10 H2).bind fun H3 =>
  (xob H3 v1 2).bind fun b5 =>
  (F_X2_addBet N v1 (some H.2.1) H3).bind fun H4 =>
  some ((1 : Int32), H4)
set_option maxRecDepth 20000 in
set_option maxHeartbeats 4000000 in
theorem P_X7_tellBet_J254 {N : Nat} {Z : xZ} {rv : Int32} {Hf : xH} (hZ : Z = xZm cX7_tellBet yX7_tellBet 11 50 (some .boolean) (some (.int rv)) Hf) : ∀ (x0 : (Option Nat)) (x1 : Int32) (x2 : Int32) (x3 : Int32) (x4 : Int32) (x5 : (Option Nat)) (x7 : (Option Nat)) (x10 : (Option Nat)) (H : xH), F_X7_tellBet_J254 N x0 x1 x2 x3 x4 x5 x7 x10 H = some (rv, Hf) → xWq Z H 254 [xA x0, xI x1, xI x2, xI x3, xI x4, xA x5, xN, xA x7, xN, xN, xA x10] [] := by
  have hz : Z.1 = (cX7_tellBet, yX7_tellBet, 11) := by rw [hZ]; rfl
  have hδ : Z.2.1 = 50 := by rw [hZ]; rfl
  intro x0 x1 x2 x3 x4 x5 x7 x10 H h
  unfold F_X7_tellBet_J254 at h
  refine x_aload_n hz dX7_tellBet_254 rfl ?_
  obtain ⟨v1, e_v1, h⟩ := x_bnd h
  refine x_getA hz dX7_tellBet_255 fs_X7_15 e_v1 ?_
  obtain ⟨H2, e_H2, h⟩ := x_ltE h
  refine x_new hz dX7_tellBet_258 ns_X7_141 ?_
  rw [e_H2]
  refine x_dup hz dX7_tellBet_261 (x_rfc _) ?_
  refine x_iload_n hz dX7_tellBet_262 rfl ?_
  refine x_iload hz dX7_tellBet_263 rfl ?_
  refine x_iload_n hz dX7_tellBet_265 rfl ?_
  refine x_iload_n hz dX7_tellBet_266 rfl ?_
  refine x_aload hz dX7_tellBet_267 rfl ?_
  refine x_aload hz dX7_tellBet_269 rfl ?_
  refine x_aload hz dX7_tellBet_271 rfl ?_
  obtain ⟨H3, e_H3, h⟩ := x_bnd h
  refine x_callIv (as := [.inl x1, .inl x4, .inl x2, .inl x3, .inr (.inr x5), .inr (.inr x7), .inr (.inr x10)]) (st := [va_rf (some H.2.1), va_rf v1]) cs_X7_143 rfl rfl rfl rfl hz (by omega) (Nat.le_trans (x_sm1 (x_rfc _) (x_sm1 (x_rfc _) x_sm0)) (by decide)) dX7_tellBet_273 (M_X0_init e_H3) ?_
  obtain ⟨b5, e_b5, h⟩ := x_bnd h
  obtain ⟨H4, e_H4, h⟩ := x_bnd h
  refine x_callVv (as := [.inr (.inr (some H.2.1))]) (st := []) cs_X7_146 (ci := 2) ⟨rfl, rfl⟩ rfl rfl hz (by omega) (by decide) dX7_tellBet_276 e_b5 (M_X2_addBet e_H4) ?_
  refine x_iconst (v := (1 : Int32)) hz dX7_tellBet_279 (by decide) ?_
  cases h
  exact x_zret01 hZ (Or.inr rfl) dX7_tellBet_280
noncomputable def F_X7_tellBet_J235 (N : Nat) (x0 : (Option Nat)) (x1 : Int32) (x2 : Int32) (x3 : Int32) (x4 : Int32) (x5 : (Option Nat)) (x7 : (Option Nat)) (x8 : Int32) (x9 : Int32) (s0 : (Option Nat)) (H : xH) : Option (Int32 × xH) :=
  if x8 = 0 then (some ((0 : Int32), H)) else (if x9 = 0 then ((F_X7_tellBet_J254 N) x0 x1 x2 x3 x4 x5 x7 s0 H) else (if s0 = none then (some ((0 : Int32), H)) else ((F_X7_tellBet_J254 N) x0 x1 x2 x3 x4 x5 x7 s0 H)))
set_option maxRecDepth 20000 in
set_option maxHeartbeats 4000000 in
theorem P_X7_tellBet_J235 {N : Nat} {Z : xZ} {rv : Int32} {Hf : xH} (hZ : Z = xZm cX7_tellBet yX7_tellBet 11 50 (some .boolean) (some (.int rv)) Hf) : ∀ (x0 : (Option Nat)) (x1 : Int32) (x2 : Int32) (x3 : Int32) (x4 : Int32) (x5 : (Option Nat)) (x7 : (Option Nat)) (x8 : Int32) (x9 : Int32) (s0 : (Option Nat)) (H : xH), F_X7_tellBet_J235 N x0 x1 x2 x3 x4 x5 x7 x8 x9 s0 H = some (rv, Hf) → xWq Z H 235 [xA x0, xI x1, xI x2, xI x3, xI x4, xA x5, xN, xA x7, xI x8, xI x9, xN] [va_rf s0] := by
  have hz : Z.1 = (cX7_tellBet, yX7_tellBet, 11) := by rw [hZ]; rfl
  have hδ : Z.2.1 = 50 := by rw [hZ]; rfl
  intro x0 x1 x2 x3 x4 x5 x7 x8 x9 s0 H h
  unfold F_X7_tellBet_J235 at h
  refine x_astore (pl' := [xA x0, xI x1, xI x2, xI x3, xI x4, xA x5, xN, xA x7, xI x8, xI x9, xA s0]) hz dX7_tellBet_235 (by decide) rfl ?_
  refine x_iload hz dX7_tellBet_237 rfl ?_
  refine x_if_eq (t := 252) hz dX7_tellBet_239 (by decide) (fun c1 => ?_) (fun c1 => ?_)
  · replace h := x_ip c1 h
    refine x_iconst (v := (0 : Int32)) hz dX7_tellBet_252 (by decide) ?_
    cases h
    exact x_zret01 hZ (Or.inl rfl) dX7_tellBet_253
  · replace h := x_in c1 h
    refine x_iload hz dX7_tellBet_242 rfl ?_
    refine x_if_eq (t := 254) hz dX7_tellBet_244 (by decide) (fun c2 => ?_) (fun c2 => ?_)
    · replace h := x_ip c2 h
      exact x_wk (xwk_c (xwk_c (xwk_c (xwk_c (xwk_c (xwk_c (xwk_n (xwk_c (xwk_n (xwk_n (xwk_c xwk_0))))))))))) ((P_X7_tellBet_J254 hZ) x0 x1 x2 x3 x4 x5 x7 s0 H h)
    · replace h := x_in c2 h
      refine x_aload hz dX7_tellBet_247 rfl ?_
      refine x_ifnonnull (t := 254) hz dX7_tellBet_249 (by decide) (fun c3 => ?_) (fun c3 => ?_)
      · replace h := x_in c3 h
        exact x_wk (xwk_c (xwk_c (xwk_c (xwk_c (xwk_c (xwk_c (xwk_n (xwk_c (xwk_n (xwk_n (xwk_c xwk_0))))))))))) ((P_X7_tellBet_J254 hZ) x0 x1 x2 x3 x4 x5 x7 s0 H h)
      · replace h := x_ip c3 h
        refine x_iconst (v := (0 : Int32)) hz dX7_tellBet_252 (by decide) ?_
        cases h
        exact x_zret01 hZ (Or.inl rfl) dX7_tellBet_253
noncomputable def F_X7_tellBet_J219 (N : Nat) (x0 : (Option Nat)) (x1 : Int32) (x2 : Int32) (x3 : Int32) (x4 : Int32) (x5 : (Option Nat)) (x7 : (Option Nat)) (x8 : Int32) (s0 : Int32) (H : xH) : Option (Int32 × xH) :=
  if s0 = 0 then ((F_X7_tellBet_J235 N) x0 x1 x2 x3 x4 x5 x7 x8 s0 none H) else ((xob H x0 7).bind fun b3 =>
  x_bd2 (F_X7_any N x0 (0 : Int32) H) fun v4 H2 =>
  (F_X7_tellBet_J235 N) x0 x1 x2 x3 x4 x5 x7 x8 s0 v4 H2)
set_option maxRecDepth 20000 in
set_option maxHeartbeats 4000000 in
theorem P_X7_tellBet_J219 {N : Nat} {Z : xZ} {rv : Int32} {Hf : xH} (hZ : Z = xZm cX7_tellBet yX7_tellBet 11 50 (some .boolean) (some (.int rv)) Hf) : ∀ (x0 : (Option Nat)) (x1 : Int32) (x2 : Int32) (x3 : Int32) (x4 : Int32) (x5 : (Option Nat)) (x7 : (Option Nat)) (x8 : Int32) (s0 : Int32) (H : xH), F_X7_tellBet_J219 N x0 x1 x2 x3 x4 x5 x7 x8 s0 H = some (rv, Hf) → xWq Z H 219 [xA x0, xI x1, xI x2, xI x3, xI x4, xA x5, xN, xA x7, xI x8, xN, xN] [.int s0] := by
  have hz : Z.1 = (cX7_tellBet, yX7_tellBet, 11) := by rw [hZ]; rfl
  have hδ : Z.2.1 = 50 := by rw [hZ]; rfl
  intro x0 x1 x2 x3 x4 x5 x7 x8 s0 H h
  unfold F_X7_tellBet_J219 at h
  refine x_istore (pl' := [xA x0, xI x1, xI x2, xI x3, xI x4, xA x5, xN, xA x7, xI x8, xI s0, xN]) hz dX7_tellBet_219 (by decide) rfl ?_
  refine x_iload hz dX7_tellBet_221 rfl ?_
  refine x_if_eq (t := 234) hz dX7_tellBet_223 (by decide) (fun c1 => ?_) (fun c1 => ?_)
  · replace h := x_ip c1 h
    refine x_null hz dX7_tellBet_234 ?_
    exact x_wk (xwk_c (xwk_c (xwk_c (xwk_c (xwk_c (xwk_c (xwk_n (xwk_c (xwk_c (xwk_c (xwk_n xwk_0))))))))))) ((P_X7_tellBet_J235 hZ) x0 x1 x2 x3 x4 x5 x7 x8 s0 none H h)
  · replace h := x_in c1 h
    refine x_aload_n hz dX7_tellBet_226 rfl ?_
    refine x_iconst (v := (0 : Int32)) hz dX7_tellBet_227 (by decide) ?_
    obtain ⟨b3, e_b3, h⟩ := x_bnd h
    obtain ⟨v4, H2, e_H2, h⟩ := x_b2 h
    refine x_callVa (as := [.inl (0 : Int32)]) (st := []) cs_X7_131 (ci := 7) ⟨rfl, rfl⟩ rfl rfl hz (by omega) (by decide) dX7_tellBet_228 e_b3 (M_X7_any e_H2) ?_
    refine x_goto (t := 235) hz dX7_tellBet_231 (by decide) ?_
    exact x_wk (xwk_c (xwk_c (xwk_c (xwk_c (xwk_c (xwk_c (xwk_n (xwk_c (xwk_c (xwk_c (xwk_n xwk_0))))))))))) ((P_X7_tellBet_J235 hZ) x0 x1 x2 x3 x4 x5 x7 x8 s0 v4 H2 h)
noncomputable def F_X7_tellBet_J218 (N : Nat) (x0 : (Option Nat)) (x1 : Int32) (x2 : Int32) (x3 : Int32) (x4 : Int32) (x5 : (Option Nat)) (x7 : (Option Nat)) (x8 : Int32) (H : xH) : Option (Int32 × xH) :=
  (F_X7_tellBet_J219 N) x0 x1 x2 x3 x4 x5 x7 x8 (0 : Int32) H
set_option maxRecDepth 20000 in
set_option maxHeartbeats 4000000 in
theorem P_X7_tellBet_J218 {N : Nat} {Z : xZ} {rv : Int32} {Hf : xH} (hZ : Z = xZm cX7_tellBet yX7_tellBet 11 50 (some .boolean) (some (.int rv)) Hf) : ∀ (x0 : (Option Nat)) (x1 : Int32) (x2 : Int32) (x3 : Int32) (x4 : Int32) (x5 : (Option Nat)) (x7 : (Option Nat)) (x8 : Int32) (H : xH), F_X7_tellBet_J218 N x0 x1 x2 x3 x4 x5 x7 x8 H = some (rv, Hf) → xWq Z H 218 [xA x0, xI x1, xI x2, xI x3, xI x4, xA x5, xN, xA x7, xI x8, xN, xN] [] := by
  have hz : Z.1 = (cX7_tellBet, yX7_tellBet, 11) := by rw [hZ]; rfl
  have hδ : Z.2.1 = 50 := by rw [hZ]; rfl
  intro x0 x1 x2 x3 x4 x5 x7 x8 H h
  unfold F_X7_tellBet_J218 at h
  refine x_iconst (v := (0 : Int32)) hz dX7_tellBet_218 (by decide) ?_
  exact x_wk (xwk_c (xwk_c (xwk_c (xwk_c (xwk_c (xwk_c (xwk_n (xwk_c (xwk_c (xwk_n (xwk_n xwk_0))))))))))) ((P_X7_tellBet_J219 hZ) x0 x1 x2 x3 x4 x5 x7 x8 (0 : Int32) H h)
noncomputable def F_X7_tellBet_J194 (N : Nat) (x0 : (Option Nat)) (x1 : Int32) (x2 : Int32) (x3 : Int32) (x4 : Int32) (x5 : (Option Nat)) (x7 : (Option Nat)) (s0 : Int32) (H : xH) : Option (Int32 × xH) :=
  if s0 = 0 then ((F_X7_tellBet_J218 N) x0 x1 x2 x3 x4 x5 x7 s0 H) else ((xgA H x0 7 0).bind fun v2 =>
  (xob H v2 8).bind fun b4 =>
  x_bd2 (F_X8_take N v2 (some (H.2.2.2 11)) H) fun v5 H3 =>
  if v5 = 0 then ((F_X7_tellBet_J218 N) x0 x1 x2 x3 x4 x5 x7 s0 H3) else ((F_X7_tellBet_J219 N) x0 x1 x2 x3 x4 x5 x7 s0 (1 : Int32) H3))
set_option maxRecDepth 20000 in
set_option maxHeartbeats 4000000 in
theorem P_X7_tellBet_J194 {N : Nat} {Z : xZ} {rv : Int32} {Hf : xH} (hZ : Z = xZm cX7_tellBet yX7_tellBet 11 50 (some .boolean) (some (.int rv)) Hf) : ∀ (x0 : (Option Nat)) (x1 : Int32) (x2 : Int32) (x3 : Int32) (x4 : Int32) (x5 : (Option Nat)) (x7 : (Option Nat)) (s0 : Int32) (H : xH), F_X7_tellBet_J194 N x0 x1 x2 x3 x4 x5 x7 s0 H = some (rv, Hf) → xWq Z H 194 [xA x0, xI x1, xI x2, xI x3, xI x4, xA x5, xN, xA x7, xN, xN, xN] [.int s0] := by
  have hz : Z.1 = (cX7_tellBet, yX7_tellBet, 11) := by rw [hZ]; rfl
  have hδ : Z.2.1 = 50 := by rw [hZ]; rfl
  intro x0 x1 x2 x3 x4 x5 x7 s0 H h
  unfold F_X7_tellBet_J194 at h
  refine x_istore (pl' := [xA x0, xI x1, xI x2, xI x3, xI x4, xA x5, xN, xA x7, xI s0, xN, xN]) hz dX7_tellBet_194 (by decide) rfl ?_
  refine x_iload hz dX7_tellBet_196 rfl ?_
  refine x_if_eq (t := 218) hz dX7_tellBet_198 (by decide) (fun c1 => ?_) (fun c1 => ?_)
  · replace h := x_ip c1 h
    exact x_wk (xwk_c (xwk_c (xwk_c (xwk_c (xwk_c (xwk_c (xwk_n (xwk_c (xwk_c (xwk_n (xwk_n xwk_0))))))))))) ((P_X7_tellBet_J218 hZ) x0 x1 x2 x3 x4 x5 x7 s0 H h)
  · replace h := x_in c1 h
    refine x_aload_n hz dX7_tellBet_201 rfl ?_
    obtain ⟨v2, e_v2, h⟩ := x_bnd h
    refine x_getA hz dX7_tellBet_202 fs_X7_9 e_v2 ?_
    refine x_gets (i := 11) hz dX7_tellBet_205 (by decide) gw_X7_138 ?_
    obtain ⟨b4, e_b4, h⟩ := x_bnd h
    obtain ⟨v5, H3, e_H3, h⟩ := x_b2 h
    refine x_callVi (as := [.inr (.inr (some (H.2.2.2 11)))]) (st := []) cs_X7_31 (ci := 8) ⟨rfl, rfl⟩ rfl rfl hz (by omega) (by decide) dX7_tellBet_208 e_b4 (M_X8_take e_H3) ?_
    refine x_if_eq (t := 218) hz dX7_tellBet_211 (by decide) (fun c6 => ?_) (fun c6 => ?_)
    · replace h := x_ip c6 h
      exact x_wk (xwk_c (xwk_c (xwk_c (xwk_c (xwk_c (xwk_c (xwk_n (xwk_c (xwk_c (xwk_n (xwk_n xwk_0))))))))))) ((P_X7_tellBet_J218 hZ) x0 x1 x2 x3 x4 x5 x7 s0 H3 h)
    · replace h := x_in c6 h
      refine x_iconst (v := (1 : Int32)) hz dX7_tellBet_214 (by decide) ?_
      refine x_goto (t := 219) hz dX7_tellBet_215 (by decide) ?_
      exact x_wk (xwk_c (xwk_c (xwk_c (xwk_c (xwk_c (xwk_c (xwk_n (xwk_c (xwk_c (xwk_n (xwk_n xwk_0))))))))))) ((P_X7_tellBet_J219 hZ) x0 x1 x2 x3 x4 x5 x7 s0 (1 : Int32) H3 h)
noncomputable def F_X7_tellBet_J189 (N : Nat) (x0 : (Option Nat)) (x1 : Int32) (x2 : Int32) (x3 : Int32) (x4 : Int32) (x5 : (Option Nat)) (x7 : (Option Nat)) (H : xH) : Option (Int32 × xH) :=
  (F_X7_tellBet_J194 N) x0 x1 x2 x3 x4 x5 x7 (1 : Int32) H
set_option maxRecDepth 20000 in
set_option maxHeartbeats 4000000 in
theorem P_X7_tellBet_J189 {N : Nat} {Z : xZ} {rv : Int32} {Hf : xH} (hZ : Z = xZm cX7_tellBet yX7_tellBet 11 50 (some .boolean) (some (.int rv)) Hf) : ∀ (x0 : (Option Nat)) (x1 : Int32) (x2 : Int32) (x3 : Int32) (x4 : Int32) (x5 : (Option Nat)) (x7 : (Option Nat)) (H : xH), F_X7_tellBet_J189 N x0 x1 x2 x3 x4 x5 x7 H = some (rv, Hf) → xWq Z H 189 [xA x0, xI x1, xI x2, xI x3, xI x4, xA x5, xN, xA x7, xN, xN, xN] [] := by
  have hz : Z.1 = (cX7_tellBet, yX7_tellBet, 11) := by rw [hZ]; rfl
  have hδ : Z.2.1 = 50 := by rw [hZ]; rfl
  intro x0 x1 x2 x3 x4 x5 x7 H h
  unfold F_X7_tellBet_J189 at h
  refine x_iconst (v := (1 : Int32)) hz dX7_tellBet_189 (by decide) ?_
  refine x_goto (t := 194) hz dX7_tellBet_190 (by decide) ?_
  exact x_wk (xwk_c (xwk_c (xwk_c (xwk_c (xwk_c (xwk_c (xwk_n (xwk_c (xwk_n (xwk_n (xwk_n xwk_0))))))))))) ((P_X7_tellBet_J194 hZ) x0 x1 x2 x3 x4 x5 x7 (1 : Int32) H h)
noncomputable def F_X7_tellBet_J193 (N : Nat) (x0 : (Option Nat)) (x1 : Int32) (x2 : Int32) (x3 : Int32) (x4 : Int32) (x5 : (Option Nat)) (x7 : (Option Nat)) (H : xH) : Option (Int32 × xH) :=
  (F_X7_tellBet_J194 N) x0 x1 x2 x3 x4 x5 x7 (0 : Int32) H
set_option maxRecDepth 20000 in
set_option maxHeartbeats 4000000 in
theorem P_X7_tellBet_J193 {N : Nat} {Z : xZ} {rv : Int32} {Hf : xH} (hZ : Z = xZm cX7_tellBet yX7_tellBet 11 50 (some .boolean) (some (.int rv)) Hf) : ∀ (x0 : (Option Nat)) (x1 : Int32) (x2 : Int32) (x3 : Int32) (x4 : Int32) (x5 : (Option Nat)) (x7 : (Option Nat)) (H : xH), F_X7_tellBet_J193 N x0 x1 x2 x3 x4 x5 x7 H = some (rv, Hf) → xWq Z H 193 [xA x0, xI x1, xI x2, xI x3, xI x4, xA x5, xN, xA x7, xN, xN, xN] [] := by
  have hz : Z.1 = (cX7_tellBet, yX7_tellBet, 11) := by rw [hZ]; rfl
  have hδ : Z.2.1 = 50 := by rw [hZ]; rfl
  intro x0 x1 x2 x3 x4 x5 x7 H h
  unfold F_X7_tellBet_J193 at h
  refine x_iconst (v := (0 : Int32)) hz dX7_tellBet_193 (by decide) ?_
  exact x_wk (xwk_c (xwk_c (xwk_c (xwk_c (xwk_c (xwk_c (xwk_n (xwk_c (xwk_n (xwk_n (xwk_n xwk_0))))))))))) ((P_X7_tellBet_J194 hZ) x0 x1 x2 x3 x4 x5 x7 (0 : Int32) H h)
noncomputable def F_X7_tellBet_J172 (N : Nat) (x0 : (Option Nat)) (x1 : Int32) (x2 : Int32) (x3 : Int32) (x4 : Int32) (x5 : (Option Nat)) (x6 : Int32) (s0 : (Option Nat)) (H : xH) : Option (Int32 × xH) :=
  if x5 = none then ((F_X7_tellBet_J193 N) x0 x1 x2 x3 x4 x5 s0 H) else (if s0 = none then (if x6 = 0 then ((F_X7_tellBet_J189 N) x0 x1 x2 x3 x4 x5 s0 H) else ((F_X7_tellBet_J193 N) x0 x1 x2 x3 x4 x5 s0 H)) else ((F_X7_tellBet_J189 N) x0 x1 x2 x3 x4 x5 s0 H))
set_option maxRecDepth 20000 in
set_option maxHeartbeats 4000000 in
theorem P_X7_tellBet_J172 {N : Nat} {Z : xZ} {rv : Int32} {Hf : xH} (hZ : Z = xZm cX7_tellBet yX7_tellBet 11 50 (some .boolean) (some (.int rv)) Hf) : ∀ (x0 : (Option Nat)) (x1 : Int32) (x2 : Int32) (x3 : Int32) (x4 : Int32) (x5 : (Option Nat)) (x6 : Int32) (s0 : (Option Nat)) (H : xH), F_X7_tellBet_J172 N x0 x1 x2 x3 x4 x5 x6 s0 H = some (rv, Hf) → xWq Z H 172 [xA x0, xI x1, xI x2, xI x3, xI x4, xA x5, xI x6, xN, xN, xN, xN] [va_rf s0] := by
  have hz : Z.1 = (cX7_tellBet, yX7_tellBet, 11) := by rw [hZ]; rfl
  have hδ : Z.2.1 = 50 := by rw [hZ]; rfl
  intro x0 x1 x2 x3 x4 x5 x6 s0 H h
  unfold F_X7_tellBet_J172 at h
  refine x_astore (pl' := [xA x0, xI x1, xI x2, xI x3, xI x4, xA x5, xI x6, xA s0, xN, xN, xN]) hz dX7_tellBet_172 (by decide) rfl ?_
  refine x_aload hz dX7_tellBet_174 rfl ?_
  refine x_ifnull (t := 193) hz dX7_tellBet_176 (by decide) (fun c1 => ?_) (fun c1 => ?_)
  · replace h := x_ip c1 h
    exact x_wk (xwk_c (xwk_c (xwk_c (xwk_c (xwk_c (xwk_c (xwk_n (xwk_c (xwk_n (xwk_n (xwk_n xwk_0))))))))))) ((P_X7_tellBet_J193 hZ) x0 x1 x2 x3 x4 x5 s0 H h)
  · replace h := x_in c1 h
    refine x_aload hz dX7_tellBet_179 rfl ?_
    refine x_ifnonnull (t := 189) hz dX7_tellBet_181 (by decide) (fun c2 => ?_) (fun c2 => ?_)
    · replace h := x_in c2 h
      exact x_wk (xwk_c (xwk_c (xwk_c (xwk_c (xwk_c (xwk_c (xwk_n (xwk_c (xwk_n (xwk_n (xwk_n xwk_0))))))))))) ((P_X7_tellBet_J189 hZ) x0 x1 x2 x3 x4 x5 s0 H h)
    · replace h := x_ip c2 h
      refine x_iload hz dX7_tellBet_184 rfl ?_
      refine x_if_ne (t := 193) hz dX7_tellBet_186 (by decide) (fun c3 => ?_) (fun c3 => ?_)
      · replace h := x_in c3 h
        exact x_wk (xwk_c (xwk_c (xwk_c (xwk_c (xwk_c (xwk_c (xwk_n (xwk_c (xwk_n (xwk_n (xwk_n xwk_0))))))))))) ((P_X7_tellBet_J193 hZ) x0 x1 x2 x3 x4 x5 s0 H h)
      · replace h := x_ip c3 h
        exact x_wk (xwk_c (xwk_c (xwk_c (xwk_c (xwk_c (xwk_c (xwk_n (xwk_c (xwk_n (xwk_n (xwk_n xwk_0))))))))))) ((P_X7_tellBet_J189 hZ) x0 x1 x2 x3 x4 x5 s0 H h)
noncomputable def F_X7_tellBet_J156 (N : Nat) (x0 : (Option Nat)) (x1 : Int32) (x2 : Int32) (x3 : Int32) (x4 : Int32) (x5 : (Option Nat)) (s0 : Int32) (H : xH) : Option (Int32 × xH) :=
  if s0 = 0 then ((F_X7_tellBet_J172 N) x0 x1 x2 x3 x4 x5 s0 none H) else ((xob H x0 7).bind fun b3 =>
  x_bd2 (F_X7_any N x0 (0 : Int32) H) fun v4 H2 =>
  (F_X7_tellBet_J172 N) x0 x1 x2 x3 x4 x5 s0 v4 H2)
set_option maxRecDepth 20000 in
set_option maxHeartbeats 4000000 in
theorem P_X7_tellBet_J156 {N : Nat} {Z : xZ} {rv : Int32} {Hf : xH} (hZ : Z = xZm cX7_tellBet yX7_tellBet 11 50 (some .boolean) (some (.int rv)) Hf) : ∀ (x0 : (Option Nat)) (x1 : Int32) (x2 : Int32) (x3 : Int32) (x4 : Int32) (x5 : (Option Nat)) (s0 : Int32) (H : xH), F_X7_tellBet_J156 N x0 x1 x2 x3 x4 x5 s0 H = some (rv, Hf) → xWq Z H 156 [xA x0, xI x1, xI x2, xI x3, xI x4, xA x5, xN, xN, xN, xN, xN] [.int s0] := by
  have hz : Z.1 = (cX7_tellBet, yX7_tellBet, 11) := by rw [hZ]; rfl
  have hδ : Z.2.1 = 50 := by rw [hZ]; rfl
  intro x0 x1 x2 x3 x4 x5 s0 H h
  unfold F_X7_tellBet_J156 at h
  refine x_istore (pl' := [xA x0, xI x1, xI x2, xI x3, xI x4, xA x5, xI s0, xN, xN, xN, xN]) hz dX7_tellBet_156 (by decide) rfl ?_
  refine x_iload hz dX7_tellBet_158 rfl ?_
  refine x_if_eq (t := 171) hz dX7_tellBet_160 (by decide) (fun c1 => ?_) (fun c1 => ?_)
  · replace h := x_ip c1 h
    refine x_null hz dX7_tellBet_171 ?_
    exact x_wk (xwk_c (xwk_c (xwk_c (xwk_c (xwk_c (xwk_c (xwk_c (xwk_n (xwk_n (xwk_n (xwk_n xwk_0))))))))))) ((P_X7_tellBet_J172 hZ) x0 x1 x2 x3 x4 x5 s0 none H h)
  · replace h := x_in c1 h
    refine x_aload_n hz dX7_tellBet_163 rfl ?_
    refine x_iconst (v := (0 : Int32)) hz dX7_tellBet_164 (by decide) ?_
    obtain ⟨b3, e_b3, h⟩ := x_bnd h
    obtain ⟨v4, H2, e_H2, h⟩ := x_b2 h
    refine x_callVa (as := [.inl (0 : Int32)]) (st := []) cs_X7_131 (ci := 7) ⟨rfl, rfl⟩ rfl rfl hz (by omega) (by decide) dX7_tellBet_165 e_b3 (M_X7_any e_H2) ?_
    refine x_goto (t := 172) hz dX7_tellBet_168 (by decide) ?_
    exact x_wk (xwk_c (xwk_c (xwk_c (xwk_c (xwk_c (xwk_c (xwk_c (xwk_n (xwk_n (xwk_n (xwk_n xwk_0))))))))))) ((P_X7_tellBet_J172 hZ) x0 x1 x2 x3 x4 x5 s0 v4 H2 h)
noncomputable def F_X7_tellBet_J155 (N : Nat) (x0 : (Option Nat)) (x1 : Int32) (x2 : Int32) (x3 : Int32) (x4 : Int32) (x5 : (Option Nat)) (H : xH) : Option (Int32 × xH) :=
  (F_X7_tellBet_J156 N) x0 x1 x2 x3 x4 x5 (0 : Int32) H
set_option maxRecDepth 20000 in
set_option maxHeartbeats 4000000 in
theorem P_X7_tellBet_J155 {N : Nat} {Z : xZ} {rv : Int32} {Hf : xH} (hZ : Z = xZm cX7_tellBet yX7_tellBet 11 50 (some .boolean) (some (.int rv)) Hf) : ∀ (x0 : (Option Nat)) (x1 : Int32) (x2 : Int32) (x3 : Int32) (x4 : Int32) (x5 : (Option Nat)) (H : xH), F_X7_tellBet_J155 N x0 x1 x2 x3 x4 x5 H = some (rv, Hf) → xWq Z H 155 [xA x0, xI x1, xI x2, xI x3, xI x4, xA x5, xN, xN, xN, xN, xN] [] := by
  have hz : Z.1 = (cX7_tellBet, yX7_tellBet, 11) := by rw [hZ]; rfl
  have hδ : Z.2.1 = 50 := by rw [hZ]; rfl
  intro x0 x1 x2 x3 x4 x5 H h
  unfold F_X7_tellBet_J155 at h
  refine x_iconst (v := (0 : Int32)) hz dX7_tellBet_155 (by decide) ?_
  exact x_wk (xwk_c (xwk_c (xwk_c (xwk_c (xwk_c (xwk_c (xwk_n (xwk_n (xwk_n (xwk_n (xwk_n xwk_0))))))))))) ((P_X7_tellBet_J156 hZ) x0 x1 x2 x3 x4 x5 (0 : Int32) H h)
noncomputable def F_X7_tellBet_J104 (N : Nat) (x0 : (Option Nat)) (x1 : Int32) (x2 : Int32) (x3 : Int32) (s0 : Int32) (H : xH) : Option (Int32 × xH) :=
  if s0 < 0 then (some ((0 : Int32), H)) else ((xgA H x0 7 0).bind fun v2 =>
  (xob H v2 8).bind fun b4 =>
  x_bd2 (F_X8_take N v2 (some (H.2.2.2 9)) H) fun v5 H3 =>
  if v5 = 0 then (some ((0 : Int32), H3)) else ((xob H3 x0 7).bind fun b8 =>
  x_bd2 (F_X7_any N x0 (0 : Int32) H3) fun v9 H7 =>
  if v9 = none then ((F_X7_tellBet_J155 N) x0 x1 x2 x3 s0 v9 H7) else ((xgA H7 x0 7 0).bind fun v11 =>
  (xob H7 v11 8).bind fun b13 =>
  x_bd2 (F_X8_take N v11 (some (H7.2.2.2 10)) H7) fun v14 H12 =>
  if v14 = 0 then ((F_X7_tellBet_J155 N) x0 x1 x2 x3 s0 v9 H12) else ((F_X7_tellBet_J156 N) x0 x1 x2 x3 s0 v9 (1 : Int32) H12))))
set_option maxRecDepth 20000 in
set_option maxHeartbeats 4000000 in
theorem P_X7_tellBet_J104 {N : Nat} {Z : xZ} {rv : Int32} {Hf : xH} (hZ : Z = xZm cX7_tellBet yX7_tellBet 11 50 (some .boolean) (some (.int rv)) Hf) : ∀ (x0 : (Option Nat)) (x1 : Int32) (x2 : Int32) (x3 : Int32) (s0 : Int32) (H : xH), F_X7_tellBet_J104 N x0 x1 x2 x3 s0 H = some (rv, Hf) → xWq Z H 104 [xA x0, xI x1, xI x2, xI x3, xN, xN, xN, xN, xN, xN, xN] [.int s0] := by
  have hz : Z.1 = (cX7_tellBet, yX7_tellBet, 11) := by rw [hZ]; rfl
  have hδ : Z.2.1 = 50 := by rw [hZ]; rfl
  intro x0 x1 x2 x3 s0 H h
  unfold F_X7_tellBet_J104 at h
  refine x_istore (pl' := [xA x0, xI x1, xI x2, xI x3, xI s0, xN, xN, xN, xN, xN, xN]) hz dX7_tellBet_104 (by decide) rfl ?_
  refine x_iload hz dX7_tellBet_106 rfl ?_
  refine x_if_lt (t := 124) hz dX7_tellBet_108 (by decide) (fun c1 => ?_) (fun c1 => ?_)
  · replace h := x_ip c1 h
    refine x_iconst (v := (0 : Int32)) hz dX7_tellBet_124 (by decide) ?_
    cases h
    exact x_zret01 hZ (Or.inl rfl) dX7_tellBet_125
  · replace h := x_in c1 h
    refine x_aload_n hz dX7_tellBet_111 rfl ?_
    obtain ⟨v2, e_v2, h⟩ := x_bnd h
    refine x_getA hz dX7_tellBet_112 fs_X7_9 e_v2 ?_
    refine x_gets (i := 9) hz dX7_tellBet_115 (by decide) gw_X7_128 ?_
    obtain ⟨b4, e_b4, h⟩ := x_bnd h
    obtain ⟨v5, H3, e_H3, h⟩ := x_b2 h
    refine x_callVi (as := [.inr (.inr (some (H.2.2.2 9)))]) (st := []) cs_X7_31 (ci := 8) ⟨rfl, rfl⟩ rfl rfl hz (by omega) (by decide) dX7_tellBet_118 e_b4 (M_X8_take e_H3) ?_
    refine x_if_ne (t := 126) hz dX7_tellBet_121 (by decide) (fun c6 => ?_) (fun c6 => ?_)
    · replace h := x_in c6 h
      refine x_aload_n hz dX7_tellBet_126 rfl ?_
      refine x_iconst (v := (0 : Int32)) hz dX7_tellBet_127 (by decide) ?_
      obtain ⟨b8, e_b8, h⟩ := x_bnd h
      obtain ⟨v9, H7, e_H7, h⟩ := x_b2 h
      refine x_callVa (as := [.inl (0 : Int32)]) (st := []) cs_X7_131 (ci := 7) ⟨rfl, rfl⟩ rfl rfl hz (by omega) (by decide) dX7_tellBet_128 e_b8 (M_X7_any e_H7) ?_
      refine x_astore (pl' := [xA x0, xI x1, xI x2, xI x3, xI s0, xA v9, xN, xN, xN, xN, xN]) hz dX7_tellBet_131 (by decide) rfl ?_
      refine x_aload hz dX7_tellBet_133 rfl ?_
      refine x_ifnull (t := 155) hz dX7_tellBet_135 (by decide) (fun c10 => ?_) (fun c10 => ?_)
      · replace h := x_ip c10 h
        exact x_wk (xwk_c (xwk_c (xwk_c (xwk_c (xwk_c (xwk_c (xwk_n (xwk_n (xwk_n (xwk_n (xwk_n xwk_0))))))))))) ((P_X7_tellBet_J155 hZ) x0 x1 x2 x3 s0 v9 H7 h)
      · replace h := x_in c10 h
        refine x_aload_n hz dX7_tellBet_138 rfl ?_
        obtain ⟨v11, e_v11, h⟩ := x_bnd h
        refine x_getA hz dX7_tellBet_139 fs_X7_9 e_v11 ?_
        refine x_gets (i := 10) hz dX7_tellBet_142 (by decide) gw_X7_135 ?_
        obtain ⟨b13, e_b13, h⟩ := x_bnd h
        obtain ⟨v14, H12, e_H12, h⟩ := x_b2 h
        refine x_callVi (as := [.inr (.inr (some (H7.2.2.2 10)))]) (st := []) cs_X7_31 (ci := 8) ⟨rfl, rfl⟩ rfl rfl hz (by omega) (by decide) dX7_tellBet_145 e_b13 (M_X8_take e_H12) ?_
        refine x_if_eq (t := 155) hz dX7_tellBet_148 (by decide) (fun c15 => ?_) (fun c15 => ?_)
        · replace h := x_ip c15 h
          exact x_wk (xwk_c (xwk_c (xwk_c (xwk_c (xwk_c (xwk_c (xwk_n (xwk_n (xwk_n (xwk_n (xwk_n xwk_0))))))))))) ((P_X7_tellBet_J155 hZ) x0 x1 x2 x3 s0 v9 H12 h)
        · replace h := x_in c15 h
          refine x_iconst (v := (1 : Int32)) hz dX7_tellBet_151 (by decide) ?_
          refine x_goto (t := 156) hz dX7_tellBet_152 (by decide) ?_
          exact x_wk (xwk_c (xwk_c (xwk_c (xwk_c (xwk_c (xwk_c (xwk_n (xwk_n (xwk_n (xwk_n (xwk_n xwk_0))))))))))) ((P_X7_tellBet_J156 hZ) x0 x1 x2 x3 s0 v9 (1 : Int32) H12 h)
    · replace h := x_ip c6 h
      refine x_iconst (v := (0 : Int32)) hz dX7_tellBet_124 (by decide) ?_
      cases h
      exact x_zret01 hZ (Or.inl rfl) dX7_tellBet_125
noncomputable def F_X7_tellBet_J42 (N : Nat) (x0 : (Option Nat)) (x1 : Int32) (s0 : Int32) (H : xH) : Option (Int32 × xH) :=
  if s0 < 0 then (some ((0 : Int32), H)) else ((xgA H x0 7 0).bind fun v2 =>
  (xob H v2 8).bind fun b4 =>
  x_bd2 (F_X8_take N v2 (some (H.2.2.2 8)) H) fun v5 H3 =>
  if v5 = 0 then (some ((0 : Int32), H3)) else ((xgA H3 x0 7 0).bind fun v7 =>
  (xob H3 v7 8).bind fun b9 =>
  x_bd2 (F_X8_takeNumber N v7 (1 : Int32) (999 : Int32) H3) fun v10 H8 =>
  if 0 ≤ v10 then ((xgA H8 x0 7 0).bind fun v12 =>
  (xgA H8 x0 7 1).bind fun v13 =>
  (xgA H8 v13 2 8).bind fun v14 =>
  (xgA H8 x0 7 1).bind fun v15 =>
  (xgI H8 v15 2 1).bind fun v16 =>
  (xob H8 v12 8).bind fun b18 =>
  x_bd2 (F_X8_takeTold N v12 v14 v16 x1 H8) fun v19 H17 =>
  (F_X7_tellBet_J104 N) x0 x1 s0 v10 v19 H17) else ((F_X7_tellBet_J104 N) x0 x1 s0 v10 (-1 : Int32) H8)))
set_option maxRecDepth 20000 in
set_option maxHeartbeats 4000000 in
theorem P_X7_tellBet_J42 {N : Nat} {Z : xZ} {rv : Int32} {Hf : xH} (hZ : Z = xZm cX7_tellBet yX7_tellBet 11 50 (some .boolean) (some (.int rv)) Hf) : ∀ (x0 : (Option Nat)) (x1 : Int32) (s0 : Int32) (H : xH), F_X7_tellBet_J42 N x0 x1 s0 H = some (rv, Hf) → xWq Z H 42 [xA x0, xI x1, xN, xN, xN, xN, xN, xN, xN, xN, xN] [.int s0] := by
  have hz : Z.1 = (cX7_tellBet, yX7_tellBet, 11) := by rw [hZ]; rfl
  have hδ : Z.2.1 = 50 := by rw [hZ]; rfl
  intro x0 x1 s0 H h
  unfold F_X7_tellBet_J42 at h
  refine x_istore_n (pl' := [xA x0, xI x1, xI s0, xN, xN, xN, xN, xN, xN, xN, xN]) hz dX7_tellBet_42 (by decide) rfl ?_
  refine x_iload_n hz dX7_tellBet_43 rfl ?_
  refine x_if_lt (t := 60) hz dX7_tellBet_44 (by decide) (fun c1 => ?_) (fun c1 => ?_)
  · replace h := x_ip c1 h
    refine x_iconst (v := (0 : Int32)) hz dX7_tellBet_60 (by decide) ?_
    cases h
    exact x_zret01 hZ (Or.inl rfl) dX7_tellBet_61
  · replace h := x_in c1 h
    refine x_aload_n hz dX7_tellBet_47 rfl ?_
    obtain ⟨v2, e_v2, h⟩ := x_bnd h
    refine x_getA hz dX7_tellBet_48 fs_X7_9 e_v2 ?_
    refine x_gets (i := 8) hz dX7_tellBet_51 (by decide) gw_X7_125 ?_
    obtain ⟨b4, e_b4, h⟩ := x_bnd h
    obtain ⟨v5, H3, e_H3, h⟩ := x_b2 h
    refine x_callVi (as := [.inr (.inr (some (H.2.2.2 8)))]) (st := []) cs_X7_31 (ci := 8) ⟨rfl, rfl⟩ rfl rfl hz (by omega) (by decide) dX7_tellBet_54 e_b4 (M_X8_take e_H3) ?_
    refine x_if_ne (t := 62) hz dX7_tellBet_57 (by decide) (fun c6 => ?_) (fun c6 => ?_)
    · replace h := x_in c6 h
      refine x_aload_n hz dX7_tellBet_62 rfl ?_
      obtain ⟨v7, e_v7, h⟩ := x_bnd h
      refine x_getA hz dX7_tellBet_63 fs_X7_9 e_v7 ?_
      refine x_iconst (v := (1 : Int32)) hz dX7_tellBet_66 (by decide) ?_
      refine x_sipush (v := (999 : Int32)) hz dX7_tellBet_67 (by decide) ?_
      obtain ⟨b9, e_b9, h⟩ := x_bnd h
      obtain ⟨v10, H8, e_H8, h⟩ := x_b2 h
      refine x_callVi (as := [.inl (1 : Int32), .inl (999 : Int32)]) (st := []) cs_X7_89 (ci := 8) ⟨rfl, rfl⟩ rfl rfl hz (by omega) (by decide) dX7_tellBet_70 e_b9 (M_X8_takeNumber e_H8) ?_
      refine x_istore_n (pl' := [xA x0, xI x1, xI s0, xI v10, xN, xN, xN, xN, xN, xN, xN]) hz dX7_tellBet_73 (by decide) rfl ?_
      refine x_iload_n hz dX7_tellBet_74 rfl ?_
      refine x_if_ge (t := 82) hz dX7_tellBet_75 (by decide) (fun c11 => ?_) (fun c11 => ?_)
      · replace h := x_ip c11 h
        refine x_aload_n hz dX7_tellBet_82 rfl ?_
        obtain ⟨v12, e_v12, h⟩ := x_bnd h
        refine x_getA hz dX7_tellBet_83 fs_X7_9 e_v12 ?_
        refine x_aload_n hz dX7_tellBet_86 rfl ?_
        obtain ⟨v13, e_v13, h⟩ := x_bnd h
        refine x_getA hz dX7_tellBet_87 fs_X7_15 e_v13 ?_
        obtain ⟨v14, e_v14, h⟩ := x_bnd h
        refine x_getA hz dX7_tellBet_90 fs_X7_122 e_v14 ?_
        refine x_aload_n hz dX7_tellBet_93 rfl ?_
        obtain ⟨v15, e_v15, h⟩ := x_bnd h
        refine x_getA hz dX7_tellBet_94 fs_X7_15 e_v15 ?_
        obtain ⟨v16, e_v16, h⟩ := x_bnd h
        refine x_getI hz dX7_tellBet_97 fs_X7_100 e_v16 ?_
        refine x_iload_n hz dX7_tellBet_100 rfl ?_
        obtain ⟨b18, e_b18, h⟩ := x_bnd h
        obtain ⟨v19, H17, e_H17, h⟩ := x_b2 h
        refine x_callVi (as := [.inr (.inr v14), .inl v16, .inl x1]) (st := []) cs_X7_111 (ci := 8) ⟨rfl, rfl⟩ rfl rfl hz (by omega) (by decide) dX7_tellBet_101 e_b18 (M_X8_takeTold e_H17) ?_
        exact x_wk (xwk_c (xwk_c (xwk_c (xwk_c (xwk_n (xwk_n (xwk_n (xwk_n (xwk_n (xwk_n (xwk_n xwk_0))))))))))) ((P_X7_tellBet_J104 hZ) x0 x1 s0 v10 v19 H17 h)
      · replace h := x_in c11 h
        refine x_iconst (v := (-1 : Int32)) hz dX7_tellBet_78 (by decide) ?_
        refine x_goto (t := 104) hz dX7_tellBet_79 (by decide) ?_
        exact x_wk (xwk_c (xwk_c (xwk_c (xwk_c (xwk_n (xwk_n (xwk_n (xwk_n (xwk_n (xwk_n (xwk_n xwk_0))))))))))) ((P_X7_tellBet_J104 hZ) x0 x1 s0 v10 (-1 : Int32) H8 h)
    · replace h := x_ip c6 h
      refine x_iconst (v := (0 : Int32)) hz dX7_tellBet_60 (by decide) ?_
      cases h
      exact x_zret01 hZ (Or.inl rfl) dX7_tellBet_61
noncomputable def F_X7_tellBet (N : Nat) (a0 : (Option Nat)) (H : xH) : Option (Int32 × xH) :=
  (xgA H a0 7 0).bind fun v1 =>
  (xgA H a0 7 1).bind fun v2 =>
  (xgA H v2 2 8).bind fun v3 =>
  (xgA H a0 7 1).bind fun v4 =>
  (xgI H v4 2 1).bind fun v5 =>
  (xob H v1 8).bind fun b7 =>
  x_bd2 (F_X8_takeTold N v1 v3 v5 (-1 : Int32) H) fun v8 H6 =>
  if 0 ≤ v8 then ((xgA H6 a0 7 0).bind fun v10 =>
  (xob H6 v10 8).bind fun b12 =>
  x_bd2 (F_X8_takeNumber N v10 (1 : Int32) (999 : Int32) H6) fun v13 H11 =>
  (F_X7_tellBet_J42 N) a0 v8 v13 H11) else ((F_X7_tellBet_J42 N) a0 v8 (-1 : Int32) H6)
set_option maxRecDepth 20000 in
set_option maxHeartbeats 4000000 in
theorem P_X7_tellBet {N : Nat} {Z : xZ} {rv : Int32} {Hf : xH} (hZ : Z = xZm cX7_tellBet yX7_tellBet 11 50 (some .boolean) (some (.int rv)) Hf) : ∀ (a0 : (Option Nat)) (H : xH), F_X7_tellBet N a0 H = some (rv, Hf) → xWq Z H 0 [xA a0, xN, xN, xN, xN, xN, xN, xN, xN, xN, xN] [] := by
  have hz : Z.1 = (cX7_tellBet, yX7_tellBet, 11) := by rw [hZ]; rfl
  have hδ : Z.2.1 = 50 := by rw [hZ]; rfl
  intro a0 H h
  unfold F_X7_tellBet at h
  refine x_aload_n hz dX7_tellBet_0 rfl ?_
  obtain ⟨v1, e_v1, h⟩ := x_bnd h
  refine x_getA hz dX7_tellBet_1 fs_X7_9 e_v1 ?_
  refine x_aload_n hz dX7_tellBet_4 rfl ?_
  obtain ⟨v2, e_v2, h⟩ := x_bnd h
  refine x_getA hz dX7_tellBet_5 fs_X7_15 e_v2 ?_
  obtain ⟨v3, e_v3, h⟩ := x_bnd h
  refine x_getA hz dX7_tellBet_8 fs_X7_122 e_v3 ?_
  refine x_aload_n hz dX7_tellBet_11 rfl ?_
  obtain ⟨v4, e_v4, h⟩ := x_bnd h
  refine x_getA hz dX7_tellBet_12 fs_X7_15 e_v4 ?_
  obtain ⟨v5, e_v5, h⟩ := x_bnd h
  refine x_getI hz dX7_tellBet_15 fs_X7_100 e_v5 ?_
  refine x_iconst (v := (-1 : Int32)) hz dX7_tellBet_18 (by decide) ?_
  obtain ⟨b7, e_b7, h⟩ := x_bnd h
  obtain ⟨v8, H6, e_H6, h⟩ := x_b2 h
  refine x_callVi (as := [.inr (.inr v3), .inl v5, .inl (-1 : Int32)]) (st := []) cs_X7_111 (ci := 8) ⟨rfl, rfl⟩ rfl rfl hz (by omega) (by decide) dX7_tellBet_19 e_b7 (M_X8_takeTold e_H6) ?_
  refine x_istore_n (pl' := [xA a0, xI v8, xN, xN, xN, xN, xN, xN, xN, xN, xN]) hz dX7_tellBet_22 (by decide) rfl ?_
  refine x_iload_n hz dX7_tellBet_23 rfl ?_
  refine x_if_ge (t := 31) hz dX7_tellBet_24 (by decide) (fun c9 => ?_) (fun c9 => ?_)
  · replace h := x_ip c9 h
    refine x_aload_n hz dX7_tellBet_31 rfl ?_
    obtain ⟨v10, e_v10, h⟩ := x_bnd h
    refine x_getA hz dX7_tellBet_32 fs_X7_9 e_v10 ?_
    refine x_iconst (v := (1 : Int32)) hz dX7_tellBet_35 (by decide) ?_
    refine x_sipush (v := (999 : Int32)) hz dX7_tellBet_36 (by decide) ?_
    obtain ⟨b12, e_b12, h⟩ := x_bnd h
    obtain ⟨v13, H11, e_H11, h⟩ := x_b2 h
    refine x_callVi (as := [.inl (1 : Int32), .inl (999 : Int32)]) (st := []) cs_X7_89 (ci := 8) ⟨rfl, rfl⟩ rfl rfl hz (by omega) (by decide) dX7_tellBet_39 e_b12 (M_X8_takeNumber e_H11) ?_
    exact x_wk (xwk_c (xwk_c (xwk_n (xwk_n (xwk_n (xwk_n (xwk_n (xwk_n (xwk_n (xwk_n (xwk_n xwk_0))))))))))) ((P_X7_tellBet_J42 hZ) a0 v8 v13 H11 h)
  · replace h := x_in c9 h
    refine x_iconst (v := (-1 : Int32)) hz dX7_tellBet_27 (by decide) ?_
    refine x_goto (t := 42) hz dX7_tellBet_28 (by decide) ?_
    exact x_wk (xwk_c (xwk_c (xwk_n (xwk_n (xwk_n (xwk_n (xwk_n (xwk_n (xwk_n (xwk_n (xwk_n xwk_0))))))))))) ((P_X7_tellBet_J42 hZ) a0 v8 (-1 : Int32) H6 h)
theorem M_X7_tellBet {N : Nat} {a0 : (Option Nat)} {H H1 : xH} {r1 : Int32} (h : F_X7_tellBet N a0 H = some (r1, H1)) : xM yX7_tellBet cX7_tellBet 11 (some .boolean) 50 [.inr (.inr a0)] H (some (.int r1)) H1 :=
  xM_of (by decide +kernel) (xT_tb 489 (by decide +kernel) (by decide +kernel)) (by simp [xargs, x2]) rfl (P_X7_tellBet rfl a0 H h)
/-! BettingBook$Teller.tellAll()Z -/
noncomputable def F_X7_tellAll_J137 (N : Nat) (k2 : (Option Nat) → Int32 → xH → Option (Int32 × xH)) (x0 : (Option Nat)) (x1 : Int32) (s0 : Int32) (H : xH) : Option (Int32 × xH) :=
  if s0 = 0 then (some ((0 : Int32), H)) else ((xgA H x0 7 0).bind fun v2 =>
  (xob H v2 8).bind fun b4 =>
  x_bd2 (F_X8_take_ N v2 (59 : Int32) H) fun v5 H3 =>
  if v5 = 0 then (some ((0 : Int32), H3)) else ((xgA H3 x0 7 1).bind fun v7 =>
  (xgI H3 v7 2 4).bind fun v8 =>
  (xpI H3 v7 2 4 (v8 + (1 : Int32))).bind fun H9 =>
  k2 x0 (x1 + 1) H9))
set_option maxRecDepth 20000 in
set_option maxHeartbeats 4000000 in
theorem P_X7_tellAll_J137 {N : Nat} {Z : xZ} {rv : Int32} {Hf : xH} (hZ : Z = xZm cX7_tellAll yX7_tellAll 3 51 (some .boolean) (some (.int rv)) Hf) {k2 : (Option Nat) → Int32 → xH → Option (Int32 × xH)} (hk2 : ∀ (x0 : (Option Nat)) (x1 : Int32) (H : xH), k2 x0 x1 H = some (rv, Hf) → xWq Z H 2 [xA x0, xI x1, xN] []) : ∀ (x0 : (Option Nat)) (x1 : Int32) (s0 : Int32) (H : xH), F_X7_tellAll_J137 N k2 x0 x1 s0 H = some (rv, Hf) → xWq Z H 137 [xA x0, xI x1, xN] [.int s0] := by
  have hz : Z.1 = (cX7_tellAll, yX7_tellAll, 3) := by rw [hZ]; rfl
  have hδ : Z.2.1 = 51 := by rw [hZ]; rfl
  intro x0 x1 s0 H h
  unfold F_X7_tellAll_J137 at h
  refine x_istore_n (pl' := [xA x0, xI x1, xI s0]) hz dX7_tellAll_137 (by decide) rfl ?_
  refine x_iload_n hz dX7_tellAll_138 rfl ?_
  refine x_if_eq (t := 154) hz dX7_tellAll_139 (by decide) (fun c1 => ?_) (fun c1 => ?_)
  · replace h := x_ip c1 h
    refine x_iconst (v := (0 : Int32)) hz dX7_tellAll_154 (by decide) ?_
    cases h
    exact x_zret01 hZ (Or.inl rfl) dX7_tellAll_155
  · replace h := x_in c1 h
    refine x_aload_n hz dX7_tellAll_142 rfl ?_
    obtain ⟨v2, e_v2, h⟩ := x_bnd h
    refine x_getA hz dX7_tellAll_143 fs_X7_9 e_v2 ?_
    refine x_bipush (v := (59 : Int32)) hz dX7_tellAll_146 (by decide) ?_
    obtain ⟨b4, e_b4, h⟩ := x_bnd h
    obtain ⟨v5, H3, e_H3, h⟩ := x_b2 h
    refine x_callVi (as := [.inl (59 : Int32)]) (st := []) cs_X7_66 (ci := 8) ⟨rfl, rfl⟩ rfl rfl hz (by omega) (by decide) dX7_tellAll_148 e_b4 (M_X8_take_ e_H3) ?_
    refine x_if_ne (t := 156) hz dX7_tellAll_151 (by decide) (fun c6 => ?_) (fun c6 => ?_)
    · replace h := x_in c6 h
      refine x_aload_n hz dX7_tellAll_156 rfl ?_
      obtain ⟨v7, e_v7, h⟩ := x_bnd h
      refine x_getA hz dX7_tellAll_157 fs_X7_15 e_v7 ?_
      refine x_dup hz dX7_tellAll_160 (x_rfc _) ?_
      obtain ⟨v8, e_v8, h⟩ := x_bnd h
      refine x_getI hz dX7_tellAll_161 fs_X7_69 e_v8 ?_
      refine x_iconst (v := (1 : Int32)) hz dX7_tellAll_164 (by decide) ?_
      refine x_iadd hz dX7_tellAll_165 ?_
      obtain ⟨H9, e_H9, h⟩ := x_bnd h
      refine x_putV (v := .int (v8 + (1 : Int32))) hz dX7_tellAll_166 fs_X7_69 rfl rfl e_H9 ?_
      refine x_iinc (w := (x1 + 1)) (pl' := [xA x0, xI (x1 + 1), xI s0]) hz dX7_tellAll_169 rfl rfl (by decide) rfl ?_
      refine x_goto (t := 2) hz dX7_tellAll_172 (by decide) ?_
      exact x_wk (xwk_c (xwk_c (xwk_n xwk_0))) (hk2 x0 (x1 + 1) H9 h)
    · replace h := x_ip c6 h
      refine x_iconst (v := (0 : Int32)) hz dX7_tellAll_154 (by decide) ?_
      cases h
      exact x_zret01 hZ (Or.inl rfl) dX7_tellAll_155
noncomputable def F_X7_tellAll_J136 (N : Nat) (k2 : (Option Nat) → Int32 → xH → Option (Int32 × xH)) (x0 : (Option Nat)) (x1 : Int32) (H : xH) : Option (Int32 × xH) :=
  (F_X7_tellAll_J137 N k2) x0 x1 (0 : Int32) H
set_option maxRecDepth 20000 in
set_option maxHeartbeats 4000000 in
theorem P_X7_tellAll_J136 {N : Nat} {Z : xZ} {rv : Int32} {Hf : xH} (hZ : Z = xZm cX7_tellAll yX7_tellAll 3 51 (some .boolean) (some (.int rv)) Hf) {k2 : (Option Nat) → Int32 → xH → Option (Int32 × xH)} (hk2 : ∀ (x0 : (Option Nat)) (x1 : Int32) (H : xH), k2 x0 x1 H = some (rv, Hf) → xWq Z H 2 [xA x0, xI x1, xN] []) : ∀ (x0 : (Option Nat)) (x1 : Int32) (H : xH), F_X7_tellAll_J136 N k2 x0 x1 H = some (rv, Hf) → xWq Z H 136 [xA x0, xI x1, xN] [] := by
  have hz : Z.1 = (cX7_tellAll, yX7_tellAll, 3) := by rw [hZ]; rfl
  have hδ : Z.2.1 = 51 := by rw [hZ]; rfl
  intro x0 x1 H h
  unfold F_X7_tellAll_J136 at h
  refine x_iconst (v := (0 : Int32)) hz dX7_tellAll_136 (by decide) ?_
  exact x_wk (xwk_c (xwk_c (xwk_n xwk_0))) ((P_X7_tellAll_J137 hZ hk2) x0 x1 (0 : Int32) H h)
noncomputable def F_X7_tellAll_J2 (N : Nat) (k2 : (Option Nat) → Int32 → xH → Option (Int32 × xH)) (k175 : (Option Nat) → xH → Option (Int32 × xH)) (x0 : (Option Nat)) (x1 : Int32) (H : xH) : Option (Int32 × xH) :=
  if (40 : Int32) ≤ x1 then (k175 x0 H) else ((xgA H x0 7 0).bind fun v2 =>
  (xob H v2 8).bind fun b4 =>
  x_bd2 (F_X8_atEnd N v2 H) fun v5 H3 =>
  if v5 = 0 then ((xgA H3 x0 7 0).bind fun v7 =>
  (xob H3 v7 8).bind fun b9 =>
  x_bd2 (F_X8_take N v7 (some (H3.2.2.2 0)) H3) fun v10 H8 =>
  if v10 = 0 then ((xgA H8 x0 7 0).bind fun v12 =>
  (xob H8 v12 8).bind fun b14 =>
  x_bd2 (F_X8_take N v12 (some (H8.2.2.2 3)) H8) fun v15 H13 =>
  if v15 = 0 then ((xgA H13 x0 7 0).bind fun v17 =>
  (xob H13 v17 8).bind fun b19 =>
  x_bd2 (F_X8_take N v17 (some (H13.2.2.2 4)) H13) fun v20 H18 =>
  if v20 = 0 then ((xgA H18 x0 7 0).bind fun v22 =>
  (xob H18 v22 8).bind fun b24 =>
  x_bd2 (F_X8_take N v22 (some (H18.2.2.2 5)) H18) fun v25 H23 =>
  if v25 = 0 then ((xgA H23 x0 7 1).bind fun v27 =>
  (xgI H23 v27 2 2).bind fun v28 =>
  if (12 : Int32) ≤ v28 then ((F_X7_tellAll_J136 N k2) x0 x1 H23) else ((xgA H23 x0 7 0).bind fun v30 =>
  (xob H23 v30 8).bind fun b32 =>
  x_bd2 (F_X8_take N v30 (some (H23.2.2.2 7)) H23) fun v33 H31 =>
  if v33 = 0 then ((F_X7_tellAll_J136 N k2) x0 x1 H31) else ((xob H31 x0 7).bind fun b36 =>
  x_bd2 (F_X7_tellBet N x0 H31) fun v37 H35 =>
  if v37 = 0 then ((F_X7_tellAll_J136 N k2) x0 x1 H35) else ((F_X7_tellAll_J137 N k2) x0 x1 (1 : Int32) H35)))) else ((xob H23 x0 7).bind fun b40 =>
  x_bd2 (F_X7_tellRule N x0 (1 : Int32) H23) fun v41 H39 =>
  (F_X7_tellAll_J137 N k2) x0 x1 v41 H39)) else ((xob H18 x0 7).bind fun b43 =>
  x_bd2 (F_X7_tellRule N x0 (0 : Int32) H18) fun v44 H42 =>
  (F_X7_tellAll_J137 N k2) x0 x1 v44 H42)) else ((xob H13 x0 7).bind fun b46 =>
  x_bd2 (F_X7_tellMember N x0 H13) fun v47 H45 =>
  (F_X7_tellAll_J137 N k2) x0 x1 v47 H45)) else ((xob H8 x0 7).bind fun b49 =>
  x_bd2 (F_X7_tellThing N x0 H8) fun v50 H48 =>
  (F_X7_tellAll_J137 N k2) x0 x1 v50 H48)) else (k175 x0 H3))
set_option maxRecDepth 20000 in
set_option maxHeartbeats 4000000 in
theorem P_X7_tellAll_J2 {N : Nat} {Z : xZ} {rv : Int32} {Hf : xH} (hZ : Z = xZm cX7_tellAll yX7_tellAll 3 51 (some .boolean) (some (.int rv)) Hf) {k2 : (Option Nat) → Int32 → xH → Option (Int32 × xH)} (hk2 : ∀ (x0 : (Option Nat)) (x1 : Int32) (H : xH), k2 x0 x1 H = some (rv, Hf) → xWq Z H 2 [xA x0, xI x1, xN] []) {k175 : (Option Nat) → xH → Option (Int32 × xH)} (hk175 : ∀ (x0 : (Option Nat)) (H : xH), k175 x0 H = some (rv, Hf) → xWq Z H 175 [xA x0, xN, xN] []) : ∀ (x0 : (Option Nat)) (x1 : Int32) (H : xH), F_X7_tellAll_J2 N k2 k175 x0 x1 H = some (rv, Hf) → xWq Z H 2 [xA x0, xI x1, xN] [] := by
  have hz : Z.1 = (cX7_tellAll, yX7_tellAll, 3) := by rw [hZ]; rfl
  have hδ : Z.2.1 = 51 := by rw [hZ]; rfl
  intro x0 x1 H h
  unfold F_X7_tellAll_J2 at h
  refine x_iload_n hz dX7_tellAll_2 rfl ?_
  refine x_bipush (v := (40 : Int32)) hz dX7_tellAll_3 (by decide) ?_
  refine x_icmp_ge (t := 175) hz dX7_tellAll_5 (by decide) (fun c1 => ?_) (fun c1 => ?_)
  · replace h := x_ip c1 h
    exact x_wk (xwk_c (xwk_n (xwk_n xwk_0))) (hk175 x0 H h)
  · replace h := x_in c1 h
    refine x_aload_n hz dX7_tellAll_8 rfl ?_
    obtain ⟨v2, e_v2, h⟩ := x_bnd h
    refine x_getA hz dX7_tellAll_9 fs_X7_9 e_v2 ?_
    obtain ⟨b4, e_b4, h⟩ := x_bnd h
    obtain ⟨v5, H3, e_H3, h⟩ := x_b2 h
    refine x_callVi (as := []) (st := []) cs_X7_19 (ci := 8) ⟨rfl, rfl⟩ rfl rfl hz (by omega) (by decide) dX7_tellAll_12 e_b4 (M_X8_atEnd e_H3) ?_
    refine x_if_ne (t := 175) hz dX7_tellAll_15 (by decide) (fun c6 => ?_) (fun c6 => ?_)
    · replace h := x_in c6 h
      exact x_wk (xwk_c (xwk_n (xwk_n xwk_0))) (hk175 x0 H3 h)
    · replace h := x_ip c6 h
      refine x_aload_n hz dX7_tellAll_18 rfl ?_
      obtain ⟨v7, e_v7, h⟩ := x_bnd h
      refine x_getA hz dX7_tellAll_19 fs_X7_9 e_v7 ?_
      refine x_gets (i := 0) hz dX7_tellAll_22 (by decide) gw_X7_25 ?_
      obtain ⟨b9, e_b9, h⟩ := x_bnd h
      obtain ⟨v10, H8, e_H8, h⟩ := x_b2 h
      refine x_callVi (as := [.inr (.inr (some (H3.2.2.2 0)))]) (st := []) cs_X7_31 (ci := 8) ⟨rfl, rfl⟩ rfl rfl hz (by omega) (by decide) dX7_tellAll_25 e_b9 (M_X8_take e_H8) ?_
      refine x_if_eq (t := 38) hz dX7_tellAll_28 (by decide) (fun c11 => ?_) (fun c11 => ?_)
      · replace h := x_ip c11 h
        refine x_aload_n hz dX7_tellAll_38 rfl ?_
        obtain ⟨v12, e_v12, h⟩ := x_bnd h
        refine x_getA hz dX7_tellAll_39 fs_X7_9 e_v12 ?_
        refine x_gets (i := 3) hz dX7_tellAll_42 (by decide) gw_X7_38 ?_
        obtain ⟨b14, e_b14, h⟩ := x_bnd h
        obtain ⟨v15, H13, e_H13, h⟩ := x_b2 h
        refine x_callVi (as := [.inr (.inr (some (H8.2.2.2 3)))]) (st := []) cs_X7_31 (ci := 8) ⟨rfl, rfl⟩ rfl rfl hz (by omega) (by decide) dX7_tellAll_45 e_b14 (M_X8_take e_H13) ?_
        refine x_if_eq (t := 58) hz dX7_tellAll_48 (by decide) (fun c16 => ?_) (fun c16 => ?_)
        · replace h := x_ip c16 h
          refine x_aload_n hz dX7_tellAll_58 rfl ?_
          obtain ⟨v17, e_v17, h⟩ := x_bnd h
          refine x_getA hz dX7_tellAll_59 fs_X7_9 e_v17 ?_
          refine x_gets (i := 4) hz dX7_tellAll_62 (by decide) gw_X7_44 ?_
          obtain ⟨b19, e_b19, h⟩ := x_bnd h
          obtain ⟨v20, H18, e_H18, h⟩ := x_b2 h
          refine x_callVi (as := [.inr (.inr (some (H13.2.2.2 4)))]) (st := []) cs_X7_31 (ci := 8) ⟨rfl, rfl⟩ rfl rfl hz (by omega) (by decide) dX7_tellAll_65 e_b19 (M_X8_take e_H18) ?_
          refine x_if_eq (t := 79) hz dX7_tellAll_68 (by decide) (fun c21 => ?_) (fun c21 => ?_)
          · replace h := x_ip c21 h
            refine x_aload_n hz dX7_tellAll_79 rfl ?_
            obtain ⟨v22, e_v22, h⟩ := x_bnd h
            refine x_getA hz dX7_tellAll_80 fs_X7_9 e_v22 ?_
            refine x_gets (i := 5) hz dX7_tellAll_83 (by decide) gw_X7_51 ?_
            obtain ⟨b24, e_b24, h⟩ := x_bnd h
            obtain ⟨v25, H23, e_H23, h⟩ := x_b2 h
            refine x_callVi (as := [.inr (.inr (some (H18.2.2.2 5)))]) (st := []) cs_X7_31 (ci := 8) ⟨rfl, rfl⟩ rfl rfl hz (by omega) (by decide) dX7_tellAll_86 e_b24 (M_X8_take e_H23) ?_
            refine x_if_eq (t := 100) hz dX7_tellAll_89 (by decide) (fun c26 => ?_) (fun c26 => ?_)
            · replace h := x_ip c26 h
              refine x_aload_n hz dX7_tellAll_100 rfl ?_
              obtain ⟨v27, e_v27, h⟩ := x_bnd h
              refine x_getA hz dX7_tellAll_101 fs_X7_15 e_v27 ?_
              obtain ⟨v28, e_v28, h⟩ := x_bnd h
              refine x_getI hz dX7_tellAll_104 fs_X7_54 e_v28 ?_
              refine x_bipush (v := (12 : Int32)) hz dX7_tellAll_107 (by decide) ?_
              refine x_icmp_ge (t := 136) hz dX7_tellAll_109 (by decide) (fun c29 => ?_) (fun c29 => ?_)
              · replace h := x_ip c29 h
                exact x_wk (xwk_c (xwk_c (xwk_n xwk_0))) ((P_X7_tellAll_J136 hZ hk2) x0 x1 H23 h)
              · replace h := x_in c29 h
                refine x_aload_n hz dX7_tellAll_112 rfl ?_
                obtain ⟨v30, e_v30, h⟩ := x_bnd h
                refine x_getA hz dX7_tellAll_113 fs_X7_9 e_v30 ?_
                refine x_gets (i := 7) hz dX7_tellAll_116 (by decide) gw_X7_60 ?_
                obtain ⟨b32, e_b32, h⟩ := x_bnd h
                obtain ⟨v33, H31, e_H31, h⟩ := x_b2 h
                refine x_callVi (as := [.inr (.inr (some (H23.2.2.2 7)))]) (st := []) cs_X7_31 (ci := 8) ⟨rfl, rfl⟩ rfl rfl hz (by omega) (by decide) dX7_tellAll_119 e_b32 (M_X8_take e_H31) ?_
                refine x_if_eq (t := 136) hz dX7_tellAll_122 (by decide) (fun c34 => ?_) (fun c34 => ?_)
                · replace h := x_ip c34 h
                  exact x_wk (xwk_c (xwk_c (xwk_n xwk_0))) ((P_X7_tellAll_J136 hZ hk2) x0 x1 H31 h)
                · replace h := x_in c34 h
                  refine x_aload_n hz dX7_tellAll_125 rfl ?_
                  obtain ⟨b36, e_b36, h⟩ := x_bnd h
                  obtain ⟨v37, H35, e_H35, h⟩ := x_b2 h
                  refine x_callVi (as := []) (st := []) cs_X7_63 (ci := 7) ⟨rfl, rfl⟩ rfl rfl hz (by omega) (by decide) dX7_tellAll_126 e_b36 (M_X7_tellBet e_H35) ?_
                  refine x_if_eq (t := 136) hz dX7_tellAll_129 (by decide) (fun c38 => ?_) (fun c38 => ?_)
                  · replace h := x_ip c38 h
                    exact x_wk (xwk_c (xwk_c (xwk_n xwk_0))) ((P_X7_tellAll_J136 hZ hk2) x0 x1 H35 h)
                  · replace h := x_in c38 h
                    refine x_iconst (v := (1 : Int32)) hz dX7_tellAll_132 (by decide) ?_
                    refine x_goto (t := 137) hz dX7_tellAll_133 (by decide) ?_
                    exact x_wk (xwk_c (xwk_c (xwk_n xwk_0))) ((P_X7_tellAll_J137 hZ hk2) x0 x1 (1 : Int32) H35 h)
            · replace h := x_in c26 h
              refine x_aload_n hz dX7_tellAll_92 rfl ?_
              refine x_iconst (v := (1 : Int32)) hz dX7_tellAll_93 (by decide) ?_
              obtain ⟨b40, e_b40, h⟩ := x_bnd h
              obtain ⟨v41, H39, e_H39, h⟩ := x_b2 h
              refine x_callVi (as := [.inl (1 : Int32)]) (st := []) cs_X7_47 (ci := 7) ⟨rfl, rfl⟩ rfl rfl hz (by omega) (by decide) dX7_tellAll_94 e_b40 (M_X7_tellRule e_H39) ?_
              refine x_goto (t := 137) hz dX7_tellAll_97 (by decide) ?_
              exact x_wk (xwk_c (xwk_c (xwk_n xwk_0))) ((P_X7_tellAll_J137 hZ hk2) x0 x1 v41 H39 h)
          · replace h := x_in c21 h
            refine x_aload_n hz dX7_tellAll_71 rfl ?_
            refine x_iconst (v := (0 : Int32)) hz dX7_tellAll_72 (by decide) ?_
            obtain ⟨b43, e_b43, h⟩ := x_bnd h
            obtain ⟨v44, H42, e_H42, h⟩ := x_b2 h
            refine x_callVi (as := [.inl (0 : Int32)]) (st := []) cs_X7_47 (ci := 7) ⟨rfl, rfl⟩ rfl rfl hz (by omega) (by decide) dX7_tellAll_73 e_b43 (M_X7_tellRule e_H42) ?_
            refine x_goto (t := 137) hz dX7_tellAll_76 (by decide) ?_
            exact x_wk (xwk_c (xwk_c (xwk_n xwk_0))) ((P_X7_tellAll_J137 hZ hk2) x0 x1 v44 H42 h)
        · replace h := x_in c16 h
          refine x_aload_n hz dX7_tellAll_51 rfl ?_
          obtain ⟨b46, e_b46, h⟩ := x_bnd h
          obtain ⟨v47, H45, e_H45, h⟩ := x_b2 h
          refine x_callVi (as := []) (st := []) cs_X7_41 (ci := 7) ⟨rfl, rfl⟩ rfl rfl hz (by omega) (by decide) dX7_tellAll_52 e_b46 (M_X7_tellMember e_H45) ?_
          refine x_goto (t := 137) hz dX7_tellAll_55 (by decide) ?_
          exact x_wk (xwk_c (xwk_c (xwk_n xwk_0))) ((P_X7_tellAll_J137 hZ hk2) x0 x1 v47 H45 h)
      · replace h := x_in c11 h
        refine x_aload_n hz dX7_tellAll_31 rfl ?_
        obtain ⟨b49, e_b49, h⟩ := x_bnd h
        obtain ⟨v50, H48, e_H48, h⟩ := x_b2 h
        refine x_callVi (as := []) (st := []) cs_X7_35 (ci := 7) ⟨rfl, rfl⟩ rfl rfl hz (by omega) (by decide) dX7_tellAll_32 e_b49 (M_X7_tellThing e_H48) ?_
        refine x_goto (t := 137) hz dX7_tellAll_35 (by decide) ?_
        exact x_wk (xwk_c (xwk_c (xwk_n xwk_0))) ((P_X7_tellAll_J137 hZ hk2) x0 x1 v50 H48 h)
noncomputable def F_X7_tellAll_L2 (N : Nat) (k175 : (Option Nat) → xH → Option (Int32 × xH)) : Nat → (Option Nat) → Int32 → xH → Option (Int32 × xH)
  | 0 => fun _ _ _ => none
  | n + 1 => F_X7_tellAll_J2 N (F_X7_tellAll_L2 N k175 n) k175
theorem P_X7_tellAll_L2 {N : Nat} {Z : xZ} {rv : Int32} {Hf : xH} (hZ : Z = xZm cX7_tellAll yX7_tellAll 3 51 (some .boolean) (some (.int rv)) Hf) {k175 : (Option Nat) → xH → Option (Int32 × xH)} (hk175 : ∀ (x0 : (Option Nat)) (H : xH), k175 x0 H = some (rv, Hf) → xWq Z H 175 [xA x0, xN, xN] []) : ∀ (n : Nat) (x0 : (Option Nat)) (x1 : Int32) (H : xH), F_X7_tellAll_L2 N k175 n x0 x1 H = some (rv, Hf) → xWq Z H 2 [xA x0, xI x1, xN] [] := by
  intro n
  induction n with
  | zero => intro _ _ _ h; cases h
  | succ n ih => exact P_X7_tellAll_J2 hZ ih hk175
noncomputable def F_X7_tellAll_J175 (N : Nat) (x0 : (Option Nat)) (H : xH) : Option (Int32 × xH) :=
  (xgA H x0 7 0).bind fun v1 =>
  (xob H v1 8).bind fun b3 =>
  x_bd2 (F_X8_atEnd N v1 H) fun v4 H2 =>
  if v4 = 0 ∨ v4 = 1 then some (v4, H2) else none
set_option maxRecDepth 20000 in
set_option maxHeartbeats 4000000 in
theorem P_X7_tellAll_J175 {N : Nat} {Z : xZ} {rv : Int32} {Hf : xH} (hZ : Z = xZm cX7_tellAll yX7_tellAll 3 51 (some .boolean) (some (.int rv)) Hf) : ∀ (x0 : (Option Nat)) (H : xH), F_X7_tellAll_J175 N x0 H = some (rv, Hf) → xWq Z H 175 [xA x0, xN, xN] [] := by
  have hz : Z.1 = (cX7_tellAll, yX7_tellAll, 3) := by rw [hZ]; rfl
  have hδ : Z.2.1 = 51 := by rw [hZ]; rfl
  intro x0 H h
  unfold F_X7_tellAll_J175 at h
  refine x_aload_n hz dX7_tellAll_175 rfl ?_
  obtain ⟨v1, e_v1, h⟩ := x_bnd h
  refine x_getA hz dX7_tellAll_176 fs_X7_9 e_v1 ?_
  obtain ⟨b3, e_b3, h⟩ := x_bnd h
  obtain ⟨v4, H2, e_H2, h⟩ := x_b2 h
  refine x_callVi (as := []) (st := []) cs_X7_19 (ci := 8) ⟨rfl, rfl⟩ rfl rfl hz (by omega) (by decide) dX7_tellAll_179 e_b3 (M_X8_atEnd e_H2) ?_
  obtain ⟨c5, h⟩ := x_inv h
  cases h
  exact x_zret01 hZ c5 dX7_tellAll_182
noncomputable def F_X7_tellAll (N : Nat) (a0 : (Option Nat)) (H : xH) : Option (Int32 × xH) :=
  (F_X7_tellAll_L2 N (F_X7_tellAll_J175 N) N) a0 (0 : Int32) H
set_option maxRecDepth 20000 in
set_option maxHeartbeats 4000000 in
theorem P_X7_tellAll {N : Nat} {Z : xZ} {rv : Int32} {Hf : xH} (hZ : Z = xZm cX7_tellAll yX7_tellAll 3 51 (some .boolean) (some (.int rv)) Hf) : ∀ (a0 : (Option Nat)) (H : xH), F_X7_tellAll N a0 H = some (rv, Hf) → xWq Z H 0 [xA a0, xN, xN] [] := by
  have hz : Z.1 = (cX7_tellAll, yX7_tellAll, 3) := by rw [hZ]; rfl
  have hδ : Z.2.1 = 51 := by rw [hZ]; rfl
  intro a0 H h
  unfold F_X7_tellAll at h
  refine x_iconst (v := (0 : Int32)) hz dX7_tellAll_0 (by decide) ?_
  refine x_istore_n (pl' := [xA a0, xI (0 : Int32), xN]) hz dX7_tellAll_1 (by decide) rfl ?_
  exact x_wk (xwk_c (xwk_c (xwk_n xwk_0))) ((P_X7_tellAll_L2 hZ (P_X7_tellAll_J175 hZ) N) a0 (0 : Int32) H h)
theorem M_X7_tellAll {N : Nat} {a0 : (Option Nat)} {H H1 : xH} {r1 : Int32} (h : F_X7_tellAll N a0 H = some (r1, H1)) : xM yX7_tellAll cX7_tellAll 3 (some .boolean) 51 [.inr (.inr a0)] H (some (.int r1)) H1 :=
  xM_of (by decide +kernel) (xT_tb 408 (by decide +kernel) (by decide +kernel)) (by simp [xargs, x2]) rfl (P_X7_tellAll rfl a0 H h)
/-! BettingBook$Tokens.init()V -/
noncomputable def F_X8_init (N : Nat) (a0 : (Option Nat)) (H : xH) : Option xH :=
  (a0).bind fun b1 =>
  (xnI .int H (1201 : Int32)).bind fun H2 =>
  (xpA H2 a0 8 0 (some H.2.1)).bind fun H3 =>
  (xnI .int H3 (1201 : Int32)).bind fun H4 =>
  (xpA H4 a0 8 1 (some H3.2.1)).bind fun H5 =>
  (xnJ H5 (1201 : Int32)).bind fun H6 =>
  (xpA H6 a0 8 2 (some H5.2.1)).bind fun H7 =>
  some H7
set_option maxRecDepth 20000 in
set_option maxHeartbeats 4000000 in
theorem P_X8_init {N : Nat} {Z : xZ} {Hf : xH} (hZ : Z = xZm cX8_init yX8_init 1 2 none none Hf) : ∀ (a0 : (Option Nat)) (H : xH), F_X8_init N a0 H = some Hf → xWq Z H 0 [xA a0] [] := by
  have hz : Z.1 = (cX8_init, yX8_init, 1) := by rw [hZ]; rfl
  have hδ : Z.2.1 = 2 := by rw [hZ]; rfl
  intro a0 H h
  unfold F_X8_init at h
  refine x_aload_n hz dX8_init_0 rfl ?_
  obtain ⟨b1, e_b1, h⟩ := x_bnd h
  refine x_objInit e_b1 hz (by omega) (by decide) ol_X8_3 oi_1 oi_2 dX8_init_1 ?_
  refine x_aload_n hz dX8_init_4 rfl ?_
  refine x_sipush (v := (1201 : Int32)) hz dX8_init_5 (by decide) ?_
  obtain ⟨H2, e_H2, h⟩ := x_bnd h
  refine x_newI aw_int hz dX8_init_8 e_H2 ?_
  obtain ⟨H3, e_H3, h⟩ := x_bnd h
  refine x_putF (v := va_rf (some H.2.1)) hz rfl dX8_init_10 fs_X8_9F (x_nra _ _) (x_fta _ _) e_H3 ?_
  refine x_aload_n hz dX8_init_13 rfl ?_
  refine x_sipush (v := (1201 : Int32)) hz dX8_init_14 (by decide) ?_
  obtain ⟨H4, e_H4, h⟩ := x_bnd h
  refine x_newI aw_int hz dX8_init_17 e_H4 ?_
  obtain ⟨H5, e_H5, h⟩ := x_bnd h
  refine x_putF (v := va_rf (some H3.2.1)) hz rfl dX8_init_19 fs_X8_15F (x_nra _ _) (x_fta _ _) e_H5 ?_
  refine x_aload_n hz dX8_init_22 rfl ?_
  refine x_sipush (v := (1201 : Int32)) hz dX8_init_23 (by decide) ?_
  obtain ⟨H6, e_H6, h⟩ := x_bnd h
  refine x_newJ aw_long hz dX8_init_26 e_H6 ?_
  obtain ⟨H7, e_H7, h⟩ := x_bnd h
  refine x_putF (v := va_rf (some H5.2.1)) hz rfl dX8_init_28 fs_X8_18F (x_nra _ _) (x_fta _ _) e_H7 ?_
  cases h
  exact x_vret hZ dX8_init_31
theorem M_X8_init {N : Nat} {a0 : (Option Nat)} {H H1 : xH} (h : F_X8_init N a0 H = some H1) : xM yX8_init cX8_init 1 none 2 [.inr (.inr a0)] H none H1 :=
  xM_of (by decide +kernel) (xT_tb 32 (by decide +kernel) (by decide +kernel)) (by simp [xargs, x2]) rfl (P_X8_init rfl a0 H h)
/-! BettingBook$Tokens.kindOf(I)I -/
noncomputable def F_X8_kindOf_J42 (N : Nat) (x0 : Int32) (H : xH) : Option (Int32 × xH) :=
  if x0 = (59 : Int32) then (some (x0, H)) else (if x0 = (40 : Int32) then (some (x0, H)) else (if x0 = (41 : Int32) then (some (x0, H)) else (some ((4 : Int32), H))))
set_option maxRecDepth 20000 in
set_option maxHeartbeats 4000000 in
theorem P_X8_kindOf_J42 {N : Nat} {Z : xZ} {rv : Int32} {Hf : xH} (hZ : Z = xZm cX8_kindOf yX8_kindOf 1 1 (some .int) (some (.int rv)) Hf) : ∀ (x0 : Int32) (H : xH), F_X8_kindOf_J42 N x0 H = some (rv, Hf) → xWq Z H 42 [xI x0] [] := by
  have hz : Z.1 = (cX8_kindOf, yX8_kindOf, 1) := by rw [hZ]; rfl
  have hδ : Z.2.1 = 1 := by rw [hZ]; rfl
  intro x0 H h
  unfold F_X8_kindOf_J42 at h
  refine x_iload_n hz dX8_kindOf_42 rfl ?_
  refine x_bipush (v := (59 : Int32)) hz dX8_kindOf_43 (by decide) ?_
  refine x_icmp_eq (t := 60) hz dX8_kindOf_45 (by decide) (fun c1 => ?_) (fun c1 => ?_)
  · replace h := x_ip c1 h
    refine x_iload_n hz dX8_kindOf_60 rfl ?_
    refine x_goto (t := 65) hz dX8_kindOf_61 (by decide) ?_
    cases h
    exact x_iret hZ dX8_kindOf_65
  · replace h := x_in c1 h
    refine x_iload_n hz dX8_kindOf_48 rfl ?_
    refine x_bipush (v := (40 : Int32)) hz dX8_kindOf_49 (by decide) ?_
    refine x_icmp_eq (t := 60) hz dX8_kindOf_51 (by decide) (fun c2 => ?_) (fun c2 => ?_)
    · replace h := x_ip c2 h
      refine x_iload_n hz dX8_kindOf_60 rfl ?_
      refine x_goto (t := 65) hz dX8_kindOf_61 (by decide) ?_
      cases h
      exact x_iret hZ dX8_kindOf_65
    · replace h := x_in c2 h
      refine x_iload_n hz dX8_kindOf_54 rfl ?_
      refine x_bipush (v := (41 : Int32)) hz dX8_kindOf_55 (by decide) ?_
      refine x_icmp_ne (t := 64) hz dX8_kindOf_57 (by decide) (fun c3 => ?_) (fun c3 => ?_)
      · replace h := x_in c3 h
        refine x_iconst (v := (4 : Int32)) hz dX8_kindOf_64 (by decide) ?_
        cases h
        exact x_iret hZ dX8_kindOf_65
      · replace h := x_ip c3 h
        refine x_iload_n hz dX8_kindOf_60 rfl ?_
        refine x_goto (t := 65) hz dX8_kindOf_61 (by decide) ?_
        cases h
        exact x_iret hZ dX8_kindOf_65
noncomputable def F_X8_kindOf_J28 (N : Nat) (x0 : Int32) (H : xH) : Option (Int32 × xH) :=
  if x0 < (48 : Int32) then ((F_X8_kindOf_J42 N) x0 H) else (if (57 : Int32) < x0 then ((F_X8_kindOf_J42 N) x0 H) else (some ((3 : Int32), H)))
set_option maxRecDepth 20000 in
set_option maxHeartbeats 4000000 in
theorem P_X8_kindOf_J28 {N : Nat} {Z : xZ} {rv : Int32} {Hf : xH} (hZ : Z = xZm cX8_kindOf yX8_kindOf 1 1 (some .int) (some (.int rv)) Hf) : ∀ (x0 : Int32) (H : xH), F_X8_kindOf_J28 N x0 H = some (rv, Hf) → xWq Z H 28 [xI x0] [] := by
  have hz : Z.1 = (cX8_kindOf, yX8_kindOf, 1) := by rw [hZ]; rfl
  have hδ : Z.2.1 = 1 := by rw [hZ]; rfl
  intro x0 H h
  unfold F_X8_kindOf_J28 at h
  refine x_iload_n hz dX8_kindOf_28 rfl ?_
  refine x_bipush (v := (48 : Int32)) hz dX8_kindOf_29 (by decide) ?_
  refine x_icmp_lt (t := 42) hz dX8_kindOf_31 (by decide) (fun c1 => ?_) (fun c1 => ?_)
  · replace h := x_ip c1 h
    exact x_wk (xwk_c xwk_0) ((P_X8_kindOf_J42 hZ) x0 H h)
  · replace h := x_in c1 h
    refine x_iload_n hz dX8_kindOf_34 rfl ?_
    refine x_bipush (v := (57 : Int32)) hz dX8_kindOf_35 (by decide) ?_
    refine x_icmp_gt (t := 42) hz dX8_kindOf_37 (by decide) (fun c2 => ?_) (fun c2 => ?_)
    · replace h := x_ip c2 h
      exact x_wk (xwk_c xwk_0) ((P_X8_kindOf_J42 hZ) x0 H h)
    · replace h := x_in c2 h
      refine x_iconst (v := (3 : Int32)) hz dX8_kindOf_40 (by decide) ?_
      cases h
      exact x_iret hZ dX8_kindOf_41
noncomputable def F_X8_kindOf (N : Nat) (a0 : Int32) (H : xH) : Option (Int32 × xH) :=
  if a0 = (32 : Int32) then (some ((1 : Int32), H)) else (if a0 = (10 : Int32) then (some ((1 : Int32), H)) else (if a0 < (97 : Int32) then ((F_X8_kindOf_J28 N) a0 H) else (if (122 : Int32) < a0 then ((F_X8_kindOf_J28 N) a0 H) else (some ((2 : Int32), H)))))
set_option maxRecDepth 20000 in
set_option maxHeartbeats 4000000 in
theorem P_X8_kindOf {N : Nat} {Z : xZ} {rv : Int32} {Hf : xH} (hZ : Z = xZm cX8_kindOf yX8_kindOf 1 1 (some .int) (some (.int rv)) Hf) : ∀ (a0 : Int32) (H : xH), F_X8_kindOf N a0 H = some (rv, Hf) → xWq Z H 0 [xI a0] [] := by
  have hz : Z.1 = (cX8_kindOf, yX8_kindOf, 1) := by rw [hZ]; rfl
  have hδ : Z.2.1 = 1 := by rw [hZ]; rfl
  intro a0 H h
  unfold F_X8_kindOf at h
  refine x_iload_n hz dX8_kindOf_0 rfl ?_
  refine x_bipush (v := (32 : Int32)) hz dX8_kindOf_1 (by decide) ?_
  refine x_icmp_eq (t := 12) hz dX8_kindOf_3 (by decide) (fun c1 => ?_) (fun c1 => ?_)
  · replace h := x_ip c1 h
    refine x_iconst (v := (1 : Int32)) hz dX8_kindOf_12 (by decide) ?_
    cases h
    exact x_iret hZ dX8_kindOf_13
  · replace h := x_in c1 h
    refine x_iload_n hz dX8_kindOf_6 rfl ?_
    refine x_bipush (v := (10 : Int32)) hz dX8_kindOf_7 (by decide) ?_
    refine x_icmp_ne (t := 14) hz dX8_kindOf_9 (by decide) (fun c2 => ?_) (fun c2 => ?_)
    · replace h := x_in c2 h
      refine x_iload_n hz dX8_kindOf_14 rfl ?_
      refine x_bipush (v := (97 : Int32)) hz dX8_kindOf_15 (by decide) ?_
      refine x_icmp_lt (t := 28) hz dX8_kindOf_17 (by decide) (fun c3 => ?_) (fun c3 => ?_)
      · replace h := x_ip c3 h
        exact x_wk (xwk_c xwk_0) ((P_X8_kindOf_J28 hZ) a0 H h)
      · replace h := x_in c3 h
        refine x_iload_n hz dX8_kindOf_20 rfl ?_
        refine x_bipush (v := (122 : Int32)) hz dX8_kindOf_21 (by decide) ?_
        refine x_icmp_gt (t := 28) hz dX8_kindOf_23 (by decide) (fun c4 => ?_) (fun c4 => ?_)
        · replace h := x_ip c4 h
          exact x_wk (xwk_c xwk_0) ((P_X8_kindOf_J28 hZ) a0 H h)
        · replace h := x_in c4 h
          refine x_iconst (v := (2 : Int32)) hz dX8_kindOf_26 (by decide) ?_
          cases h
          exact x_iret hZ dX8_kindOf_27
    · replace h := x_ip c2 h
      refine x_iconst (v := (1 : Int32)) hz dX8_kindOf_12 (by decide) ?_
      cases h
      exact x_iret hZ dX8_kindOf_13
theorem M_X8_kindOf {N : Nat} {a0 : Int32} {H H1 : xH} {r1 : Int32} (h : F_X8_kindOf N a0 H = some (r1, H1)) : xM yX8_kindOf cX8_kindOf 1 (some .int) 1 [.inl a0] H (some (.int r1)) H1 :=
  xM_of (by decide +kernel) (xT_tb 378 (by decide +kernel) (by decide +kernel)) (by simp [xargs, x2]) rfl (P_X8_kindOf rfl a0 H h)
/-! BettingBook$Tokens.put(III)V -/
noncomputable def F_X8_put (N : Nat) (a0 : (Option Nat)) (a1 : Int32) (a2 : Int32) (a3 : Int32) (H : xH) : Option xH :=
  (xgA H a0 8 0).bind fun v1 =>
  (F_X11_set N v1 a1 a2 H).bind fun H2 =>
  (xgA H2 a0 8 1).bind fun v3 =>
  (F_X11_set N v3 a1 a3 H2).bind fun H4 =>
  if a1 < 0 then (some H4) else ((xgA H4 a0 8 2).bind fun v6 =>
  (xal .long H4 v6).bind fun v7 =>
  if v7 ≤ a1 then (some H4) else ((xgA H4 a0 8 2).bind fun v9 =>
  (xsJ H4 v9 a1 (0 : Int64)).bind fun H10 =>
  some H10))
set_option maxRecDepth 20000 in
set_option maxHeartbeats 4000000 in
theorem P_X8_put {N : Nat} {Z : xZ} {Hf : xH} (hZ : Z = xZm cX8_put yX8_put 4 2 none none Hf) : ∀ (a0 : (Option Nat)) (a1 : Int32) (a2 : Int32) (a3 : Int32) (H : xH), F_X8_put N a0 a1 a2 a3 H = some Hf → xWq Z H 0 [xA a0, xI a1, xI a2, xI a3] [] := by
  have hz : Z.1 = (cX8_put, yX8_put, 4) := by rw [hZ]; rfl
  have hδ : Z.2.1 = 2 := by rw [hZ]; rfl
  intro a0 a1 a2 a3 H h
  unfold F_X8_put at h
  refine x_aload_n hz dX8_put_0 rfl ?_
  obtain ⟨v1, e_v1, h⟩ := x_bnd h
  refine x_getA hz dX8_put_1 fs_X8_9 e_v1 ?_
  refine x_iload_n hz dX8_put_4 rfl ?_
  refine x_iload_n hz dX8_put_5 rfl ?_
  obtain ⟨H2, e_H2, h⟩ := x_bnd h
  refine x_callSv (as := [.inr (.inr v1), .inl a1, .inl a2]) (st := []) cs_X8_54 rfl rfl hz (by omega) (by decide) dX8_put_6 (M_X11_set e_H2) ?_
  refine x_aload_n hz dX8_put_9 rfl ?_
  obtain ⟨v3, e_v3, h⟩ := x_bnd h
  refine x_getA hz dX8_put_10 fs_X8_15 e_v3 ?_
  refine x_iload_n hz dX8_put_13 rfl ?_
  refine x_iload_n hz dX8_put_14 rfl ?_
  obtain ⟨H4, e_H4, h⟩ := x_bnd h
  refine x_callSv (as := [.inr (.inr v3), .inl a1, .inl a3]) (st := []) cs_X8_54 rfl rfl hz (by omega) (by decide) dX8_put_15 (M_X11_set e_H4) ?_
  refine x_iload_n hz dX8_put_18 rfl ?_
  refine x_if_lt (t := 38) hz dX8_put_19 (by decide) (fun c5 => ?_) (fun c5 => ?_)
  · replace h := x_ip c5 h
    cases h
    exact x_vret hZ dX8_put_38
  · replace h := x_in c5 h
    refine x_iload_n hz dX8_put_22 rfl ?_
    refine x_aload_n hz dX8_put_23 rfl ?_
    obtain ⟨v6, e_v6, h⟩ := x_bnd h
    refine x_getA hz dX8_put_24 fs_X8_18 e_v6 ?_
    obtain ⟨v7, e_v7, h⟩ := x_bnd h
    refine x_alen (t0 := 1) (fun _ => rfl) hz dX8_put_27 e_v7 ?_
    refine x_icmp_ge (t := 38) hz dX8_put_28 (by decide) (fun c8 => ?_) (fun c8 => ?_)
    · replace h := x_ip c8 h
      cases h
      exact x_vret hZ dX8_put_38
    · replace h := x_in c8 h
      refine x_aload_n hz dX8_put_31 rfl ?_
      obtain ⟨v9, e_v9, h⟩ := x_bnd h
      refine x_getA hz dX8_put_32 fs_X8_18 e_v9 ?_
      refine x_iload_n hz dX8_put_35 rfl ?_
      refine x_lconst (v := (0 : Int64)) hz dX8_put_36 (by decide) ?_
      obtain ⟨H10, e_H10, h⟩ := x_bnd h
      refine x_last hz dX8_put_37 e_H10 ?_
      cases h
      exact x_vret hZ dX8_put_38
theorem M_X8_put {N : Nat} {a0 : (Option Nat)} {a1 : Int32} {a2 : Int32} {a3 : Int32} {H H1 : xH} (h : F_X8_put N a0 a1 a2 a3 H = some H1) : xM yX8_put cX8_put 4 none 2 [.inr (.inr a0), .inl a1, .inl a2, .inl a3] H none H1 :=
  xM_of (by decide +kernel) (xT_tb 382 (by decide +kernel) (by decide +kernel)) (by simp [xargs, x2]) rfl (P_X8_put rfl a0 a1 a2 a3 H h)
/-! BettingBook$Tokens.extend(III)V -/
noncomputable def F_X8_extend_J57 (N : Nat) (s0 : (Option Nat)) (s1 : Int32) (s2 : Int64) (H : xH) : Option xH :=
  (xsJ H s0 s1 s2).bind fun H1 =>
  some H1
set_option maxRecDepth 20000 in
set_option maxHeartbeats 4000000 in
theorem P_X8_extend_J57 {N : Nat} {Z : xZ} {Hf : xH} (hZ : Z = xZm cX8_extend yX8_extend 4 2 none none Hf) : ∀ (s0 : (Option Nat)) (s1 : Int32) (s2 : Int64) (H : xH), F_X8_extend_J57 N s0 s1 s2 H = some Hf → xWq Z H 57 [xN, xN, xN, xN] [.long s2, .int s1, va_rf s0] := by
  have hz : Z.1 = (cX8_extend, yX8_extend, 4) := by rw [hZ]; rfl
  have hδ : Z.2.1 = 2 := by rw [hZ]; rfl
  intro s0 s1 s2 H h
  unfold F_X8_extend_J57 at h
  obtain ⟨H1, e_H1, h⟩ := x_bnd h
  refine x_last hz dX8_extend_57 e_H1 ?_
  refine x_goto (t := 95) hz dX8_extend_58 (by decide) ?_
  cases h
  exact x_vret hZ dX8_extend_95
noncomputable def F_X8_extend_J94 (N : Nat) (s0 : (Option Nat)) (s1 : Int32) (s2 : Int64) (H : xH) : Option xH :=
  (xsJ H s0 s1 s2).bind fun H1 =>
  some H1
set_option maxRecDepth 20000 in
set_option maxHeartbeats 4000000 in
theorem P_X8_extend_J94 {N : Nat} {Z : xZ} {Hf : xH} (hZ : Z = xZm cX8_extend yX8_extend 4 2 none none Hf) : ∀ (s0 : (Option Nat)) (s1 : Int32) (s2 : Int64) (H : xH), F_X8_extend_J94 N s0 s1 s2 H = some Hf → xWq Z H 94 [xN, xN, xN, xN] [.long s2, .int s1, va_rf s0] := by
  have hz : Z.1 = (cX8_extend, yX8_extend, 4) := by rw [hZ]; rfl
  have hδ : Z.2.1 = 2 := by rw [hZ]; rfl
  intro s0 s1 s2 H h
  unfold F_X8_extend_J94 at h
  obtain ⟨H1, e_H1, h⟩ := x_bnd h
  refine x_last hz dX8_extend_94 e_H1 ?_
  cases h
  exact x_vret hZ dX8_extend_95
noncomputable def F_X8_extend (N : Nat) (a0 : (Option Nat)) (a1 : Int32) (a2 : Int32) (a3 : Int32) (H : xH) : Option xH :=
  if a1 < 0 then (some H) else ((xgA H a0 8 2).bind fun v2 =>
  (xal .long H v2).bind fun v3 =>
  if a1 < v3 then ((xgA H a0 8 0).bind fun v5 =>
  x_bd2 (F_X11_at N v5 a1 H) fun v7 H6 =>
  if v7 = (2 : Int32) then ((xgA H6 a0 8 2).bind fun v13 =>
  if a3 ≤ (8 : Int32) then ((xgA H6 a0 8 2).bind fun v15 =>
  (xlJ H6 v15 a1).bind fun v16 =>
  (F_X8_extend_J57 N) v13 a1 ((v16 <<< ((5 : Int32).toInt64 &&& 63)) ||| ((((a2 - (97 : Int32)) + (1 : Int32))).toInt64)) H6) else ((F_X8_extend_J57 N) v13 a1 (0 : Int64) H6)) else ((xgA H6 a0 8 2).bind fun v9 =>
  if a3 ≤ (3 : Int32) then ((xgA H6 a0 8 2).bind fun v11 =>
  (xlJ H6 v11 a1).bind fun v12 =>
  (F_X8_extend_J94 N) v9 a1 ((((10 : Int64) * v12) + ((a2).toInt64)) - (48 : Int64)) H6) else ((F_X8_extend_J94 N) v9 a1 (-1 : Int64) H6))) else (some H))
set_option maxRecDepth 20000 in
set_option maxHeartbeats 4000000 in
theorem P_X8_extend {N : Nat} {Z : xZ} {Hf : xH} (hZ : Z = xZm cX8_extend yX8_extend 4 2 none none Hf) : ∀ (a0 : (Option Nat)) (a1 : Int32) (a2 : Int32) (a3 : Int32) (H : xH), F_X8_extend N a0 a1 a2 a3 H = some Hf → xWq Z H 0 [xA a0, xI a1, xI a2, xI a3] [] := by
  have hz : Z.1 = (cX8_extend, yX8_extend, 4) := by rw [hZ]; rfl
  have hδ : Z.2.1 = 2 := by rw [hZ]; rfl
  intro a0 a1 a2 a3 H h
  unfold F_X8_extend at h
  refine x_iload_n hz dX8_extend_0 rfl ?_
  refine x_if_lt (t := 13) hz dX8_extend_1 (by decide) (fun c1 => ?_) (fun c1 => ?_)
  · replace h := x_ip c1 h
    cases h
    exact x_vret hZ dX8_extend_13
  · replace h := x_in c1 h
    refine x_iload_n hz dX8_extend_4 rfl ?_
    refine x_aload_n hz dX8_extend_5 rfl ?_
    obtain ⟨v2, e_v2, h⟩ := x_bnd h
    refine x_getA hz dX8_extend_6 fs_X8_18 e_v2 ?_
    obtain ⟨v3, e_v3, h⟩ := x_bnd h
    refine x_alen (t0 := 1) (fun _ => rfl) hz dX8_extend_9 e_v3 ?_
    refine x_icmp_lt (t := 14) hz dX8_extend_10 (by decide) (fun c4 => ?_) (fun c4 => ?_)
    · replace h := x_ip c4 h
      refine x_aload_n hz dX8_extend_14 rfl ?_
      obtain ⟨v5, e_v5, h⟩ := x_bnd h
      refine x_getA hz dX8_extend_15 fs_X8_9 e_v5 ?_
      refine x_iload_n hz dX8_extend_18 rfl ?_
      obtain ⟨v7, H6, e_H6, h⟩ := x_b2 h
      refine x_callSi (as := [.inr (.inr v5), .inl a1]) (st := []) cs_X8_37 rfl rfl hz (by omega) (by decide) dX8_extend_19 (M_X11_at e_H6) ?_
      refine x_iconst (v := (2 : Int32)) hz dX8_extend_22 (by decide) ?_
      refine x_icmp_ne (t := 61) hz dX8_extend_23 (by decide) (fun c8 => ?_) (fun c8 => ?_)
      · replace h := x_in c8 h
        refine x_aload_n hz dX8_extend_61 rfl ?_
        obtain ⟨v9, e_v9, h⟩ := x_bnd h
        refine x_getA hz dX8_extend_62 fs_X8_18 e_v9 ?_
        refine x_iload_n hz dX8_extend_65 rfl ?_
        refine x_iload_n hz dX8_extend_66 rfl ?_
        refine x_iconst (v := (3 : Int32)) hz dX8_extend_67 (by decide) ?_
        refine x_icmp_le (t := 77) hz dX8_extend_68 (by decide) (fun c10 => ?_) (fun c10 => ?_)
        · replace h := x_ip c10 h
          refine x_ldc2 (v := (10 : Int64)) hz dX8_extend_77 wc_X8_60 ?_
          refine x_aload_n hz dX8_extend_80 rfl ?_
          obtain ⟨v11, e_v11, h⟩ := x_bnd h
          refine x_getA hz dX8_extend_81 fs_X8_18 e_v11 ?_
          refine x_iload_n hz dX8_extend_84 rfl ?_
          obtain ⟨v12, e_v12, h⟩ := x_bnd h
          refine x_lald hz dX8_extend_85 e_v12 ?_
          refine x_lmul hz dX8_extend_86 ?_
          refine x_iload_n hz dX8_extend_87 rfl ?_
          refine x_i2l hz dX8_extend_88 ?_
          refine x_ladd hz dX8_extend_89 ?_
          refine x_ldc2 (v := (48 : Int64)) hz dX8_extend_90 wc_X8_62 ?_
          refine x_lsub hz dX8_extend_93 ?_
          exact x_wk (xwk_n (xwk_n (xwk_n (xwk_n xwk_0)))) ((P_X8_extend_J94 hZ) v9 a1 ((((10 : Int64) * v12) + ((a2).toInt64)) - (48 : Int64)) H6 h)
        · replace h := x_in c10 h
          refine x_ldc2 (v := (-1 : Int64)) hz dX8_extend_71 wc_X8_58 ?_
          refine x_goto (t := 94) hz dX8_extend_74 (by decide) ?_
          exact x_wk (xwk_n (xwk_n (xwk_n (xwk_n xwk_0)))) ((P_X8_extend_J94 hZ) v9 a1 (-1 : Int64) H6 h)
      · replace h := x_ip c8 h
        refine x_aload_n hz dX8_extend_26 rfl ?_
        obtain ⟨v13, e_v13, h⟩ := x_bnd h
        refine x_getA hz dX8_extend_27 fs_X8_18 e_v13 ?_
        refine x_iload_n hz dX8_extend_30 rfl ?_
        refine x_iload_n hz dX8_extend_31 rfl ?_
        refine x_bipush (v := (8 : Int32)) hz dX8_extend_32 (by decide) ?_
        refine x_icmp_le (t := 41) hz dX8_extend_34 (by decide) (fun c14 => ?_) (fun c14 => ?_)
        · replace h := x_ip c14 h
          refine x_aload_n hz dX8_extend_41 rfl ?_
          obtain ⟨v15, e_v15, h⟩ := x_bnd h
          refine x_getA hz dX8_extend_42 fs_X8_18 e_v15 ?_
          refine x_iload_n hz dX8_extend_45 rfl ?_
          obtain ⟨v16, e_v16, h⟩ := x_bnd h
          refine x_lald hz dX8_extend_46 e_v16 ?_
          refine x_iconst (v := (5 : Int32)) hz dX8_extend_47 (by decide) ?_
          refine x_lshl hz dX8_extend_48 ?_
          refine x_iload_n hz dX8_extend_49 rfl ?_
          refine x_bipush (v := (97 : Int32)) hz dX8_extend_50 (by decide) ?_
          refine x_isub hz dX8_extend_52 ?_
          refine x_iconst (v := (1 : Int32)) hz dX8_extend_53 (by decide) ?_
          refine x_iadd hz dX8_extend_54 ?_
          refine x_i2l hz dX8_extend_55 ?_
          refine x_lor hz dX8_extend_56 ?_
          exact x_wk (xwk_n (xwk_n (xwk_n (xwk_n xwk_0)))) ((P_X8_extend_J57 hZ) v13 a1 ((v16 <<< ((5 : Int32).toInt64 &&& 63)) ||| ((((a2 - (97 : Int32)) + (1 : Int32))).toInt64)) H6 h)
        · replace h := x_in c14 h
          refine x_lconst (v := (0 : Int64)) hz dX8_extend_37 (by decide) ?_
          refine x_goto (t := 57) hz dX8_extend_38 (by decide) ?_
          exact x_wk (xwk_n (xwk_n (xwk_n (xwk_n xwk_0)))) ((P_X8_extend_J57 hZ) v13 a1 (0 : Int64) H6 h)
    · replace h := x_in c4 h
      cases h
      exact x_vret hZ dX8_extend_13
theorem M_X8_extend {N : Nat} {a0 : (Option Nat)} {a1 : Int32} {a2 : Int32} {a3 : Int32} {H H1 : xH} (h : F_X8_extend N a0 a1 a2 a3 H = some H1) : xM yX8_extend cX8_extend 4 none 2 [.inr (.inr a0), .inl a1, .inl a2, .inl a3] H none H1 :=
  xM_of (by decide +kernel) (xT_tb 387 (by decide +kernel) (by decide +kernel)) (by simp [xargs, x2]) rfl (P_X8_extend rfl a0 a1 a2 a3 H h)
/-! BettingBook$Tokens.read([BI)V -/
noncomputable def F_X8_read_J142 (N : Nat) (k16 : (Option Nat) → (Option Nat) → Int32 → Int32 → Int32 → Int32 → Int32 → xH → Option xH) (x0 : (Option Nat)) (x1 : (Option Nat)) (x2 : Int32) (x3 : Int32) (x4 : Int32) (x5 : Int32) (x6 : Int32) (H : xH) : Option xH :=
  k16 x0 x1 x2 x3 x4 x5 (x6 + 1) H
set_option maxRecDepth 20000 in
set_option maxHeartbeats 4000000 in
theorem P_X8_read_J142 {N : Nat} {Z : xZ} {Hf : xH} (hZ : Z = xZm cX8_read yX8_read 11 3 none none Hf) {k16 : (Option Nat) → (Option Nat) → Int32 → Int32 → Int32 → Int32 → Int32 → xH → Option xH} (hk16 : ∀ (x0 : (Option Nat)) (x1 : (Option Nat)) (x2 : Int32) (x3 : Int32) (x4 : Int32) (x5 : Int32) (x6 : Int32) (H : xH), k16 x0 x1 x2 x3 x4 x5 x6 H = some Hf → xWq Z H 16 [xA x0, xA x1, xI x2, xI x3, xI x4, xI x5, xI x6, xN, xN, xN, xN] []) : ∀ (x0 : (Option Nat)) (x1 : (Option Nat)) (x2 : Int32) (x3 : Int32) (x4 : Int32) (x5 : Int32) (x6 : Int32) (H : xH), F_X8_read_J142 N k16 x0 x1 x2 x3 x4 x5 x6 H = some Hf → xWq Z H 142 [xA x0, xA x1, xI x2, xI x3, xI x4, xI x5, xI x6, xN, xN, xN, xN] [] := by
  have hz : Z.1 = (cX8_read, yX8_read, 11) := by rw [hZ]; rfl
  have hδ : Z.2.1 = 3 := by rw [hZ]; rfl
  intro x0 x1 x2 x3 x4 x5 x6 H h
  unfold F_X8_read_J142 at h
  refine x_iinc (w := (x6 + 1)) (pl' := [xA x0, xA x1, xI x2, xI x3, xI x4, xI x5, xI (x6 + 1), xN, xN, xN, xN]) hz dX8_read_142 rfl rfl (by decide) rfl ?_
  refine x_goto (t := 16) hz dX8_read_145 (by decide) ?_
  exact x_wk (xwk_c (xwk_c (xwk_c (xwk_c (xwk_c (xwk_c (xwk_c (xwk_n (xwk_n (xwk_n (xwk_n xwk_0))))))))))) (hk16 x0 x1 x2 x3 x4 x5 (x6 + 1) H h)
noncomputable def F_X8_read_J126 (N : Nat) (k16 : (Option Nat) → (Option Nat) → Int32 → Int32 → Int32 → Int32 → Int32 → xH → Option xH) (x0 : (Option Nat)) (x1 : (Option Nat)) (x2 : Int32) (x3 : Int32) (x4 : Int32) (x5 : Int32) (x6 : Int32) (x7 : Int32) (x9 : Int32) (H : xH) : Option xH :=
  if x9 = 0 then ((F_X8_read_J142 N k16) x0 x1 x2 x3 x4 x5 x6 H) else ((xob H x0 8).bind fun b3 =>
  (F_X8_extend N x0 (x3 - (1 : Int32)) x7 x5 H).bind fun H2 =>
  (F_X8_read_J142 N k16) x0 x1 x2 x3 x4 x5 x6 H2)
set_option maxRecDepth 20000 in
set_option maxHeartbeats 4000000 in
theorem P_X8_read_J126 {N : Nat} {Z : xZ} {Hf : xH} (hZ : Z = xZm cX8_read yX8_read 11 3 none none Hf) {k16 : (Option Nat) → (Option Nat) → Int32 → Int32 → Int32 → Int32 → Int32 → xH → Option xH} (hk16 : ∀ (x0 : (Option Nat)) (x1 : (Option Nat)) (x2 : Int32) (x3 : Int32) (x4 : Int32) (x5 : Int32) (x6 : Int32) (H : xH), k16 x0 x1 x2 x3 x4 x5 x6 H = some Hf → xWq Z H 16 [xA x0, xA x1, xI x2, xI x3, xI x4, xI x5, xI x6, xN, xN, xN, xN] []) : ∀ (x0 : (Option Nat)) (x1 : (Option Nat)) (x2 : Int32) (x3 : Int32) (x4 : Int32) (x5 : Int32) (x6 : Int32) (x7 : Int32) (x9 : Int32) (H : xH), F_X8_read_J126 N k16 x0 x1 x2 x3 x4 x5 x6 x7 x9 H = some Hf → xWq Z H 126 [xA x0, xA x1, xI x2, xI x3, xI x4, xI x5, xI x6, xI x7, xN, xI x9, xN] [] := by
  have hz : Z.1 = (cX8_read, yX8_read, 11) := by rw [hZ]; rfl
  have hδ : Z.2.1 = 3 := by rw [hZ]; rfl
  intro x0 x1 x2 x3 x4 x5 x6 x7 x9 H h
  unfold F_X8_read_J126 at h
  refine x_iload hz dX8_read_126 rfl ?_
  refine x_if_eq (t := 142) hz dX8_read_128 (by decide) (fun c1 => ?_) (fun c1 => ?_)
  · replace h := x_ip c1 h
    exact x_wk (xwk_c (xwk_c (xwk_c (xwk_c (xwk_c (xwk_c (xwk_c (xwk_n (xwk_n (xwk_n (xwk_n xwk_0))))))))))) ((P_X8_read_J142 hZ hk16) x0 x1 x2 x3 x4 x5 x6 H h)
  · replace h := x_in c1 h
    refine x_aload_n hz dX8_read_131 rfl ?_
    refine x_iload_n hz dX8_read_132 rfl ?_
    refine x_iconst (v := (1 : Int32)) hz dX8_read_133 (by decide) ?_
    refine x_isub hz dX8_read_134 ?_
    refine x_iload hz dX8_read_135 rfl ?_
    refine x_iload hz dX8_read_137 rfl ?_
    obtain ⟨b3, e_b3, h⟩ := x_bnd h
    obtain ⟨H2, e_H2, h⟩ := x_bnd h
    refine x_callVv (as := [.inl (x3 - (1 : Int32)), .inl x7, .inl x5]) (st := []) cs_X8_34 (ci := 8) ⟨rfl, rfl⟩ rfl rfl hz (by omega) (by decide) dX8_read_139 e_b3 (M_X8_extend e_H2) ?_
    exact x_wk (xwk_c (xwk_c (xwk_c (xwk_c (xwk_c (xwk_c (xwk_c (xwk_n (xwk_n (xwk_n (xwk_n xwk_0))))))))))) ((P_X8_read_J142 hZ hk16) x0 x1 x2 x3 x4 x5 x6 H2 h)
noncomputable def F_X8_read_J101 (N : Nat) (k16 : (Option Nat) → (Option Nat) → Int32 → Int32 → Int32 → Int32 → Int32 → xH → Option xH) (x0 : (Option Nat)) (x1 : (Option Nat)) (x2 : Int32) (x3 : Int32) (x4 : Int32) (x6 : Int32) (x7 : Int32) (x9 : Int32) (x10 : Int32) (s0 : Int32) (H : xH) : Option xH :=
  if x4 = (1 : Int32) then ((F_X8_read_J126 N k16) x0 x1 x2 x3 x4 s0 x6 x7 x9 H) else (if x10 = 0 then ((xob H x0 8).bind fun b4 =>
  (F_X8_put N x0 x3 x4 x6 H).bind fun H3 =>
  (F_X8_read_J126 N k16) x0 x1 x2 (x3 + 1) x4 s0 x6 x7 x9 H3) else ((F_X8_read_J126 N k16) x0 x1 x2 x3 x4 s0 x6 x7 x9 H))
set_option maxRecDepth 20000 in
set_option maxHeartbeats 4000000 in
theorem P_X8_read_J101 {N : Nat} {Z : xZ} {Hf : xH} (hZ : Z = xZm cX8_read yX8_read 11 3 none none Hf) {k16 : (Option Nat) → (Option Nat) → Int32 → Int32 → Int32 → Int32 → Int32 → xH → Option xH} (hk16 : ∀ (x0 : (Option Nat)) (x1 : (Option Nat)) (x2 : Int32) (x3 : Int32) (x4 : Int32) (x5 : Int32) (x6 : Int32) (H : xH), k16 x0 x1 x2 x3 x4 x5 x6 H = some Hf → xWq Z H 16 [xA x0, xA x1, xI x2, xI x3, xI x4, xI x5, xI x6, xN, xN, xN, xN] []) : ∀ (x0 : (Option Nat)) (x1 : (Option Nat)) (x2 : Int32) (x3 : Int32) (x4 : Int32) (x6 : Int32) (x7 : Int32) (x9 : Int32) (x10 : Int32) (s0 : Int32) (H : xH), F_X8_read_J101 N k16 x0 x1 x2 x3 x4 x6 x7 x9 x10 s0 H = some Hf → xWq Z H 101 [xA x0, xA x1, xI x2, xI x3, xI x4, xN, xI x6, xI x7, xN, xI x9, xI x10] [.int s0] := by
  have hz : Z.1 = (cX8_read, yX8_read, 11) := by rw [hZ]; rfl
  have hδ : Z.2.1 = 3 := by rw [hZ]; rfl
  intro x0 x1 x2 x3 x4 x6 x7 x9 x10 s0 H h
  unfold F_X8_read_J101 at h
  refine x_istore (pl' := [xA x0, xA x1, xI x2, xI x3, xI x4, xI s0, xI x6, xI x7, xN, xI x9, xI x10]) hz dX8_read_101 (by decide) rfl ?_
  refine x_iload hz dX8_read_103 rfl ?_
  refine x_iconst (v := (1 : Int32)) hz dX8_read_105 (by decide) ?_
  refine x_icmp_eq (t := 126) hz dX8_read_106 (by decide) (fun c1 => ?_) (fun c1 => ?_)
  · replace h := x_ip c1 h
    exact x_wk (xwk_c (xwk_c (xwk_c (xwk_c (xwk_c (xwk_c (xwk_c (xwk_c (xwk_n (xwk_c (xwk_n xwk_0))))))))))) ((P_X8_read_J126 hZ hk16) x0 x1 x2 x3 x4 s0 x6 x7 x9 H h)
  · replace h := x_in c1 h
    refine x_iload hz dX8_read_109 rfl ?_
    refine x_if_ne (t := 126) hz dX8_read_111 (by decide) (fun c2 => ?_) (fun c2 => ?_)
    · replace h := x_in c2 h
      exact x_wk (xwk_c (xwk_c (xwk_c (xwk_c (xwk_c (xwk_c (xwk_c (xwk_c (xwk_n (xwk_c (xwk_n xwk_0))))))))))) ((P_X8_read_J126 hZ hk16) x0 x1 x2 x3 x4 s0 x6 x7 x9 H h)
    · replace h := x_ip c2 h
      refine x_aload_n hz dX8_read_114 rfl ?_
      refine x_iload_n hz dX8_read_115 rfl ?_
      refine x_iload hz dX8_read_116 rfl ?_
      refine x_iload hz dX8_read_118 rfl ?_
      obtain ⟨b4, e_b4, h⟩ := x_bnd h
      obtain ⟨H3, e_H3, h⟩ := x_bnd h
      refine x_callVv (as := [.inl x3, .inl x4, .inl x6]) (st := []) cs_X8_30 (ci := 8) ⟨rfl, rfl⟩ rfl rfl hz (by omega) (by decide) dX8_read_120 e_b4 (M_X8_put e_H3) ?_
      refine x_iinc (w := (x3 + 1)) (pl' := [xA x0, xA x1, xI x2, xI (x3 + 1), xI x4, xI s0, xI x6, xI x7, xN, xI x9, xI x10]) hz dX8_read_123 rfl rfl (by decide) rfl ?_
      exact x_wk (xwk_c (xwk_c (xwk_c (xwk_c (xwk_c (xwk_c (xwk_c (xwk_c (xwk_n (xwk_c (xwk_n xwk_0))))))))))) ((P_X8_read_J126 hZ hk16) x0 x1 x2 (x3 + 1) x4 s0 x6 x7 x9 H3 h)
noncomputable def F_X8_read_J86 (N : Nat) (k16 : (Option Nat) → (Option Nat) → Int32 → Int32 → Int32 → Int32 → Int32 → xH → Option xH) (x0 : (Option Nat)) (x1 : (Option Nat)) (x2 : Int32) (x3 : Int32) (x4 : Int32) (x5 : Int32) (x6 : Int32) (x7 : Int32) (x9 : Int32) (s0 : Int32) (H : xH) : Option xH :=
  if s0 = 0 then ((F_X8_read_J101 N k16) x0 x1 x2 x3 x4 x6 x7 x9 s0 (1 : Int32) H) else ((F_X8_read_J101 N k16) x0 x1 x2 x3 x4 x6 x7 x9 s0 (x5 + (1 : Int32)) H)
set_option maxRecDepth 20000 in
set_option maxHeartbeats 4000000 in
theorem P_X8_read_J86 {N : Nat} {Z : xZ} {Hf : xH} (hZ : Z = xZm cX8_read yX8_read 11 3 none none Hf) {k16 : (Option Nat) → (Option Nat) → Int32 → Int32 → Int32 → Int32 → Int32 → xH → Option xH} (hk16 : ∀ (x0 : (Option Nat)) (x1 : (Option Nat)) (x2 : Int32) (x3 : Int32) (x4 : Int32) (x5 : Int32) (x6 : Int32) (H : xH), k16 x0 x1 x2 x3 x4 x5 x6 H = some Hf → xWq Z H 16 [xA x0, xA x1, xI x2, xI x3, xI x4, xI x5, xI x6, xN, xN, xN, xN] []) : ∀ (x0 : (Option Nat)) (x1 : (Option Nat)) (x2 : Int32) (x3 : Int32) (x4 : Int32) (x5 : Int32) (x6 : Int32) (x7 : Int32) (x9 : Int32) (s0 : Int32) (H : xH), F_X8_read_J86 N k16 x0 x1 x2 x3 x4 x5 x6 x7 x9 s0 H = some Hf → xWq Z H 86 [xA x0, xA x1, xI x2, xI x3, xI x4, xI x5, xI x6, xI x7, xN, xI x9, xN] [.int s0] := by
  have hz : Z.1 = (cX8_read, yX8_read, 11) := by rw [hZ]; rfl
  have hδ : Z.2.1 = 3 := by rw [hZ]; rfl
  intro x0 x1 x2 x3 x4 x5 x6 x7 x9 s0 H h
  unfold F_X8_read_J86 at h
  refine x_istore (pl' := [xA x0, xA x1, xI x2, xI x3, xI x4, xI x5, xI x6, xI x7, xN, xI x9, xI s0]) hz dX8_read_86 (by decide) rfl ?_
  refine x_iload hz dX8_read_88 rfl ?_
  refine x_if_eq (t := 100) hz dX8_read_90 (by decide) (fun c1 => ?_) (fun c1 => ?_)
  · replace h := x_ip c1 h
    refine x_iconst (v := (1 : Int32)) hz dX8_read_100 (by decide) ?_
    exact x_wk (xwk_c (xwk_c (xwk_c (xwk_c (xwk_c (xwk_n (xwk_c (xwk_c (xwk_n (xwk_c (xwk_c xwk_0))))))))))) ((P_X8_read_J101 hZ hk16) x0 x1 x2 x3 x4 x6 x7 x9 s0 (1 : Int32) H h)
  · replace h := x_in c1 h
    refine x_iload hz dX8_read_93 rfl ?_
    refine x_iconst (v := (1 : Int32)) hz dX8_read_95 (by decide) ?_
    refine x_iadd hz dX8_read_96 ?_
    refine x_goto (t := 101) hz dX8_read_97 (by decide) ?_
    exact x_wk (xwk_c (xwk_c (xwk_c (xwk_c (xwk_c (xwk_n (xwk_c (xwk_c (xwk_n (xwk_c (xwk_c xwk_0))))))))))) ((P_X8_read_J101 hZ hk16) x0 x1 x2 x3 x4 x6 x7 x9 s0 (x5 + (1 : Int32)) H h)
noncomputable def F_X8_read_J85 (N : Nat) (k16 : (Option Nat) → (Option Nat) → Int32 → Int32 → Int32 → Int32 → Int32 → xH → Option xH) (x0 : (Option Nat)) (x1 : (Option Nat)) (x2 : Int32) (x3 : Int32) (x4 : Int32) (x5 : Int32) (x6 : Int32) (x7 : Int32) (x9 : Int32) (H : xH) : Option xH :=
  (F_X8_read_J86 N k16) x0 x1 x2 x3 x4 x5 x6 x7 x9 (0 : Int32) H
set_option maxRecDepth 20000 in
set_option maxHeartbeats 4000000 in
theorem P_X8_read_J85 {N : Nat} {Z : xZ} {Hf : xH} (hZ : Z = xZm cX8_read yX8_read 11 3 none none Hf) {k16 : (Option Nat) → (Option Nat) → Int32 → Int32 → Int32 → Int32 → Int32 → xH → Option xH} (hk16 : ∀ (x0 : (Option Nat)) (x1 : (Option Nat)) (x2 : Int32) (x3 : Int32) (x4 : Int32) (x5 : Int32) (x6 : Int32) (H : xH), k16 x0 x1 x2 x3 x4 x5 x6 H = some Hf → xWq Z H 16 [xA x0, xA x1, xI x2, xI x3, xI x4, xI x5, xI x6, xN, xN, xN, xN] []) : ∀ (x0 : (Option Nat)) (x1 : (Option Nat)) (x2 : Int32) (x3 : Int32) (x4 : Int32) (x5 : Int32) (x6 : Int32) (x7 : Int32) (x9 : Int32) (H : xH), F_X8_read_J85 N k16 x0 x1 x2 x3 x4 x5 x6 x7 x9 H = some Hf → xWq Z H 85 [xA x0, xA x1, xI x2, xI x3, xI x4, xI x5, xI x6, xI x7, xN, xI x9, xN] [] := by
  have hz : Z.1 = (cX8_read, yX8_read, 11) := by rw [hZ]; rfl
  have hδ : Z.2.1 = 3 := by rw [hZ]; rfl
  intro x0 x1 x2 x3 x4 x5 x6 x7 x9 H h
  unfold F_X8_read_J85 at h
  refine x_iconst (v := (0 : Int32)) hz dX8_read_85 (by decide) ?_
  exact x_wk (xwk_c (xwk_c (xwk_c (xwk_c (xwk_c (xwk_c (xwk_c (xwk_c (xwk_n (xwk_c (xwk_n xwk_0))))))))))) ((P_X8_read_J86 hZ hk16) x0 x1 x2 x3 x4 x5 x6 x7 x9 (0 : Int32) H h)
noncomputable def F_X8_read_J67 (N : Nat) (k16 : (Option Nat) → (Option Nat) → Int32 → Int32 → Int32 → Int32 → Int32 → xH → Option xH) (x0 : (Option Nat)) (x1 : (Option Nat)) (x2 : Int32) (x3 : Int32) (x4 : Int32) (x5 : Int32) (x6 : Int32) (x7 : Int32) (x8 : Int32) (s0 : Int32) (H : xH) : Option xH :=
  if s0 = 0 then ((F_X8_read_J85 N k16) x0 x1 x2 x3 x4 x5 x6 x7 s0 H) else (if x4 = x8 then ((F_X8_read_J86 N k16) x0 x1 x2 x3 x4 x5 x6 x7 s0 (1 : Int32) H) else ((F_X8_read_J85 N k16) x0 x1 x2 x3 x4 x5 x6 x7 s0 H))
set_option maxRecDepth 20000 in
set_option maxHeartbeats 4000000 in
theorem P_X8_read_J67 {N : Nat} {Z : xZ} {Hf : xH} (hZ : Z = xZm cX8_read yX8_read 11 3 none none Hf) {k16 : (Option Nat) → (Option Nat) → Int32 → Int32 → Int32 → Int32 → Int32 → xH → Option xH} (hk16 : ∀ (x0 : (Option Nat)) (x1 : (Option Nat)) (x2 : Int32) (x3 : Int32) (x4 : Int32) (x5 : Int32) (x6 : Int32) (H : xH), k16 x0 x1 x2 x3 x4 x5 x6 H = some Hf → xWq Z H 16 [xA x0, xA x1, xI x2, xI x3, xI x4, xI x5, xI x6, xN, xN, xN, xN] []) : ∀ (x0 : (Option Nat)) (x1 : (Option Nat)) (x2 : Int32) (x3 : Int32) (x4 : Int32) (x5 : Int32) (x6 : Int32) (x7 : Int32) (x8 : Int32) (s0 : Int32) (H : xH), F_X8_read_J67 N k16 x0 x1 x2 x3 x4 x5 x6 x7 x8 s0 H = some Hf → xWq Z H 67 [xA x0, xA x1, xI x2, xI x3, xI x4, xI x5, xI x6, xI x7, xI x8, xN, xN] [.int s0] := by
  have hz : Z.1 = (cX8_read, yX8_read, 11) := by rw [hZ]; rfl
  have hδ : Z.2.1 = 3 := by rw [hZ]; rfl
  intro x0 x1 x2 x3 x4 x5 x6 x7 x8 s0 H h
  unfold F_X8_read_J67 at h
  refine x_istore (pl' := [xA x0, xA x1, xI x2, xI x3, xI x4, xI x5, xI x6, xI x7, xI x8, xI s0, xN]) hz dX8_read_67 (by decide) rfl ?_
  refine x_iload hz dX8_read_69 rfl ?_
  refine x_if_eq (t := 85) hz dX8_read_71 (by decide) (fun c1 => ?_) (fun c1 => ?_)
  · replace h := x_ip c1 h
    exact x_wk (xwk_c (xwk_c (xwk_c (xwk_c (xwk_c (xwk_c (xwk_c (xwk_c (xwk_n (xwk_c (xwk_n xwk_0))))))))))) ((P_X8_read_J85 hZ hk16) x0 x1 x2 x3 x4 x5 x6 x7 s0 H h)
  · replace h := x_in c1 h
    refine x_iload hz dX8_read_74 rfl ?_
    refine x_iload hz dX8_read_76 rfl ?_
    refine x_icmp_ne (t := 85) hz dX8_read_78 (by decide) (fun c2 => ?_) (fun c2 => ?_)
    · replace h := x_in c2 h
      exact x_wk (xwk_c (xwk_c (xwk_c (xwk_c (xwk_c (xwk_c (xwk_c (xwk_c (xwk_n (xwk_c (xwk_n xwk_0))))))))))) ((P_X8_read_J85 hZ hk16) x0 x1 x2 x3 x4 x5 x6 x7 s0 H h)
    · replace h := x_ip c2 h
      refine x_iconst (v := (1 : Int32)) hz dX8_read_81 (by decide) ?_
      refine x_goto (t := 86) hz dX8_read_82 (by decide) ?_
      exact x_wk (xwk_c (xwk_c (xwk_c (xwk_c (xwk_c (xwk_c (xwk_c (xwk_c (xwk_n (xwk_c (xwk_n xwk_0))))))))))) ((P_X8_read_J86 hZ hk16) x0 x1 x2 x3 x4 x5 x6 x7 s0 (1 : Int32) H h)
noncomputable def F_X8_read_J62 (N : Nat) (k16 : (Option Nat) → (Option Nat) → Int32 → Int32 → Int32 → Int32 → Int32 → xH → Option xH) (x0 : (Option Nat)) (x1 : (Option Nat)) (x2 : Int32) (x3 : Int32) (x4 : Int32) (x5 : Int32) (x6 : Int32) (x7 : Int32) (x8 : Int32) (H : xH) : Option xH :=
  (F_X8_read_J67 N k16) x0 x1 x2 x3 x4 x5 x6 x7 x8 (1 : Int32) H
set_option maxRecDepth 20000 in
set_option maxHeartbeats 4000000 in
theorem P_X8_read_J62 {N : Nat} {Z : xZ} {Hf : xH} (hZ : Z = xZm cX8_read yX8_read 11 3 none none Hf) {k16 : (Option Nat) → (Option Nat) → Int32 → Int32 → Int32 → Int32 → Int32 → xH → Option xH} (hk16 : ∀ (x0 : (Option Nat)) (x1 : (Option Nat)) (x2 : Int32) (x3 : Int32) (x4 : Int32) (x5 : Int32) (x6 : Int32) (H : xH), k16 x0 x1 x2 x3 x4 x5 x6 H = some Hf → xWq Z H 16 [xA x0, xA x1, xI x2, xI x3, xI x4, xI x5, xI x6, xN, xN, xN, xN] []) : ∀ (x0 : (Option Nat)) (x1 : (Option Nat)) (x2 : Int32) (x3 : Int32) (x4 : Int32) (x5 : Int32) (x6 : Int32) (x7 : Int32) (x8 : Int32) (H : xH), F_X8_read_J62 N k16 x0 x1 x2 x3 x4 x5 x6 x7 x8 H = some Hf → xWq Z H 62 [xA x0, xA x1, xI x2, xI x3, xI x4, xI x5, xI x6, xI x7, xI x8, xN, xN] [] := by
  have hz : Z.1 = (cX8_read, yX8_read, 11) := by rw [hZ]; rfl
  have hδ : Z.2.1 = 3 := by rw [hZ]; rfl
  intro x0 x1 x2 x3 x4 x5 x6 x7 x8 H h
  unfold F_X8_read_J62 at h
  refine x_iconst (v := (1 : Int32)) hz dX8_read_62 (by decide) ?_
  refine x_goto (t := 67) hz dX8_read_63 (by decide) ?_
  exact x_wk (xwk_c (xwk_c (xwk_c (xwk_c (xwk_c (xwk_c (xwk_c (xwk_c (xwk_c (xwk_n (xwk_n xwk_0))))))))))) ((P_X8_read_J67 hZ hk16) x0 x1 x2 x3 x4 x5 x6 x7 x8 (1 : Int32) H h)
noncomputable def F_X8_read_J16 (N : Nat) (k16 : (Option Nat) → (Option Nat) → Int32 → Int32 → Int32 → Int32 → Int32 → xH → Option xH) (k148 : (Option Nat) → Int32 → Int32 → xH → Option xH) (x0 : (Option Nat)) (x1 : (Option Nat)) (x2 : Int32) (x3 : Int32) (x4 : Int32) (x5 : Int32) (x6 : Int32) (H : xH) : Option xH :=
  if x2 ≤ x6 then (k148 x0 x2 x3 H) else ((xal .byte H x1).bind fun v2 =>
  if v2 ≤ x6 then (k148 x0 x2 x3 H) else ((xlI .byte H x1 x6).bind fun v4 =>
  x_bd2 (F_X8_kindOf N (v4 &&& (255 : Int32)) H) fun v6 H5 =>
  if v6 = (2 : Int32) then ((F_X8_read_J62 N k16) x0 x1 x2 x3 v6 x5 x6 (v4 &&& (255 : Int32)) x4 H5) else (if v6 = (3 : Int32) then ((F_X8_read_J62 N k16) x0 x1 x2 x3 v6 x5 x6 (v4 &&& (255 : Int32)) x4 H5) else ((F_X8_read_J67 N k16) x0 x1 x2 x3 v6 x5 x6 (v4 &&& (255 : Int32)) x4 (0 : Int32) H5))))
set_option maxRecDepth 20000 in
set_option maxHeartbeats 4000000 in
theorem P_X8_read_J16 {N : Nat} {Z : xZ} {Hf : xH} (hZ : Z = xZm cX8_read yX8_read 11 3 none none Hf) {k16 : (Option Nat) → (Option Nat) → Int32 → Int32 → Int32 → Int32 → Int32 → xH → Option xH} (hk16 : ∀ (x0 : (Option Nat)) (x1 : (Option Nat)) (x2 : Int32) (x3 : Int32) (x4 : Int32) (x5 : Int32) (x6 : Int32) (H : xH), k16 x0 x1 x2 x3 x4 x5 x6 H = some Hf → xWq Z H 16 [xA x0, xA x1, xI x2, xI x3, xI x4, xI x5, xI x6, xN, xN, xN, xN] []) {k148 : (Option Nat) → Int32 → Int32 → xH → Option xH} (hk148 : ∀ (x0 : (Option Nat)) (x2 : Int32) (x3 : Int32) (H : xH), k148 x0 x2 x3 H = some Hf → xWq Z H 148 [xA x0, xN, xI x2, xI x3, xN, xN, xN, xN, xN, xN, xN] []) : ∀ (x0 : (Option Nat)) (x1 : (Option Nat)) (x2 : Int32) (x3 : Int32) (x4 : Int32) (x5 : Int32) (x6 : Int32) (H : xH), F_X8_read_J16 N k16 k148 x0 x1 x2 x3 x4 x5 x6 H = some Hf → xWq Z H 16 [xA x0, xA x1, xI x2, xI x3, xI x4, xI x5, xI x6, xN, xN, xN, xN] [] := by
  have hz : Z.1 = (cX8_read, yX8_read, 11) := by rw [hZ]; rfl
  have hδ : Z.2.1 = 3 := by rw [hZ]; rfl
  intro x0 x1 x2 x3 x4 x5 x6 H h
  unfold F_X8_read_J16 at h
  refine x_iload hz dX8_read_16 rfl ?_
  refine x_iload_n hz dX8_read_18 rfl ?_
  refine x_icmp_ge (t := 148) hz dX8_read_19 (by decide) (fun c1 => ?_) (fun c1 => ?_)
  · replace h := x_ip c1 h
    exact x_wk (xwk_c (xwk_n (xwk_c (xwk_c (xwk_n (xwk_n (xwk_n (xwk_n (xwk_n (xwk_n (xwk_n xwk_0))))))))))) (hk148 x0 x2 x3 H h)
  · replace h := x_in c1 h
    refine x_iload hz dX8_read_22 rfl ?_
    refine x_aload_n hz dX8_read_24 rfl ?_
    obtain ⟨v2, e_v2, h⟩ := x_bnd h
    refine x_alen (t0 := 2) (fun _ => rfl) hz dX8_read_25 e_v2 ?_
    refine x_icmp_ge (t := 148) hz dX8_read_26 (by decide) (fun c3 => ?_) (fun c3 => ?_)
    · replace h := x_ip c3 h
      exact x_wk (xwk_c (xwk_n (xwk_c (xwk_c (xwk_n (xwk_n (xwk_n (xwk_n (xwk_n (xwk_n (xwk_n xwk_0))))))))))) (hk148 x0 x2 x3 H h)
    · replace h := x_in c3 h
      refine x_aload_n hz dX8_read_29 rfl ?_
      refine x_iload hz dX8_read_30 rfl ?_
      obtain ⟨v4, e_v4, h⟩ := x_bnd h
      refine x_bald hz dX8_read_32 e_v4 ?_
      refine x_sipush (v := (255 : Int32)) hz dX8_read_33 (by decide) ?_
      refine x_iand hz dX8_read_36 ?_
      refine x_istore (pl' := [xA x0, xA x1, xI x2, xI x3, xI x4, xI x5, xI x6, xI (v4 &&& (255 : Int32)), xN, xN, xN]) hz dX8_read_37 (by decide) rfl ?_
      refine x_iload hz dX8_read_39 rfl ?_
      refine x_istore (pl' := [xA x0, xA x1, xI x2, xI x3, xI x4, xI x5, xI x6, xI (v4 &&& (255 : Int32)), xI x4, xN, xN]) hz dX8_read_41 (by decide) rfl ?_
      refine x_iload hz dX8_read_43 rfl ?_
      obtain ⟨v6, H5, e_H5, h⟩ := x_b2 h
      refine x_callSi (as := [.inl (v4 &&& (255 : Int32))]) (st := []) cs_X8_26 rfl rfl hz (by omega) (by decide) dX8_read_45 (M_X8_kindOf e_H5) ?_
      refine x_istore (pl' := [xA x0, xA x1, xI x2, xI x3, xI v6, xI x5, xI x6, xI (v4 &&& (255 : Int32)), xI x4, xN, xN]) hz dX8_read_48 (by decide) rfl ?_
      refine x_iload hz dX8_read_50 rfl ?_
      refine x_iconst (v := (2 : Int32)) hz dX8_read_52 (by decide) ?_
      refine x_icmp_eq (t := 62) hz dX8_read_53 (by decide) (fun c7 => ?_) (fun c7 => ?_)
      · replace h := x_ip c7 h
        exact x_wk (xwk_c (xwk_c (xwk_c (xwk_c (xwk_c (xwk_c (xwk_c (xwk_c (xwk_c (xwk_n (xwk_n xwk_0))))))))))) ((P_X8_read_J62 hZ hk16) x0 x1 x2 x3 v6 x5 x6 (v4 &&& (255 : Int32)) x4 H5 h)
      · replace h := x_in c7 h
        refine x_iload hz dX8_read_56 rfl ?_
        refine x_iconst (v := (3 : Int32)) hz dX8_read_58 (by decide) ?_
        refine x_icmp_ne (t := 66) hz dX8_read_59 (by decide) (fun c8 => ?_) (fun c8 => ?_)
        · replace h := x_in c8 h
          refine x_iconst (v := (0 : Int32)) hz dX8_read_66 (by decide) ?_
          exact x_wk (xwk_c (xwk_c (xwk_c (xwk_c (xwk_c (xwk_c (xwk_c (xwk_c (xwk_c (xwk_n (xwk_n xwk_0))))))))))) ((P_X8_read_J67 hZ hk16) x0 x1 x2 x3 v6 x5 x6 (v4 &&& (255 : Int32)) x4 (0 : Int32) H5 h)
        · replace h := x_ip c8 h
          exact x_wk (xwk_c (xwk_c (xwk_c (xwk_c (xwk_c (xwk_c (xwk_c (xwk_c (xwk_c (xwk_n (xwk_n xwk_0))))))))))) ((P_X8_read_J62 hZ hk16) x0 x1 x2 x3 v6 x5 x6 (v4 &&& (255 : Int32)) x4 H5 h)
noncomputable def F_X8_read_L16 (N : Nat) (k148 : (Option Nat) → Int32 → Int32 → xH → Option xH) : Nat → (Option Nat) → (Option Nat) → Int32 → Int32 → Int32 → Int32 → Int32 → xH → Option xH
  | 0 => fun _ _ _ _ _ _ _ _ => none
  | n + 1 => F_X8_read_J16 N (F_X8_read_L16 N k148 n) k148
theorem P_X8_read_L16 {N : Nat} {Z : xZ} {Hf : xH} (hZ : Z = xZm cX8_read yX8_read 11 3 none none Hf) {k148 : (Option Nat) → Int32 → Int32 → xH → Option xH} (hk148 : ∀ (x0 : (Option Nat)) (x2 : Int32) (x3 : Int32) (H : xH), k148 x0 x2 x3 H = some Hf → xWq Z H 148 [xA x0, xN, xI x2, xI x3, xN, xN, xN, xN, xN, xN, xN] []) : ∀ (n : Nat) (x0 : (Option Nat)) (x1 : (Option Nat)) (x2 : Int32) (x3 : Int32) (x4 : Int32) (x5 : Int32) (x6 : Int32) (H : xH), F_X8_read_L16 N k148 n x0 x1 x2 x3 x4 x5 x6 H = some Hf → xWq Z H 16 [xA x0, xA x1, xI x2, xI x3, xI x4, xI x5, xI x6, xN, xN, xN, xN] [] := by
  intro n
  induction n with
  | zero => intro _ _ _ _ _ _ _ _ h; cases h
  | succ n ih => exact P_X8_read_J16 hZ ih hk148
noncomputable def F_X8_read_J148 (N : Nat) (x0 : (Option Nat)) (x2 : Int32) (x3 : Int32) (H : xH) : Option xH :=
  (xob H x0 8).bind fun b2 =>
  (F_X8_put N x0 x3 (0 : Int32) x2 H).bind fun H1 =>
  some H1
set_option maxRecDepth 20000 in
set_option maxHeartbeats 4000000 in
theorem P_X8_read_J148 {N : Nat} {Z : xZ} {Hf : xH} (hZ : Z = xZm cX8_read yX8_read 11 3 none none Hf) : ∀ (x0 : (Option Nat)) (x2 : Int32) (x3 : Int32) (H : xH), F_X8_read_J148 N x0 x2 x3 H = some Hf → xWq Z H 148 [xA x0, xN, xI x2, xI x3, xN, xN, xN, xN, xN, xN, xN] [] := by
  have hz : Z.1 = (cX8_read, yX8_read, 11) := by rw [hZ]; rfl
  have hδ : Z.2.1 = 3 := by rw [hZ]; rfl
  intro x0 x2 x3 H h
  unfold F_X8_read_J148 at h
  refine x_aload_n hz dX8_read_148 rfl ?_
  refine x_iload_n hz dX8_read_149 rfl ?_
  refine x_iconst (v := (0 : Int32)) hz dX8_read_150 (by decide) ?_
  refine x_iload_n hz dX8_read_151 rfl ?_
  obtain ⟨b2, e_b2, h⟩ := x_bnd h
  obtain ⟨H1, e_H1, h⟩ := x_bnd h
  refine x_callVv (as := [.inl x3, .inl (0 : Int32), .inl x2]) (st := []) cs_X8_30 (ci := 8) ⟨rfl, rfl⟩ rfl rfl hz (by omega) (by decide) dX8_read_152 e_b2 (M_X8_put e_H1) ?_
  cases h
  exact x_vret hZ dX8_read_155
noncomputable def F_X8_read (N : Nat) (a0 : (Option Nat)) (a1 : (Option Nat)) (a2 : Int32) (H : xH) : Option xH :=
  (xpI H a0 8 3 (0 : Int32)).bind fun H1 =>
  (F_X8_read_L16 N (F_X8_read_J148 N) N) a0 a1 a2 (0 : Int32) (1 : Int32) (0 : Int32) (0 : Int32) H1
set_option maxRecDepth 20000 in
set_option maxHeartbeats 4000000 in
theorem P_X8_read {N : Nat} {Z : xZ} {Hf : xH} (hZ : Z = xZm cX8_read yX8_read 11 3 none none Hf) : ∀ (a0 : (Option Nat)) (a1 : (Option Nat)) (a2 : Int32) (H : xH), F_X8_read N a0 a1 a2 H = some Hf → xWq Z H 0 [xA a0, xA a1, xI a2, xN, xN, xN, xN, xN, xN, xN, xN] [] := by
  have hz : Z.1 = (cX8_read, yX8_read, 11) := by rw [hZ]; rfl
  have hδ : Z.2.1 = 3 := by rw [hZ]; rfl
  intro a0 a1 a2 H h
  unfold F_X8_read at h
  refine x_aload_n hz dX8_read_0 rfl ?_
  refine x_iconst (v := (0 : Int32)) hz dX8_read_1 (by decide) ?_
  obtain ⟨H1, e_H1, h⟩ := x_bnd h
  refine x_putV (v := .int (0 : Int32)) hz dX8_read_2 fs_X8_22 rfl rfl e_H1 ?_
  refine x_iconst (v := (0 : Int32)) hz dX8_read_5 (by decide) ?_
  refine x_istore_n (pl' := [xA a0, xA a1, xI a2, xI (0 : Int32), xN, xN, xN, xN, xN, xN, xN]) hz dX8_read_6 (by decide) rfl ?_
  refine x_iconst (v := (1 : Int32)) hz dX8_read_7 (by decide) ?_
  refine x_istore (pl' := [xA a0, xA a1, xI a2, xI (0 : Int32), xI (1 : Int32), xN, xN, xN, xN, xN, xN]) hz dX8_read_8 (by decide) rfl ?_
  refine x_iconst (v := (0 : Int32)) hz dX8_read_10 (by decide) ?_
  refine x_istore (pl' := [xA a0, xA a1, xI a2, xI (0 : Int32), xI (1 : Int32), xI (0 : Int32), xN, xN, xN, xN, xN]) hz dX8_read_11 (by decide) rfl ?_
  refine x_iconst (v := (0 : Int32)) hz dX8_read_13 (by decide) ?_
  refine x_istore (pl' := [xA a0, xA a1, xI a2, xI (0 : Int32), xI (1 : Int32), xI (0 : Int32), xI (0 : Int32), xN, xN, xN, xN]) hz dX8_read_14 (by decide) rfl ?_
  exact x_wk (xwk_c (xwk_c (xwk_c (xwk_c (xwk_c (xwk_c (xwk_c (xwk_n (xwk_n (xwk_n (xwk_n xwk_0))))))))))) ((P_X8_read_L16 hZ (P_X8_read_J148 hZ) N) a0 a1 a2 (0 : Int32) (1 : Int32) (0 : Int32) (0 : Int32) H1 h)
theorem M_X8_read {N : Nat} {a0 : (Option Nat)} {a1 : (Option Nat)} {a2 : Int32} {H H1 : xH} (h : F_X8_read N a0 a1 a2 H = some H1) : xM yX8_read cX8_read 11 none 3 [.inr (.inr a0), .inr (.inr a1), .inl a2] H none H1 :=
  xM_of (by decide +kernel) (xT_tb 375 (by decide +kernel) (by decide +kernel)) (by simp [xargs, x2]) rfl (P_X8_read rfl a0 a1 a2 H h)
/-! BettingBook$Tokens.nextStart()I -/
noncomputable def F_X8_nextStart (N : Nat) (a0 : (Option Nat)) (H : xH) : Option (Int32 × xH) :=
  (xgA H a0 8 1).bind fun v1 =>
  (xgI H a0 8 3).bind fun v2 =>
  x_bd2 (F_X11_at N v1 v2 H) fun v4 H3 =>
  some (v4, H3)
set_option maxRecDepth 20000 in
set_option maxHeartbeats 4000000 in
theorem P_X8_nextStart {N : Nat} {Z : xZ} {rv : Int32} {Hf : xH} (hZ : Z = xZm cX8_nextStart yX8_nextStart 1 2 (some .int) (some (.int rv)) Hf) : ∀ (a0 : (Option Nat)) (H : xH), F_X8_nextStart N a0 H = some (rv, Hf) → xWq Z H 0 [xA a0] [] := by
  have hz : Z.1 = (cX8_nextStart, yX8_nextStart, 1) := by rw [hZ]; rfl
  have hδ : Z.2.1 = 2 := by rw [hZ]; rfl
  intro a0 H h
  unfold F_X8_nextStart at h
  refine x_aload_n hz dX8_nextStart_0 rfl ?_
  obtain ⟨v1, e_v1, h⟩ := x_bnd h
  refine x_getA hz dX8_nextStart_1 fs_X8_15 e_v1 ?_
  refine x_aload_n hz dX8_nextStart_4 rfl ?_
  obtain ⟨v2, e_v2, h⟩ := x_bnd h
  refine x_getI hz dX8_nextStart_5 fs_X8_22 e_v2 ?_
  obtain ⟨v4, H3, e_H3, h⟩ := x_b2 h
  refine x_callSi (as := [.inr (.inr v1), .inl v2]) (st := []) cs_X8_37 rfl rfl hz (by omega) (by decide) dX8_nextStart_8 (M_X11_at e_H3) ?_
  cases h
  exact x_iret hZ dX8_nextStart_11
theorem M_X8_nextStart {N : Nat} {a0 : (Option Nat)} {H H1 : xH} {r1 : Int32} (h : F_X8_nextStart N a0 H = some (r1, H1)) : xM yX8_nextStart cX8_nextStart 1 (some .int) 2 [.inr (.inr a0)] H (some (.int r1)) H1 :=
  xM_of (by decide +kernel) (xT_tb 608 (by decide +kernel) (by decide +kernel)) (by simp [xargs, x2]) rfl (P_X8_nextStart rfl a0 H h)
/-! BettingBook$Winner.init()V -/
noncomputable def F_X9_init (N : Nat) (a0 : (Option Nat)) (H : xH) : Option xH :=
  (a0).bind fun b1 =>
  (xnA (.object "BettingBook$Bet") H (6 : Int32)).bind fun H2 =>
  (xpA H2 a0 9 0 (some H.2.1)).bind fun H3 =>
  (xnI .int H3 (6 : Int32)).bind fun H4 =>
  (xpA H4 a0 9 1 (some H3.2.1)).bind fun H5 =>
  (xnJ H5 (0 : Int32)).bind fun H6 =>
  (xpA H6 a0 9 3 (some H5.2.1)).bind fun H7 =>
  some H7
set_option maxRecDepth 20000 in
set_option maxHeartbeats 4000000 in
theorem P_X9_init {N : Nat} {Z : xZ} {Hf : xH} (hZ : Z = xZm cX9_init yX9_init 1 2 none none Hf) : ∀ (a0 : (Option Nat)) (H : xH), F_X9_init N a0 H = some Hf → xWq Z H 0 [xA a0] [] := by
  have hz : Z.1 = (cX9_init, yX9_init, 1) := by rw [hZ]; rfl
  have hδ : Z.2.1 = 2 := by rw [hZ]; rfl
  intro a0 H h
  unfold F_X9_init at h
  refine x_aload_n hz dX9_init_0 rfl ?_
  obtain ⟨b1, e_b1, h⟩ := x_bnd h
  refine x_objInit e_b1 hz (by omega) (by decide) ol_X9_3 oi_1 oi_2 dX9_init_1 ?_
  refine x_aload_n hz dX9_init_4 rfl ?_
  refine x_bipush (v := (6 : Int32)) hz dX9_init_5 (by decide) ?_
  obtain ⟨H2, e_H2, h⟩ := x_bnd h
  refine x_newA xTq_Bet (fun _ _ _ h9 => h9.2.1) (xT_tb 208 (by decide +kernel) (by decide +kernel)) hz dX9_init_7 e_H2 ?_
  obtain ⟨H3, e_H3, h⟩ := x_bnd h
  refine x_putF (v := va_rf (some H.2.1)) hz rfl dX9_init_10 fs_X9_11F (x_nra _ _) (x_fta _ _) e_H3 ?_
  refine x_aload_n hz dX9_init_13 rfl ?_
  refine x_bipush (v := (6 : Int32)) hz dX9_init_14 (by decide) ?_
  obtain ⟨H4, e_H4, h⟩ := x_bnd h
  refine x_newI aw_int hz dX9_init_16 e_H4 ?_
  obtain ⟨H5, e_H5, h⟩ := x_bnd h
  refine x_putF (v := va_rf (some H3.2.1)) hz rfl dX9_init_18 fs_X9_17F (x_nra _ _) (x_fta _ _) e_H5 ?_
  refine x_aload_n hz dX9_init_21 rfl ?_
  refine x_iconst (v := (0 : Int32)) hz dX9_init_22 (by decide) ?_
  obtain ⟨H6, e_H6, h⟩ := x_bnd h
  refine x_newJ aw_long hz dX9_init_23 e_H6 ?_
  obtain ⟨H7, e_H7, h⟩ := x_bnd h
  refine x_putV (v := va_rf (some H5.2.1)) hz dX9_init_25 fs_X9_21 (x_nra _ _) (x_fta _ _) e_H7 ?_
  cases h
  exact x_vret hZ dX9_init_28
theorem M_X9_init {N : Nat} {a0 : (Option Nat)} {H H1 : xH} (h : F_X9_init N a0 H = some H1) : xM yX9_init cX9_init 1 none 2 [.inr (.inr a0)] H none H1 :=
  xM_of (by decide +kernel) (xT_tb 206 (by decide +kernel) (by decide +kernel)) (by simp [xargs, x2]) rfl (P_X9_init rfl a0 H h)
/-! java/util/Arrays.fill([JJ)V -/
noncomputable def F_J7_fill_d0a16_J6 (N : Nat) (k6 : (Option Nat) → Int64 → Int32 → Int32 → xH → Option xH) (x0 : (Option Nat)) (x1 : Int64) (x3 : Int32) (x4 : Int32) (H : xH) : Option xH :=
  if x4 ≤ x3 then (some H) else ((xsJ H x0 x3 x1).bind fun H2 =>
  k6 x0 x1 (x3 + 1) x4 H2)
set_option maxRecDepth 20000 in
set_option maxHeartbeats 4000000 in
theorem P_J7_fill_d0a16_J6 {N : Nat} {Z : xZ} {Hf : xH} (hZ : Z = xZm cJ7_fill_d0a16 yJ7_fill_d0a16 5 1 none none Hf) {k6 : (Option Nat) → Int64 → Int32 → Int32 → xH → Option xH} (hk6 : ∀ (x0 : (Option Nat)) (x1 : Int64) (x3 : Int32) (x4 : Int32) (H : xH), k6 x0 x1 x3 x4 H = some Hf → xWq Z H 6 [xA x0, xJ x1, xN, xI x3, xI x4] []) : ∀ (x0 : (Option Nat)) (x1 : Int64) (x3 : Int32) (x4 : Int32) (H : xH), F_J7_fill_d0a16_J6 N k6 x0 x1 x3 x4 H = some Hf → xWq Z H 6 [xA x0, xJ x1, xN, xI x3, xI x4] [] := by
  have hz : Z.1 = (cJ7_fill_d0a16, yJ7_fill_d0a16, 5) := by rw [hZ]; rfl
  have hδ : Z.2.1 = 1 := by rw [hZ]; rfl
  intro x0 x1 x3 x4 H h
  unfold F_J7_fill_d0a16_J6 at h
  refine x_iload_n hz dJ7_fill_d0a16_6 rfl ?_
  refine x_iload hz dJ7_fill_d0a16_7 rfl ?_
  refine x_icmp_ge (t := 22) hz dJ7_fill_d0a16_9 (by decide) (fun c1 => ?_) (fun c1 => ?_)
  · replace h := x_ip c1 h
    cases h
    exact x_vret hZ dJ7_fill_d0a16_22
  · replace h := x_in c1 h
    refine x_aload_n hz dJ7_fill_d0a16_12 rfl ?_
    refine x_iload_n hz dJ7_fill_d0a16_13 rfl ?_
    refine x_lload_n hz dJ7_fill_d0a16_14 rfl ?_
    obtain ⟨H2, e_H2, h⟩ := x_bnd h
    refine x_last hz dJ7_fill_d0a16_15 e_H2 ?_
    refine x_iinc (w := (x3 + 1)) (pl' := [xA x0, xJ x1, xN, xI (x3 + 1), xI x4]) hz dJ7_fill_d0a16_16 rfl rfl (by decide) rfl ?_
    refine x_goto (t := 6) hz dJ7_fill_d0a16_19 (by decide) ?_
    exact x_wk (xwk_c (xwk_c (xwk_n (xwk_c (xwk_c xwk_0))))) (hk6 x0 x1 (x3 + 1) x4 H2 h)
noncomputable def F_J7_fill_d0a16_L6 (N : Nat) : Nat → (Option Nat) → Int64 → Int32 → Int32 → xH → Option xH
  | 0 => fun _ _ _ _ _ => none
  | n + 1 => F_J7_fill_d0a16_J6 N (F_J7_fill_d0a16_L6 N n)
theorem P_J7_fill_d0a16_L6 {N : Nat} {Z : xZ} {Hf : xH} (hZ : Z = xZm cJ7_fill_d0a16 yJ7_fill_d0a16 5 1 none none Hf) : ∀ (n : Nat) (x0 : (Option Nat)) (x1 : Int64) (x3 : Int32) (x4 : Int32) (H : xH), F_J7_fill_d0a16_L6 N n x0 x1 x3 x4 H = some Hf → xWq Z H 6 [xA x0, xJ x1, xN, xI x3, xI x4] [] := by
  intro n
  induction n with
  | zero => intro _ _ _ _ _ h; cases h
  | succ n ih => exact P_J7_fill_d0a16_J6 hZ ih
noncomputable def F_J7_fill_d0a16 (N : Nat) (a0 : (Option Nat)) (a1 : Int64) (H : xH) : Option xH :=
  (xal .long H a0).bind fun v1 =>
  (F_J7_fill_d0a16_L6 N N) a0 a1 (0 : Int32) v1 H
set_option maxRecDepth 20000 in
set_option maxHeartbeats 4000000 in
theorem P_J7_fill_d0a16 {N : Nat} {Z : xZ} {Hf : xH} (hZ : Z = xZm cJ7_fill_d0a16 yJ7_fill_d0a16 5 1 none none Hf) : ∀ (a0 : (Option Nat)) (a1 : Int64) (H : xH), F_J7_fill_d0a16 N a0 a1 H = some Hf → xWq Z H 0 [xA a0, xJ a1, xN, xN, xN] [] := by
  have hz : Z.1 = (cJ7_fill_d0a16, yJ7_fill_d0a16, 5) := by rw [hZ]; rfl
  have hδ : Z.2.1 = 1 := by rw [hZ]; rfl
  intro a0 a1 H h
  unfold F_J7_fill_d0a16 at h
  refine x_iconst (v := (0 : Int32)) hz dJ7_fill_d0a16_0 (by decide) ?_
  refine x_istore_n (pl' := [xA a0, xJ a1, xN, xI (0 : Int32), xN]) hz dJ7_fill_d0a16_1 (by decide) rfl ?_
  refine x_aload_n hz dJ7_fill_d0a16_2 rfl ?_
  obtain ⟨v1, e_v1, h⟩ := x_bnd h
  refine x_alen (t0 := 1) (fun _ => rfl) hz dJ7_fill_d0a16_3 e_v1 ?_
  refine x_istore (pl' := [xA a0, xJ a1, xN, xI (0 : Int32), xI v1]) hz dJ7_fill_d0a16_4 (by decide) rfl ?_
  exact x_wk (xwk_c (xwk_c (xwk_n (xwk_c (xwk_c xwk_0))))) ((P_J7_fill_d0a16_L6 hZ N) a0 a1 (0 : Int32) v1 H h)
theorem M_J7_fill_d0a16 {N : Nat} {a0 : (Option Nat)} {a1 : Int64} {H H1 : xH} (h : F_J7_fill_d0a16 N a0 a1 H = some H1) : xM yJ7_fill_d0a16 cJ7_fill_d0a16 5 none 1 [.inr (.inr a0), .inr (.inl a1)] H none H1 :=
  xM_of (by decide +kernel) (xT_tb 886 (by decide +kernel) (by decide +kernel)) (by simp [xargs, x2]) rfl (P_J7_fill_d0a16 rfl a0 a1 H h)
/-! BettingBook.outcome(JI)I -/
noncomputable def F_X11_outcome (N : Nat) (a0 : Int64) (a2 : Int32) (H : xH) : Option (Int32 × xH) :=
  x_bd2 (F_X11_outcomeBits N a0 a2 H) fun v2 H1 =>
  x_bd2 (F_J6_numberOfTrailingZeros_0f7a4 N v2 H1) fun v4 H3 =>
  some (v4, H3)
set_option maxRecDepth 20000 in
set_option maxHeartbeats 4000000 in
theorem P_X11_outcome {N : Nat} {Z : xZ} {rv : Int32} {Hf : xH} (hZ : Z = xZm cX11_outcome yX11_outcome 3 2 (some .int) (some (.int rv)) Hf) : ∀ (a0 : Int64) (a2 : Int32) (H : xH), F_X11_outcome N a0 a2 H = some (rv, Hf) → xWq Z H 0 [xJ a0, xN, xI a2] [] := by
  have hz : Z.1 = (cX11_outcome, yX11_outcome, 3) := by rw [hZ]; rfl
  have hδ : Z.2.1 = 2 := by rw [hZ]; rfl
  intro a0 a2 H h
  unfold F_X11_outcome at h
  refine x_lload_n hz dX11_outcome_0 rfl ?_
  refine x_iload_n hz dX11_outcome_1 rfl ?_
  obtain ⟨v2, H1, e_H1, h⟩ := x_b2 h
  refine x_callSi (as := [.inr (.inl a0), .inl a2]) (st := []) cs_X11_305 rfl rfl hz (by omega) (by decide) dX11_outcome_2 (M_X11_outcomeBits e_H1) ?_
  obtain ⟨v4, H3, e_H3, h⟩ := x_b2 h
  refine x_callSi (as := [.inl v2]) (st := []) cs_X11_308 rfl rfl hz (by omega) (by decide) dX11_outcome_5 (M_J6_numberOfTrailingZeros_0f7a4 e_H3) ?_
  cases h
  exact x_iret hZ dX11_outcome_8
theorem M_X11_outcome {N : Nat} {a0 : Int64} {a2 : Int32} {H H1 : xH} {r1 : Int32} (h : F_X11_outcome N a0 a2 H = some (r1, H1)) : xM yX11_outcome cX11_outcome 3 (some .int) 2 [.inr (.inl a0), .inl a2] H (some (.int r1)) H1 :=
  xM_of (by decide +kernel) (xT_tb 720 (by decide +kernel) (by decide +kernel)) (by simp [xargs, x2]) rfl (P_X11_outcome rfl a0 a2 H h)
/-! BettingBook$Winner.addCombination(J)V -/
noncomputable def F_X9_addCombination_J8 (N : Nat) (k8 : (Option Nat) → Int64 → Int32 → Int64 → Int32 → xH → Option xH) (k60 : (Option Nat) → Int32 → Int64 → xH → Option xH) (x0 : (Option Nat)) (x1 : Int64) (x3 : Int32) (x4 : Int64) (x6 : Int32) (H : xH) : Option xH :=
  (xgI H x0 9 2).bind fun v1 =>
  if v1 ≤ x6 then (k60 x0 x3 x4 H) else ((xgA H x0 9 1).bind fun v3 =>
  x_bd2 (F_X11_at N v3 x6 H) fun v5 H4 =>
  x_bd2 (F_X11_outcome N x1 v5 H4) fun v7 H6 =>
  k8 x0 x1 ((x3 * (5 : Int32)) + v7) (x4 ||| (x1 &&& ((31 : Int64) <<< (((5 : Int32) * v5).toInt64 &&& 63)))) (x6 + 1) H6)
set_option maxRecDepth 20000 in
set_option maxHeartbeats 4000000 in
theorem P_X9_addCombination_J8 {N : Nat} {Z : xZ} {Hf : xH} (hZ : Z = xZm cX9_addCombination yX9_addCombination 8 3 none none Hf) {k8 : (Option Nat) → Int64 → Int32 → Int64 → Int32 → xH → Option xH} (hk8 : ∀ (x0 : (Option Nat)) (x1 : Int64) (x3 : Int32) (x4 : Int64) (x6 : Int32) (H : xH), k8 x0 x1 x3 x4 x6 H = some Hf → xWq Z H 8 [xA x0, xJ x1, xN, xI x3, xJ x4, xN, xI x6, xN] []) {k60 : (Option Nat) → Int32 → Int64 → xH → Option xH} (hk60 : ∀ (x0 : (Option Nat)) (x3 : Int32) (x4 : Int64) (H : xH), k60 x0 x3 x4 H = some Hf → xWq Z H 60 [xA x0, xN, xN, xI x3, xJ x4, xN, xN, xN] []) : ∀ (x0 : (Option Nat)) (x1 : Int64) (x3 : Int32) (x4 : Int64) (x6 : Int32) (H : xH), F_X9_addCombination_J8 N k8 k60 x0 x1 x3 x4 x6 H = some Hf → xWq Z H 8 [xA x0, xJ x1, xN, xI x3, xJ x4, xN, xI x6, xN] [] := by
  have hz : Z.1 = (cX9_addCombination, yX9_addCombination, 8) := by rw [hZ]; rfl
  have hδ : Z.2.1 = 3 := by rw [hZ]; rfl
  intro x0 x1 x3 x4 x6 H h
  unfold F_X9_addCombination_J8 at h
  refine x_iload hz dX9_addCombination_8 rfl ?_
  refine x_aload_n hz dX9_addCombination_10 rfl ?_
  obtain ⟨v1, e_v1, h⟩ := x_bnd h
  refine x_getI hz dX9_addCombination_11 fs_X9_25 e_v1 ?_
  refine x_icmp_ge (t := 60) hz dX9_addCombination_14 (by decide) (fun c2 => ?_) (fun c2 => ?_)
  · replace h := x_ip c2 h
    exact x_wk (xwk_c (xwk_n (xwk_n (xwk_c (xwk_c (xwk_n (xwk_n (xwk_n xwk_0)))))))) (hk60 x0 x3 x4 H h)
  · replace h := x_in c2 h
    refine x_aload_n hz dX9_addCombination_17 rfl ?_
    obtain ⟨v3, e_v3, h⟩ := x_bnd h
    refine x_getA hz dX9_addCombination_18 fs_X9_17 e_v3 ?_
    refine x_iload hz dX9_addCombination_21 rfl ?_
    obtain ⟨v5, H4, e_H4, h⟩ := x_b2 h
    refine x_callSi (as := [.inr (.inr v3), .inl x6]) (st := []) cs_X9_92 rfl rfl hz (by omega) (by decide) dX9_addCombination_23 (M_X11_at e_H4) ?_
    refine x_istore (pl' := [xA x0, xJ x1, xN, xI x3, xJ x4, xN, xI x6, xI v5]) hz dX9_addCombination_26 (by decide) rfl ?_
    refine x_iload_n hz dX9_addCombination_28 rfl ?_
    refine x_iconst (v := (5 : Int32)) hz dX9_addCombination_29 (by decide) ?_
    refine x_imul hz dX9_addCombination_30 ?_
    refine x_lload_n hz dX9_addCombination_31 rfl ?_
    refine x_iload hz dX9_addCombination_32 rfl ?_
    obtain ⟨v7, H6, e_H6, h⟩ := x_b2 h
    refine x_callSi (as := [.inr (.inl x1), .inl v5]) (st := [.int (x3 * (5 : Int32))]) cs_X9_96 rfl rfl hz (by omega) (Nat.le_trans (x_sm1 rfl x_sm0) (by decide)) dX9_addCombination_34 (M_X11_outcome e_H6) ?_
    refine x_iadd hz dX9_addCombination_37 ?_
    refine x_istore_n (pl' := [xA x0, xJ x1, xN, xI ((x3 * (5 : Int32)) + v7), xJ x4, xN, xI x6, xI v5]) hz dX9_addCombination_38 (by decide) rfl ?_
    refine x_lload hz dX9_addCombination_39 rfl ?_
    refine x_lload_n hz dX9_addCombination_41 rfl ?_
    refine x_ldc2 (v := (31 : Int64)) hz dX9_addCombination_42 wc_X9_100 ?_
    refine x_iconst (v := (5 : Int32)) hz dX9_addCombination_45 (by decide) ?_
    refine x_iload hz dX9_addCombination_46 rfl ?_
    refine x_imul hz dX9_addCombination_48 ?_
    refine x_lshl hz dX9_addCombination_49 ?_
    refine x_land hz dX9_addCombination_50 ?_
    refine x_lor hz dX9_addCombination_51 ?_
    refine x_lstore (pl' := [xA x0, xJ x1, xN, xI ((x3 * (5 : Int32)) + v7), xJ (x4 ||| (x1 &&& ((31 : Int64) <<< (((5 : Int32) * v5).toInt64 &&& 63)))), xN, xI x6, xI v5]) hz dX9_addCombination_52 (by decide) rfl ?_
    refine x_iinc (w := (x6 + 1)) (pl' := [xA x0, xJ x1, xN, xI ((x3 * (5 : Int32)) + v7), xJ (x4 ||| (x1 &&& ((31 : Int64) <<< (((5 : Int32) * v5).toInt64 &&& 63)))), xN, xI (x6 + 1), xI v5]) hz dX9_addCombination_54 rfl rfl (by decide) rfl ?_
    refine x_goto (t := 8) hz dX9_addCombination_57 (by decide) ?_
    exact x_wk (xwk_c (xwk_c (xwk_n (xwk_c (xwk_c (xwk_n (xwk_c (xwk_n xwk_0)))))))) (hk8 x0 x1 ((x3 * (5 : Int32)) + v7) (x4 ||| (x1 &&& ((31 : Int64) <<< (((5 : Int32) * v5).toInt64 &&& 63)))) (x6 + 1) H6 h)
noncomputable def F_X9_addCombination_L8 (N : Nat) (k60 : (Option Nat) → Int32 → Int64 → xH → Option xH) : Nat → (Option Nat) → Int64 → Int32 → Int64 → Int32 → xH → Option xH
  | 0 => fun _ _ _ _ _ _ => none
  | n + 1 => F_X9_addCombination_J8 N (F_X9_addCombination_L8 N k60 n) k60
theorem P_X9_addCombination_L8 {N : Nat} {Z : xZ} {Hf : xH} (hZ : Z = xZm cX9_addCombination yX9_addCombination 8 3 none none Hf) {k60 : (Option Nat) → Int32 → Int64 → xH → Option xH} (hk60 : ∀ (x0 : (Option Nat)) (x3 : Int32) (x4 : Int64) (H : xH), k60 x0 x3 x4 H = some Hf → xWq Z H 60 [xA x0, xN, xN, xI x3, xJ x4, xN, xN, xN] []) : ∀ (n : Nat) (x0 : (Option Nat)) (x1 : Int64) (x3 : Int32) (x4 : Int64) (x6 : Int32) (H : xH), F_X9_addCombination_L8 N k60 n x0 x1 x3 x4 x6 H = some Hf → xWq Z H 8 [xA x0, xJ x1, xN, xI x3, xJ x4, xN, xI x6, xN] [] := by
  intro n
  induction n with
  | zero => intro _ _ _ _ _ _ h; cases h
  | succ n ih => exact P_X9_addCombination_J8 hZ ih hk60
noncomputable def F_X9_addCombination_J60 (N : Nat) (x0 : (Option Nat)) (x3 : Int32) (x4 : Int64) (H : xH) : Option xH :=
  if x3 < 0 then (some H) else ((xgA H x0 9 3).bind fun v2 =>
  (xal .long H v2).bind fun v3 =>
  if v3 ≤ x3 then (some H) else ((xgA H x0 9 3).bind fun v5 =>
  (xsJ H v5 x3 x4).bind fun H6 =>
  some H6))
set_option maxRecDepth 20000 in
set_option maxHeartbeats 4000000 in
theorem P_X9_addCombination_J60 {N : Nat} {Z : xZ} {Hf : xH} (hZ : Z = xZm cX9_addCombination yX9_addCombination 8 3 none none Hf) : ∀ (x0 : (Option Nat)) (x3 : Int32) (x4 : Int64) (H : xH), F_X9_addCombination_J60 N x0 x3 x4 H = some Hf → xWq Z H 60 [xA x0, xN, xN, xI x3, xJ x4, xN, xN, xN] [] := by
  have hz : Z.1 = (cX9_addCombination, yX9_addCombination, 8) := by rw [hZ]; rfl
  have hδ : Z.2.1 = 3 := by rw [hZ]; rfl
  intro x0 x3 x4 H h
  unfold F_X9_addCombination_J60 at h
  refine x_iload_n hz dX9_addCombination_60 rfl ?_
  refine x_if_lt (t := 81) hz dX9_addCombination_61 (by decide) (fun c1 => ?_) (fun c1 => ?_)
  · replace h := x_ip c1 h
    cases h
    exact x_vret hZ dX9_addCombination_81
  · replace h := x_in c1 h
    refine x_iload_n hz dX9_addCombination_64 rfl ?_
    refine x_aload_n hz dX9_addCombination_65 rfl ?_
    obtain ⟨v2, e_v2, h⟩ := x_bnd h
    refine x_getA hz dX9_addCombination_66 fs_X9_21 e_v2 ?_
    obtain ⟨v3, e_v3, h⟩ := x_bnd h
    refine x_alen (t0 := 1) (fun _ => rfl) hz dX9_addCombination_69 e_v3 ?_
    refine x_icmp_ge (t := 81) hz dX9_addCombination_70 (by decide) (fun c4 => ?_) (fun c4 => ?_)
    · replace h := x_ip c4 h
      cases h
      exact x_vret hZ dX9_addCombination_81
    · replace h := x_in c4 h
      refine x_aload_n hz dX9_addCombination_73 rfl ?_
      obtain ⟨v5, e_v5, h⟩ := x_bnd h
      refine x_getA hz dX9_addCombination_74 fs_X9_21 e_v5 ?_
      refine x_iload_n hz dX9_addCombination_77 rfl ?_
      refine x_lload hz dX9_addCombination_78 rfl ?_
      obtain ⟨H6, e_H6, h⟩ := x_bnd h
      refine x_last hz dX9_addCombination_80 e_H6 ?_
      cases h
      exact x_vret hZ dX9_addCombination_81
noncomputable def F_X9_addCombination (N : Nat) (a0 : (Option Nat)) (a1 : Int64) (H : xH) : Option xH :=
  (F_X9_addCombination_L8 N (F_X9_addCombination_J60 N) N) a0 a1 (0 : Int32) (0 : Int64) (0 : Int32) H
set_option maxRecDepth 20000 in
set_option maxHeartbeats 4000000 in
theorem P_X9_addCombination {N : Nat} {Z : xZ} {Hf : xH} (hZ : Z = xZm cX9_addCombination yX9_addCombination 8 3 none none Hf) : ∀ (a0 : (Option Nat)) (a1 : Int64) (H : xH), F_X9_addCombination N a0 a1 H = some Hf → xWq Z H 0 [xA a0, xJ a1, xN, xN, xN, xN, xN, xN] [] := by
  have hz : Z.1 = (cX9_addCombination, yX9_addCombination, 8) := by rw [hZ]; rfl
  have hδ : Z.2.1 = 3 := by rw [hZ]; rfl
  intro a0 a1 H h
  unfold F_X9_addCombination at h
  refine x_iconst (v := (0 : Int32)) hz dX9_addCombination_0 (by decide) ?_
  refine x_istore_n (pl' := [xA a0, xJ a1, xN, xI (0 : Int32), xN, xN, xN, xN]) hz dX9_addCombination_1 (by decide) rfl ?_
  refine x_lconst (v := (0 : Int64)) hz dX9_addCombination_2 (by decide) ?_
  refine x_lstore (pl' := [xA a0, xJ a1, xN, xI (0 : Int32), xJ (0 : Int64), xN, xN, xN]) hz dX9_addCombination_3 (by decide) rfl ?_
  refine x_iconst (v := (0 : Int32)) hz dX9_addCombination_5 (by decide) ?_
  refine x_istore (pl' := [xA a0, xJ a1, xN, xI (0 : Int32), xJ (0 : Int64), xN, xI (0 : Int32), xN]) hz dX9_addCombination_6 (by decide) rfl ?_
  exact x_wk (xwk_c (xwk_c (xwk_n (xwk_c (xwk_c (xwk_n (xwk_c (xwk_n xwk_0)))))))) ((P_X9_addCombination_L8 hZ (P_X9_addCombination_J60 hZ) N) a0 a1 (0 : Int32) (0 : Int64) (0 : Int32) H h)
theorem M_X9_addCombination {N : Nat} {a0 : (Option Nat)} {a1 : Int64} {H H1 : xH} (h : F_X9_addCombination N a0 a1 H = some H1) : xM yX9_addCombination cX9_addCombination 8 none 3 [.inr (.inr a0), .inr (.inl a1)] H none H1 :=
  xM_of (by decide +kernel) (xT_tb 892 (by decide +kernel) (by decide +kernel)) (by simp [xargs, x2]) rfl (P_X9_addCombination rfl a0 a1 H h)
/-! BettingBook$Winner.combine(LBettingBook$RowTable;)V -/
noncomputable def F_X9_combine_J67 (N : Nat) (k35 : (Option Nat) → (Option Nat) → Int32 → xH → Option xH) (x0 : (Option Nat)) (x1 : (Option Nat)) (x3 : Int32) (H : xH) : Option xH :=
  k35 x0 x1 (x3 + 1) H
set_option maxRecDepth 20000 in
set_option maxHeartbeats 4000000 in
theorem P_X9_combine_J67 {N : Nat} {Z : xZ} {Hf : xH} (hZ : Z = xZm cX9_combine yX9_combine 8 4 none none Hf) {k35 : (Option Nat) → (Option Nat) → Int32 → xH → Option xH} (hk35 : ∀ (x0 : (Option Nat)) (x1 : (Option Nat)) (x3 : Int32) (H : xH), k35 x0 x1 x3 H = some Hf → xWq Z H 35 [xA x0, xA x1, xN, xI x3, xN, xN, xN, xN] []) : ∀ (x0 : (Option Nat)) (x1 : (Option Nat)) (x3 : Int32) (H : xH), F_X9_combine_J67 N k35 x0 x1 x3 H = some Hf → xWq Z H 67 [xA x0, xA x1, xN, xI x3, xN, xN, xN, xN] [] := by
  have hz : Z.1 = (cX9_combine, yX9_combine, 8) := by rw [hZ]; rfl
  have hδ : Z.2.1 = 4 := by rw [hZ]; rfl
  intro x0 x1 x3 H h
  unfold F_X9_combine_J67 at h
  refine x_iinc (w := (x3 + 1)) (pl' := [xA x0, xA x1, xN, xI (x3 + 1), xN, xN, xN, xN]) hz dX9_combine_67 rfl rfl (by decide) rfl ?_
  refine x_goto (t := 35) hz dX9_combine_70 (by decide) ?_
  exact x_wk (xwk_c (xwk_c (xwk_n (xwk_c (xwk_n (xwk_n (xwk_n (xwk_n xwk_0)))))))) (hk35 x0 x1 (x3 + 1) H h)
noncomputable def F_X9_combine_J35 (N : Nat) (k35 : (Option Nat) → (Option Nat) → Int32 → xH → Option xH) (k73 : (Option Nat) → xH → Option xH) (x0 : (Option Nat)) (x1 : (Option Nat)) (x3 : Int32) (H : xH) : Option xH :=
  (xgI H x1 6 1).bind fun v1 =>
  if v1 ≤ x3 then (k73 x0 H) else ((xob H x1 6).bind fun b4 =>
  x_bd2 (F_X6_cellAt N x1 x3 H) fun v5 H3 =>
  if (lg_cmp (v5 &&& (4611686018427387904 : Int64)) (0 : Int64)) = 0 then ((F_X9_combine_J67 N k35) x0 x1 x3 H3) else ((xob H3 x0 9).bind fun b8 =>
  (F_X9_addCombination N x0 v5 H3).bind fun H7 =>
  (F_X9_combine_J67 N k35) x0 x1 x3 H7))
set_option maxRecDepth 20000 in
set_option maxHeartbeats 4000000 in
theorem P_X9_combine_J35 {N : Nat} {Z : xZ} {Hf : xH} (hZ : Z = xZm cX9_combine yX9_combine 8 4 none none Hf) {k35 : (Option Nat) → (Option Nat) → Int32 → xH → Option xH} (hk35 : ∀ (x0 : (Option Nat)) (x1 : (Option Nat)) (x3 : Int32) (H : xH), k35 x0 x1 x3 H = some Hf → xWq Z H 35 [xA x0, xA x1, xN, xI x3, xN, xN, xN, xN] []) {k73 : (Option Nat) → xH → Option xH} (hk73 : ∀ (x0 : (Option Nat)) (H : xH), k73 x0 H = some Hf → xWq Z H 73 [xA x0, xN, xN, xN, xN, xN, xN, xN] []) : ∀ (x0 : (Option Nat)) (x1 : (Option Nat)) (x3 : Int32) (H : xH), F_X9_combine_J35 N k35 k73 x0 x1 x3 H = some Hf → xWq Z H 35 [xA x0, xA x1, xN, xI x3, xN, xN, xN, xN] [] := by
  have hz : Z.1 = (cX9_combine, yX9_combine, 8) := by rw [hZ]; rfl
  have hδ : Z.2.1 = 4 := by rw [hZ]; rfl
  intro x0 x1 x3 H h
  unfold F_X9_combine_J35 at h
  refine x_iload_n hz dX9_combine_35 rfl ?_
  refine x_aload_n hz dX9_combine_36 rfl ?_
  obtain ⟨v1, e_v1, h⟩ := x_bnd h
  refine x_getI hz dX9_combine_37 fs_X9_76 e_v1 ?_
  refine x_icmp_ge (t := 73) hz dX9_combine_40 (by decide) (fun c2 => ?_) (fun c2 => ?_)
  · replace h := x_ip c2 h
    exact x_wk (xwk_c (xwk_n (xwk_n (xwk_n (xwk_n (xwk_n (xwk_n (xwk_n xwk_0)))))))) (hk73 x0 H h)
  · replace h := x_in c2 h
    refine x_aload_n hz dX9_combine_43 rfl ?_
    refine x_iload_n hz dX9_combine_44 rfl ?_
    obtain ⟨b4, e_b4, h⟩ := x_bnd h
    obtain ⟨v5, H3, e_H3, h⟩ := x_b2 h
    refine x_callVl (as := [.inl x3]) (st := []) cs_X9_79 (ci := 6) ⟨rfl, rfl⟩ rfl rfl hz (by omega) (by decide) dX9_combine_45 e_b4 (M_X6_cellAt e_H3) ?_
    refine x_lstore (pl' := [xA x0, xA x1, xN, xI x3, xJ v5, xN, xN, xN]) hz dX9_combine_48 (by decide) rfl ?_
    refine x_lload hz dX9_combine_50 rfl ?_
    refine x_ldc2 (v := (4611686018427387904 : Int64)) hz dX9_combine_52 wc_X9_83 ?_
    refine x_land hz dX9_combine_55 ?_
    refine x_lconst (v := (0 : Int64)) hz dX9_combine_56 (by decide) ?_
    refine x_lcmp hz dX9_combine_57 ?_
    refine x_if_eq (t := 67) hz dX9_combine_58 (by decide) (fun c6 => ?_) (fun c6 => ?_)
    · replace h := x_ip c6 h
      exact x_wk (xwk_c (xwk_c (xwk_n (xwk_c (xwk_n (xwk_n (xwk_n (xwk_n xwk_0)))))))) ((P_X9_combine_J67 hZ hk35) x0 x1 x3 H3 h)
    · replace h := x_in c6 h
      refine x_aload_n hz dX9_combine_61 rfl ?_
      refine x_lload hz dX9_combine_62 rfl ?_
      obtain ⟨b8, e_b8, h⟩ := x_bnd h
      obtain ⟨H7, e_H7, h⟩ := x_bnd h
      refine x_callVv (as := [.inr (.inl v5)]) (st := []) cs_X9_85 (ci := 9) ⟨rfl, rfl⟩ rfl rfl hz (by omega) (by decide) dX9_combine_64 e_b8 (M_X9_addCombination e_H7) ?_
      exact x_wk (xwk_c (xwk_c (xwk_n (xwk_c (xwk_n (xwk_n (xwk_n (xwk_n xwk_0)))))))) ((P_X9_combine_J67 hZ hk35) x0 x1 x3 H7 h)
noncomputable def F_X9_combine_L35 (N : Nat) (k73 : (Option Nat) → xH → Option xH) : Nat → (Option Nat) → (Option Nat) → Int32 → xH → Option xH
  | 0 => fun _ _ _ _ => none
  | n + 1 => F_X9_combine_J35 N (F_X9_combine_L35 N k73 n) k73
theorem P_X9_combine_L35 {N : Nat} {Z : xZ} {Hf : xH} (hZ : Z = xZm cX9_combine yX9_combine 8 4 none none Hf) {k73 : (Option Nat) → xH → Option xH} (hk73 : ∀ (x0 : (Option Nat)) (H : xH), k73 x0 H = some Hf → xWq Z H 73 [xA x0, xN, xN, xN, xN, xN, xN, xN] []) : ∀ (n : Nat) (x0 : (Option Nat)) (x1 : (Option Nat)) (x3 : Int32) (H : xH), F_X9_combine_L35 N k73 n x0 x1 x3 H = some Hf → xWq Z H 35 [xA x0, xA x1, xN, xI x3, xN, xN, xN, xN] [] := by
  intro n
  induction n with
  | zero => intro _ _ _ _ h; cases h
  | succ n ih => exact P_X9_combine_J35 hZ ih hk73
noncomputable def F_X9_combine_J143 (N : Nat) (k90 : (Option Nat) → (Option Nat) → Int32 → Int32 → xH → Option xH) (x0 : (Option Nat)) (x3 : (Option Nat)) (x4 : Int32) (x5 : Int32) (H : xH) : Option xH :=
  k90 x0 x3 x4 (x5 + 1) H
set_option maxRecDepth 20000 in
set_option maxHeartbeats 4000000 in
theorem P_X9_combine_J143 {N : Nat} {Z : xZ} {Hf : xH} (hZ : Z = xZm cX9_combine yX9_combine 8 4 none none Hf) {k90 : (Option Nat) → (Option Nat) → Int32 → Int32 → xH → Option xH} (hk90 : ∀ (x0 : (Option Nat)) (x3 : (Option Nat)) (x4 : Int32) (x5 : Int32) (H : xH), k90 x0 x3 x4 x5 H = some Hf → xWq Z H 90 [xA x0, xN, xN, xA x3, xI x4, xI x5, xN, xN] []) : ∀ (x0 : (Option Nat)) (x3 : (Option Nat)) (x4 : Int32) (x5 : Int32) (H : xH), F_X9_combine_J143 N k90 x0 x3 x4 x5 H = some Hf → xWq Z H 143 [xA x0, xN, xN, xA x3, xI x4, xI x5, xN, xN] [] := by
  have hz : Z.1 = (cX9_combine, yX9_combine, 8) := by rw [hZ]; rfl
  have hδ : Z.2.1 = 4 := by rw [hZ]; rfl
  intro x0 x3 x4 x5 H h
  unfold F_X9_combine_J143 at h
  refine x_iinc (w := (x5 + 1)) (pl' := [xA x0, xN, xN, xA x3, xI x4, xI (x5 + 1), xN, xN]) hz dX9_combine_143 rfl rfl (by decide) rfl ?_
  refine x_goto (t := 90) hz dX9_combine_146 (by decide) ?_
  exact x_wk (xwk_c (xwk_n (xwk_n (xwk_c (xwk_c (xwk_c (xwk_n (xwk_n xwk_0)))))))) (hk90 x0 x3 x4 (x5 + 1) H h)
noncomputable def F_X9_combine_J90 (N : Nat) (k90 : (Option Nat) → (Option Nat) → Int32 → Int32 → xH → Option xH) (x0 : (Option Nat)) (x3 : (Option Nat)) (x4 : Int32) (x5 : Int32) (H : xH) : Option xH :=
  if x4 ≤ x5 then (some H) else ((xlJ H x3 x5).bind fun v2 =>
  if (lg_cmp v2 (0 : Int64)) = 0 then ((F_X9_combine_J143 N k90) x0 x3 x4 x5 H) else ((xgI H x0 9 4).bind fun v4 =>
  (xgA H x0 9 3).bind fun v5 =>
  (xal .long H v5).bind fun v6 =>
  if v6 ≤ v4 then ((F_X9_combine_J143 N k90) x0 x3 x4 x5 H) else ((xgA H x0 9 3).bind fun v8 =>
  (xgI H x0 9 4).bind fun v9 =>
  (xsJ H v8 v9 v2).bind fun H10 =>
  (xgI H10 x0 9 4).bind fun v11 =>
  (xpI H10 x0 9 4 (v11 + (1 : Int32))).bind fun H12 =>
  (F_X9_combine_J143 N k90) x0 x3 x4 x5 H12)))
set_option maxRecDepth 20000 in
set_option maxHeartbeats 4000000 in
theorem P_X9_combine_J90 {N : Nat} {Z : xZ} {Hf : xH} (hZ : Z = xZm cX9_combine yX9_combine 8 4 none none Hf) {k90 : (Option Nat) → (Option Nat) → Int32 → Int32 → xH → Option xH} (hk90 : ∀ (x0 : (Option Nat)) (x3 : (Option Nat)) (x4 : Int32) (x5 : Int32) (H : xH), k90 x0 x3 x4 x5 H = some Hf → xWq Z H 90 [xA x0, xN, xN, xA x3, xI x4, xI x5, xN, xN] []) : ∀ (x0 : (Option Nat)) (x3 : (Option Nat)) (x4 : Int32) (x5 : Int32) (H : xH), F_X9_combine_J90 N k90 x0 x3 x4 x5 H = some Hf → xWq Z H 90 [xA x0, xN, xN, xA x3, xI x4, xI x5, xN, xN] [] := by
  have hz : Z.1 = (cX9_combine, yX9_combine, 8) := by rw [hZ]; rfl
  have hδ : Z.2.1 = 4 := by rw [hZ]; rfl
  intro x0 x3 x4 x5 H h
  unfold F_X9_combine_J90 at h
  refine x_iload hz dX9_combine_90 rfl ?_
  refine x_iload hz dX9_combine_92 rfl ?_
  refine x_icmp_ge (t := 149) hz dX9_combine_94 (by decide) (fun c1 => ?_) (fun c1 => ?_)
  · replace h := x_ip c1 h
    cases h
    exact x_vret hZ dX9_combine_149
  · replace h := x_in c1 h
    refine x_aload_n hz dX9_combine_97 rfl ?_
    refine x_iload hz dX9_combine_98 rfl ?_
    obtain ⟨v2, e_v2, h⟩ := x_bnd h
    refine x_lald hz dX9_combine_100 e_v2 ?_
    refine x_lstore (pl' := [xA x0, xN, xN, xA x3, xI x4, xI x5, xJ v2, xN]) hz dX9_combine_101 (by decide) rfl ?_
    refine x_lload hz dX9_combine_103 rfl ?_
    refine x_lconst (v := (0 : Int64)) hz dX9_combine_105 (by decide) ?_
    refine x_lcmp hz dX9_combine_106 ?_
    refine x_if_eq (t := 143) hz dX9_combine_107 (by decide) (fun c3 => ?_) (fun c3 => ?_)
    · replace h := x_ip c3 h
      exact x_wk (xwk_c (xwk_n (xwk_n (xwk_c (xwk_c (xwk_c (xwk_n (xwk_n xwk_0)))))))) ((P_X9_combine_J143 hZ hk90) x0 x3 x4 x5 H h)
    · replace h := x_in c3 h
      refine x_aload_n hz dX9_combine_110 rfl ?_
      obtain ⟨v4, e_v4, h⟩ := x_bnd h
      refine x_getI hz dX9_combine_111 fs_X9_89 e_v4 ?_
      refine x_aload_n hz dX9_combine_114 rfl ?_
      obtain ⟨v5, e_v5, h⟩ := x_bnd h
      refine x_getA hz dX9_combine_115 fs_X9_21 e_v5 ?_
      obtain ⟨v6, e_v6, h⟩ := x_bnd h
      refine x_alen (t0 := 1) (fun _ => rfl) hz dX9_combine_118 e_v6 ?_
      refine x_icmp_ge (t := 143) hz dX9_combine_119 (by decide) (fun c7 => ?_) (fun c7 => ?_)
      · replace h := x_ip c7 h
        exact x_wk (xwk_c (xwk_n (xwk_n (xwk_c (xwk_c (xwk_c (xwk_n (xwk_n xwk_0)))))))) ((P_X9_combine_J143 hZ hk90) x0 x3 x4 x5 H h)
      · replace h := x_in c7 h
        refine x_aload_n hz dX9_combine_122 rfl ?_
        obtain ⟨v8, e_v8, h⟩ := x_bnd h
        refine x_getA hz dX9_combine_123 fs_X9_21 e_v8 ?_
        refine x_aload_n hz dX9_combine_126 rfl ?_
        obtain ⟨v9, e_v9, h⟩ := x_bnd h
        refine x_getI hz dX9_combine_127 fs_X9_89 e_v9 ?_
        refine x_lload hz dX9_combine_130 rfl ?_
        obtain ⟨H10, e_H10, h⟩ := x_bnd h
        refine x_last hz dX9_combine_132 e_H10 ?_
        refine x_aload_n hz dX9_combine_133 rfl ?_
        refine x_dup hz dX9_combine_134 (x_rfc _) ?_
        obtain ⟨v11, e_v11, h⟩ := x_bnd h
        refine x_getI hz dX9_combine_135 fs_X9_89 e_v11 ?_
        refine x_iconst (v := (1 : Int32)) hz dX9_combine_138 (by decide) ?_
        refine x_iadd hz dX9_combine_139 ?_
        obtain ⟨H12, e_H12, h⟩ := x_bnd h
        refine x_putV (v := .int (v11 + (1 : Int32))) hz dX9_combine_140 fs_X9_89 rfl rfl e_H12 ?_
        exact x_wk (xwk_c (xwk_n (xwk_n (xwk_c (xwk_c (xwk_c (xwk_n (xwk_n xwk_0)))))))) ((P_X9_combine_J143 hZ hk90) x0 x3 x4 x5 H12 h)
noncomputable def F_X9_combine_L90 (N : Nat) : Nat → (Option Nat) → (Option Nat) → Int32 → Int32 → xH → Option xH
  | 0 => fun _ _ _ _ _ => none
  | n + 1 => F_X9_combine_J90 N (F_X9_combine_L90 N n)
theorem P_X9_combine_L90 {N : Nat} {Z : xZ} {Hf : xH} (hZ : Z = xZm cX9_combine yX9_combine 8 4 none none Hf) : ∀ (n : Nat) (x0 : (Option Nat)) (x3 : (Option Nat)) (x4 : Int32) (x5 : Int32) (H : xH), F_X9_combine_L90 N n x0 x3 x4 x5 H = some Hf → xWq Z H 90 [xA x0, xN, xN, xA x3, xI x4, xI x5, xN, xN] [] := by
  intro n
  induction n with
  | zero => intro _ _ _ _ _ h; cases h
  | succ n ih => exact P_X9_combine_J90 hZ ih
noncomputable def F_X9_combine_J73 (N : Nat) (x0 : (Option Nat)) (H : xH) : Option xH :=
  (xpI H x0 9 4 (0 : Int32)).bind fun H1 =>
  (xgA H1 x0 9 3).bind fun v2 =>
  (xal .long H1 v2).bind fun v3 =>
  (F_X9_combine_L90 N N) x0 v2 v3 (0 : Int32) H1
set_option maxRecDepth 20000 in
set_option maxHeartbeats 4000000 in
theorem P_X9_combine_J73 {N : Nat} {Z : xZ} {Hf : xH} (hZ : Z = xZm cX9_combine yX9_combine 8 4 none none Hf) : ∀ (x0 : (Option Nat)) (H : xH), F_X9_combine_J73 N x0 H = some Hf → xWq Z H 73 [xA x0, xN, xN, xN, xN, xN, xN, xN] [] := by
  have hz : Z.1 = (cX9_combine, yX9_combine, 8) := by rw [hZ]; rfl
  have hδ : Z.2.1 = 4 := by rw [hZ]; rfl
  intro x0 H h
  unfold F_X9_combine_J73 at h
  refine x_aload_n hz dX9_combine_73 rfl ?_
  refine x_iconst (v := (0 : Int32)) hz dX9_combine_74 (by decide) ?_
  obtain ⟨H1, e_H1, h⟩ := x_bnd h
  refine x_putV (v := .int (0 : Int32)) hz dX9_combine_75 fs_X9_89 rfl rfl e_H1 ?_
  refine x_aload_n hz dX9_combine_78 rfl ?_
  obtain ⟨v2, e_v2, h⟩ := x_bnd h
  refine x_getA hz dX9_combine_79 fs_X9_21 e_v2 ?_
  refine x_astore_n (pl' := [xA x0, xN, xN, xA v2, xN, xN, xN, xN]) hz dX9_combine_82 (by decide) rfl ?_
  refine x_aload_n hz dX9_combine_83 rfl ?_
  obtain ⟨v3, e_v3, h⟩ := x_bnd h
  refine x_alen (t0 := 1) (fun _ => rfl) hz dX9_combine_84 e_v3 ?_
  refine x_istore (pl' := [xA x0, xN, xN, xA v2, xI v3, xN, xN, xN]) hz dX9_combine_85 (by decide) rfl ?_
  refine x_iconst (v := (0 : Int32)) hz dX9_combine_87 (by decide) ?_
  refine x_istore (pl' := [xA x0, xN, xN, xA v2, xI v3, xI (0 : Int32), xN, xN]) hz dX9_combine_88 (by decide) rfl ?_
  exact x_wk (xwk_c (xwk_n (xwk_n (xwk_c (xwk_c (xwk_c (xwk_n (xwk_n xwk_0)))))))) ((P_X9_combine_L90 hZ N) x0 v2 v3 (0 : Int32) H1 h)
noncomputable def F_X9_combine_J25 (N : Nat) (x0 : (Option Nat)) (x1 : (Option Nat)) (H : xH) : Option xH :=
  (xgA H x0 9 3).bind fun v1 =>
  (F_J7_fill_d0a16 N v1 (0 : Int64) H).bind fun H2 =>
  (F_X9_combine_L35 N (F_X9_combine_J73 N) N) x0 x1 (0 : Int32) H2
set_option maxRecDepth 20000 in
set_option maxHeartbeats 4000000 in
theorem P_X9_combine_J25 {N : Nat} {Z : xZ} {Hf : xH} (hZ : Z = xZm cX9_combine yX9_combine 8 4 none none Hf) : ∀ (x0 : (Option Nat)) (x1 : (Option Nat)) (H : xH), F_X9_combine_J25 N x0 x1 H = some Hf → xWq Z H 25 [xA x0, xA x1, xN, xN, xN, xN, xN, xN] [] := by
  have hz : Z.1 = (cX9_combine, yX9_combine, 8) := by rw [hZ]; rfl
  have hδ : Z.2.1 = 4 := by rw [hZ]; rfl
  intro x0 x1 H h
  unfold F_X9_combine_J25 at h
  refine x_aload_n hz dX9_combine_25 rfl ?_
  obtain ⟨v1, e_v1, h⟩ := x_bnd h
  refine x_getA hz dX9_combine_26 fs_X9_21 e_v1 ?_
  refine x_lconst (v := (0 : Int64)) hz dX9_combine_29 (by decide) ?_
  obtain ⟨H2, e_H2, h⟩ := x_bnd h
  refine x_callSv (as := [.inr (.inr v1), .inr (.inl (0 : Int64))]) (st := []) cs_X9_70 rfl rfl hz (by omega) (by decide) dX9_combine_30 (M_J7_fill_d0a16 e_H2) ?_
  refine x_iconst (v := (0 : Int32)) hz dX9_combine_33 (by decide) ?_
  refine x_istore_n (pl' := [xA x0, xA x1, xN, xI (0 : Int32), xN, xN, xN, xN]) hz dX9_combine_34 (by decide) rfl ?_
  exact x_wk (xwk_c (xwk_c (xwk_n (xwk_c (xwk_n (xwk_n (xwk_n (xwk_n xwk_0)))))))) ((P_X9_combine_L35 hZ (P_X9_combine_J73 hZ) N) x0 x1 (0 : Int32) H2 h)
noncomputable def F_X9_combine (N : Nat) (a0 : (Option Nat)) (a1 : (Option Nat)) (H : xH) : Option xH :=
  (xgI H a0 9 2).bind fun v1 =>
  x_bd2 (F_X11_power N (5 : Int32) v1 H) fun v3 H2 =>
  (xgA H2 a0 9 3).bind fun v4 =>
  (xal .long H2 v4).bind fun v5 =>
  if v3 ≤ v5 then ((F_X9_combine_J25 N) a0 a1 H2) else ((xnJ H2 v3).bind fun H7 =>
  (xpA H7 a0 9 3 (some H2.2.1)).bind fun H8 =>
  (F_X9_combine_J25 N) a0 a1 H8)
set_option maxRecDepth 20000 in
set_option maxHeartbeats 4000000 in
theorem P_X9_combine {N : Nat} {Z : xZ} {Hf : xH} (hZ : Z = xZm cX9_combine yX9_combine 8 4 none none Hf) : ∀ (a0 : (Option Nat)) (a1 : (Option Nat)) (H : xH), F_X9_combine N a0 a1 H = some Hf → xWq Z H 0 [xA a0, xA a1, xN, xN, xN, xN, xN, xN] [] := by
  have hz : Z.1 = (cX9_combine, yX9_combine, 8) := by rw [hZ]; rfl
  have hδ : Z.2.1 = 4 := by rw [hZ]; rfl
  intro a0 a1 H h
  unfold F_X9_combine at h
  refine x_iconst (v := (5 : Int32)) hz dX9_combine_0 (by decide) ?_
  refine x_aload_n hz dX9_combine_1 rfl ?_
  obtain ⟨v1, e_v1, h⟩ := x_bnd h
  refine x_getI hz dX9_combine_2 fs_X9_25 e_v1 ?_
  obtain ⟨v3, H2, e_H2, h⟩ := x_b2 h
  refine x_callSi (as := [.inl (5 : Int32), .inl v1]) (st := []) cs_X9_58 rfl rfl hz (by omega) (by decide) dX9_combine_5 (M_X11_power e_H2) ?_
  refine x_istore_n (pl' := [xA a0, xA a1, xI v3, xN, xN, xN, xN, xN]) hz dX9_combine_8 (by decide) rfl ?_
  refine x_aload_n hz dX9_combine_9 rfl ?_
  obtain ⟨v4, e_v4, h⟩ := x_bnd h
  refine x_getA hz dX9_combine_10 fs_X9_21 e_v4 ?_
  obtain ⟨v5, e_v5, h⟩ := x_bnd h
  refine x_alen (t0 := 1) (fun _ => rfl) hz dX9_combine_13 e_v5 ?_
  refine x_iload_n hz dX9_combine_14 rfl ?_
  refine x_icmp_ge (t := 25) hz dX9_combine_15 (by decide) (fun c6 => ?_) (fun c6 => ?_)
  · replace h := x_ip c6 h
    exact x_wk (xwk_c (xwk_c (xwk_n (xwk_n (xwk_n (xwk_n (xwk_n (xwk_n xwk_0)))))))) ((P_X9_combine_J25 hZ) a0 a1 H2 h)
  · replace h := x_in c6 h
    refine x_aload_n hz dX9_combine_18 rfl ?_
    refine x_iload_n hz dX9_combine_19 rfl ?_
    obtain ⟨H7, e_H7, h⟩ := x_bnd h
    refine x_newJ aw_long hz dX9_combine_20 e_H7 ?_
    obtain ⟨H8, e_H8, h⟩ := x_bnd h
    refine x_putV (v := va_rf (some H2.2.1)) hz dX9_combine_22 fs_X9_21 (x_nra _ _) (x_fta _ _) e_H8 ?_
    exact x_wk (xwk_c (xwk_c (xwk_n (xwk_n (xwk_n (xwk_n (xwk_n (xwk_n xwk_0)))))))) ((P_X9_combine_J25 hZ) a0 a1 H8 h)
theorem M_X9_combine {N : Nat} {a0 : (Option Nat)} {a1 : (Option Nat)} {H H1 : xH} (h : F_X9_combine N a0 a1 H = some H1) : xM yX9_combine cX9_combine 8 none 4 [.inr (.inr a0), .inr (.inr a1)] H none H1 :=
  xM_of (by decide +kernel) (xT_tb 882 (by decide +kernel) (by decide +kernel)) (by simp [xargs, x2]) rfl (P_X9_combine rfl a0 a1 H h)
