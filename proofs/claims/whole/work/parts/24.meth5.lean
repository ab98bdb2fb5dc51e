/-! BettingBook.worth(II)J -/
noncomputable def F_X11_worth (N : Nat) (a0 : (Option Nat)) (a1 : Int32) (a2 : Int32) (H : xH) : Option (Int64 × xH) :=
  (xgA H a0 10 5).bind fun v1 =>
  (xob H v1 2).bind fun b3 =>
  x_bd2 (F_X2_betAt N v1 a1 H) fun v4 H2 =>
  if v4 = none then (some ((-1000000000000000 : Int64), H2)) else ((xgA H2 a0 10 11).bind fun v6 =>
  (xob H2 v6 3).bind fun b8 =>
  (F_X3_clear N v6 H2).bind fun H7 =>
  (xgA H7 a0 10 11).bind fun v9 =>
  (xgA H7 a0 10 5).bind fun v10 =>
  (xob H7 v10 2).bind fun b12 =>
  x_bd2 (F_X2_betAt N v10 a1 H7) fun v13 H11 =>
  (xob H11 v9 3).bind fun b15 =>
  (F_X3_addSide N v9 v13 a1 (0 : Int32) H11).bind fun H14 =>
  (xgA H14 a0 10 10).bind fun v16 =>
  (xgA H14 a0 10 6).bind fun v17 =>
  (xgA H14 a0 10 11).bind fun v18 =>
  (xob H14 v16 5).bind fun b20 =>
  x_bd2 (F_X5_worthOf N v16 v17 v18 a2 H14) fun v21 H19 =>
  some (v21, H19))
set_option maxRecDepth 20000 in
set_option maxHeartbeats 4000000 in
theorem P_X11_worth {N : Nat} {Z : xZ} {rv : Int64} {Hf : xH} (hZ : Z = xZm cX11_worth yX11_worth 3 5 (some .long) (some (.long rv)) Hf) : ∀ (a0 : (Option Nat)) (a1 : Int32) (a2 : Int32) (H : xH), F_X11_worth N a0 a1 a2 H = some (rv, Hf) → xWq Z H 0 [xA a0, xI a1, xI a2] [] := by
  have hz : Z.1 = (cX11_worth, yX11_worth, 3) := by rw [hZ]; rfl
  have hδ : Z.2.1 = 5 := by rw [hZ]; rfl
  intro a0 a1 a2 H h
  unfold F_X11_worth at h
  refine x_aload_n hz dX11_worth_0 rfl ?_
  obtain ⟨v1, e_v1, h⟩ := x_bnd h
  refine x_getA hz dX11_worth_1 fs_X11_27 e_v1 ?_
  refine x_iload_n hz dX11_worth_4 rfl ?_
  obtain ⟨b3, e_b3, h⟩ := x_bnd h
  obtain ⟨v4, H2, e_H2, h⟩ := x_b2 h
  refine x_callVa (as := [.inl a1]) (st := []) cs_X11_147 (ci := 2) ⟨rfl, rfl⟩ rfl rfl hz (by omega) (by decide) dX11_worth_5 e_b3 (M_X2_betAt e_H2) ?_
  refine x_ifnonnull (t := 15) hz dX11_worth_8 (by decide) (fun c5 => ?_) (fun c5 => ?_)
  · replace h := x_in c5 h
    refine x_aload_n hz dX11_worth_15 rfl ?_
    obtain ⟨v6, e_v6, h⟩ := x_bnd h
    refine x_getA hz dX11_worth_16 fs_X11_59 e_v6 ?_
    obtain ⟨b8, e_b8, h⟩ := x_bnd h
    obtain ⟨H7, e_H7, h⟩ := x_bnd h
    refine x_callVv (as := []) (st := []) cs_X11_274 (ci := 3) ⟨rfl, rfl⟩ rfl rfl hz (by omega) (by decide) dX11_worth_19 e_b8 (M_X3_clear e_H7) ?_
    refine x_aload_n hz dX11_worth_22 rfl ?_
    obtain ⟨v9, e_v9, h⟩ := x_bnd h
    refine x_getA hz dX11_worth_23 fs_X11_59 e_v9 ?_
    refine x_aload_n hz dX11_worth_26 rfl ?_
    obtain ⟨v10, e_v10, h⟩ := x_bnd h
    refine x_getA hz dX11_worth_27 fs_X11_27 e_v10 ?_
    refine x_iload_n hz dX11_worth_30 rfl ?_
    obtain ⟨b12, e_b12, h⟩ := x_bnd h
    obtain ⟨v13, H11, e_H11, h⟩ := x_b2 h
    refine x_callVa (as := [.inl a1]) (st := [va_rf v9]) cs_X11_147 (ci := 2) ⟨rfl, rfl⟩ rfl rfl hz (by omega) (Nat.le_trans (x_sm1 (x_rfc _) x_sm0) (by decide)) dX11_worth_31 e_b12 (M_X2_betAt e_H11) ?_
    refine x_iload_n hz dX11_worth_34 rfl ?_
    refine x_iconst (v := (0 : Int32)) hz dX11_worth_35 (by decide) ?_
    obtain ⟨b15, e_b15, h⟩ := x_bnd h
    obtain ⟨H14, e_H14, h⟩ := x_bnd h
    refine x_callVv (as := [.inr (.inr v13), .inl a1, .inl (0 : Int32)]) (st := []) cs_X11_275 (ci := 3) ⟨rfl, rfl⟩ rfl rfl hz (by omega) (by decide) dX11_worth_36 e_b15 (M_X3_addSide e_H14) ?_
    refine x_aload_n hz dX11_worth_39 rfl ?_
    obtain ⟨v16, e_v16, h⟩ := x_bnd h
    refine x_getA hz dX11_worth_40 fs_X11_52 e_v16 ?_
    refine x_aload_n hz dX11_worth_43 rfl ?_
    obtain ⟨v17, e_v17, h⟩ := x_bnd h
    refine x_getA hz dX11_worth_44 fs_X11_34 e_v17 ?_
    refine x_aload_n hz dX11_worth_47 rfl ?_
    obtain ⟨v18, e_v18, h⟩ := x_bnd h
    refine x_getA hz dX11_worth_48 fs_X11_59 e_v18 ?_
    refine x_iload_n hz dX11_worth_51 rfl ?_
    obtain ⟨b20, e_b20, h⟩ := x_bnd h
    obtain ⟨v21, H19, e_H19, h⟩ := x_b2 h
    refine x_callVl (as := [.inr (.inr v17), .inr (.inr v18), .inl a2]) (st := []) cs_X11_279 (ci := 5) ⟨rfl, rfl⟩ rfl rfl hz (by omega) (by decide) dX11_worth_52 e_b20 (M_X5_worthOf e_H19) ?_
    cases h
    exact x_lret hZ dX11_worth_55
  · replace h := x_ip c5 h
    refine x_ldc2 (v := (-1000000000000000 : Int64)) hz dX11_worth_11 wc_X11_272 ?_
    cases h
    exact x_lret hZ dX11_worth_14
theorem M_X11_worth {N : Nat} {a0 : (Option Nat)} {a1 : Int32} {a2 : Int32} {H H1 : xH} {r1 : Int64} (h : F_X11_worth N a0 a1 a2 H = some (r1, H1)) : xM yX11_worth cX11_worth 3 (some .long) 5 [.inr (.inr a0), .inl a1, .inl a2] H (some (.long r1)) H1 :=
  xM_of (by decide +kernel) (xT_tb 915 (by decide +kernel) (by decide +kernel)) (by simp [xargs, x2]) rfl (P_X11_worth rfl a0 a1 a2 H h)
/-! BettingBook.holds(II)J -/
noncomputable def F_X11_holds (N : Nat) (a0 : (Option Nat)) (a1 : Int32) (a2 : Int32) (H : xH) : Option (Int64 × xH) :=
  (xgA H a0 10 5).bind fun v1 =>
  (xob H v1 2).bind fun b3 =>
  x_bd2 (F_X2_hasMember N v1 a1 H) fun v4 H2 =>
  if v4 = 0 then (some ((-1000000000000000 : Int64), H2)) else ((xgA H2 a0 10 11).bind fun v6 =>
  (xgA H2 a0 10 5).bind fun v7 =>
  (xgA H2 a0 10 7).bind fun v8 =>
  (xob H2 v6 3).bind fun b10 =>
  (F_X3_ofMember N v6 v7 v8 a1 H2).bind fun H9 =>
  (xgA H9 a0 10 10).bind fun v11 =>
  (xgA H9 a0 10 6).bind fun v12 =>
  (xgA H9 a0 10 11).bind fun v13 =>
  (xob H9 v11 5).bind fun b15 =>
  x_bd2 (F_X5_worthOf N v11 v12 v13 a2 H9) fun v16 H14 =>
  some (v16, H14))
set_option maxRecDepth 20000 in
set_option maxHeartbeats 4000000 in
theorem P_X11_holds {N : Nat} {Z : xZ} {rv : Int64} {Hf : xH} (hZ : Z = xZm cX11_holds yX11_holds 3 5 (some .long) (some (.long rv)) Hf) : ∀ (a0 : (Option Nat)) (a1 : Int32) (a2 : Int32) (H : xH), F_X11_holds N a0 a1 a2 H = some (rv, Hf) → xWq Z H 0 [xA a0, xI a1, xI a2] [] := by
  have hz : Z.1 = (cX11_holds, yX11_holds, 3) := by rw [hZ]; rfl
  have hδ : Z.2.1 = 5 := by rw [hZ]; rfl
  intro a0 a1 a2 H h
  unfold F_X11_holds at h
  refine x_aload_n hz dX11_holds_0 rfl ?_
  obtain ⟨v1, e_v1, h⟩ := x_bnd h
  refine x_getA hz dX11_holds_1 fs_X11_27 e_v1 ?_
  refine x_iload_n hz dX11_holds_4 rfl ?_
  obtain ⟨b3, e_b3, h⟩ := x_bnd h
  obtain ⟨v4, H2, e_H2, h⟩ := x_b2 h
  refine x_callVi (as := [.inl a1]) (st := []) cs_X11_185 (ci := 2) ⟨rfl, rfl⟩ rfl rfl hz (by omega) (by decide) dX11_holds_5 e_b3 (M_X2_hasMember e_H2) ?_
  refine x_if_ne (t := 15) hz dX11_holds_8 (by decide) (fun c5 => ?_) (fun c5 => ?_)
  · replace h := x_in c5 h
    refine x_aload_n hz dX11_holds_15 rfl ?_
    obtain ⟨v6, e_v6, h⟩ := x_bnd h
    refine x_getA hz dX11_holds_16 fs_X11_59 e_v6 ?_
    refine x_aload_n hz dX11_holds_19 rfl ?_
    obtain ⟨v7, e_v7, h⟩ := x_bnd h
    refine x_getA hz dX11_holds_20 fs_X11_27 e_v7 ?_
    refine x_aload_n hz dX11_holds_23 rfl ?_
    obtain ⟨v8, e_v8, h⟩ := x_bnd h
    refine x_getA hz dX11_holds_24 fs_X11_41 e_v8 ?_
    refine x_iload_n hz dX11_holds_27 rfl ?_
    obtain ⟨b10, e_b10, h⟩ := x_bnd h
    obtain ⟨H9, e_H9, h⟩ := x_bnd h
    refine x_callVv (as := [.inr (.inr v7), .inr (.inr v8), .inl a1]) (st := []) cs_X11_239 (ci := 3) ⟨rfl, rfl⟩ rfl rfl hz (by omega) (by decide) dX11_holds_28 e_b10 (M_X3_ofMember e_H9) ?_
    refine x_aload_n hz dX11_holds_31 rfl ?_
    obtain ⟨v11, e_v11, h⟩ := x_bnd h
    refine x_getA hz dX11_holds_32 fs_X11_52 e_v11 ?_
    refine x_aload_n hz dX11_holds_35 rfl ?_
    obtain ⟨v12, e_v12, h⟩ := x_bnd h
    refine x_getA hz dX11_holds_36 fs_X11_34 e_v12 ?_
    refine x_aload_n hz dX11_holds_39 rfl ?_
    obtain ⟨v13, e_v13, h⟩ := x_bnd h
    refine x_getA hz dX11_holds_40 fs_X11_59 e_v13 ?_
    refine x_iload_n hz dX11_holds_43 rfl ?_
    obtain ⟨b15, e_b15, h⟩ := x_bnd h
    obtain ⟨v16, H14, e_H14, h⟩ := x_b2 h
    refine x_callVl (as := [.inr (.inr v12), .inr (.inr v13), .inl a2]) (st := []) cs_X11_279 (ci := 5) ⟨rfl, rfl⟩ rfl rfl hz (by omega) (by decide) dX11_holds_44 e_b15 (M_X5_worthOf e_H14) ?_
    cases h
    exact x_lret hZ dX11_holds_47
  · replace h := x_ip c5 h
    refine x_ldc2 (v := (-1000000000000000 : Int64)) hz dX11_holds_11 wc_X11_272 ?_
    cases h
    exact x_lret hZ dX11_holds_14
theorem M_X11_holds {N : Nat} {a0 : (Option Nat)} {a1 : Int32} {a2 : Int32} {H H1 : xH} {r1 : Int64} (h : F_X11_holds N a0 a1 a2 H = some (r1, H1)) : xM yX11_holds cX11_holds 3 (some .long) 5 [.inr (.inr a0), .inl a1, .inl a2] H (some (.long r1)) H1 :=
  xM_of (by decide +kernel) (xT_tb 945 (by decide +kernel) (by decide +kernel)) (by simp [xargs, x2]) rfl (P_X11_holds rfl a0 a1 a2 H h)
/-! BettingBook.luck(II)I -/
noncomputable def F_X11_luck_J141 (N : Nat) (k91 : (Option Nat) → Int32 → Int32 → Int32 → xH → Option (Int32 × xH)) (x0 : (Option Nat)) (x3 : Int32) (x4 : Int32) (x5 : Int32) (H : xH) : Option (Int32 × xH) :=
  k91 x0 x3 x4 (x5 + 1) H
set_option maxRecDepth 20000 in
set_option maxHeartbeats 4000000 in
theorem P_X11_luck_J141 {N : Nat} {Z : xZ} {rv : Int32} {Hf : xH} (hZ : Z = xZm cX11_luck yX11_luck 8 4 (some .int) (some (.int rv)) Hf) {k91 : (Option Nat) → Int32 → Int32 → Int32 → xH → Option (Int32 × xH)} (hk91 : ∀ (x0 : (Option Nat)) (x3 : Int32) (x4 : Int32) (x5 : Int32) (H : xH), k91 x0 x3 x4 x5 H = some (rv, Hf) → xWq Z H 91 [xA x0, xN, xN, xI x3, xI x4, xI x5, xN, xN] []) : ∀ (x0 : (Option Nat)) (x3 : Int32) (x4 : Int32) (x5 : Int32) (H : xH), F_X11_luck_J141 N k91 x0 x3 x4 x5 H = some (rv, Hf) → xWq Z H 141 [xA x0, xN, xN, xI x3, xI x4, xI x5, xN, xN] [] := by
  have hz : Z.1 = (cX11_luck, yX11_luck, 8) := by rw [hZ]; rfl
  have hδ : Z.2.1 = 4 := by rw [hZ]; rfl
  intro x0 x3 x4 x5 H h
  unfold F_X11_luck_J141 at h
  refine x_iinc (w := (x5 + 1)) (pl' := [xA x0, xN, xN, xI x3, xI x4, xI (x5 + 1), xN, xN]) hz dX11_luck_141 rfl rfl (by decide) rfl ?_
  refine x_goto (t := 91) hz dX11_luck_144 (by decide) ?_
  exact x_wk (xwk_c (xwk_n (xwk_n (xwk_c (xwk_c (xwk_c (xwk_n (xwk_n xwk_0)))))))) (hk91 x0 x3 x4 (x5 + 1) H h)
noncomputable def F_X11_luck_J91 (N : Nat) (k91 : (Option Nat) → Int32 → Int32 → Int32 → xH → Option (Int32 × xH)) (x0 : (Option Nat)) (x3 : Int32) (x4 : Int32) (x5 : Int32) (H : xH) : Option (Int32 × xH) :=
  (xgA H x0 10 6).bind fun v1 =>
  (xgI H v1 6 1).bind fun v2 =>
  if v2 ≤ x5 then (some (x4, H)) else ((xgA H x0 10 6).bind fun v4 =>
  (xob H v4 6).bind fun b6 =>
  x_bd2 (F_X6_cellAt N v4 x5 H) fun v7 H5 =>
  if (lg_cmp (v7 &&& (2305843009213693952 : Int64)) (0 : Int64)) = 0 then ((F_X11_luck_J141 N k91) x0 x3 x4 x5 H5) else ((xgA H5 x0 10 11).bind fun v9 =>
  (xob H5 v9 3).bind fun b11 =>
  x_bd2 (F_X3_sum N v9 v7 H5) fun v12 H10 =>
  if v12 < x3 then ((F_X11_luck_J141 N k91) x0 x3 x4 x5 H10) else ((F_X11_luck_J141 N k91) x0 x3 (x4 + 1) x5 H10)))
set_option maxRecDepth 20000 in
set_option maxHeartbeats 4000000 in
theorem P_X11_luck_J91 {N : Nat} {Z : xZ} {rv : Int32} {Hf : xH} (hZ : Z = xZm cX11_luck yX11_luck 8 4 (some .int) (some (.int rv)) Hf) {k91 : (Option Nat) → Int32 → Int32 → Int32 → xH → Option (Int32 × xH)} (hk91 : ∀ (x0 : (Option Nat)) (x3 : Int32) (x4 : Int32) (x5 : Int32) (H : xH), k91 x0 x3 x4 x5 H = some (rv, Hf) → xWq Z H 91 [xA x0, xN, xN, xI x3, xI x4, xI x5, xN, xN] []) : ∀ (x0 : (Option Nat)) (x3 : Int32) (x4 : Int32) (x5 : Int32) (H : xH), F_X11_luck_J91 N k91 x0 x3 x4 x5 H = some (rv, Hf) → xWq Z H 91 [xA x0, xN, xN, xI x3, xI x4, xI x5, xN, xN] [] := by
  have hz : Z.1 = (cX11_luck, yX11_luck, 8) := by rw [hZ]; rfl
  have hδ : Z.2.1 = 4 := by rw [hZ]; rfl
  intro x0 x3 x4 x5 H h
  unfold F_X11_luck_J91 at h
  refine x_iload hz dX11_luck_91 rfl ?_
  refine x_aload_n hz dX11_luck_93 rfl ?_
  obtain ⟨v1, e_v1, h⟩ := x_bnd h
  refine x_getA hz dX11_luck_94 fs_X11_34 e_v1 ?_
  obtain ⟨v2, e_v2, h⟩ := x_bnd h
  refine x_getI hz dX11_luck_97 fs_X11_233 e_v2 ?_
  refine x_icmp_ge (t := 147) hz dX11_luck_100 (by decide) (fun c3 => ?_) (fun c3 => ?_)
  · replace h := x_ip c3 h
    refine x_iload hz dX11_luck_147 rfl ?_
    cases h
    exact x_iret hZ dX11_luck_149
  · replace h := x_in c3 h
    refine x_aload_n hz dX11_luck_103 rfl ?_
    obtain ⟨v4, e_v4, h⟩ := x_bnd h
    refine x_getA hz dX11_luck_104 fs_X11_34 e_v4 ?_
    refine x_iload hz dX11_luck_107 rfl ?_
    obtain ⟨b6, e_b6, h⟩ := x_bnd h
    obtain ⟨v7, H5, e_H5, h⟩ := x_b2 h
    refine x_callVl (as := [.inl x5]) (st := []) cs_X11_201 (ci := 6) ⟨rfl, rfl⟩ rfl rfl hz (by omega) (by decide) dX11_luck_109 e_b6 (M_X6_cellAt e_H5) ?_
    refine x_lstore (pl' := [xA x0, xN, xN, xI x3, xI x4, xI x5, xJ v7, xN]) hz dX11_luck_112 (by decide) rfl ?_
    refine x_lload hz dX11_luck_114 rfl ?_
    refine x_ldc2 (v := (2305843009213693952 : Int64)) hz dX11_luck_116 wc_X11_207 ?_
    refine x_land hz dX11_luck_119 ?_
    refine x_lconst (v := (0 : Int64)) hz dX11_luck_120 (by decide) ?_
    refine x_lcmp hz dX11_luck_121 ?_
    refine x_if_eq (t := 141) hz dX11_luck_122 (by decide) (fun c8 => ?_) (fun c8 => ?_)
    · replace h := x_ip c8 h
      exact x_wk (xwk_c (xwk_n (xwk_n (xwk_c (xwk_c (xwk_c (xwk_n (xwk_n xwk_0)))))))) ((P_X11_luck_J141 hZ hk91) x0 x3 x4 x5 H5 h)
    · replace h := x_in c8 h
      refine x_aload_n hz dX11_luck_125 rfl ?_
      obtain ⟨v9, e_v9, h⟩ := x_bnd h
      refine x_getA hz dX11_luck_126 fs_X11_59 e_v9 ?_
      refine x_lload hz dX11_luck_129 rfl ?_
      obtain ⟨b11, e_b11, h⟩ := x_bnd h
      obtain ⟨v12, H10, e_H10, h⟩ := x_b2 h
      refine x_callVi (as := [.inr (.inl v7)]) (st := []) cs_X11_243 (ci := 3) ⟨rfl, rfl⟩ rfl rfl hz (by omega) (by decide) dX11_luck_131 e_b11 (M_X3_sum e_H10) ?_
      refine x_iload_n hz dX11_luck_134 rfl ?_
      refine x_icmp_lt (t := 141) hz dX11_luck_135 (by decide) (fun c13 => ?_) (fun c13 => ?_)
      · replace h := x_ip c13 h
        exact x_wk (xwk_c (xwk_n (xwk_n (xwk_c (xwk_c (xwk_c (xwk_n (xwk_n xwk_0)))))))) ((P_X11_luck_J141 hZ hk91) x0 x3 x4 x5 H10 h)
      · replace h := x_in c13 h
        refine x_iinc (w := (x4 + 1)) (pl' := [xA x0, xN, xN, xI x3, xI (x4 + 1), xI x5, xJ v7, xN]) hz dX11_luck_138 rfl rfl (by decide) rfl ?_
        exact x_wk (xwk_c (xwk_n (xwk_n (xwk_c (xwk_c (xwk_c (xwk_n (xwk_n xwk_0)))))))) ((P_X11_luck_J141 hZ hk91) x0 x3 (x4 + 1) x5 H10 h)
noncomputable def F_X11_luck_L91 (N : Nat) : Nat → (Option Nat) → Int32 → Int32 → Int32 → xH → Option (Int32 × xH)
  | 0 => fun _ _ _ _ _ => none
  | n + 1 => F_X11_luck_J91 N (F_X11_luck_L91 N n)
theorem P_X11_luck_L91 {N : Nat} {Z : xZ} {rv : Int32} {Hf : xH} (hZ : Z = xZm cX11_luck yX11_luck 8 4 (some .int) (some (.int rv)) Hf) : ∀ (n : Nat) (x0 : (Option Nat)) (x3 : Int32) (x4 : Int32) (x5 : Int32) (H : xH), F_X11_luck_L91 N n x0 x3 x4 x5 H = some (rv, Hf) → xWq Z H 91 [xA x0, xN, xN, xI x3, xI x4, xI x5, xN, xN] [] := by
  intro n
  induction n with
  | zero => intro _ _ _ _ _ h; cases h
  | succ n ih => exact P_X11_luck_J91 hZ ih
noncomputable def F_X11_luck (N : Nat) (a0 : (Option Nat)) (a1 : Int32) (a2 : Int32) (H : xH) : Option (Int32 × xH) :=
  (xgA H a0 10 5).bind fun v1 =>
  (xob H v1 2).bind fun b3 =>
  x_bd2 (F_X2_hasMember N v1 a1 H) fun v4 H2 =>
  if v4 = 0 then (some ((-1 : Int32), H2)) else ((xgA H2 a0 10 6).bind fun v6 =>
  (xgI H2 v6 6 3).bind fun v7 =>
  if v7 = (1 : Int32) then (if a2 < 0 then (some ((-1 : Int32), H2)) else (if a2 ≤ (1 : Int32) then (if a2 = (1 : Int32) then ((xgA H2 a0 10 6).bind fun v29 =>
  (xgI H2 v29 6 2).bind fun v30 =>
  some (v30, H2)) else ((xgA H2 a0 10 11).bind fun v12 =>
  (xgA H2 a0 10 5).bind fun v13 =>
  (xgA H2 a0 10 7).bind fun v14 =>
  (xob H2 v12 3).bind fun b16 =>
  (F_X3_ofMember N v12 v13 v14 a1 H2).bind fun H15 =>
  (xgA H15 a0 10 11).bind fun v17 =>
  (xgA H15 a0 10 6).bind fun v18 =>
  (xgA H15 a0 10 6).bind fun v19 =>
  (xob H15 v19 6).bind fun b21 =>
  x_bd2 (F_X6_leftCode N v19 (0 : Int32) H15) fun v22 H20 =>
  (xob H20 v18 6).bind fun b24 =>
  x_bd2 (F_X6_cellAt N v18 v22 H20) fun v25 H23 =>
  (xob H23 v17 3).bind fun b27 =>
  x_bd2 (F_X3_sum N v17 v25 H23) fun v28 H26 =>
  (F_X11_luck_L91 N N) a0 v28 (0 : Int32) (0 : Int32) H26)) else (some ((-1 : Int32), H2)))) else (some ((-1 : Int32), H2)))
set_option maxRecDepth 20000 in
set_option maxHeartbeats 4000000 in
theorem P_X11_luck {N : Nat} {Z : xZ} {rv : Int32} {Hf : xH} (hZ : Z = xZm cX11_luck yX11_luck 8 4 (some .int) (some (.int rv)) Hf) : ∀ (a0 : (Option Nat)) (a1 : Int32) (a2 : Int32) (H : xH), F_X11_luck N a0 a1 a2 H = some (rv, Hf) → xWq Z H 0 [xA a0, xI a1, xI a2, xN, xN, xN, xN, xN] [] := by
  have hz : Z.1 = (cX11_luck, yX11_luck, 8) := by rw [hZ]; rfl
  have hδ : Z.2.1 = 4 := by rw [hZ]; rfl
  intro a0 a1 a2 H h
  unfold F_X11_luck at h
  refine x_aload_n hz dX11_luck_0 rfl ?_
  obtain ⟨v1, e_v1, h⟩ := x_bnd h
  refine x_getA hz dX11_luck_1 fs_X11_27 e_v1 ?_
  refine x_iload_n hz dX11_luck_4 rfl ?_
  obtain ⟨b3, e_b3, h⟩ := x_bnd h
  obtain ⟨v4, H2, e_H2, h⟩ := x_b2 h
  refine x_callVi (as := [.inl a1]) (st := []) cs_X11_185 (ci := 2) ⟨rfl, rfl⟩ rfl rfl hz (by omega) (by decide) dX11_luck_5 e_b3 (M_X2_hasMember e_H2) ?_
  refine x_if_eq (t := 31) hz dX11_luck_8 (by decide) (fun c5 => ?_) (fun c5 => ?_)
  · replace h := x_ip c5 h
    refine x_iconst (v := (-1 : Int32)) hz dX11_luck_31 (by decide) ?_
    cases h
    exact x_iret hZ dX11_luck_32
  · replace h := x_in c5 h
    refine x_aload_n hz dX11_luck_11 rfl ?_
    obtain ⟨v6, e_v6, h⟩ := x_bnd h
    refine x_getA hz dX11_luck_12 fs_X11_34 e_v6 ?_
    obtain ⟨v7, e_v7, h⟩ := x_bnd h
    refine x_getI hz dX11_luck_15 fs_X11_171 e_v7 ?_
    refine x_iconst (v := (1 : Int32)) hz dX11_luck_18 (by decide) ?_
    refine x_icmp_ne (t := 31) hz dX11_luck_19 (by decide) (fun c8 => ?_) (fun c8 => ?_)
    · replace h := x_in c8 h
      refine x_iconst (v := (-1 : Int32)) hz dX11_luck_31 (by decide) ?_
      cases h
      exact x_iret hZ dX11_luck_32
    · replace h := x_ip c8 h
      refine x_iload_n hz dX11_luck_22 rfl ?_
      refine x_if_lt (t := 31) hz dX11_luck_23 (by decide) (fun c9 => ?_) (fun c9 => ?_)
      · replace h := x_ip c9 h
        refine x_iconst (v := (-1 : Int32)) hz dX11_luck_31 (by decide) ?_
        cases h
        exact x_iret hZ dX11_luck_32
      · replace h := x_in c9 h
        refine x_iload_n hz dX11_luck_26 rfl ?_
        refine x_iconst (v := (1 : Int32)) hz dX11_luck_27 (by decide) ?_
        refine x_icmp_le (t := 33) hz dX11_luck_28 (by decide) (fun c10 => ?_) (fun c10 => ?_)
        · replace h := x_ip c10 h
          refine x_iload_n hz dX11_luck_33 rfl ?_
          refine x_iconst (v := (1 : Int32)) hz dX11_luck_34 (by decide) ?_
          refine x_icmp_ne (t := 46) hz dX11_luck_35 (by decide) (fun c11 => ?_) (fun c11 => ?_)
          · replace h := x_in c11 h
            refine x_aload_n hz dX11_luck_46 rfl ?_
            obtain ⟨v12, e_v12, h⟩ := x_bnd h
            refine x_getA hz dX11_luck_47 fs_X11_59 e_v12 ?_
            refine x_aload_n hz dX11_luck_50 rfl ?_
            obtain ⟨v13, e_v13, h⟩ := x_bnd h
            refine x_getA hz dX11_luck_51 fs_X11_27 e_v13 ?_
            refine x_aload_n hz dX11_luck_54 rfl ?_
            obtain ⟨v14, e_v14, h⟩ := x_bnd h
            refine x_getA hz dX11_luck_55 fs_X11_41 e_v14 ?_
            refine x_iload_n hz dX11_luck_58 rfl ?_
            obtain ⟨b16, e_b16, h⟩ := x_bnd h
            obtain ⟨H15, e_H15, h⟩ := x_bnd h
            refine x_callVv (as := [.inr (.inr v13), .inr (.inr v14), .inl a1]) (st := []) cs_X11_239 (ci := 3) ⟨rfl, rfl⟩ rfl rfl hz (by omega) (by decide) dX11_luck_59 e_b16 (M_X3_ofMember e_H15) ?_
            refine x_aload_n hz dX11_luck_62 rfl ?_
            obtain ⟨v17, e_v17, h⟩ := x_bnd h
            refine x_getA hz dX11_luck_63 fs_X11_59 e_v17 ?_
            refine x_aload_n hz dX11_luck_66 rfl ?_
            obtain ⟨v18, e_v18, h⟩ := x_bnd h
            refine x_getA hz dX11_luck_67 fs_X11_34 e_v18 ?_
            refine x_aload_n hz dX11_luck_70 rfl ?_
            obtain ⟨v19, e_v19, h⟩ := x_bnd h
            refine x_getA hz dX11_luck_71 fs_X11_34 e_v19 ?_
            refine x_iconst (v := (0 : Int32)) hz dX11_luck_74 (by decide) ?_
            obtain ⟨b21, e_b21, h⟩ := x_bnd h
            obtain ⟨v22, H20, e_H20, h⟩ := x_b2 h
            refine x_callVi (as := [.inl (0 : Int32)]) (st := [va_rf v18, va_rf v17]) cs_X11_198 (ci := 6) ⟨rfl, rfl⟩ rfl rfl hz (by omega) (Nat.le_trans (x_sm1 (x_rfc _) (x_sm1 (x_rfc _) x_sm0)) (by decide)) dX11_luck_75 e_b21 (M_X6_leftCode e_H20) ?_
            obtain ⟨b24, e_b24, h⟩ := x_bnd h
            obtain ⟨v25, H23, e_H23, h⟩ := x_b2 h
            refine x_callVl (as := [.inl v22]) (st := [va_rf v17]) cs_X11_201 (ci := 6) ⟨rfl, rfl⟩ rfl rfl hz (by omega) (Nat.le_trans (x_sm1 (x_rfc _) x_sm0) (by decide)) dX11_luck_78 e_b24 (M_X6_cellAt e_H23) ?_
            obtain ⟨b27, e_b27, h⟩ := x_bnd h
            obtain ⟨v28, H26, e_H26, h⟩ := x_b2 h
            refine x_callVi (as := [.inr (.inl v25)]) (st := []) cs_X11_243 (ci := 3) ⟨rfl, rfl⟩ rfl rfl hz (by omega) (by decide) dX11_luck_81 e_b27 (M_X3_sum e_H26) ?_
            refine x_istore_n (pl' := [xA a0, xI a1, xI a2, xI v28, xN, xN, xN, xN]) hz dX11_luck_84 (by decide) rfl ?_
            refine x_iconst (v := (0 : Int32)) hz dX11_luck_85 (by decide) ?_
            refine x_istore (pl' := [xA a0, xI a1, xI a2, xI v28, xI (0 : Int32), xN, xN, xN]) hz dX11_luck_86 (by decide) rfl ?_
            refine x_iconst (v := (0 : Int32)) hz dX11_luck_88 (by decide) ?_
            refine x_istore (pl' := [xA a0, xI a1, xI a2, xI v28, xI (0 : Int32), xI (0 : Int32), xN, xN]) hz dX11_luck_89 (by decide) rfl ?_
            exact x_wk (xwk_c (xwk_n (xwk_n (xwk_c (xwk_c (xwk_c (xwk_n (xwk_n xwk_0)))))))) ((P_X11_luck_L91 hZ N) a0 v28 (0 : Int32) (0 : Int32) H26 h)
          · replace h := x_ip c11 h
            refine x_aload_n hz dX11_luck_38 rfl ?_
            obtain ⟨v29, e_v29, h⟩ := x_bnd h
            refine x_getA hz dX11_luck_39 fs_X11_34 e_v29 ?_
            obtain ⟨v30, e_v30, h⟩ := x_bnd h
            refine x_getI hz dX11_luck_42 fs_X11_283 e_v30 ?_
            cases h
            exact x_iret hZ dX11_luck_45
        · replace h := x_in c10 h
          refine x_iconst (v := (-1 : Int32)) hz dX11_luck_31 (by decide) ?_
          cases h
          exact x_iret hZ dX11_luck_32
theorem M_X11_luck {N : Nat} {a0 : (Option Nat)} {a1 : Int32} {a2 : Int32} {H H1 : xH} {r1 : Int32} (h : F_X11_luck N a0 a1 a2 H = some (r1, H1)) : xM yX11_luck cX11_luck 8 (some .int) 4 [.inr (.inr a0), .inl a1, .inl a2] H (some (.int r1)) H1 :=
  xM_of (by decide +kernel) (xT_tb 949 (by decide +kernel) (by decide +kernel)) (by simp [xargs, x2]) rfl (P_X11_luck rfl a0 a1 a2 H h)
/-! BettingBook.image()I -/
noncomputable def F_X11_image_J36 (N : Nat) (x0 : (Option Nat)) (H : xH) : Option (Int32 × xH) :=
  (xgI H x0 10 9).bind fun v1 =>
  (xpI H x0 10 9 (v1 + (1 : Int32))).bind fun H2 =>
  some (v1, H2)
set_option maxRecDepth 20000 in
set_option maxHeartbeats 4000000 in
theorem P_X11_image_J36 {N : Nat} {Z : xZ} {rv : Int32} {Hf : xH} (hZ : Z = xZm cX11_image yX11_image 2 4 (some .int) (some (.int rv)) Hf) : ∀ (x0 : (Option Nat)) (H : xH), F_X11_image_J36 N x0 H = some (rv, Hf) → xWq Z H 36 [xA x0, xN] [] := by
  have hz : Z.1 = (cX11_image, yX11_image, 2) := by rw [hZ]; rfl
  have hδ : Z.2.1 = 4 := by rw [hZ]; rfl
  intro x0 H h
  unfold F_X11_image_J36 at h
  refine x_aload_n hz dX11_image_36 rfl ?_
  refine x_dup hz dX11_image_37 (x_rfc _) ?_
  obtain ⟨v1, e_v1, h⟩ := x_bnd h
  refine x_getI hz dX11_image_38 fs_X11_112 e_v1 ?_
  refine x_dup_x1 hz dX11_image_41 rfl (x_rfc _) ?_
  refine x_iconst (v := (1 : Int32)) hz dX11_image_42 (by decide) ?_
  refine x_iadd hz dX11_image_43 ?_
  obtain ⟨H2, e_H2, h⟩ := x_bnd h
  refine x_putV (v := .int (v1 + (1 : Int32))) hz dX11_image_44 fs_X11_112 rfl rfl e_H2 ?_
  cases h
  exact x_iret hZ dX11_image_47
noncomputable def F_X11_image (N : Nat) (a0 : (Option Nat)) (H : xH) : Option (Int32 × xH) :=
  (xgI H a0 10 9).bind fun v1 =>
  (xgA H a0 10 8).bind fun v2 =>
  (xal (.object "BettingBook$Ledger") H v2).bind fun v3 =>
  if v1 < v3 then ((xgA H a0 10 8).bind fun v5 =>
  (xgI H a0 10 9).bind fun v6 =>
  (xlA (.object "BettingBook$Ledger") H v5 v6).bind fun v7 =>
  if v7 = none then ((F_X11_image_J36 N) a0 H) else ((xgA H a0 10 7).bind fun v9 =>
  (xob H v7 4).bind fun b11 =>
  (F_X4_become N v7 v9 H).bind fun H10 =>
  (F_X11_image_J36 N) a0 H10)) else (some ((-1 : Int32), H))
set_option maxRecDepth 20000 in
set_option maxHeartbeats 4000000 in
theorem P_X11_image {N : Nat} {Z : xZ} {rv : Int32} {Hf : xH} (hZ : Z = xZm cX11_image yX11_image 2 4 (some .int) (some (.int rv)) Hf) : ∀ (a0 : (Option Nat)) (H : xH), F_X11_image N a0 H = some (rv, Hf) → xWq Z H 0 [xA a0, xN] [] := by
  have hz : Z.1 = (cX11_image, yX11_image, 2) := by rw [hZ]; rfl
  have hδ : Z.2.1 = 4 := by rw [hZ]; rfl
  intro a0 H h
  unfold F_X11_image at h
  refine x_aload_n hz dX11_image_0 rfl ?_
  obtain ⟨v1, e_v1, h⟩ := x_bnd h
  refine x_getI hz dX11_image_1 fs_X11_112 e_v1 ?_
  refine x_aload_n hz dX11_image_4 rfl ?_
  obtain ⟨v2, e_v2, h⟩ := x_bnd h
  refine x_getA hz dX11_image_5 fs_X11_45 e_v2 ?_
  obtain ⟨v3, e_v3, h⟩ := x_bnd h
  refine x_alen (t0 := 5) (fun _ => rfl) hz dX11_image_8 e_v3 ?_
  refine x_icmp_lt (t := 14) hz dX11_image_9 (by decide) (fun c4 => ?_) (fun c4 => ?_)
  · replace h := x_ip c4 h
    refine x_aload_n hz dX11_image_14 rfl ?_
    obtain ⟨v5, e_v5, h⟩ := x_bnd h
    refine x_getA hz dX11_image_15 fs_X11_45 e_v5 ?_
    refine x_aload_n hz dX11_image_18 rfl ?_
    obtain ⟨v6, e_v6, h⟩ := x_bnd h
    refine x_getI hz dX11_image_19 fs_X11_112 e_v6 ?_
    obtain ⟨v7, e_v7, h⟩ := x_bnd h
    refine x_aald xTq_Ledger hz dX11_image_22 e_v7 ?_
    refine x_astore_n (pl' := [xA a0, xA v7]) hz dX11_image_23 (by decide) rfl ?_
    refine x_aload_n hz dX11_image_24 rfl ?_
    refine x_ifnull (t := 36) hz dX11_image_25 (by decide) (fun c8 => ?_) (fun c8 => ?_)
    · replace h := x_ip c8 h
      exact x_wk (xwk_c (xwk_n xwk_0)) ((P_X11_image_J36 hZ) a0 H h)
    · replace h := x_in c8 h
      refine x_aload_n hz dX11_image_28 rfl ?_
      refine x_aload_n hz dX11_image_29 rfl ?_
      obtain ⟨v9, e_v9, h⟩ := x_bnd h
      refine x_getA hz dX11_image_30 fs_X11_41 e_v9 ?_
      obtain ⟨b11, e_b11, h⟩ := x_bnd h
      obtain ⟨H10, e_H10, h⟩ := x_bnd h
      refine x_callVv (as := [.inr (.inr v9)]) (st := []) cs_X11_286 (ci := 4) ⟨rfl, rfl⟩ rfl rfl hz (by omega) (by decide) dX11_image_33 e_b11 (M_X4_become e_H10) ?_
      exact x_wk (xwk_c (xwk_n xwk_0)) ((P_X11_image_J36 hZ) a0 H10 h)
  · replace h := x_in c4 h
    refine x_iconst (v := (-1 : Int32)) hz dX11_image_12 (by decide) ?_
    cases h
    exact x_iret hZ dX11_image_13
theorem M_X11_image {N : Nat} {a0 : (Option Nat)} {H H1 : xH} {r1 : Int32} (h : F_X11_image N a0 H = some (r1, H1)) : xM yX11_image cX11_image 2 (some .int) 4 [.inr (.inr a0)] H (some (.int r1)) H1 :=
  xM_of (by decide +kernel) (xT_tb 953 (by decide +kernel) (by decide +kernel)) (by simp [xargs, x2]) rfl (P_X11_image rfl a0 H h)
/-! BettingBook.back(I)Z -/
noncomputable def F_X11_back (N : Nat) (a0 : (Option Nat)) (a1 : Int32) (H : xH) : Option (Int32 × xH) :=
  if a1 < 0 then (some ((0 : Int32), H)) else ((xgI H a0 10 9).bind fun v2 =>
  if v2 ≤ a1 then (some ((0 : Int32), H)) else ((xgA H a0 10 8).bind fun v4 =>
  (xal (.object "BettingBook$Ledger") H v4).bind fun v5 =>
  if v5 ≤ a1 then (some ((0 : Int32), H)) else ((xgA H a0 10 8).bind fun v7 =>
  (xlA (.object "BettingBook$Ledger") H v7 a1).bind fun v8 =>
  if v8 = none then (some ((0 : Int32), H)) else ((xgA H a0 10 7).bind fun v10 =>
  (xgA H a0 10 8).bind fun v11 =>
  (xlA (.object "BettingBook$Ledger") H v11 a1).bind fun v12 =>
  (xob H v10 4).bind fun b14 =>
  (F_X4_become N v10 v12 H).bind fun H13 =>
  (xgA H13 a0 10 6).bind fun v15 =>
  (xgA H13 a0 10 7).bind fun v16 =>
  (xob H13 v15 6).bind fun b18 =>
  x_bd2 (F_X6_mark N v15 v16 H13) fun v19 H17 =>
  some ((1 : Int32), H17)))))
set_option maxRecDepth 20000 in
set_option maxHeartbeats 4000000 in
theorem P_X11_back {N : Nat} {Z : xZ} {rv : Int32} {Hf : xH} (hZ : Z = xZm cX11_back yX11_back 2 4 (some .boolean) (some (.int rv)) Hf) : ∀ (a0 : (Option Nat)) (a1 : Int32) (H : xH), F_X11_back N a0 a1 H = some (rv, Hf) → xWq Z H 0 [xA a0, xI a1] [] := by
  have hz : Z.1 = (cX11_back, yX11_back, 2) := by rw [hZ]; rfl
  have hδ : Z.2.1 = 4 := by rw [hZ]; rfl
  intro a0 a1 H h
  unfold F_X11_back at h
  refine x_iload_n hz dX11_back_0 rfl ?_
  refine x_if_lt (t := 30) hz dX11_back_1 (by decide) (fun c1 => ?_) (fun c1 => ?_)
  · replace h := x_ip c1 h
    refine x_iconst (v := (0 : Int32)) hz dX11_back_30 (by decide) ?_
    cases h
    exact x_zret01 hZ (Or.inl rfl) dX11_back_31
  · replace h := x_in c1 h
    refine x_iload_n hz dX11_back_4 rfl ?_
    refine x_aload_n hz dX11_back_5 rfl ?_
    obtain ⟨v2, e_v2, h⟩ := x_bnd h
    refine x_getI hz dX11_back_6 fs_X11_112 e_v2 ?_
    refine x_icmp_ge (t := 30) hz dX11_back_9 (by decide) (fun c3 => ?_) (fun c3 => ?_)
    · replace h := x_ip c3 h
      refine x_iconst (v := (0 : Int32)) hz dX11_back_30 (by decide) ?_
      cases h
      exact x_zret01 hZ (Or.inl rfl) dX11_back_31
    · replace h := x_in c3 h
      refine x_iload_n hz dX11_back_12 rfl ?_
      refine x_aload_n hz dX11_back_13 rfl ?_
      obtain ⟨v4, e_v4, h⟩ := x_bnd h
      refine x_getA hz dX11_back_14 fs_X11_45 e_v4 ?_
      obtain ⟨v5, e_v5, h⟩ := x_bnd h
      refine x_alen (t0 := 5) (fun _ => rfl) hz dX11_back_17 e_v5 ?_
      refine x_icmp_ge (t := 30) hz dX11_back_18 (by decide) (fun c6 => ?_) (fun c6 => ?_)
      · replace h := x_ip c6 h
        refine x_iconst (v := (0 : Int32)) hz dX11_back_30 (by decide) ?_
        cases h
        exact x_zret01 hZ (Or.inl rfl) dX11_back_31
      · replace h := x_in c6 h
        refine x_aload_n hz dX11_back_21 rfl ?_
        obtain ⟨v7, e_v7, h⟩ := x_bnd h
        refine x_getA hz dX11_back_22 fs_X11_45 e_v7 ?_
        refine x_iload_n hz dX11_back_25 rfl ?_
        obtain ⟨v8, e_v8, h⟩ := x_bnd h
        refine x_aald xTq_Ledger hz dX11_back_26 e_v8 ?_
        refine x_ifnonnull (t := 32) hz dX11_back_27 (by decide) (fun c9 => ?_) (fun c9 => ?_)
        · replace h := x_in c9 h
          refine x_aload_n hz dX11_back_32 rfl ?_
          obtain ⟨v10, e_v10, h⟩ := x_bnd h
          refine x_getA hz dX11_back_33 fs_X11_41 e_v10 ?_
          refine x_aload_n hz dX11_back_36 rfl ?_
          obtain ⟨v11, e_v11, h⟩ := x_bnd h
          refine x_getA hz dX11_back_37 fs_X11_45 e_v11 ?_
          refine x_iload_n hz dX11_back_40 rfl ?_
          obtain ⟨v12, e_v12, h⟩ := x_bnd h
          refine x_aald xTq_Ledger hz dX11_back_41 e_v12 ?_
          obtain ⟨b14, e_b14, h⟩ := x_bnd h
          obtain ⟨H13, e_H13, h⟩ := x_bnd h
          refine x_callVv (as := [.inr (.inr v12)]) (st := []) cs_X11_286 (ci := 4) ⟨rfl, rfl⟩ rfl rfl hz (by omega) (by decide) dX11_back_42 e_b14 (M_X4_become e_H13) ?_
          refine x_aload_n hz dX11_back_45 rfl ?_
          obtain ⟨v15, e_v15, h⟩ := x_bnd h
          refine x_getA hz dX11_back_46 fs_X11_34 e_v15 ?_
          refine x_aload_n hz dX11_back_49 rfl ?_
          obtain ⟨v16, e_v16, h⟩ := x_bnd h
          refine x_getA hz dX11_back_50 fs_X11_41 e_v16 ?_
          obtain ⟨b18, e_b18, h⟩ := x_bnd h
          obtain ⟨v19, H17, e_H17, h⟩ := x_b2 h
          refine x_callVi (as := [.inr (.inr v16)]) (st := []) cs_X11_81 (ci := 6) ⟨rfl, rfl⟩ rfl rfl hz (by omega) (by decide) dX11_back_53 e_b18 (M_X6_mark e_H17) ?_
          refine x_pop hz dX11_back_56 rfl ?_
          refine x_iconst (v := (1 : Int32)) hz dX11_back_57 (by decide) ?_
          cases h
          exact x_zret01 hZ (Or.inr rfl) dX11_back_58
        · replace h := x_ip c9 h
          refine x_iconst (v := (0 : Int32)) hz dX11_back_30 (by decide) ?_
          cases h
          exact x_zret01 hZ (Or.inl rfl) dX11_back_31
theorem M_X11_back {N : Nat} {a0 : (Option Nat)} {a1 : Int32} {H H1 : xH} {r1 : Int32} (h : F_X11_back N a0 a1 H = some (r1, H1)) : xM yX11_back cX11_back 2 (some .boolean) 4 [.inr (.inr a0), .inl a1] H (some (.int r1)) H1 :=
  xM_of (by decide +kernel) (xT_tb 964 (by decide +kernel) (by decide +kernel)) (by simp [xargs, x2]) rfl (P_X11_back rfl a0 a1 H h)
/-! java/lang/Long.bitCount(J)I -/
noncomputable def F_J13_bitCount_95d88 (N : Nat) (a0 : Int64) (H : xH) : Option (Int32 × xH) :=
  some ((((((((((((a0 - (((a0.toUInt64 >>> ((1 : Int32).toInt64.toUInt64 &&& Int64.toUInt64 63)).toInt64) &&& (6148914691236517205 : Int64))) &&& (3689348814741910323 : Int64)) + ((((a0 - (((a0.toUInt64 >>> ((1 : Int32).toInt64.toUInt64 &&& Int64.toUInt64 63)).toInt64) &&& (6148914691236517205 : Int64))).toUInt64 >>> ((2 : Int32).toInt64.toUInt64 &&& Int64.toUInt64 63)).toInt64) &&& (3689348814741910323 : Int64))) + (((((a0 - (((a0.toUInt64 >>> ((1 : Int32).toInt64.toUInt64 &&& Int64.toUInt64 63)).toInt64) &&& (6148914691236517205 : Int64))) &&& (3689348814741910323 : Int64)) + ((((a0 - (((a0.toUInt64 >>> ((1 : Int32).toInt64.toUInt64 &&& Int64.toUInt64 63)).toInt64) &&& (6148914691236517205 : Int64))).toUInt64 >>> ((2 : Int32).toInt64.toUInt64 &&& Int64.toUInt64 63)).toInt64) &&& (3689348814741910323 : Int64))).toUInt64 >>> ((4 : Int32).toInt64.toUInt64 &&& Int64.toUInt64 63)).toInt64)) &&& (1085102592571150095 : Int64)) + (((((((a0 - (((a0.toUInt64 >>> ((1 : Int32).toInt64.toUInt64 &&& Int64.toUInt64 63)).toInt64) &&& (6148914691236517205 : Int64))) &&& (3689348814741910323 : Int64)) + ((((a0 - (((a0.toUInt64 >>> ((1 : Int32).toInt64.toUInt64 &&& Int64.toUInt64 63)).toInt64) &&& (6148914691236517205 : Int64))).toUInt64 >>> ((2 : Int32).toInt64.toUInt64 &&& Int64.toUInt64 63)).toInt64) &&& (3689348814741910323 : Int64))) + (((((a0 - (((a0.toUInt64 >>> ((1 : Int32).toInt64.toUInt64 &&& Int64.toUInt64 63)).toInt64) &&& (6148914691236517205 : Int64))) &&& (3689348814741910323 : Int64)) + ((((a0 - (((a0.toUInt64 >>> ((1 : Int32).toInt64.toUInt64 &&& Int64.toUInt64 63)).toInt64) &&& (6148914691236517205 : Int64))).toUInt64 >>> ((2 : Int32).toInt64.toUInt64 &&& Int64.toUInt64 63)).toInt64) &&& (3689348814741910323 : Int64))).toUInt64 >>> ((4 : Int32).toInt64.toUInt64 &&& Int64.toUInt64 63)).toInt64)) &&& (1085102592571150095 : Int64)).toUInt64 >>> ((8 : Int32).toInt64.toUInt64 &&& Int64.toUInt64 63)).toInt64)) + ((((((((a0 - (((a0.toUInt64 >>> ((1 : Int32).toInt64.toUInt64 &&& Int64.toUInt64 63)).toInt64) &&& (6148914691236517205 : Int64))) &&& (3689348814741910323 : Int64)) + ((((a0 - (((a0.toUInt64 >>> ((1 : Int32).toInt64.toUInt64 &&& Int64.toUInt64 63)).toInt64) &&& (6148914691236517205 : Int64))).toUInt64 >>> ((2 : Int32).toInt64.toUInt64 &&& Int64.toUInt64 63)).toInt64) &&& (3689348814741910323 : Int64))) + (((((a0 - (((a0.toUInt64 >>> ((1 : Int32).toInt64.toUInt64 &&& Int64.toUInt64 63)).toInt64) &&& (6148914691236517205 : Int64))) &&& (3689348814741910323 : Int64)) + ((((a0 - (((a0.toUInt64 >>> ((1 : Int32).toInt64.toUInt64 &&& Int64.toUInt64 63)).toInt64) &&& (6148914691236517205 : Int64))).toUInt64 >>> ((2 : Int32).toInt64.toUInt64 &&& Int64.toUInt64 63)).toInt64) &&& (3689348814741910323 : Int64))).toUInt64 >>> ((4 : Int32).toInt64.toUInt64 &&& Int64.toUInt64 63)).toInt64)) &&& (1085102592571150095 : Int64)) + (((((((a0 - (((a0.toUInt64 >>> ((1 : Int32).toInt64.toUInt64 &&& Int64.toUInt64 63)).toInt64) &&& (6148914691236517205 : Int64))) &&& (3689348814741910323 : Int64)) + ((((a0 - (((a0.toUInt64 >>> ((1 : Int32).toInt64.toUInt64 &&& Int64.toUInt64 63)).toInt64) &&& (6148914691236517205 : Int64))).toUInt64 >>> ((2 : Int32).toInt64.toUInt64 &&& Int64.toUInt64 63)).toInt64) &&& (3689348814741910323 : Int64))) + (((((a0 - (((a0.toUInt64 >>> ((1 : Int32).toInt64.toUInt64 &&& Int64.toUInt64 63)).toInt64) &&& (6148914691236517205 : Int64))) &&& (3689348814741910323 : Int64)) + ((((a0 - (((a0.toUInt64 >>> ((1 : Int32).toInt64.toUInt64 &&& Int64.toUInt64 63)).toInt64) &&& (6148914691236517205 : Int64))).toUInt64 >>> ((2 : Int32).toInt64.toUInt64 &&& Int64.toUInt64 63)).toInt64) &&& (3689348814741910323 : Int64))).toUInt64 >>> ((4 : Int32).toInt64.toUInt64 &&& Int64.toUInt64 63)).toInt64)) &&& (1085102592571150095 : Int64)).toUInt64 >>> ((8 : Int32).toInt64.toUInt64 &&& Int64.toUInt64 63)).toInt64)).toUInt64 >>> ((16 : Int32).toInt64.toUInt64 &&& Int64.toUInt64 63)).toInt64)) + (((((((((a0 - (((a0.toUInt64 >>> ((1 : Int32).toInt64.toUInt64 &&& Int64.toUInt64 63)).toInt64) &&& (6148914691236517205 : Int64))) &&& (3689348814741910323 : Int64)) + ((((a0 - (((a0.toUInt64 >>> ((1 : Int32).toInt64.toUInt64 &&& Int64.toUInt64 63)).toInt64) &&& (6148914691236517205 : Int64))).toUInt64 >>> ((2 : Int32).toInt64.toUInt64 &&& Int64.toUInt64 63)).toInt64) &&& (3689348814741910323 : Int64))) + (((((a0 - (((a0.toUInt64 >>> ((1 : Int32).toInt64.toUInt64 &&& Int64.toUInt64 63)).toInt64) &&& (6148914691236517205 : Int64))) &&& (3689348814741910323 : Int64)) + ((((a0 - (((a0.toUInt64 >>> ((1 : Int32).toInt64.toUInt64 &&& Int64.toUInt64 63)).toInt64) &&& (6148914691236517205 : Int64))).toUInt64 >>> ((2 : Int32).toInt64.toUInt64 &&& Int64.toUInt64 63)).toInt64) &&& (3689348814741910323 : Int64))).toUInt64 >>> ((4 : Int32).toInt64.toUInt64 &&& Int64.toUInt64 63)).toInt64)) &&& (1085102592571150095 : Int64)) + (((((((a0 - (((a0.toUInt64 >>> ((1 : Int32).toInt64.toUInt64 &&& Int64.toUInt64 63)).toInt64) &&& (6148914691236517205 : Int64))) &&& (3689348814741910323 : Int64)) + ((((a0 - (((a0.toUInt64 >>> ((1 : Int32).toInt64.toUInt64 &&& Int64.toUInt64 63)).toInt64) &&& (6148914691236517205 : Int64))).toUInt64 >>> ((2 : Int32).toInt64.toUInt64 &&& Int64.toUInt64 63)).toInt64) &&& (3689348814741910323 : Int64))) + (((((a0 - (((a0.toUInt64 >>> ((1 : Int32).toInt64.toUInt64 &&& Int64.toUInt64 63)).toInt64) &&& (6148914691236517205 : Int64))) &&& (3689348814741910323 : Int64)) + ((((a0 - (((a0.toUInt64 >>> ((1 : Int32).toInt64.toUInt64 &&& Int64.toUInt64 63)).toInt64) &&& (6148914691236517205 : Int64))).toUInt64 >>> ((2 : Int32).toInt64.toUInt64 &&& Int64.toUInt64 63)).toInt64) &&& (3689348814741910323 : Int64))).toUInt64 >>> ((4 : Int32).toInt64.toUInt64 &&& Int64.toUInt64 63)).toInt64)) &&& (1085102592571150095 : Int64)).toUInt64 >>> ((8 : Int32).toInt64.toUInt64 &&& Int64.toUInt64 63)).toInt64)) + ((((((((a0 - (((a0.toUInt64 >>> ((1 : Int32).toInt64.toUInt64 &&& Int64.toUInt64 63)).toInt64) &&& (6148914691236517205 : Int64))) &&& (3689348814741910323 : Int64)) + ((((a0 - (((a0.toUInt64 >>> ((1 : Int32).toInt64.toUInt64 &&& Int64.toUInt64 63)).toInt64) &&& (6148914691236517205 : Int64))).toUInt64 >>> ((2 : Int32).toInt64.toUInt64 &&& Int64.toUInt64 63)).toInt64) &&& (3689348814741910323 : Int64))) + (((((a0 - (((a0.toUInt64 >>> ((1 : Int32).toInt64.toUInt64 &&& Int64.toUInt64 63)).toInt64) &&& (6148914691236517205 : Int64))) &&& (3689348814741910323 : Int64)) + ((((a0 - (((a0.toUInt64 >>> ((1 : Int32).toInt64.toUInt64 &&& Int64.toUInt64 63)).toInt64) &&& (6148914691236517205 : Int64))).toUInt64 >>> ((2 : Int32).toInt64.toUInt64 &&& Int64.toUInt64 63)).toInt64) &&& (3689348814741910323 : Int64))).toUInt64 >>> ((4 : Int32).toInt64.toUInt64 &&& Int64.toUInt64 63)).toInt64)) &&& (1085102592571150095 : Int64)) + (((((((a0 - (((a0.toUInt64 >>> ((1 : Int32).toInt64.toUInt64 &&& Int64.toUInt64 63)).toInt64) &&& (6148914691236517205 : Int64))) &&& (3689348814741910323 : Int64)) + ((((a0 - (((a0.toUInt64 >>> ((1 : Int32).toInt64.toUInt64 &&& Int64.toUInt64 63)).toInt64) &&& (6148914691236517205 : Int64))).toUInt64 >>> ((2 : Int32).toInt64.toUInt64 &&& Int64.toUInt64 63)).toInt64) &&& (3689348814741910323 : Int64))) + (((((a0 - (((a0.toUInt64 >>> ((1 : Int32).toInt64.toUInt64 &&& Int64.toUInt64 63)).toInt64) &&& (6148914691236517205 : Int64))) &&& (3689348814741910323 : Int64)) + ((((a0 - (((a0.toUInt64 >>> ((1 : Int32).toInt64.toUInt64 &&& Int64.toUInt64 63)).toInt64) &&& (6148914691236517205 : Int64))).toUInt64 >>> ((2 : Int32).toInt64.toUInt64 &&& Int64.toUInt64 63)).toInt64) &&& (3689348814741910323 : Int64))).toUInt64 >>> ((4 : Int32).toInt64.toUInt64 &&& Int64.toUInt64 63)).toInt64)) &&& (1085102592571150095 : Int64)).toUInt64 >>> ((8 : Int32).toInt64.toUInt64 &&& Int64.toUInt64 63)).toInt64)).toUInt64 >>> ((16 : Int32).toInt64.toUInt64 &&& Int64.toUInt64 63)).toInt64)).toUInt64 >>> ((32 : Int32).toInt64.toUInt64 &&& Int64.toUInt64 63)).toInt64))).toInt32) &&& (127 : Int32)), H)
set_option maxRecDepth 20000 in
set_option maxHeartbeats 4000000 in
theorem P_J13_bitCount_95d88 {N : Nat} {Z : xZ} {rv : Int32} {Hf : xH} (hZ : Z = xZm cJ13_bitCount_95d88 yJ13_bitCount_95d88 2 1 (some .int) (some (.int rv)) Hf) : ∀ (a0 : Int64) (H : xH), F_J13_bitCount_95d88 N a0 H = some (rv, Hf) → xWq Z H 0 [xJ a0, xN] [] := by
  have hz : Z.1 = (cJ13_bitCount_95d88, yJ13_bitCount_95d88, 2) := by rw [hZ]; rfl
  have hδ : Z.2.1 = 1 := by rw [hZ]; rfl
  intro a0 H h
  unfold F_J13_bitCount_95d88 at h
  refine x_lload_n hz dJ13_bitCount_95d88_0 rfl ?_
  refine x_lload_n hz dJ13_bitCount_95d88_1 rfl ?_
  refine x_iconst (v := (1 : Int32)) hz dJ13_bitCount_95d88_2 (by decide) ?_
  refine x_lushr hz dJ13_bitCount_95d88_3 ?_
  refine x_ldc2 (v := (6148914691236517205 : Int64)) hz dJ13_bitCount_95d88_4 wc_J13_314 ?_
  refine x_land hz dJ13_bitCount_95d88_7 ?_
  refine x_lsub hz dJ13_bitCount_95d88_8 ?_
  refine x_lstore_n (pl' := [xJ (a0 - (((a0.toUInt64 >>> ((1 : Int32).toInt64.toUInt64 &&& Int64.toUInt64 63)).toInt64) &&& (6148914691236517205 : Int64))), xN]) hz dJ13_bitCount_95d88_9 (by decide) rfl ?_
  refine x_lload_n hz dJ13_bitCount_95d88_10 rfl ?_
  refine x_ldc2 (v := (3689348814741910323 : Int64)) hz dJ13_bitCount_95d88_11 wc_J13_316 ?_
  refine x_land hz dJ13_bitCount_95d88_14 ?_
  refine x_lload_n hz dJ13_bitCount_95d88_15 rfl ?_
  refine x_iconst (v := (2 : Int32)) hz dJ13_bitCount_95d88_16 (by decide) ?_
  refine x_lushr hz dJ13_bitCount_95d88_17 ?_
  refine x_ldc2 (v := (3689348814741910323 : Int64)) hz dJ13_bitCount_95d88_18 wc_J13_316 ?_
  refine x_land hz dJ13_bitCount_95d88_21 ?_
  refine x_ladd hz dJ13_bitCount_95d88_22 ?_
  refine x_lstore_n (pl' := [xJ (((a0 - (((a0.toUInt64 >>> ((1 : Int32).toInt64.toUInt64 &&& Int64.toUInt64 63)).toInt64) &&& (6148914691236517205 : Int64))) &&& (3689348814741910323 : Int64)) + ((((a0 - (((a0.toUInt64 >>> ((1 : Int32).toInt64.toUInt64 &&& Int64.toUInt64 63)).toInt64) &&& (6148914691236517205 : Int64))).toUInt64 >>> ((2 : Int32).toInt64.toUInt64 &&& Int64.toUInt64 63)).toInt64) &&& (3689348814741910323 : Int64))), xN]) hz dJ13_bitCount_95d88_23 (by decide) rfl ?_
  refine x_lload_n hz dJ13_bitCount_95d88_24 rfl ?_
  refine x_lload_n hz dJ13_bitCount_95d88_25 rfl ?_
  refine x_iconst (v := (4 : Int32)) hz dJ13_bitCount_95d88_26 (by decide) ?_
  refine x_lushr hz dJ13_bitCount_95d88_27 ?_
  refine x_ladd hz dJ13_bitCount_95d88_28 ?_
  refine x_ldc2 (v := (1085102592571150095 : Int64)) hz dJ13_bitCount_95d88_29 wc_J13_318 ?_
  refine x_land hz dJ13_bitCount_95d88_32 ?_
  refine x_lstore_n (pl' := [xJ (((((a0 - (((a0.toUInt64 >>> ((1 : Int32).toInt64.toUInt64 &&& Int64.toUInt64 63)).toInt64) &&& (6148914691236517205 : Int64))) &&& (3689348814741910323 : Int64)) + ((((a0 - (((a0.toUInt64 >>> ((1 : Int32).toInt64.toUInt64 &&& Int64.toUInt64 63)).toInt64) &&& (6148914691236517205 : Int64))).toUInt64 >>> ((2 : Int32).toInt64.toUInt64 &&& Int64.toUInt64 63)).toInt64) &&& (3689348814741910323 : Int64))) + (((((a0 - (((a0.toUInt64 >>> ((1 : Int32).toInt64.toUInt64 &&& Int64.toUInt64 63)).toInt64) &&& (6148914691236517205 : Int64))) &&& (3689348814741910323 : Int64)) + ((((a0 - (((a0.toUInt64 >>> ((1 : Int32).toInt64.toUInt64 &&& Int64.toUInt64 63)).toInt64) &&& (6148914691236517205 : Int64))).toUInt64 >>> ((2 : Int32).toInt64.toUInt64 &&& Int64.toUInt64 63)).toInt64) &&& (3689348814741910323 : Int64))).toUInt64 >>> ((4 : Int32).toInt64.toUInt64 &&& Int64.toUInt64 63)).toInt64)) &&& (1085102592571150095 : Int64)), xN]) hz dJ13_bitCount_95d88_33 (by decide) rfl ?_
  refine x_lload_n hz dJ13_bitCount_95d88_34 rfl ?_
  refine x_lload_n hz dJ13_bitCount_95d88_35 rfl ?_
  refine x_bipush (v := (8 : Int32)) hz dJ13_bitCount_95d88_36 (by decide) ?_
  refine x_lushr hz dJ13_bitCount_95d88_38 ?_
  refine x_ladd hz dJ13_bitCount_95d88_39 ?_
  refine x_lstore_n (pl' := [xJ ((((((a0 - (((a0.toUInt64 >>> ((1 : Int32).toInt64.toUInt64 &&& Int64.toUInt64 63)).toInt64) &&& (6148914691236517205 : Int64))) &&& (3689348814741910323 : Int64)) + ((((a0 - (((a0.toUInt64 >>> ((1 : Int32).toInt64.toUInt64 &&& Int64.toUInt64 63)).toInt64) &&& (6148914691236517205 : Int64))).toUInt64 >>> ((2 : Int32).toInt64.toUInt64 &&& Int64.toUInt64 63)).toInt64) &&& (3689348814741910323 : Int64))) + (((((a0 - (((a0.toUInt64 >>> ((1 : Int32).toInt64.toUInt64 &&& Int64.toUInt64 63)).toInt64) &&& (6148914691236517205 : Int64))) &&& (3689348814741910323 : Int64)) + ((((a0 - (((a0.toUInt64 >>> ((1 : Int32).toInt64.toUInt64 &&& Int64.toUInt64 63)).toInt64) &&& (6148914691236517205 : Int64))).toUInt64 >>> ((2 : Int32).toInt64.toUInt64 &&& Int64.toUInt64 63)).toInt64) &&& (3689348814741910323 : Int64))).toUInt64 >>> ((4 : Int32).toInt64.toUInt64 &&& Int64.toUInt64 63)).toInt64)) &&& (1085102592571150095 : Int64)) + (((((((a0 - (((a0.toUInt64 >>> ((1 : Int32).toInt64.toUInt64 &&& Int64.toUInt64 63)).toInt64) &&& (6148914691236517205 : Int64))) &&& (3689348814741910323 : Int64)) + ((((a0 - (((a0.toUInt64 >>> ((1 : Int32).toInt64.toUInt64 &&& Int64.toUInt64 63)).toInt64) &&& (6148914691236517205 : Int64))).toUInt64 >>> ((2 : Int32).toInt64.toUInt64 &&& Int64.toUInt64 63)).toInt64) &&& (3689348814741910323 : Int64))) + (((((a0 - (((a0.toUInt64 >>> ((1 : Int32).toInt64.toUInt64 &&& Int64.toUInt64 63)).toInt64) &&& (6148914691236517205 : Int64))) &&& (3689348814741910323 : Int64)) + ((((a0 - (((a0.toUInt64 >>> ((1 : Int32).toInt64.toUInt64 &&& Int64.toUInt64 63)).toInt64) &&& (6148914691236517205 : Int64))).toUInt64 >>> ((2 : Int32).toInt64.toUInt64 &&& Int64.toUInt64 63)).toInt64) &&& (3689348814741910323 : Int64))).toUInt64 >>> ((4 : Int32).toInt64.toUInt64 &&& Int64.toUInt64 63)).toInt64)) &&& (1085102592571150095 : Int64)).toUInt64 >>> ((8 : Int32).toInt64.toUInt64 &&& Int64.toUInt64 63)).toInt64)), xN]) hz dJ13_bitCount_95d88_40 (by decide) rfl ?_
  refine x_lload_n hz dJ13_bitCount_95d88_41 rfl ?_
  refine x_lload_n hz dJ13_bitCount_95d88_42 rfl ?_
  refine x_bipush (v := (16 : Int32)) hz dJ13_bitCount_95d88_43 (by decide) ?_
  refine x_lushr hz dJ13_bitCount_95d88_45 ?_
  refine x_ladd hz dJ13_bitCount_95d88_46 ?_
  refine x_lstore_n (pl' := [xJ (((((((a0 - (((a0.toUInt64 >>> ((1 : Int32).toInt64.toUInt64 &&& Int64.toUInt64 63)).toInt64) &&& (6148914691236517205 : Int64))) &&& (3689348814741910323 : Int64)) + ((((a0 - (((a0.toUInt64 >>> ((1 : Int32).toInt64.toUInt64 &&& Int64.toUInt64 63)).toInt64) &&& (6148914691236517205 : Int64))).toUInt64 >>> ((2 : Int32).toInt64.toUInt64 &&& Int64.toUInt64 63)).toInt64) &&& (3689348814741910323 : Int64))) + (((((a0 - (((a0.toUInt64 >>> ((1 : Int32).toInt64.toUInt64 &&& Int64.toUInt64 63)).toInt64) &&& (6148914691236517205 : Int64))) &&& (3689348814741910323 : Int64)) + ((((a0 - (((a0.toUInt64 >>> ((1 : Int32).toInt64.toUInt64 &&& Int64.toUInt64 63)).toInt64) &&& (6148914691236517205 : Int64))).toUInt64 >>> ((2 : Int32).toInt64.toUInt64 &&& Int64.toUInt64 63)).toInt64) &&& (3689348814741910323 : Int64))).toUInt64 >>> ((4 : Int32).toInt64.toUInt64 &&& Int64.toUInt64 63)).toInt64)) &&& (1085102592571150095 : Int64)) + (((((((a0 - (((a0.toUInt64 >>> ((1 : Int32).toInt64.toUInt64 &&& Int64.toUInt64 63)).toInt64) &&& (6148914691236517205 : Int64))) &&& (3689348814741910323 : Int64)) + ((((a0 - (((a0.toUInt64 >>> ((1 : Int32).toInt64.toUInt64 &&& Int64.toUInt64 63)).toInt64) &&& (6148914691236517205 : Int64))).toUInt64 >>> ((2 : Int32).toInt64.toUInt64 &&& Int64.toUInt64 63)).toInt64) &&& (3689348814741910323 : Int64))) + (((((a0 - (((a0.toUInt64 >>> ((1 : Int32).toInt64.toUInt64 &&& Int64.toUInt64 63)).toInt64) &&& (6148914691236517205 : Int64))) &&& (3689348814741910323 : Int64)) + ((((a0 - (((a0.toUInt64 >>> ((1 : Int32).toInt64.toUInt64 &&& Int64.toUInt64 63)).toInt64) &&& (6148914691236517205 : Int64))).toUInt64 >>> ((2 : Int32).toInt64.toUInt64 &&& Int64.toUInt64 63)).toInt64) &&& (3689348814741910323 : Int64))).toUInt64 >>> ((4 : Int32).toInt64.toUInt64 &&& Int64.toUInt64 63)).toInt64)) &&& (1085102592571150095 : Int64)).toUInt64 >>> ((8 : Int32).toInt64.toUInt64 &&& Int64.toUInt64 63)).toInt64)) + ((((((((a0 - (((a0.toUInt64 >>> ((1 : Int32).toInt64.toUInt64 &&& Int64.toUInt64 63)).toInt64) &&& (6148914691236517205 : Int64))) &&& (3689348814741910323 : Int64)) + ((((a0 - (((a0.toUInt64 >>> ((1 : Int32).toInt64.toUInt64 &&& Int64.toUInt64 63)).toInt64) &&& (6148914691236517205 : Int64))).toUInt64 >>> ((2 : Int32).toInt64.toUInt64 &&& Int64.toUInt64 63)).toInt64) &&& (3689348814741910323 : Int64))) + (((((a0 - (((a0.toUInt64 >>> ((1 : Int32).toInt64.toUInt64 &&& Int64.toUInt64 63)).toInt64) &&& (6148914691236517205 : Int64))) &&& (3689348814741910323 : Int64)) + ((((a0 - (((a0.toUInt64 >>> ((1 : Int32).toInt64.toUInt64 &&& Int64.toUInt64 63)).toInt64) &&& (6148914691236517205 : Int64))).toUInt64 >>> ((2 : Int32).toInt64.toUInt64 &&& Int64.toUInt64 63)).toInt64) &&& (3689348814741910323 : Int64))).toUInt64 >>> ((4 : Int32).toInt64.toUInt64 &&& Int64.toUInt64 63)).toInt64)) &&& (1085102592571150095 : Int64)) + (((((((a0 - (((a0.toUInt64 >>> ((1 : Int32).toInt64.toUInt64 &&& Int64.toUInt64 63)).toInt64) &&& (6148914691236517205 : Int64))) &&& (3689348814741910323 : Int64)) + ((((a0 - (((a0.toUInt64 >>> ((1 : Int32).toInt64.toUInt64 &&& Int64.toUInt64 63)).toInt64) &&& (6148914691236517205 : Int64))).toUInt64 >>> ((2 : Int32).toInt64.toUInt64 &&& Int64.toUInt64 63)).toInt64) &&& (3689348814741910323 : Int64))) + (((((a0 - (((a0.toUInt64 >>> ((1 : Int32).toInt64.toUInt64 &&& Int64.toUInt64 63)).toInt64) &&& (6148914691236517205 : Int64))) &&& (3689348814741910323 : Int64)) + ((((a0 - (((a0.toUInt64 >>> ((1 : Int32).toInt64.toUInt64 &&& Int64.toUInt64 63)).toInt64) &&& (6148914691236517205 : Int64))).toUInt64 >>> ((2 : Int32).toInt64.toUInt64 &&& Int64.toUInt64 63)).toInt64) &&& (3689348814741910323 : Int64))).toUInt64 >>> ((4 : Int32).toInt64.toUInt64 &&& Int64.toUInt64 63)).toInt64)) &&& (1085102592571150095 : Int64)).toUInt64 >>> ((8 : Int32).toInt64.toUInt64 &&& Int64.toUInt64 63)).toInt64)).toUInt64 >>> ((16 : Int32).toInt64.toUInt64 &&& Int64.toUInt64 63)).toInt64)), xN]) hz dJ13_bitCount_95d88_47 (by decide) rfl ?_
  refine x_lload_n hz dJ13_bitCount_95d88_48 rfl ?_
  refine x_lload_n hz dJ13_bitCount_95d88_49 rfl ?_
  refine x_bipush (v := (32 : Int32)) hz dJ13_bitCount_95d88_50 (by decide) ?_
  refine x_lushr hz dJ13_bitCount_95d88_52 ?_
  refine x_ladd hz dJ13_bitCount_95d88_53 ?_
  refine x_lstore_n (pl' := [xJ ((((((((a0 - (((a0.toUInt64 >>> ((1 : Int32).toInt64.toUInt64 &&& Int64.toUInt64 63)).toInt64) &&& (6148914691236517205 : Int64))) &&& (3689348814741910323 : Int64)) + ((((a0 - (((a0.toUInt64 >>> ((1 : Int32).toInt64.toUInt64 &&& Int64.toUInt64 63)).toInt64) &&& (6148914691236517205 : Int64))).toUInt64 >>> ((2 : Int32).toInt64.toUInt64 &&& Int64.toUInt64 63)).toInt64) &&& (3689348814741910323 : Int64))) + (((((a0 - (((a0.toUInt64 >>> ((1 : Int32).toInt64.toUInt64 &&& Int64.toUInt64 63)).toInt64) &&& (6148914691236517205 : Int64))) &&& (3689348814741910323 : Int64)) + ((((a0 - (((a0.toUInt64 >>> ((1 : Int32).toInt64.toUInt64 &&& Int64.toUInt64 63)).toInt64) &&& (6148914691236517205 : Int64))).toUInt64 >>> ((2 : Int32).toInt64.toUInt64 &&& Int64.toUInt64 63)).toInt64) &&& (3689348814741910323 : Int64))).toUInt64 >>> ((4 : Int32).toInt64.toUInt64 &&& Int64.toUInt64 63)).toInt64)) &&& (1085102592571150095 : Int64)) + (((((((a0 - (((a0.toUInt64 >>> ((1 : Int32).toInt64.toUInt64 &&& Int64.toUInt64 63)).toInt64) &&& (6148914691236517205 : Int64))) &&& (3689348814741910323 : Int64)) + ((((a0 - (((a0.toUInt64 >>> ((1 : Int32).toInt64.toUInt64 &&& Int64.toUInt64 63)).toInt64) &&& (6148914691236517205 : Int64))).toUInt64 >>> ((2 : Int32).toInt64.toUInt64 &&& Int64.toUInt64 63)).toInt64) &&& (3689348814741910323 : Int64))) + (((((a0 - (((a0.toUInt64 >>> ((1 : Int32).toInt64.toUInt64 &&& Int64.toUInt64 63)).toInt64) &&& (6148914691236517205 : Int64))) &&& (3689348814741910323 : Int64)) + ((((a0 - (((a0.toUInt64 >>> ((1 : Int32).toInt64.toUInt64 &&& Int64.toUInt64 63)).toInt64) &&& (6148914691236517205 : Int64))).toUInt64 >>> ((2 : Int32).toInt64.toUInt64 &&& Int64.toUInt64 63)).toInt64) &&& (3689348814741910323 : Int64))).toUInt64 >>> ((4 : Int32).toInt64.toUInt64 &&& Int64.toUInt64 63)).toInt64)) &&& (1085102592571150095 : Int64)).toUInt64 >>> ((8 : Int32).toInt64.toUInt64 &&& Int64.toUInt64 63)).toInt64)) + ((((((((a0 - (((a0.toUInt64 >>> ((1 : Int32).toInt64.toUInt64 &&& Int64.toUInt64 63)).toInt64) &&& (6148914691236517205 : Int64))) &&& (3689348814741910323 : Int64)) + ((((a0 - (((a0.toUInt64 >>> ((1 : Int32).toInt64.toUInt64 &&& Int64.toUInt64 63)).toInt64) &&& (6148914691236517205 : Int64))).toUInt64 >>> ((2 : Int32).toInt64.toUInt64 &&& Int64.toUInt64 63)).toInt64) &&& (3689348814741910323 : Int64))) + (((((a0 - (((a0.toUInt64 >>> ((1 : Int32).toInt64.toUInt64 &&& Int64.toUInt64 63)).toInt64) &&& (6148914691236517205 : Int64))) &&& (3689348814741910323 : Int64)) + ((((a0 - (((a0.toUInt64 >>> ((1 : Int32).toInt64.toUInt64 &&& Int64.toUInt64 63)).toInt64) &&& (6148914691236517205 : Int64))).toUInt64 >>> ((2 : Int32).toInt64.toUInt64 &&& Int64.toUInt64 63)).toInt64) &&& (3689348814741910323 : Int64))).toUInt64 >>> ((4 : Int32).toInt64.toUInt64 &&& Int64.toUInt64 63)).toInt64)) &&& (1085102592571150095 : Int64)) + (((((((a0 - (((a0.toUInt64 >>> ((1 : Int32).toInt64.toUInt64 &&& Int64.toUInt64 63)).toInt64) &&& (6148914691236517205 : Int64))) &&& (3689348814741910323 : Int64)) + ((((a0 - (((a0.toUInt64 >>> ((1 : Int32).toInt64.toUInt64 &&& Int64.toUInt64 63)).toInt64) &&& (6148914691236517205 : Int64))).toUInt64 >>> ((2 : Int32).toInt64.toUInt64 &&& Int64.toUInt64 63)).toInt64) &&& (3689348814741910323 : Int64))) + (((((a0 - (((a0.toUInt64 >>> ((1 : Int32).toInt64.toUInt64 &&& Int64.toUInt64 63)).toInt64) &&& (6148914691236517205 : Int64))) &&& (3689348814741910323 : Int64)) + ((((a0 - (((a0.toUInt64 >>> ((1 : Int32).toInt64.toUInt64 &&& Int64.toUInt64 63)).toInt64) &&& (6148914691236517205 : Int64))).toUInt64 >>> ((2 : Int32).toInt64.toUInt64 &&& Int64.toUInt64 63)).toInt64) &&& (3689348814741910323 : Int64))).toUInt64 >>> ((4 : Int32).toInt64.toUInt64 &&& Int64.toUInt64 63)).toInt64)) &&& (1085102592571150095 : Int64)).toUInt64 >>> ((8 : Int32).toInt64.toUInt64 &&& Int64.toUInt64 63)).toInt64)).toUInt64 >>> ((16 : Int32).toInt64.toUInt64 &&& Int64.toUInt64 63)).toInt64)) + (((((((((a0 - (((a0.toUInt64 >>> ((1 : Int32).toInt64.toUInt64 &&& Int64.toUInt64 63)).toInt64) &&& (6148914691236517205 : Int64))) &&& (3689348814741910323 : Int64)) + ((((a0 - (((a0.toUInt64 >>> ((1 : Int32).toInt64.toUInt64 &&& Int64.toUInt64 63)).toInt64) &&& (6148914691236517205 : Int64))).toUInt64 >>> ((2 : Int32).toInt64.toUInt64 &&& Int64.toUInt64 63)).toInt64) &&& (3689348814741910323 : Int64))) + (((((a0 - (((a0.toUInt64 >>> ((1 : Int32).toInt64.toUInt64 &&& Int64.toUInt64 63)).toInt64) &&& (6148914691236517205 : Int64))) &&& (3689348814741910323 : Int64)) + ((((a0 - (((a0.toUInt64 >>> ((1 : Int32).toInt64.toUInt64 &&& Int64.toUInt64 63)).toInt64) &&& (6148914691236517205 : Int64))).toUInt64 >>> ((2 : Int32).toInt64.toUInt64 &&& Int64.toUInt64 63)).toInt64) &&& (3689348814741910323 : Int64))).toUInt64 >>> ((4 : Int32).toInt64.toUInt64 &&& Int64.toUInt64 63)).toInt64)) &&& (1085102592571150095 : Int64)) + (((((((a0 - (((a0.toUInt64 >>> ((1 : Int32).toInt64.toUInt64 &&& Int64.toUInt64 63)).toInt64) &&& (6148914691236517205 : Int64))) &&& (3689348814741910323 : Int64)) + ((((a0 - (((a0.toUInt64 >>> ((1 : Int32).toInt64.toUInt64 &&& Int64.toUInt64 63)).toInt64) &&& (6148914691236517205 : Int64))).toUInt64 >>> ((2 : Int32).toInt64.toUInt64 &&& Int64.toUInt64 63)).toInt64) &&& (3689348814741910323 : Int64))) + (((((a0 - (((a0.toUInt64 >>> ((1 : Int32).toInt64.toUInt64 &&& Int64.toUInt64 63)).toInt64) &&& (6148914691236517205 : Int64))) &&& (3689348814741910323 : Int64)) + ((((a0 - (((a0.toUInt64 >>> ((1 : Int32).toInt64.toUInt64 &&& Int64.toUInt64 63)).toInt64) &&& (6148914691236517205 : Int64))).toUInt64 >>> ((2 : Int32).toInt64.toUInt64 &&& Int64.toUInt64 63)).toInt64) &&& (3689348814741910323 : Int64))).toUInt64 >>> ((4 : Int32).toInt64.toUInt64 &&& Int64.toUInt64 63)).toInt64)) &&& (1085102592571150095 : Int64)).toUInt64 >>> ((8 : Int32).toInt64.toUInt64 &&& Int64.toUInt64 63)).toInt64)) + ((((((((a0 - (((a0.toUInt64 >>> ((1 : Int32).toInt64.toUInt64 &&& Int64.toUInt64 63)).toInt64) &&& (6148914691236517205 : Int64))) &&& (3689348814741910323 : Int64)) + ((((a0 - (((a0.toUInt64 >>> ((1 : Int32).toInt64.toUInt64 &&& Int64.toUInt64 63)).toInt64) &&& (6148914691236517205 : Int64))).toUInt64 >>> ((2 : Int32).toInt64.toUInt64 &&& Int64.toUInt64 63)).toInt64) &&& (3689348814741910323 : Int64))) + (((((a0 - (((a0.toUInt64 >>> ((1 : Int32).toInt64.toUInt64 &&& Int64.toUInt64 63)).toInt64) &&& (6148914691236517205 : Int64))) &&& (3689348814741910323 : Int64)) + ((((a0 - (((a0.toUInt64 >>> ((1 : Int32).toInt64.toUInt64 &&& Int64.toUInt64 63)).toInt64) &&& (6148914691236517205 : Int64))).toUInt64 >>> ((2 : Int32).toInt64.toUInt64 &&& Int64.toUInt64 63)).toInt64) &&& (3689348814741910323 : Int64))).toUInt64 >>> ((4 : Int32).toInt64.toUInt64 &&& Int64.toUInt64 63)).toInt64)) &&& (1085102592571150095 : Int64)) + (((((((a0 - (((a0.toUInt64 >>> ((1 : Int32).toInt64.toUInt64 &&& Int64.toUInt64 63)).toInt64) &&& (6148914691236517205 : Int64))) &&& (3689348814741910323 : Int64)) + ((((a0 - (((a0.toUInt64 >>> ((1 : Int32).toInt64.toUInt64 &&& Int64.toUInt64 63)).toInt64) &&& (6148914691236517205 : Int64))).toUInt64 >>> ((2 : Int32).toInt64.toUInt64 &&& Int64.toUInt64 63)).toInt64) &&& (3689348814741910323 : Int64))) + (((((a0 - (((a0.toUInt64 >>> ((1 : Int32).toInt64.toUInt64 &&& Int64.toUInt64 63)).toInt64) &&& (6148914691236517205 : Int64))) &&& (3689348814741910323 : Int64)) + ((((a0 - (((a0.toUInt64 >>> ((1 : Int32).toInt64.toUInt64 &&& Int64.toUInt64 63)).toInt64) &&& (6148914691236517205 : Int64))).toUInt64 >>> ((2 : Int32).toInt64.toUInt64 &&& Int64.toUInt64 63)).toInt64) &&& (3689348814741910323 : Int64))).toUInt64 >>> ((4 : Int32).toInt64.toUInt64 &&& Int64.toUInt64 63)).toInt64)) &&& (1085102592571150095 : Int64)).toUInt64 >>> ((8 : Int32).toInt64.toUInt64 &&& Int64.toUInt64 63)).toInt64)).toUInt64 >>> ((16 : Int32).toInt64.toUInt64 &&& Int64.toUInt64 63)).toInt64)).toUInt64 >>> ((32 : Int32).toInt64.toUInt64 &&& Int64.toUInt64 63)).toInt64)), xN]) hz dJ13_bitCount_95d88_54 (by decide) rfl ?_
  refine x_lload_n hz dJ13_bitCount_95d88_55 rfl ?_
  refine x_l2i hz dJ13_bitCount_95d88_56 ?_
  refine x_bipush (v := (127 : Int32)) hz dJ13_bitCount_95d88_57 (by decide) ?_
  refine x_iand hz dJ13_bitCount_95d88_59 ?_
  cases h
  exact x_iret hZ dJ13_bitCount_95d88_60
theorem M_J13_bitCount_95d88 {N : Nat} {a0 : Int64} {H H1 : xH} {r1 : Int32} (h : F_J13_bitCount_95d88 N a0 H = some (r1, H1)) : xM yJ13_bitCount_95d88 cJ13_bitCount_95d88 2 (some .int) 1 [.inr (.inl a0)] H (some (.int r1)) H1 :=
  xM_of (by decide +kernel) (xT_tb 975 (by decide +kernel) (by decide +kernel)) (by simp [xargs, x2]) rfl (P_J13_bitCount_95d88 rfl a0 H h)
/-! BettingBook.count(I)I -/
noncomputable def F_X11_count (N : Nat) (a0 : (Option Nat)) (a1 : Int32) (H : xH) : Option (Int32 × xH) :=
  if a1 = 0 then ((xgI H a0 10 3).bind fun v2 =>
  some (v2, H)) else (if a1 = 1 then ((xgA H a0 10 7).bind fun v4 =>
  (xgI H v4 4 0).bind fun v5 =>
  some (v5, H)) else (if a1 = 2 then ((xgA H a0 10 7).bind fun v7 =>
  (xob H v7 4).bind fun b9 =>
  x_bd2 (F_X4_cameBits N v7 H) fun v10 H8 =>
  some (v10, H8)) else (if a1 = 3 then ((xgI H a0 10 1).bind fun v12 =>
  some (v12, H)) else (if a1 = 4 then ((xgI H a0 10 9).bind fun v14 =>
  some (v14, H)) else (if a1 = 5 then ((xgA H a0 10 6).bind fun v16 =>
  (xgJ H v16 6 4).bind fun v17 =>
  x_bd2 (F_J13_bitCount_95d88 N v17 H) fun v19 H18 =>
  some (v19, H18)) else (if a1 = 6 then ((xgA H a0 10 6).bind fun v21 =>
  (xgI H v21 6 2).bind fun v22 =>
  some (v22, H)) else (if a1 = 7 then ((xgA H a0 10 10).bind fun v24 =>
  (xgA H a0 10 6).bind fun v25 =>
  (xgI H v25 6 0).bind fun v26 =>
  (xob H v24 5).bind fun b28 =>
  x_bd2 (F_X5_areWhole N v24 v26 H) fun v29 H27 =>
  if v29 = 0 then (some ((0 : Int32), H27)) else (some ((1 : Int32), H27))) else (if a1 = 8 then ((xgA H a0 10 7).bind fun v32 =>
  (xgI H v32 4 1).bind fun v33 =>
  some (v33, H)) else (some ((-1 : Int32), H))))))))))
set_option maxRecDepth 20000 in
set_option maxHeartbeats 4000000 in
theorem P_X11_count {N : Nat} {Z : xZ} {rv : Int32} {Hf : xH} (hZ : Z = xZm cX11_count yX11_count 2 3 (some .int) (some (.int rv)) Hf) : ∀ (a0 : (Option Nat)) (a1 : Int32) (H : xH), F_X11_count N a0 a1 H = some (rv, Hf) → xWq Z H 0 [xA a0, xI a1] [] := by
  have hz : Z.1 = (cX11_count, yX11_count, 2) := by rw [hZ]; rfl
  have hδ : Z.2.1 = 3 := by rw [hZ]; rfl
  intro a0 a1 H h
  unfold F_X11_count at h
  refine x_iload_n hz dX11_count_0 rfl ?_
  by_cases c1 : a1 = 0
  · replace h := x_ip c1 h
    refine x_tsIn (t := 52) (off := 51) hz dX11_count_1 (by rw [c1]; decide) (by rw [c1]; decide) (by rw [c1]; decide) (by decide) ?_
    refine x_aload_n hz dX11_count_52 rfl ?_
    obtain ⟨v2, e_v2, h⟩ := x_bnd h
    refine x_getI hz dX11_count_53 fs_X11_109 e_v2 ?_
    cases h
    exact x_iret hZ dX11_count_56
  replace h := x_in c1 h
  by_cases c3 : a1 = 1
  · replace h := x_ip c3 h
    refine x_tsIn (t := 57) (off := 56) hz dX11_count_1 (by rw [c3]; decide) (by rw [c3]; decide) (by rw [c3]; decide) (by decide) ?_
    refine x_aload_n hz dX11_count_57 rfl ?_
    obtain ⟨v4, e_v4, h⟩ := x_bnd h
    refine x_getA hz dX11_count_58 fs_X11_41 e_v4 ?_
    obtain ⟨v5, e_v5, h⟩ := x_bnd h
    refine x_getI hz dX11_count_61 fs_X11_168 e_v5 ?_
    cases h
    exact x_iret hZ dX11_count_64
  replace h := x_in c3 h
  by_cases c6 : a1 = 2
  · replace h := x_ip c6 h
    refine x_tsIn (t := 65) (off := 64) hz dX11_count_1 (by rw [c6]; decide) (by rw [c6]; decide) (by rw [c6]; decide) (by decide) ?_
    refine x_aload_n hz dX11_count_65 rfl ?_
    obtain ⟨v7, e_v7, h⟩ := x_bnd h
    refine x_getA hz dX11_count_66 fs_X11_41 e_v7 ?_
    obtain ⟨b9, e_b9, h⟩ := x_bnd h
    obtain ⟨v10, H8, e_H8, h⟩ := x_b2 h
    refine x_callVi (as := []) (st := []) cs_X11_290 (ci := 4) ⟨rfl, rfl⟩ rfl rfl hz (by omega) (by decide) dX11_count_69 e_b9 (M_X4_cameBits e_H8) ?_
    cases h
    exact x_iret hZ dX11_count_72
  replace h := x_in c6 h
  by_cases c11 : a1 = 3
  · replace h := x_ip c11 h
    refine x_tsIn (t := 73) (off := 72) hz dX11_count_1 (by rw [c11]; decide) (by rw [c11]; decide) (by rw [c11]; decide) (by decide) ?_
    refine x_aload_n hz dX11_count_73 rfl ?_
    obtain ⟨v12, e_v12, h⟩ := x_bnd h
    refine x_getI hz dX11_count_74 fs_X11_85 e_v12 ?_
    cases h
    exact x_iret hZ dX11_count_77
  replace h := x_in c11 h
  by_cases c13 : a1 = 4
  · replace h := x_ip c13 h
    refine x_tsIn (t := 78) (off := 77) hz dX11_count_1 (by rw [c13]; decide) (by rw [c13]; decide) (by rw [c13]; decide) (by decide) ?_
    refine x_aload_n hz dX11_count_78 rfl ?_
    obtain ⟨v14, e_v14, h⟩ := x_bnd h
    refine x_getI hz dX11_count_79 fs_X11_112 e_v14 ?_
    cases h
    exact x_iret hZ dX11_count_82
  replace h := x_in c13 h
  by_cases c15 : a1 = 5
  · replace h := x_ip c15 h
    refine x_tsIn (t := 83) (off := 82) hz dX11_count_1 (by rw [c15]; decide) (by rw [c15]; decide) (by rw [c15]; decide) (by decide) ?_
    refine x_aload_n hz dX11_count_83 rfl ?_
    obtain ⟨v16, e_v16, h⟩ := x_bnd h
    refine x_getA hz dX11_count_84 fs_X11_34 e_v16 ?_
    obtain ⟨v17, e_v17, h⟩ := x_bnd h
    refine x_getJ hz dX11_count_87 fs_X11_217 e_v17 ?_
    obtain ⟨v19, H18, e_H18, h⟩ := x_b2 h
    refine x_callSi (as := [.inr (.inl v17)]) (st := []) cs_X11_293 rfl rfl hz (by omega) (by decide) dX11_count_90 (M_J13_bitCount_95d88 e_H18) ?_
    cases h
    exact x_iret hZ dX11_count_93
  replace h := x_in c15 h
  by_cases c20 : a1 = 6
  · replace h := x_ip c20 h
    refine x_tsIn (t := 94) (off := 93) hz dX11_count_1 (by rw [c20]; decide) (by rw [c20]; decide) (by rw [c20]; decide) (by decide) ?_
    refine x_aload_n hz dX11_count_94 rfl ?_
    obtain ⟨v21, e_v21, h⟩ := x_bnd h
    refine x_getA hz dX11_count_95 fs_X11_34 e_v21 ?_
    obtain ⟨v22, e_v22, h⟩ := x_bnd h
    refine x_getI hz dX11_count_98 fs_X11_283 e_v22 ?_
    cases h
    exact x_iret hZ dX11_count_101
  replace h := x_in c20 h
  by_cases c23 : a1 = 7
  · replace h := x_ip c23 h
    refine x_tsIn (t := 102) (off := 101) hz dX11_count_1 (by rw [c23]; decide) (by rw [c23]; decide) (by rw [c23]; decide) (by decide) ?_
    refine x_aload_n hz dX11_count_102 rfl ?_
    obtain ⟨v24, e_v24, h⟩ := x_bnd h
    refine x_getA hz dX11_count_103 fs_X11_52 e_v24 ?_
    refine x_aload_n hz dX11_count_106 rfl ?_
    obtain ⟨v25, e_v25, h⟩ := x_bnd h
    refine x_getA hz dX11_count_107 fs_X11_34 e_v25 ?_
    obtain ⟨v26, e_v26, h⟩ := x_bnd h
    refine x_getI hz dX11_count_110 fs_X11_298 e_v26 ?_
    obtain ⟨b28, e_b28, h⟩ := x_bnd h
    obtain ⟨v29, H27, e_H27, h⟩ := x_b2 h
    refine x_callVi (as := [.inl v26]) (st := []) cs_X11_299 (ci := 5) ⟨rfl, rfl⟩ rfl rfl hz (by omega) (by decide) dX11_count_113 e_b28 (M_X5_areWhole e_H27) ?_
    refine x_if_eq (t := 123) hz dX11_count_116 (by decide) (fun c30 => ?_) (fun c30 => ?_)
    · replace h := x_ip c30 h
      refine x_iconst (v := (0 : Int32)) hz dX11_count_123 (by decide) ?_
      cases h
      exact x_iret hZ dX11_count_124
    · replace h := x_in c30 h
      refine x_iconst (v := (1 : Int32)) hz dX11_count_119 (by decide) ?_
      refine x_goto (t := 124) hz dX11_count_120 (by decide) ?_
      cases h
      exact x_iret hZ dX11_count_124
  replace h := x_in c23 h
  by_cases c31 : a1 = 8
  · replace h := x_ip c31 h
    refine x_tsIn (t := 125) (off := 124) hz dX11_count_1 (by rw [c31]; decide) (by rw [c31]; decide) (by rw [c31]; decide) (by decide) ?_
    refine x_aload_n hz dX11_count_125 rfl ?_
    obtain ⟨v32, e_v32, h⟩ := x_bnd h
    refine x_getA hz dX11_count_126 fs_X11_41 e_v32 ?_
    obtain ⟨v33, e_v33, h⟩ := x_bnd h
    refine x_getI hz dX11_count_129 fs_X11_302 e_v33 ?_
    cases h
    exact x_iret hZ dX11_count_132
  replace h := x_in c31 h
  refine x_tsOut (t := 133) hz dX11_count_1 (x_tsN a1 (0) (8) (by decide) (by decide) (fun i h1 h2 => ?_)) (by decide) ?_
  · (have h3 : i = 0 ∨ i = 1 ∨ i = 2 ∨ i = 3 ∨ i = 4 ∨ i = 5 ∨ i = 6 ∨ i = 7 ∨ i = 8 := by omega); rcases h3 with rfl | rfl | rfl | rfl | rfl | rfl | rfl | rfl | rfl <;> intro e <;> first | exact c1 (Int32.toInt_inj.mp (e.trans rfl)) | exact c3 (Int32.toInt_inj.mp (e.trans rfl)) | exact c6 (Int32.toInt_inj.mp (e.trans rfl)) | exact c11 (Int32.toInt_inj.mp (e.trans rfl)) | exact c13 (Int32.toInt_inj.mp (e.trans rfl)) | exact c15 (Int32.toInt_inj.mp (e.trans rfl)) | exact c20 (Int32.toInt_inj.mp (e.trans rfl)) | exact c23 (Int32.toInt_inj.mp (e.trans rfl)) | exact c31 (Int32.toInt_inj.mp (e.trans rfl))
  refine x_iconst (v := (-1 : Int32)) hz dX11_count_133 (by decide) ?_
  cases h
  exact x_iret hZ dX11_count_134
theorem M_X11_count {N : Nat} {a0 : (Option Nat)} {a1 : Int32} {H H1 : xH} {r1 : Int32} (h : F_X11_count N a0 a1 H = some (r1, H1)) : xM yX11_count cX11_count 2 (some .int) 3 [.inr (.inr a0), .inl a1] H (some (.int r1)) H1 :=
  xM_of (by decide +kernel) (xT_tb 968 (by decide +kernel) (by decide +kernel)) (by simp [xargs, x2]) rfl (P_X11_count rfl a0 a1 H h)
/-! BettingBookModel.isIn(III)Z -/
noncomputable def F_X12_isIn (N : Nat) (a0 : Int32) (a1 : Int32) (a2 : Int32) (H : xH) : Option (Int32 × xH) :=
  if a0 < a1 then (some ((0 : Int32), H)) else (if a2 < a0 then (some ((0 : Int32), H)) else (some ((1 : Int32), H)))
set_option maxRecDepth 20000 in
set_option maxHeartbeats 4000000 in
theorem P_X12_isIn {N : Nat} {Z : xZ} {rv : Int32} {Hf : xH} (hZ : Z = xZm cX12_isIn yX12_isIn 3 1 (some .boolean) (some (.int rv)) Hf) : ∀ (a0 : Int32) (a1 : Int32) (a2 : Int32) (H : xH), F_X12_isIn N a0 a1 a2 H = some (rv, Hf) → xWq Z H 0 [xI a0, xI a1, xI a2] [] := by
  have hz : Z.1 = (cX12_isIn, yX12_isIn, 3) := by rw [hZ]; rfl
  have hδ : Z.2.1 = 1 := by rw [hZ]; rfl
  intro a0 a1 a2 H h
  unfold F_X12_isIn at h
  refine x_iload_n hz dX12_isIn_0 rfl ?_
  refine x_iload_n hz dX12_isIn_1 rfl ?_
  refine x_icmp_lt (t := 14) hz dX12_isIn_2 (by decide) (fun c1 => ?_) (fun c1 => ?_)
  · replace h := x_ip c1 h
    refine x_iconst (v := (0 : Int32)) hz dX12_isIn_14 (by decide) ?_
    cases h
    exact x_zret01 hZ (Or.inl rfl) dX12_isIn_15
  · replace h := x_in c1 h
    refine x_iload_n hz dX12_isIn_5 rfl ?_
    refine x_iload_n hz dX12_isIn_6 rfl ?_
    refine x_icmp_gt (t := 14) hz dX12_isIn_7 (by decide) (fun c2 => ?_) (fun c2 => ?_)
    · replace h := x_ip c2 h
      refine x_iconst (v := (0 : Int32)) hz dX12_isIn_14 (by decide) ?_
      cases h
      exact x_zret01 hZ (Or.inl rfl) dX12_isIn_15
    · replace h := x_in c2 h
      refine x_iconst (v := (1 : Int32)) hz dX12_isIn_10 (by decide) ?_
      refine x_goto (t := 15) hz dX12_isIn_11 (by decide) ?_
      cases h
      exact x_zret01 hZ (Or.inr rfl) dX12_isIn_15
theorem M_X12_isIn {N : Nat} {a0 : Int32} {a1 : Int32} {a2 : Int32} {H H1 : xH} {r1 : Int32} (h : F_X12_isIn N a0 a1 a2 H = some (r1, H1)) : xM yX12_isIn cX12_isIn 3 (some .boolean) 1 [.inl a0, .inl a1, .inl a2] H (some (.int r1)) H1 :=
  xM_of (by decide +kernel) (xT_tb 998 (by decide +kernel) (by decide +kernel)) (by simp [xargs, x2]) rfl (P_X12_isIn rfl a0 a1 a2 H h)
/-! BettingBookModel.lays(I)Z -/
noncomputable def F_X12_lays_J81 (N : Nat) (k7 : (Option Nat) → Int32 → Int32 → Int32 → xH → Option (Int32 × xH)) (x0 : (Option Nat)) (x2 : Int32) (x4 : Int32) (s0 : Int32) (H : xH) : Option (Int32 × xH) :=
  k7 x0 x2 s0 (x4 + 1) H
set_option maxRecDepth 20000 in
set_option maxHeartbeats 4000000 in
theorem P_X12_lays_J81 {N : Nat} {Z : xZ} {rv : Int32} {Hf : xH} (hZ : Z = xZm cX12_lays yX12_lays 5 2 (some .boolean) (some (.int rv)) Hf) {k7 : (Option Nat) → Int32 → Int32 → Int32 → xH → Option (Int32 × xH)} (hk7 : ∀ (x0 : (Option Nat)) (x2 : Int32) (x3 : Int32) (x4 : Int32) (H : xH), k7 x0 x2 x3 x4 H = some (rv, Hf) → xWq Z H 7 [xA x0, xN, xI x2, xI x3, xI x4] []) : ∀ (x0 : (Option Nat)) (x2 : Int32) (x4 : Int32) (s0 : Int32) (H : xH), F_X12_lays_J81 N k7 x0 x2 x4 s0 H = some (rv, Hf) → xWq Z H 81 [xA x0, xN, xI x2, xN, xI x4] [.int s0] := by
  have hz : Z.1 = (cX12_lays, yX12_lays, 5) := by rw [hZ]; rfl
  have hδ : Z.2.1 = 2 := by rw [hZ]; rfl
  intro x0 x2 x4 s0 H h
  unfold F_X12_lays_J81 at h
  refine x_istore_n (pl' := [xA x0, xN, xI x2, xI s0, xI x4]) hz dX12_lays_81 (by decide) rfl ?_
  refine x_iinc (w := (x4 + 1)) (pl' := [xA x0, xN, xI x2, xI s0, xI (x4 + 1)]) hz dX12_lays_82 rfl rfl (by decide) rfl ?_
  refine x_goto (t := 7) hz dX12_lays_85 (by decide) ?_
  exact x_wk (xwk_c (xwk_n (xwk_c (xwk_c (xwk_c xwk_0))))) (hk7 x0 x2 s0 (x4 + 1) H h)
noncomputable def F_X12_lays_J76 (N : Nat) (k7 : (Option Nat) → Int32 → Int32 → Int32 → xH → Option (Int32 × xH)) (x0 : (Option Nat)) (x2 : Int32) (x4 : Int32) (H : xH) : Option (Int32 × xH) :=
  (F_X12_lays_J81 N k7) x0 x2 x4 (1 : Int32) H
set_option maxRecDepth 20000 in
set_option maxHeartbeats 4000000 in
theorem P_X12_lays_J76 {N : Nat} {Z : xZ} {rv : Int32} {Hf : xH} (hZ : Z = xZm cX12_lays yX12_lays 5 2 (some .boolean) (some (.int rv)) Hf) {k7 : (Option Nat) → Int32 → Int32 → Int32 → xH → Option (Int32 × xH)} (hk7 : ∀ (x0 : (Option Nat)) (x2 : Int32) (x3 : Int32) (x4 : Int32) (H : xH), k7 x0 x2 x3 x4 H = some (rv, Hf) → xWq Z H 7 [xA x0, xN, xI x2, xI x3, xI x4] []) : ∀ (x0 : (Option Nat)) (x2 : Int32) (x4 : Int32) (H : xH), F_X12_lays_J76 N k7 x0 x2 x4 H = some (rv, Hf) → xWq Z H 76 [xA x0, xN, xI x2, xN, xI x4] [] := by
  have hz : Z.1 = (cX12_lays, yX12_lays, 5) := by rw [hZ]; rfl
  have hδ : Z.2.1 = 2 := by rw [hZ]; rfl
  intro x0 x2 x4 H h
  unfold F_X12_lays_J76 at h
  refine x_iconst (v := (1 : Int32)) hz dX12_lays_76 (by decide) ?_
  refine x_goto (t := 81) hz dX12_lays_77 (by decide) ?_
  exact x_wk (xwk_c (xwk_n (xwk_c (xwk_n (xwk_c xwk_0))))) ((P_X12_lays_J81 hZ hk7) x0 x2 x4 (1 : Int32) H h)
noncomputable def F_X12_lays_J80 (N : Nat) (k7 : (Option Nat) → Int32 → Int32 → Int32 → xH → Option (Int32 × xH)) (x0 : (Option Nat)) (x2 : Int32) (x4 : Int32) (H : xH) : Option (Int32 × xH) :=
  (F_X12_lays_J81 N k7) x0 x2 x4 (0 : Int32) H
set_option maxRecDepth 20000 in
set_option maxHeartbeats 4000000 in
theorem P_X12_lays_J80 {N : Nat} {Z : xZ} {rv : Int32} {Hf : xH} (hZ : Z = xZm cX12_lays yX12_lays 5 2 (some .boolean) (some (.int rv)) Hf) {k7 : (Option Nat) → Int32 → Int32 → Int32 → xH → Option (Int32 × xH)} (hk7 : ∀ (x0 : (Option Nat)) (x2 : Int32) (x3 : Int32) (x4 : Int32) (H : xH), k7 x0 x2 x3 x4 H = some (rv, Hf) → xWq Z H 7 [xA x0, xN, xI x2, xI x3, xI x4] []) : ∀ (x0 : (Option Nat)) (x2 : Int32) (x4 : Int32) (H : xH), F_X12_lays_J80 N k7 x0 x2 x4 H = some (rv, Hf) → xWq Z H 80 [xA x0, xN, xI x2, xN, xI x4] [] := by
  have hz : Z.1 = (cX12_lays, yX12_lays, 5) := by rw [hZ]; rfl
  have hδ : Z.2.1 = 2 := by rw [hZ]; rfl
  intro x0 x2 x4 H h
  unfold F_X12_lays_J80 at h
  refine x_iconst (v := (0 : Int32)) hz dX12_lays_80 (by decide) ?_
  exact x_wk (xwk_c (xwk_n (xwk_c (xwk_n (xwk_c xwk_0))))) ((P_X12_lays_J81 hZ hk7) x0 x2 x4 (0 : Int32) H h)
noncomputable def F_X12_lays_J7 (N : Nat) (k7 : (Option Nat) → Int32 → Int32 → Int32 → xH → Option (Int32 × xH)) (x0 : (Option Nat)) (x2 : Int32) (x3 : Int32) (x4 : Int32) (H : xH) : Option (Int32 × xH) :=
  (xgI H x0 11 0).bind fun v1 =>
  if v1 ≤ x4 then (if x3 = 0 ∨ x3 = 1 then some (x3, H) else none) else ((xgA H x0 11 42).bind fun v4 =>
  (xsI .int H v4 x4 ((x2 - x2 / (9 : Int32) * (9 : Int32)) - (1 : Int32))).bind fun H5 =>
  if x3 = 0 then ((F_X12_lays_J80 N k7) x0 (x2 / (9 : Int32)) x4 H5) else ((xgA H5 x0 11 42).bind fun v7 =>
  (xlI .int H5 v7 x4).bind fun v8 =>
  if v8 = (-1 : Int32) then ((F_X12_lays_J76 N k7) x0 (x2 / (9 : Int32)) x4 H5) else ((xgA H5 x0 11 42).bind fun v10 =>
  (xlI .int H5 v10 x4).bind fun v11 =>
  (xgA H5 x0 11 6).bind fun v12 =>
  (xlI .int H5 v12 x4).bind fun v13 =>
  (xgA H5 x0 11 7).bind fun v14 =>
  (xlI .int H5 v14 x4).bind fun v15 =>
  x_bd2 (F_X12_isIn N v11 v13 v15 H5) fun v17 H16 =>
  if v17 = 0 then ((F_X12_lays_J80 N k7) x0 (x2 / (9 : Int32)) x4 H16) else ((F_X12_lays_J76 N k7) x0 (x2 / (9 : Int32)) x4 H16))))
set_option maxRecDepth 20000 in
set_option maxHeartbeats 4000000 in
theorem P_X12_lays_J7 {N : Nat} {Z : xZ} {rv : Int32} {Hf : xH} (hZ : Z = xZm cX12_lays yX12_lays 5 2 (some .boolean) (some (.int rv)) Hf) {k7 : (Option Nat) → Int32 → Int32 → Int32 → xH → Option (Int32 × xH)} (hk7 : ∀ (x0 : (Option Nat)) (x2 : Int32) (x3 : Int32) (x4 : Int32) (H : xH), k7 x0 x2 x3 x4 H = some (rv, Hf) → xWq Z H 7 [xA x0, xN, xI x2, xI x3, xI x4] []) : ∀ (x0 : (Option Nat)) (x2 : Int32) (x3 : Int32) (x4 : Int32) (H : xH), F_X12_lays_J7 N k7 x0 x2 x3 x4 H = some (rv, Hf) → xWq Z H 7 [xA x0, xN, xI x2, xI x3, xI x4] [] := by
  have hz : Z.1 = (cX12_lays, yX12_lays, 5) := by rw [hZ]; rfl
  have hδ : Z.2.1 = 2 := by rw [hZ]; rfl
  intro x0 x2 x3 x4 H h
  unfold F_X12_lays_J7 at h
  refine x_iload hz dX12_lays_7 rfl ?_
  refine x_aload_n hz dX12_lays_9 rfl ?_
  obtain ⟨v1, e_v1, h⟩ := x_bnd h
  refine x_getI hz dX12_lays_10 fs_X12_282 e_v1 ?_
  refine x_icmp_ge (t := 88) hz dX12_lays_13 (by decide) (fun c2 => ?_) (fun c2 => ?_)
  · replace h := x_ip c2 h
    refine x_iload_n hz dX12_lays_88 rfl ?_
    obtain ⟨c3, h⟩ := x_inv h
    cases h
    exact x_zret01 hZ c3 dX12_lays_89
  · replace h := x_in c2 h
    refine x_aload_n hz dX12_lays_16 rfl ?_
    obtain ⟨v4, e_v4, h⟩ := x_bnd h
    refine x_getA hz dX12_lays_17 fs_X12_79 e_v4 ?_
    refine x_iload hz dX12_lays_20 rfl ?_
    refine x_iload_n hz dX12_lays_22 rfl ?_
    refine x_bipush (v := (9 : Int32)) hz dX12_lays_23 (by decide) ?_
    refine x_irem hz dX12_lays_25 (by decide) ?_
    refine x_iconst (v := (1 : Int32)) hz dX12_lays_26 (by decide) ?_
    refine x_isub hz dX12_lays_27 ?_
    obtain ⟨H5, e_H5, h⟩ := x_bnd h
    refine x_iast hz dX12_lays_28 e_H5 ?_
    refine x_iload_n hz dX12_lays_29 rfl ?_
    refine x_bipush (v := (9 : Int32)) hz dX12_lays_30 (by decide) ?_
    refine x_idiv hz dX12_lays_32 (by decide) ?_
    refine x_istore_n (pl' := [xA x0, xN, xI (x2 / (9 : Int32)), xI x3, xI x4]) hz dX12_lays_33 (by decide) rfl ?_
    refine x_iload_n hz dX12_lays_34 rfl ?_
    refine x_if_eq (t := 80) hz dX12_lays_35 (by decide) (fun c6 => ?_) (fun c6 => ?_)
    · replace h := x_ip c6 h
      exact x_wk (xwk_c (xwk_n (xwk_c (xwk_n (xwk_c xwk_0))))) ((P_X12_lays_J80 hZ hk7) x0 (x2 / (9 : Int32)) x4 H5 h)
    · replace h := x_in c6 h
      refine x_aload_n hz dX12_lays_38 rfl ?_
      obtain ⟨v7, e_v7, h⟩ := x_bnd h
      refine x_getA hz dX12_lays_39 fs_X12_79 e_v7 ?_
      refine x_iload hz dX12_lays_42 rfl ?_
      obtain ⟨v8, e_v8, h⟩ := x_bnd h
      refine x_iald hz dX12_lays_44 e_v8 ?_
      refine x_iconst (v := (-1 : Int32)) hz dX12_lays_45 (by decide) ?_
      refine x_icmp_eq (t := 76) hz dX12_lays_46 (by decide) (fun c9 => ?_) (fun c9 => ?_)
      · replace h := x_ip c9 h
        exact x_wk (xwk_c (xwk_n (xwk_c (xwk_n (xwk_c xwk_0))))) ((P_X12_lays_J76 hZ hk7) x0 (x2 / (9 : Int32)) x4 H5 h)
      · replace h := x_in c9 h
        refine x_aload_n hz dX12_lays_49 rfl ?_
        obtain ⟨v10, e_v10, h⟩ := x_bnd h
        refine x_getA hz dX12_lays_50 fs_X12_79 e_v10 ?_
        refine x_iload hz dX12_lays_53 rfl ?_
        obtain ⟨v11, e_v11, h⟩ := x_bnd h
        refine x_iald hz dX12_lays_55 e_v11 ?_
        refine x_aload_n hz dX12_lays_56 rfl ?_
        obtain ⟨v12, e_v12, h⟩ := x_bnd h
        refine x_getA hz dX12_lays_57 fs_X12_7 e_v12 ?_
        refine x_iload hz dX12_lays_60 rfl ?_
        obtain ⟨v13, e_v13, h⟩ := x_bnd h
        refine x_iald hz dX12_lays_62 e_v13 ?_
        refine x_aload_n hz dX12_lays_63 rfl ?_
        obtain ⟨v14, e_v14, h⟩ := x_bnd h
        refine x_getA hz dX12_lays_64 fs_X12_13 e_v14 ?_
        refine x_iload hz dX12_lays_67 rfl ?_
        obtain ⟨v15, e_v15, h⟩ := x_bnd h
        refine x_iald hz dX12_lays_69 e_v15 ?_
        obtain ⟨v17, H16, e_H16, h⟩ := x_b2 h
        refine x_callSi (as := [.inl v11, .inl v13, .inl v15]) (st := []) cs_X12_153 rfl rfl hz (by omega) (by decide) dX12_lays_70 (M_X12_isIn e_H16) ?_
        refine x_if_eq (t := 80) hz dX12_lays_73 (by decide) (fun c18 => ?_) (fun c18 => ?_)
        · replace h := x_ip c18 h
          exact x_wk (xwk_c (xwk_n (xwk_c (xwk_n (xwk_c xwk_0))))) ((P_X12_lays_J80 hZ hk7) x0 (x2 / (9 : Int32)) x4 H16 h)
        · replace h := x_in c18 h
          exact x_wk (xwk_c (xwk_n (xwk_c (xwk_n (xwk_c xwk_0))))) ((P_X12_lays_J76 hZ hk7) x0 (x2 / (9 : Int32)) x4 H16 h)
noncomputable def F_X12_lays_L7 (N : Nat) : Nat → (Option Nat) → Int32 → Int32 → Int32 → xH → Option (Int32 × xH)
  | 0 => fun _ _ _ _ _ => none
  | n + 1 => F_X12_lays_J7 N (F_X12_lays_L7 N n)
theorem P_X12_lays_L7 {N : Nat} {Z : xZ} {rv : Int32} {Hf : xH} (hZ : Z = xZm cX12_lays yX12_lays 5 2 (some .boolean) (some (.int rv)) Hf) : ∀ (n : Nat) (x0 : (Option Nat)) (x2 : Int32) (x3 : Int32) (x4 : Int32) (H : xH), F_X12_lays_L7 N n x0 x2 x3 x4 H = some (rv, Hf) → xWq Z H 7 [xA x0, xN, xI x2, xI x3, xI x4] [] := by
  intro n
  induction n with
  | zero => intro _ _ _ _ _ h; cases h
  | succ n ih => exact P_X12_lays_J7 hZ ih
noncomputable def F_X12_lays (N : Nat) (a0 : (Option Nat)) (a1 : Int32) (H : xH) : Option (Int32 × xH) :=
  (F_X12_lays_L7 N N) a0 a1 (1 : Int32) (0 : Int32) H
set_option maxRecDepth 20000 in
set_option maxHeartbeats 4000000 in
theorem P_X12_lays {N : Nat} {Z : xZ} {rv : Int32} {Hf : xH} (hZ : Z = xZm cX12_lays yX12_lays 5 2 (some .boolean) (some (.int rv)) Hf) : ∀ (a0 : (Option Nat)) (a1 : Int32) (H : xH), F_X12_lays N a0 a1 H = some (rv, Hf) → xWq Z H 0 [xA a0, xI a1, xN, xN, xN] [] := by
  have hz : Z.1 = (cX12_lays, yX12_lays, 5) := by rw [hZ]; rfl
  have hδ : Z.2.1 = 2 := by rw [hZ]; rfl
  intro a0 a1 H h
  unfold F_X12_lays at h
  refine x_iload_n hz dX12_lays_0 rfl ?_
  refine x_istore_n (pl' := [xA a0, xI a1, xI a1, xN, xN]) hz dX12_lays_1 (by decide) rfl ?_
  refine x_iconst (v := (1 : Int32)) hz dX12_lays_2 (by decide) ?_
  refine x_istore_n (pl' := [xA a0, xI a1, xI a1, xI (1 : Int32), xN]) hz dX12_lays_3 (by decide) rfl ?_
  refine x_iconst (v := (0 : Int32)) hz dX12_lays_4 (by decide) ?_
  refine x_istore (pl' := [xA a0, xI a1, xI a1, xI (1 : Int32), xI (0 : Int32)]) hz dX12_lays_5 (by decide) rfl ?_
  exact x_wk (xwk_c (xwk_n (xwk_c (xwk_c (xwk_c xwk_0))))) ((P_X12_lays_L7 hZ N) a0 a1 (1 : Int32) (0 : Int32) H h)
theorem M_X12_lays {N : Nat} {a0 : (Option Nat)} {a1 : Int32} {H H1 : xH} {r1 : Int32} (h : F_X12_lays N a0 a1 H = some (r1, H1)) : xM yX12_lays cX12_lays 5 (some .boolean) 2 [.inr (.inr a0), .inl a1] H (some (.int r1)) H1 :=
  xM_of (by decide +kernel) (xT_tb 995 (by decide +kernel) (by decide +kernel)) (by simp [xargs, x2]) rfl (P_X12_lays rfl a0 a1 H h)
/-! BettingBookModel.isPossibleNow()Z -/
noncomputable def F_X12_isPossibleNow_J100 (N : Nat) (k2 : (Option Nat) → Int32 → xH → Option (Int32 × xH)) (x0 : (Option Nat)) (x1 : Int32) (H : xH) : Option (Int32 × xH) :=
  k2 x0 (x1 + 1) H
set_option maxRecDepth 20000 in
set_option maxHeartbeats 4000000 in
theorem P_X12_isPossibleNow_J100 {N : Nat} {Z : xZ} {rv : Int32} {Hf : xH} (hZ : Z = xZm cX12_isPossibleNow yX12_isPossibleNow 4 1 (some .boolean) (some (.int rv)) Hf) {k2 : (Option Nat) → Int32 → xH → Option (Int32 × xH)} (hk2 : ∀ (x0 : (Option Nat)) (x1 : Int32) (H : xH), k2 x0 x1 H = some (rv, Hf) → xWq Z H 2 [xA x0, xI x1, xN, xN] []) : ∀ (x0 : (Option Nat)) (x1 : Int32) (H : xH), F_X12_isPossibleNow_J100 N k2 x0 x1 H = some (rv, Hf) → xWq Z H 100 [xA x0, xI x1, xN, xN] [] := by
  have hz : Z.1 = (cX12_isPossibleNow, yX12_isPossibleNow, 4) := by rw [hZ]; rfl
  have hδ : Z.2.1 = 1 := by rw [hZ]; rfl
  intro x0 x1 H h
  unfold F_X12_isPossibleNow_J100 at h
  refine x_iinc (w := (x1 + 1)) (pl' := [xA x0, xI (x1 + 1), xN, xN]) hz dX12_isPossibleNow_100 rfl rfl (by decide) rfl ?_
  refine x_goto (t := 2) hz dX12_isPossibleNow_103 (by decide) ?_
  exact x_wk (xwk_c (xwk_c (xwk_n (xwk_n xwk_0)))) (hk2 x0 (x1 + 1) H h)
noncomputable def F_X12_isPossibleNow_J58 (N : Nat) (k2 : (Option Nat) → Int32 → xH → Option (Int32 × xH)) (x0 : (Option Nat)) (x1 : Int32) (x2 : Int32) (x3 : Int32) (H : xH) : Option (Int32 × xH) :=
  (xgA H x0 11 12).bind fun v1 =>
  (xlI .int H v1 x1).bind fun v2 =>
  if v2 = (1 : Int32) then ((xgA H x0 11 15).bind fun v4 =>
  (xlI .int H v4 x1).bind fun v5 =>
  if (7 : Int32) < (x2 + v5) then ((F_X12_isPossibleNow_J100 N k2) x0 x1 H) else (if x3 = (-1 : Int32) then (some ((0 : Int32), H)) else ((xgA H x0 11 15).bind fun v8 =>
  (xlI .int H v8 x1).bind fun v9 =>
  if x3 ≤ (x2 + v9) then ((F_X12_isPossibleNow_J100 N k2) x0 x1 H) else (some ((0 : Int32), H))))) else ((F_X12_isPossibleNow_J100 N k2) x0 x1 H)
set_option maxRecDepth 20000 in
set_option maxHeartbeats 4000000 in
theorem P_X12_isPossibleNow_J58 {N : Nat} {Z : xZ} {rv : Int32} {Hf : xH} (hZ : Z = xZm cX12_isPossibleNow yX12_isPossibleNow 4 1 (some .boolean) (some (.int rv)) Hf) {k2 : (Option Nat) → Int32 → xH → Option (Int32 × xH)} (hk2 : ∀ (x0 : (Option Nat)) (x1 : Int32) (H : xH), k2 x0 x1 H = some (rv, Hf) → xWq Z H 2 [xA x0, xI x1, xN, xN] []) : ∀ (x0 : (Option Nat)) (x1 : Int32) (x2 : Int32) (x3 : Int32) (H : xH), F_X12_isPossibleNow_J58 N k2 x0 x1 x2 x3 H = some (rv, Hf) → xWq Z H 58 [xA x0, xI x1, xI x2, xI x3] [] := by
  have hz : Z.1 = (cX12_isPossibleNow, yX12_isPossibleNow, 4) := by rw [hZ]; rfl
  have hδ : Z.2.1 = 1 := by rw [hZ]; rfl
  intro x0 x1 x2 x3 H h
  unfold F_X12_isPossibleNow_J58 at h
  refine x_aload_n hz dX12_isPossibleNow_58 rfl ?_
  obtain ⟨v1, e_v1, h⟩ := x_bnd h
  refine x_getA hz dX12_isPossibleNow_59 fs_X12_28 e_v1 ?_
  refine x_iload_n hz dX12_isPossibleNow_62 rfl ?_
  obtain ⟨v2, e_v2, h⟩ := x_bnd h
  refine x_iald hz dX12_isPossibleNow_63 e_v2 ?_
  refine x_iconst (v := (1 : Int32)) hz dX12_isPossibleNow_64 (by decide) ?_
  refine x_icmp_ne (t := 100) hz dX12_isPossibleNow_65 (by decide) (fun c3 => ?_) (fun c3 => ?_)
  · replace h := x_in c3 h
    exact x_wk (xwk_c (xwk_c (xwk_n (xwk_n xwk_0)))) ((P_X12_isPossibleNow_J100 hZ hk2) x0 x1 H h)
  · replace h := x_ip c3 h
    refine x_iload_n hz dX12_isPossibleNow_68 rfl ?_
    refine x_aload_n hz dX12_isPossibleNow_69 rfl ?_
    obtain ⟨v4, e_v4, h⟩ := x_bnd h
    refine x_getA hz dX12_isPossibleNow_70 fs_X12_37 e_v4 ?_
    refine x_iload_n hz dX12_isPossibleNow_73 rfl ?_
    obtain ⟨v5, e_v5, h⟩ := x_bnd h
    refine x_iald hz dX12_isPossibleNow_74 e_v5 ?_
    refine x_iadd hz dX12_isPossibleNow_75 ?_
    refine x_bipush (v := (7 : Int32)) hz dX12_isPossibleNow_76 (by decide) ?_
    refine x_icmp_gt (t := 100) hz dX12_isPossibleNow_78 (by decide) (fun c6 => ?_) (fun c6 => ?_)
    · replace h := x_ip c6 h
      exact x_wk (xwk_c (xwk_c (xwk_n (xwk_n xwk_0)))) ((P_X12_isPossibleNow_J100 hZ hk2) x0 x1 H h)
    · replace h := x_in c6 h
      refine x_iload_n hz dX12_isPossibleNow_81 rfl ?_
      refine x_iconst (v := (-1 : Int32)) hz dX12_isPossibleNow_82 (by decide) ?_
      refine x_icmp_eq (t := 98) hz dX12_isPossibleNow_83 (by decide) (fun c7 => ?_) (fun c7 => ?_)
      · replace h := x_ip c7 h
        refine x_iconst (v := (0 : Int32)) hz dX12_isPossibleNow_98 (by decide) ?_
        cases h
        exact x_zret01 hZ (Or.inl rfl) dX12_isPossibleNow_99
      · replace h := x_in c7 h
        refine x_iload_n hz dX12_isPossibleNow_86 rfl ?_
        refine x_iload_n hz dX12_isPossibleNow_87 rfl ?_
        refine x_aload_n hz dX12_isPossibleNow_88 rfl ?_
        obtain ⟨v8, e_v8, h⟩ := x_bnd h
        refine x_getA hz dX12_isPossibleNow_89 fs_X12_37 e_v8 ?_
        refine x_iload_n hz dX12_isPossibleNow_92 rfl ?_
        obtain ⟨v9, e_v9, h⟩ := x_bnd h
        refine x_iald hz dX12_isPossibleNow_93 e_v9 ?_
        refine x_iadd hz dX12_isPossibleNow_94 ?_
        refine x_icmp_le (t := 100) hz dX12_isPossibleNow_95 (by decide) (fun c10 => ?_) (fun c10 => ?_)
        · replace h := x_ip c10 h
          exact x_wk (xwk_c (xwk_c (xwk_n (xwk_n xwk_0)))) ((P_X12_isPossibleNow_J100 hZ hk2) x0 x1 H h)
        · replace h := x_in c10 h
          refine x_iconst (v := (0 : Int32)) hz dX12_isPossibleNow_98 (by decide) ?_
          cases h
          exact x_zret01 hZ (Or.inl rfl) dX12_isPossibleNow_99
noncomputable def F_X12_isPossibleNow_J2 (N : Nat) (k2 : (Option Nat) → Int32 → xH → Option (Int32 × xH)) (x0 : (Option Nat)) (x1 : Int32) (H : xH) : Option (Int32 × xH) :=
  (xgI H x0 11 4).bind fun v1 =>
  if v1 ≤ x1 then (some ((1 : Int32), H)) else ((xgA H x0 11 42).bind fun v3 =>
  (xgA H x0 11 13).bind fun v4 =>
  (xlI .int H v4 x1).bind fun v5 =>
  (xlI .int H v3 v5).bind fun v6 =>
  (xgA H x0 11 42).bind fun v7 =>
  (xgA H x0 11 14).bind fun v8 =>
  (xlI .int H v8 x1).bind fun v9 =>
  (xlI .int H v7 v9).bind fun v10 =>
  if v6 = (-1 : Int32) then ((F_X12_isPossibleNow_J100 N k2) x0 x1 H) else ((xgA H x0 11 12).bind fun v12 =>
  (xlI .int H v12 x1).bind fun v13 =>
  if v13 = 0 then (if v10 ≤ v6 then ((F_X12_isPossibleNow_J58 N k2) x0 x1 v6 v10 H) else (some ((0 : Int32), H))) else ((F_X12_isPossibleNow_J58 N k2) x0 x1 v6 v10 H)))
set_option maxRecDepth 20000 in
set_option maxHeartbeats 4000000 in
theorem P_X12_isPossibleNow_J2 {N : Nat} {Z : xZ} {rv : Int32} {Hf : xH} (hZ : Z = xZm cX12_isPossibleNow yX12_isPossibleNow 4 1 (some .boolean) (some (.int rv)) Hf) {k2 : (Option Nat) → Int32 → xH → Option (Int32 × xH)} (hk2 : ∀ (x0 : (Option Nat)) (x1 : Int32) (H : xH), k2 x0 x1 H = some (rv, Hf) → xWq Z H 2 [xA x0, xI x1, xN, xN] []) : ∀ (x0 : (Option Nat)) (x1 : Int32) (H : xH), F_X12_isPossibleNow_J2 N k2 x0 x1 H = some (rv, Hf) → xWq Z H 2 [xA x0, xI x1, xN, xN] [] := by
  have hz : Z.1 = (cX12_isPossibleNow, yX12_isPossibleNow, 4) := by rw [hZ]; rfl
  have hδ : Z.2.1 = 1 := by rw [hZ]; rfl
  intro x0 x1 H h
  unfold F_X12_isPossibleNow_J2 at h
  refine x_iload_n hz dX12_isPossibleNow_2 rfl ?_
  refine x_aload_n hz dX12_isPossibleNow_3 rfl ?_
  obtain ⟨v1, e_v1, h⟩ := x_bnd h
  refine x_getI hz dX12_isPossibleNow_4 fs_X12_294 e_v1 ?_
  refine x_icmp_ge (t := 106) hz dX12_isPossibleNow_7 (by decide) (fun c2 => ?_) (fun c2 => ?_)
  · replace h := x_ip c2 h
    refine x_iconst (v := (1 : Int32)) hz dX12_isPossibleNow_106 (by decide) ?_
    cases h
    exact x_zret01 hZ (Or.inr rfl) dX12_isPossibleNow_107
  · replace h := x_in c2 h
    refine x_aload_n hz dX12_isPossibleNow_10 rfl ?_
    obtain ⟨v3, e_v3, h⟩ := x_bnd h
    refine x_getA hz dX12_isPossibleNow_11 fs_X12_79 e_v3 ?_
    refine x_aload_n hz dX12_isPossibleNow_14 rfl ?_
    obtain ⟨v4, e_v4, h⟩ := x_bnd h
    refine x_getA hz dX12_isPossibleNow_15 fs_X12_31 e_v4 ?_
    refine x_iload_n hz dX12_isPossibleNow_18 rfl ?_
    obtain ⟨v5, e_v5, h⟩ := x_bnd h
    refine x_iald hz dX12_isPossibleNow_19 e_v5 ?_
    obtain ⟨v6, e_v6, h⟩ := x_bnd h
    refine x_iald hz dX12_isPossibleNow_20 e_v6 ?_
    refine x_istore_n (pl' := [xA x0, xI x1, xI v6, xN]) hz dX12_isPossibleNow_21 (by decide) rfl ?_
    refine x_aload_n hz dX12_isPossibleNow_22 rfl ?_
    obtain ⟨v7, e_v7, h⟩ := x_bnd h
    refine x_getA hz dX12_isPossibleNow_23 fs_X12_79 e_v7 ?_
    refine x_aload_n hz dX12_isPossibleNow_26 rfl ?_
    obtain ⟨v8, e_v8, h⟩ := x_bnd h
    refine x_getA hz dX12_isPossibleNow_27 fs_X12_34 e_v8 ?_
    refine x_iload_n hz dX12_isPossibleNow_30 rfl ?_
    obtain ⟨v9, e_v9, h⟩ := x_bnd h
    refine x_iald hz dX12_isPossibleNow_31 e_v9 ?_
    obtain ⟨v10, e_v10, h⟩ := x_bnd h
    refine x_iald hz dX12_isPossibleNow_32 e_v10 ?_
    refine x_istore_n (pl' := [xA x0, xI x1, xI v6, xI v10]) hz dX12_isPossibleNow_33 (by decide) rfl ?_
    refine x_iload_n hz dX12_isPossibleNow_34 rfl ?_
    refine x_iconst (v := (-1 : Int32)) hz dX12_isPossibleNow_35 (by decide) ?_
    refine x_icmp_ne (t := 42) hz dX12_isPossibleNow_36 (by decide) (fun c11 => ?_) (fun c11 => ?_)
    · replace h := x_in c11 h
      refine x_aload_n hz dX12_isPossibleNow_42 rfl ?_
      obtain ⟨v12, e_v12, h⟩ := x_bnd h
      refine x_getA hz dX12_isPossibleNow_43 fs_X12_28 e_v12 ?_
      refine x_iload_n hz dX12_isPossibleNow_46 rfl ?_
      obtain ⟨v13, e_v13, h⟩ := x_bnd h
      refine x_iald hz dX12_isPossibleNow_47 e_v13 ?_
      refine x_if_ne (t := 58) hz dX12_isPossibleNow_48 (by decide) (fun c14 => ?_) (fun c14 => ?_)
      · replace h := x_in c14 h
        exact x_wk (xwk_c (xwk_c (xwk_c (xwk_c xwk_0)))) ((P_X12_isPossibleNow_J58 hZ hk2) x0 x1 v6 v10 H h)
      · replace h := x_ip c14 h
        refine x_iload_n hz dX12_isPossibleNow_51 rfl ?_
        refine x_iload_n hz dX12_isPossibleNow_52 rfl ?_
        refine x_icmp_le (t := 58) hz dX12_isPossibleNow_53 (by decide) (fun c15 => ?_) (fun c15 => ?_)
        · replace h := x_ip c15 h
          exact x_wk (xwk_c (xwk_c (xwk_c (xwk_c xwk_0)))) ((P_X12_isPossibleNow_J58 hZ hk2) x0 x1 v6 v10 H h)
        · replace h := x_in c15 h
          refine x_iconst (v := (0 : Int32)) hz dX12_isPossibleNow_56 (by decide) ?_
          cases h
          exact x_zret01 hZ (Or.inl rfl) dX12_isPossibleNow_57
    · replace h := x_ip c11 h
      refine x_goto (t := 100) hz dX12_isPossibleNow_39 (by decide) ?_
      exact x_wk (xwk_c (xwk_c (xwk_n (xwk_n xwk_0)))) ((P_X12_isPossibleNow_J100 hZ hk2) x0 x1 H h)
noncomputable def F_X12_isPossibleNow_L2 (N : Nat) : Nat → (Option Nat) → Int32 → xH → Option (Int32 × xH)
  | 0 => fun _ _ _ => none
  | n + 1 => F_X12_isPossibleNow_J2 N (F_X12_isPossibleNow_L2 N n)
theorem P_X12_isPossibleNow_L2 {N : Nat} {Z : xZ} {rv : Int32} {Hf : xH} (hZ : Z = xZm cX12_isPossibleNow yX12_isPossibleNow 4 1 (some .boolean) (some (.int rv)) Hf) : ∀ (n : Nat) (x0 : (Option Nat)) (x1 : Int32) (H : xH), F_X12_isPossibleNow_L2 N n x0 x1 H = some (rv, Hf) → xWq Z H 2 [xA x0, xI x1, xN, xN] [] := by
  intro n
  induction n with
  | zero => intro _ _ _ h; cases h
  | succ n ih => exact P_X12_isPossibleNow_J2 hZ ih
noncomputable def F_X12_isPossibleNow (N : Nat) (a0 : (Option Nat)) (H : xH) : Option (Int32 × xH) :=
  (F_X12_isPossibleNow_L2 N N) a0 (0 : Int32) H
set_option maxRecDepth 20000 in
set_option maxHeartbeats 4000000 in
theorem P_X12_isPossibleNow {N : Nat} {Z : xZ} {rv : Int32} {Hf : xH} (hZ : Z = xZm cX12_isPossibleNow yX12_isPossibleNow 4 1 (some .boolean) (some (.int rv)) Hf) : ∀ (a0 : (Option Nat)) (H : xH), F_X12_isPossibleNow N a0 H = some (rv, Hf) → xWq Z H 0 [xA a0, xN, xN, xN] [] := by
  have hz : Z.1 = (cX12_isPossibleNow, yX12_isPossibleNow, 4) := by rw [hZ]; rfl
  have hδ : Z.2.1 = 1 := by rw [hZ]; rfl
  intro a0 H h
  unfold F_X12_isPossibleNow at h
  refine x_iconst (v := (0 : Int32)) hz dX12_isPossibleNow_0 (by decide) ?_
  refine x_istore_n (pl' := [xA a0, xI (0 : Int32), xN, xN]) hz dX12_isPossibleNow_1 (by decide) rfl ?_
  exact x_wk (xwk_c (xwk_c (xwk_n (xwk_n xwk_0)))) ((P_X12_isPossibleNow_L2 hZ N) a0 (0 : Int32) H h)
theorem M_X12_isPossibleNow {N : Nat} {a0 : (Option Nat)} {H H1 : xH} {r1 : Int32} (h : F_X12_isPossibleNow N a0 H = some (r1, H1)) : xM yX12_isPossibleNow cX12_isPossibleNow 4 (some .boolean) 1 [.inr (.inr a0)] H (some (.int r1)) H1 :=
  xM_of (by decide +kernel) (xT_tb 1002 (by decide +kernel) (by decide +kernel)) (by simp [xargs, x2]) rfl (P_X12_isPossibleNow rfl a0 H h)
/-! BettingBookModel.comesBy(II)Z -/
noncomputable def F_X12_comesBy (N : Nat) (a0 : (Option Nat)) (a1 : Int32) (a2 : Int32) (H : xH) : Option (Int32 × xH) :=
  (xgA H a0 11 42).bind fun v1 =>
  (xlI .int H v1 a1).bind fun v2 =>
  if v2 = (-1 : Int32) then (some ((0 : Int32), H)) else ((xgA H a0 11 42).bind fun v4 =>
  (xlI .int H v4 a1).bind fun v5 =>
  if a2 < v5 then (some ((0 : Int32), H)) else (some ((1 : Int32), H)))
set_option maxRecDepth 20000 in
set_option maxHeartbeats 4000000 in
theorem P_X12_comesBy {N : Nat} {Z : xZ} {rv : Int32} {Hf : xH} (hZ : Z = xZm cX12_comesBy yX12_comesBy 3 1 (some .boolean) (some (.int rv)) Hf) : ∀ (a0 : (Option Nat)) (a1 : Int32) (a2 : Int32) (H : xH), F_X12_comesBy N a0 a1 a2 H = some (rv, Hf) → xWq Z H 0 [xA a0, xI a1, xI a2] [] := by
  have hz : Z.1 = (cX12_comesBy, yX12_comesBy, 3) := by rw [hZ]; rfl
  have hδ : Z.2.1 = 1 := by rw [hZ]; rfl
  intro a0 a1 a2 H h
  unfold F_X12_comesBy at h
  refine x_aload_n hz dX12_comesBy_0 rfl ?_
  obtain ⟨v1, e_v1, h⟩ := x_bnd h
  refine x_getA hz dX12_comesBy_1 fs_X12_79 e_v1 ?_
  refine x_iload_n hz dX12_comesBy_4 rfl ?_
  obtain ⟨v2, e_v2, h⟩ := x_bnd h
  refine x_iald hz dX12_comesBy_5 e_v2 ?_
  refine x_iconst (v := (-1 : Int32)) hz dX12_comesBy_6 (by decide) ?_
  refine x_icmp_eq (t := 24) hz dX12_comesBy_7 (by decide) (fun c3 => ?_) (fun c3 => ?_)
  · replace h := x_ip c3 h
    refine x_iconst (v := (0 : Int32)) hz dX12_comesBy_24 (by decide) ?_
    cases h
    exact x_zret01 hZ (Or.inl rfl) dX12_comesBy_25
  · replace h := x_in c3 h
    refine x_aload_n hz dX12_comesBy_10 rfl ?_
    obtain ⟨v4, e_v4, h⟩ := x_bnd h
    refine x_getA hz dX12_comesBy_11 fs_X12_79 e_v4 ?_
    refine x_iload_n hz dX12_comesBy_14 rfl ?_
    obtain ⟨v5, e_v5, h⟩ := x_bnd h
    refine x_iald hz dX12_comesBy_15 e_v5 ?_
    refine x_iload_n hz dX12_comesBy_16 rfl ?_
    refine x_icmp_gt (t := 24) hz dX12_comesBy_17 (by decide) (fun c6 => ?_) (fun c6 => ?_)
    · replace h := x_ip c6 h
      refine x_iconst (v := (0 : Int32)) hz dX12_comesBy_24 (by decide) ?_
      cases h
      exact x_zret01 hZ (Or.inl rfl) dX12_comesBy_25
    · replace h := x_in c6 h
      refine x_iconst (v := (1 : Int32)) hz dX12_comesBy_20 (by decide) ?_
      refine x_goto (t := 25) hz dX12_comesBy_21 (by decide) ?_
      cases h
      exact x_zret01 hZ (Or.inr rfl) dX12_comesBy_25
theorem M_X12_comesBy {N : Nat} {a0 : (Option Nat)} {a1 : Int32} {a2 : Int32} {H H1 : xH} {r1 : Int32} (h : F_X12_comesBy N a0 a1 a2 H = some (r1, H1)) : xM yX12_comesBy cX12_comesBy 3 (some .boolean) 1 [.inr (.inr a0), .inl a1, .inl a2] H (some (.int r1)) H1 :=
  xM_of (by decide +kernel) (xT_tb 1018 (by decide +kernel) (by decide +kernel)) (by simp [xargs, x2]) rfl (P_X12_comesBy rfl a0 a1 a2 H h)
/-! BettingBookModel.unit(Z)I -/
noncomputable def F_X12_unit (N : Nat) (a0 : Int32) (H : xH) : Option (Int32 × xH) :=
  if a0 = 0 then (some ((0 : Int32), H)) else (some ((1 : Int32), H))
set_option maxRecDepth 20000 in
set_option maxHeartbeats 4000000 in
theorem P_X12_unit {N : Nat} {Z : xZ} {rv : Int32} {Hf : xH} (hZ : Z = xZm cX12_unit yX12_unit 1 1 (some .int) (some (.int rv)) Hf) : ∀ (a0 : Int32) (H : xH), F_X12_unit N a0 H = some (rv, Hf) → xWq Z H 0 [xI a0] [] := by
  have hz : Z.1 = (cX12_unit, yX12_unit, 1) := by rw [hZ]; rfl
  have hδ : Z.2.1 = 1 := by rw [hZ]; rfl
  intro a0 H h
  unfold F_X12_unit at h
  refine x_iload_n hz dX12_unit_0 rfl ?_
  refine x_if_eq (t := 8) hz dX12_unit_1 (by decide) (fun c1 => ?_) (fun c1 => ?_)
  · replace h := x_ip c1 h
    refine x_iconst (v := (0 : Int32)) hz dX12_unit_8 (by decide) ?_
    cases h
    exact x_iret hZ dX12_unit_9
  · replace h := x_in c1 h
    refine x_iconst (v := (1 : Int32)) hz dX12_unit_4 (by decide) ?_
    refine x_goto (t := 9) hz dX12_unit_5 (by decide) ?_
    cases h
    exact x_iret hZ dX12_unit_9
theorem M_X12_unit {N : Nat} {a0 : Int32} {H H1 : xH} {r1 : Int32} (h : F_X12_unit N a0 H = some (r1, H1)) : xM yX12_unit cX12_unit 1 (some .int) 1 [.inl a0] H (some (.int r1)) H1 :=
  xM_of (by decide +kernel) (xT_tb 1021 (by decide +kernel) (by decide +kernel)) (by simp [xargs, x2]) rfl (P_X12_unit rfl a0 H h)
/-! BettingBookModel.tells(I)Z -/
noncomputable def F_X12_tells_J135 (N : Nat) (k135 : (Option Nat) → Int32 → Int32 → Int32 → xH → Option (Int32 × xH)) (k166 : (Option Nat) → Int32 → Int32 → xH → Option (Int32 × xH)) (x0 : (Option Nat)) (x1 : Int32) (x2 : Int32) (x3 : Int32) (H : xH) : Option (Int32 × xH) :=
  (xgI H x0 11 0).bind fun v1 =>
  if v1 ≤ x3 then (k166 x0 x1 x2 H) else ((xgA H x0 11 22).bind fun v3 =>
  (xlI .int H v3 x1).bind fun v4 =>
  (xob H x0 11).bind fun b6 =>
  x_bd2 (F_X12_comesBy N x0 x3 v4 H) fun v7 H5 =>
  x_bd2 (F_X12_unit N v7 H5) fun v9 H8 =>
  k135 x0 x1 (x2 + v9) (x3 + 1) H8)
set_option maxRecDepth 20000 in
set_option maxHeartbeats 4000000 in
theorem P_X12_tells_J135 {N : Nat} {Z : xZ} {rv : Int32} {Hf : xH} (hZ : Z = xZm cX12_tells yX12_tells 4 2 (some .boolean) (some (.int rv)) Hf) {k135 : (Option Nat) → Int32 → Int32 → Int32 → xH → Option (Int32 × xH)} (hk135 : ∀ (x0 : (Option Nat)) (x1 : Int32) (x2 : Int32) (x3 : Int32) (H : xH), k135 x0 x1 x2 x3 H = some (rv, Hf) → xWq Z H 135 [xA x0, xI x1, xI x2, xI x3] []) {k166 : (Option Nat) → Int32 → Int32 → xH → Option (Int32 × xH)} (hk166 : ∀ (x0 : (Option Nat)) (x1 : Int32) (x2 : Int32) (H : xH), k166 x0 x1 x2 H = some (rv, Hf) → xWq Z H 166 [xA x0, xI x1, xI x2, xN] []) : ∀ (x0 : (Option Nat)) (x1 : Int32) (x2 : Int32) (x3 : Int32) (H : xH), F_X12_tells_J135 N k135 k166 x0 x1 x2 x3 H = some (rv, Hf) → xWq Z H 135 [xA x0, xI x1, xI x2, xI x3] [] := by
  have hz : Z.1 = (cX12_tells, yX12_tells, 4) := by rw [hZ]; rfl
  have hδ : Z.2.1 = 2 := by rw [hZ]; rfl
  intro x0 x1 x2 x3 H h
  unfold F_X12_tells_J135 at h
  refine x_iload_n hz dX12_tells_135 rfl ?_
  refine x_aload_n hz dX12_tells_136 rfl ?_
  obtain ⟨v1, e_v1, h⟩ := x_bnd h
  refine x_getI hz dX12_tells_137 fs_X12_282 e_v1 ?_
  refine x_icmp_ge (t := 166) hz dX12_tells_140 (by decide) (fun c2 => ?_) (fun c2 => ?_)
  · replace h := x_ip c2 h
    exact x_wk (xwk_c (xwk_c (xwk_c (xwk_n xwk_0)))) (hk166 x0 x1 x2 H h)
  · replace h := x_in c2 h
    refine x_iload_n hz dX12_tells_143 rfl ?_
    refine x_aload_n hz dX12_tells_144 rfl ?_
    refine x_iload_n hz dX12_tells_145 rfl ?_
    refine x_aload_n hz dX12_tells_146 rfl ?_
    obtain ⟨v3, e_v3, h⟩ := x_bnd h
    refine x_getA hz dX12_tells_147 fs_X12_58 e_v3 ?_
    refine x_iload_n hz dX12_tells_150 rfl ?_
    obtain ⟨v4, e_v4, h⟩ := x_bnd h
    refine x_iald hz dX12_tells_151 e_v4 ?_
    obtain ⟨b6, e_b6, h⟩ := x_bnd h
    obtain ⟨v7, H5, e_H5, h⟩ := x_b2 h
    refine x_callVi (as := [.inl x3, .inl v4]) (st := [.int x2]) cs_X12_316 (ci := 11) ⟨rfl, rfl⟩ rfl rfl hz (by omega) (Nat.le_trans (x_sm1 rfl x_sm0) (by decide)) dX12_tells_152 e_b6 (M_X12_comesBy e_H5) ?_
    obtain ⟨v9, H8, e_H8, h⟩ := x_b2 h
    refine x_callSi (as := [.inl v7]) (st := [.int x2]) cs_X12_319 rfl rfl hz (by omega) (Nat.le_trans (x_sm1 rfl x_sm0) (by decide)) dX12_tells_155 (M_X12_unit e_H8) ?_
    refine x_iadd hz dX12_tells_158 ?_
    refine x_istore_n (pl' := [xA x0, xI x1, xI (x2 + v9), xI x3]) hz dX12_tells_159 (by decide) rfl ?_
    refine x_iinc (w := (x3 + 1)) (pl' := [xA x0, xI x1, xI (x2 + v9), xI (x3 + 1)]) hz dX12_tells_160 rfl rfl (by decide) rfl ?_
    refine x_goto (t := 135) hz dX12_tells_163 (by decide) ?_
    exact x_wk (xwk_c (xwk_c (xwk_c (xwk_c xwk_0)))) (hk135 x0 x1 (x2 + v9) (x3 + 1) H8 h)
noncomputable def F_X12_tells_L135 (N : Nat) (k166 : (Option Nat) → Int32 → Int32 → xH → Option (Int32 × xH)) : Nat → (Option Nat) → Int32 → Int32 → Int32 → xH → Option (Int32 × xH)
  | 0 => fun _ _ _ _ _ => none
  | n + 1 => F_X12_tells_J135 N (F_X12_tells_L135 N k166 n) k166
theorem P_X12_tells_L135 {N : Nat} {Z : xZ} {rv : Int32} {Hf : xH} (hZ : Z = xZm cX12_tells yX12_tells 4 2 (some .boolean) (some (.int rv)) Hf) {k166 : (Option Nat) → Int32 → Int32 → xH → Option (Int32 × xH)} (hk166 : ∀ (x0 : (Option Nat)) (x1 : Int32) (x2 : Int32) (H : xH), k166 x0 x1 x2 H = some (rv, Hf) → xWq Z H 166 [xA x0, xI x1, xI x2, xN] []) : ∀ (n : Nat) (x0 : (Option Nat)) (x1 : Int32) (x2 : Int32) (x3 : Int32) (H : xH), F_X12_tells_L135 N k166 n x0 x1 x2 x3 H = some (rv, Hf) → xWq Z H 135 [xA x0, xI x1, xI x2, xI x3] [] := by
  intro n
  induction n with
  | zero => intro _ _ _ _ _ h; cases h
  | succ n ih => exact P_X12_tells_J135 hZ ih hk166
noncomputable def F_X12_tells_J166 (N : Nat) (x0 : (Option Nat)) (x1 : Int32) (x2 : Int32) (H : xH) : Option (Int32 × xH) :=
  (xgA H x0 11 21).bind fun v1 =>
  (xlI .int H v1 x1).bind fun v2 =>
  if x2 < v2 then (some ((0 : Int32), H)) else (some ((1 : Int32), H))
set_option maxRecDepth 20000 in
set_option maxHeartbeats 4000000 in
theorem P_X12_tells_J166 {N : Nat} {Z : xZ} {rv : Int32} {Hf : xH} (hZ : Z = xZm cX12_tells yX12_tells 4 2 (some .boolean) (some (.int rv)) Hf) : ∀ (x0 : (Option Nat)) (x1 : Int32) (x2 : Int32) (H : xH), F_X12_tells_J166 N x0 x1 x2 H = some (rv, Hf) → xWq Z H 166 [xA x0, xI x1, xI x2, xN] [] := by
  have hz : Z.1 = (cX12_tells, yX12_tells, 4) := by rw [hZ]; rfl
  have hδ : Z.2.1 = 2 := by rw [hZ]; rfl
  intro x0 x1 x2 H h
  unfold F_X12_tells_J166 at h
  refine x_iload_n hz dX12_tells_166 rfl ?_
  refine x_aload_n hz dX12_tells_167 rfl ?_
  obtain ⟨v1, e_v1, h⟩ := x_bnd h
  refine x_getA hz dX12_tells_168 fs_X12_55 e_v1 ?_
  refine x_iload_n hz dX12_tells_171 rfl ?_
  obtain ⟨v2, e_v2, h⟩ := x_bnd h
  refine x_iald hz dX12_tells_172 e_v2 ?_
  refine x_icmp_lt (t := 180) hz dX12_tells_173 (by decide) (fun c3 => ?_) (fun c3 => ?_)
  · replace h := x_ip c3 h
    refine x_iconst (v := (0 : Int32)) hz dX12_tells_180 (by decide) ?_
    cases h
    exact x_zret01 hZ (Or.inl rfl) dX12_tells_181
  · replace h := x_in c3 h
    refine x_iconst (v := (1 : Int32)) hz dX12_tells_176 (by decide) ?_
    refine x_goto (t := 181) hz dX12_tells_177 (by decide) ?_
    cases h
    exact x_zret01 hZ (Or.inr rfl) dX12_tells_181
noncomputable def F_X12_tells (N : Nat) (a0 : (Option Nat)) (a1 : Int32) (H : xH) : Option (Int32 × xH) :=
  (xgA H a0 11 20).bind fun v1 =>
  (xlI .int H v1 a1).bind fun v2 =>
  if v2 = 0 then ((xgA H a0 11 42).bind fun v4 =>
  (xgA H a0 11 21).bind fun v5 =>
  (xlI .int H v5 a1).bind fun v6 =>
  (xlI .int H v4 v6).bind fun v7 =>
  if v7 = (-1 : Int32) then (some ((0 : Int32), H)) else (some ((1 : Int32), H))) else (if v2 = 1 then ((xgA H a0 11 21).bind fun v10 =>
  (xlI .int H v10 a1).bind fun v11 =>
  (xgA H a0 11 22).bind fun v12 =>
  (xlI .int H v12 a1).bind fun v13 =>
  (xob H a0 11).bind fun b15 =>
  x_bd2 (F_X12_comesBy N a0 v11 v13 H) fun v16 H14 =>
  if v16 = 0 ∨ v16 = 1 then some (v16, H14) else none) else (if v2 = 2 then ((xgA H a0 11 42).bind fun v19 =>
  (xgA H a0 11 21).bind fun v20 =>
  (xlI .int H v20 a1).bind fun v21 =>
  (xlI .int H v19 v21).bind fun v22 =>
  if v22 = (-1 : Int32) then (some ((0 : Int32), H)) else ((xgA H a0 11 42).bind fun v24 =>
  (xgA H a0 11 22).bind fun v25 =>
  (xlI .int H v25 a1).bind fun v26 =>
  (xlI .int H v24 v26).bind fun v27 =>
  if v27 = (-1 : Int32) then (some ((1 : Int32), H)) else ((xgA H a0 11 42).bind fun v29 =>
  (xgA H a0 11 22).bind fun v30 =>
  (xlI .int H v30 a1).bind fun v31 =>
  (xlI .int H v29 v31).bind fun v32 =>
  (xgA H a0 11 42).bind fun v33 =>
  (xgA H a0 11 21).bind fun v34 =>
  (xlI .int H v34 a1).bind fun v35 =>
  (xlI .int H v33 v35).bind fun v36 =>
  if v32 ≤ v36 then (some ((0 : Int32), H)) else (some ((1 : Int32), H))))) else ((F_X12_tells_L135 N (F_X12_tells_J166 N) N) a0 a1 (0 : Int32) (0 : Int32) H)))
set_option maxRecDepth 20000 in
set_option maxHeartbeats 4000000 in
theorem P_X12_tells {N : Nat} {Z : xZ} {rv : Int32} {Hf : xH} (hZ : Z = xZm cX12_tells yX12_tells 4 2 (some .boolean) (some (.int rv)) Hf) : ∀ (a0 : (Option Nat)) (a1 : Int32) (H : xH), F_X12_tells N a0 a1 H = some (rv, Hf) → xWq Z H 0 [xA a0, xI a1, xN, xN] [] := by
  have hz : Z.1 = (cX12_tells, yX12_tells, 4) := by rw [hZ]; rfl
  have hδ : Z.2.1 = 2 := by rw [hZ]; rfl
  intro a0 a1 H h
  unfold F_X12_tells at h
  refine x_aload_n hz dX12_tells_0 rfl ?_
  obtain ⟨v1, e_v1, h⟩ := x_bnd h
  refine x_getA hz dX12_tells_1 fs_X12_52 e_v1 ?_
  refine x_iload_n hz dX12_tells_4 rfl ?_
  obtain ⟨v2, e_v2, h⟩ := x_bnd h
  refine x_iald hz dX12_tells_5 e_v2 ?_
  by_cases c3 : v2 = 0
  · replace h := x_ip c3 h
    refine x_tsIn (t := 32) (off := 26) hz dX12_tells_6 (by rw [c3]; decide) (by rw [c3]; decide) (by rw [c3]; decide) (by decide) ?_
    refine x_aload_n hz dX12_tells_32 rfl ?_
    obtain ⟨v4, e_v4, h⟩ := x_bnd h
    refine x_getA hz dX12_tells_33 fs_X12_79 e_v4 ?_
    refine x_aload_n hz dX12_tells_36 rfl ?_
    obtain ⟨v5, e_v5, h⟩ := x_bnd h
    refine x_getA hz dX12_tells_37 fs_X12_55 e_v5 ?_
    refine x_iload_n hz dX12_tells_40 rfl ?_
    obtain ⟨v6, e_v6, h⟩ := x_bnd h
    refine x_iald hz dX12_tells_41 e_v6 ?_
    obtain ⟨v7, e_v7, h⟩ := x_bnd h
    refine x_iald hz dX12_tells_42 e_v7 ?_
    refine x_iconst (v := (-1 : Int32)) hz dX12_tells_43 (by decide) ?_
    refine x_icmp_eq (t := 51) hz dX12_tells_44 (by decide) (fun c8 => ?_) (fun c8 => ?_)
    · replace h := x_ip c8 h
      refine x_iconst (v := (0 : Int32)) hz dX12_tells_51 (by decide) ?_
      cases h
      exact x_zret01 hZ (Or.inl rfl) dX12_tells_52
    · replace h := x_in c8 h
      refine x_iconst (v := (1 : Int32)) hz dX12_tells_47 (by decide) ?_
      refine x_goto (t := 52) hz dX12_tells_48 (by decide) ?_
      cases h
      exact x_zret01 hZ (Or.inr rfl) dX12_tells_52
  replace h := x_in c3 h
  by_cases c9 : v2 = 1
  · replace h := x_ip c9 h
    refine x_tsIn (t := 53) (off := 47) hz dX12_tells_6 (by rw [c9]; decide) (by rw [c9]; decide) (by rw [c9]; decide) (by decide) ?_
    refine x_aload_n hz dX12_tells_53 rfl ?_
    refine x_aload_n hz dX12_tells_54 rfl ?_
    obtain ⟨v10, e_v10, h⟩ := x_bnd h
    refine x_getA hz dX12_tells_55 fs_X12_55 e_v10 ?_
    refine x_iload_n hz dX12_tells_58 rfl ?_
    obtain ⟨v11, e_v11, h⟩ := x_bnd h
    refine x_iald hz dX12_tells_59 e_v11 ?_
    refine x_aload_n hz dX12_tells_60 rfl ?_
    obtain ⟨v12, e_v12, h⟩ := x_bnd h
    refine x_getA hz dX12_tells_61 fs_X12_58 e_v12 ?_
    refine x_iload_n hz dX12_tells_64 rfl ?_
    obtain ⟨v13, e_v13, h⟩ := x_bnd h
    refine x_iald hz dX12_tells_65 e_v13 ?_
    obtain ⟨b15, e_b15, h⟩ := x_bnd h
    obtain ⟨v16, H14, e_H14, h⟩ := x_b2 h
    refine x_callVi (as := [.inl v11, .inl v13]) (st := []) cs_X12_316 (ci := 11) ⟨rfl, rfl⟩ rfl rfl hz (by omega) (by decide) dX12_tells_66 e_b15 (M_X12_comesBy e_H14) ?_
    obtain ⟨c17, h⟩ := x_inv h
    cases h
    exact x_zret01 hZ c17 dX12_tells_69
  replace h := x_in c9 h
  by_cases c18 : v2 = 2
  · replace h := x_ip c18 h
    refine x_tsIn (t := 70) (off := 64) hz dX12_tells_6 (by rw [c18]; decide) (by rw [c18]; decide) (by rw [c18]; decide) (by decide) ?_
    refine x_aload_n hz dX12_tells_70 rfl ?_
    obtain ⟨v19, e_v19, h⟩ := x_bnd h
    refine x_getA hz dX12_tells_71 fs_X12_79 e_v19 ?_
    refine x_aload_n hz dX12_tells_74 rfl ?_
    obtain ⟨v20, e_v20, h⟩ := x_bnd h
    refine x_getA hz dX12_tells_75 fs_X12_55 e_v20 ?_
    refine x_iload_n hz dX12_tells_78 rfl ?_
    obtain ⟨v21, e_v21, h⟩ := x_bnd h
    refine x_iald hz dX12_tells_79 e_v21 ?_
    obtain ⟨v22, e_v22, h⟩ := x_bnd h
    refine x_iald hz dX12_tells_80 e_v22 ?_
    refine x_iconst (v := (-1 : Int32)) hz dX12_tells_81 (by decide) ?_
    refine x_icmp_eq (t := 129) hz dX12_tells_82 (by decide) (fun c23 => ?_) (fun c23 => ?_)
    · replace h := x_ip c23 h
      refine x_iconst (v := (0 : Int32)) hz dX12_tells_129 (by decide) ?_
      cases h
      exact x_zret01 hZ (Or.inl rfl) dX12_tells_130
    · replace h := x_in c23 h
      refine x_aload_n hz dX12_tells_85 rfl ?_
      obtain ⟨v24, e_v24, h⟩ := x_bnd h
      refine x_getA hz dX12_tells_86 fs_X12_79 e_v24 ?_
      refine x_aload_n hz dX12_tells_89 rfl ?_
      obtain ⟨v25, e_v25, h⟩ := x_bnd h
      refine x_getA hz dX12_tells_90 fs_X12_58 e_v25 ?_
      refine x_iload_n hz dX12_tells_93 rfl ?_
      obtain ⟨v26, e_v26, h⟩ := x_bnd h
      refine x_iald hz dX12_tells_94 e_v26 ?_
      obtain ⟨v27, e_v27, h⟩ := x_bnd h
      refine x_iald hz dX12_tells_95 e_v27 ?_
      refine x_iconst (v := (-1 : Int32)) hz dX12_tells_96 (by decide) ?_
      refine x_icmp_eq (t := 125) hz dX12_tells_97 (by decide) (fun c28 => ?_) (fun c28 => ?_)
      · replace h := x_ip c28 h
        refine x_iconst (v := (1 : Int32)) hz dX12_tells_125 (by decide) ?_
        refine x_goto (t := 130) hz dX12_tells_126 (by decide) ?_
        cases h
        exact x_zret01 hZ (Or.inr rfl) dX12_tells_130
      · replace h := x_in c28 h
        refine x_aload_n hz dX12_tells_100 rfl ?_
        obtain ⟨v29, e_v29, h⟩ := x_bnd h
        refine x_getA hz dX12_tells_101 fs_X12_79 e_v29 ?_
        refine x_aload_n hz dX12_tells_104 rfl ?_
        obtain ⟨v30, e_v30, h⟩ := x_bnd h
        refine x_getA hz dX12_tells_105 fs_X12_58 e_v30 ?_
        refine x_iload_n hz dX12_tells_108 rfl ?_
        obtain ⟨v31, e_v31, h⟩ := x_bnd h
        refine x_iald hz dX12_tells_109 e_v31 ?_
        obtain ⟨v32, e_v32, h⟩ := x_bnd h
        refine x_iald hz dX12_tells_110 e_v32 ?_
        refine x_aload_n hz dX12_tells_111 rfl ?_
        obtain ⟨v33, e_v33, h⟩ := x_bnd h
        refine x_getA hz dX12_tells_112 fs_X12_79 e_v33 ?_
        refine x_aload_n hz dX12_tells_115 rfl ?_
        obtain ⟨v34, e_v34, h⟩ := x_bnd h
        refine x_getA hz dX12_tells_116 fs_X12_55 e_v34 ?_
        refine x_iload_n hz dX12_tells_119 rfl ?_
        obtain ⟨v35, e_v35, h⟩ := x_bnd h
        refine x_iald hz dX12_tells_120 e_v35 ?_
        obtain ⟨v36, e_v36, h⟩ := x_bnd h
        refine x_iald hz dX12_tells_121 e_v36 ?_
        refine x_icmp_le (t := 129) hz dX12_tells_122 (by decide) (fun c37 => ?_) (fun c37 => ?_)
        · replace h := x_ip c37 h
          refine x_iconst (v := (0 : Int32)) hz dX12_tells_129 (by decide) ?_
          cases h
          exact x_zret01 hZ (Or.inl rfl) dX12_tells_130
        · replace h := x_in c37 h
          refine x_iconst (v := (1 : Int32)) hz dX12_tells_125 (by decide) ?_
          refine x_goto (t := 130) hz dX12_tells_126 (by decide) ?_
          cases h
          exact x_zret01 hZ (Or.inr rfl) dX12_tells_130
  replace h := x_in c18 h
  refine x_tsOut (t := 131) hz dX12_tells_6 (x_tsN v2 (0) (2) (by decide) (by decide) (fun i h1 h2 => ?_)) (by decide) ?_
  · (have h3 : i = 0 ∨ i = 1 ∨ i = 2 := by omega); rcases h3 with rfl | rfl | rfl <;> intro e <;> first | exact c3 (Int32.toInt_inj.mp (e.trans rfl)) | exact c9 (Int32.toInt_inj.mp (e.trans rfl)) | exact c18 (Int32.toInt_inj.mp (e.trans rfl))
  refine x_iconst (v := (0 : Int32)) hz dX12_tells_131 (by decide) ?_
  refine x_istore_n (pl' := [xA a0, xI a1, xI (0 : Int32), xN]) hz dX12_tells_132 (by decide) rfl ?_
  refine x_iconst (v := (0 : Int32)) hz dX12_tells_133 (by decide) ?_
  refine x_istore_n (pl' := [xA a0, xI a1, xI (0 : Int32), xI (0 : Int32)]) hz dX12_tells_134 (by decide) rfl ?_
  exact x_wk (xwk_c (xwk_c (xwk_c (xwk_c xwk_0)))) ((P_X12_tells_L135 hZ (P_X12_tells_J166 hZ) N) a0 a1 (0 : Int32) (0 : Int32) H h)
theorem M_X12_tells {N : Nat} {a0 : (Option Nat)} {a1 : Int32} {H H1 : xH} {r1 : Int32} (h : F_X12_tells N a0 a1 H = some (r1, H1)) : xM yX12_tells cX12_tells 4 (some .boolean) 2 [.inr (.inr a0), .inl a1] H (some (.int r1)) H1 :=
  xM_of (by decide +kernel) (xT_tb 1014 (by decide +kernel) (by decide +kernel)) (by simp [xargs, x2]) rfl (P_X12_tells rfl a0 a1 H h)
/-! BettingBookModel.isTrue(II)Z -/
noncomputable def F_X12_isTrue_J154 (N : Nat) (k5 : (Option Nat) → Int32 → Int32 → Int32 → xH → Option (Int32 × xH)) (x0 : (Option Nat)) (x2 : Int32) (x3 : Int32) (x4 : Int32) (H : xH) : Option (Int32 × xH) :=
  k5 x0 x2 x3 (x4 + 1) H
set_option maxRecDepth 20000 in
set_option maxHeartbeats 4000000 in
theorem P_X12_isTrue_J154 {N : Nat} {Z : xZ} {rv : Int32} {Hf : xH} (hZ : Z = xZm cX12_isTrue yX12_isTrue 5 3 (some .boolean) (some (.int rv)) Hf) {k5 : (Option Nat) → Int32 → Int32 → Int32 → xH → Option (Int32 × xH)} (hk5 : ∀ (x0 : (Option Nat)) (x2 : Int32) (x3 : Int32) (x4 : Int32) (H : xH), k5 x0 x2 x3 x4 H = some (rv, Hf) → xWq Z H 5 [xA x0, xN, xI x2, xI x3, xI x4] []) : ∀ (x0 : (Option Nat)) (x2 : Int32) (x3 : Int32) (x4 : Int32) (H : xH), F_X12_isTrue_J154 N k5 x0 x2 x3 x4 H = some (rv, Hf) → xWq Z H 154 [xA x0, xN, xI x2, xI x3, xI x4] [] := by
  have hz : Z.1 = (cX12_isTrue, yX12_isTrue, 5) := by rw [hZ]; rfl
  have hδ : Z.2.1 = 3 := by rw [hZ]; rfl
  intro x0 x2 x3 x4 H h
  unfold F_X12_isTrue_J154 at h
  refine x_iinc (w := (x4 + 1)) (pl' := [xA x0, xN, xI x2, xI x3, xI (x4 + 1)]) hz dX12_isTrue_154 rfl rfl (by decide) rfl ?_
  refine x_goto (t := 5) hz dX12_isTrue_157 (by decide) ?_
  exact x_wk (xwk_c (xwk_n (xwk_c (xwk_c (xwk_c xwk_0))))) (hk5 x0 x2 x3 (x4 + 1) H h)
noncomputable def F_X12_isTrue_J75 (N : Nat) (k5 : (Option Nat) → Int32 → Int32 → Int32 → xH → Option (Int32 × xH)) (x0 : (Option Nat)) (x2 : Int32) (x3 : Int32) (x4 : Int32) (s0 : (Option Nat)) (s1 : Int32) (s2 : Int32) (H : xH) : Option (Int32 × xH) :=
  (xsI .boolean H s0 s1 s2).bind fun H1 =>
  (F_X12_isTrue_J154 N k5) x0 x2 x3 x4 H1
set_option maxRecDepth 20000 in
set_option maxHeartbeats 4000000 in
theorem P_X12_isTrue_J75 {N : Nat} {Z : xZ} {rv : Int32} {Hf : xH} (hZ : Z = xZm cX12_isTrue yX12_isTrue 5 3 (some .boolean) (some (.int rv)) Hf) {k5 : (Option Nat) → Int32 → Int32 → Int32 → xH → Option (Int32 × xH)} (hk5 : ∀ (x0 : (Option Nat)) (x2 : Int32) (x3 : Int32) (x4 : Int32) (H : xH), k5 x0 x2 x3 x4 H = some (rv, Hf) → xWq Z H 5 [xA x0, xN, xI x2, xI x3, xI x4] []) : ∀ (x0 : (Option Nat)) (x2 : Int32) (x3 : Int32) (x4 : Int32) (s0 : (Option Nat)) (s1 : Int32) (s2 : Int32) (H : xH), F_X12_isTrue_J75 N k5 x0 x2 x3 x4 s0 s1 s2 H = some (rv, Hf) → xWq Z H 75 [xA x0, xN, xI x2, xI x3, xI x4] [.int s2, .int s1, va_rf s0] := by
  have hz : Z.1 = (cX12_isTrue, yX12_isTrue, 5) := by rw [hZ]; rfl
  have hδ : Z.2.1 = 3 := by rw [hZ]; rfl
  intro x0 x2 x3 x4 s0 s1 s2 H h
  unfold F_X12_isTrue_J75 at h
  obtain ⟨H1, e_H1, h⟩ := x_bnd h
  refine x_zast hz dX12_isTrue_75 e_H1 ?_
  refine x_goto (t := 154) hz dX12_isTrue_76 (by decide) ?_
  exact x_wk (xwk_c (xwk_n (xwk_c (xwk_c (xwk_c xwk_0))))) ((P_X12_isTrue_J154 hZ hk5) x0 x2 x3 x4 H1 h)
noncomputable def F_X12_isTrue_J153 (N : Nat) (k5 : (Option Nat) → Int32 → Int32 → Int32 → xH → Option (Int32 × xH)) (x0 : (Option Nat)) (x2 : Int32) (x3 : Int32) (x4 : Int32) (s0 : (Option Nat)) (s1 : Int32) (s2 : Int32) (H : xH) : Option (Int32 × xH) :=
  (xsI .boolean H s0 s1 s2).bind fun H1 =>
  (F_X12_isTrue_J154 N k5) x0 x2 x3 x4 H1
set_option maxRecDepth 20000 in
set_option maxHeartbeats 4000000 in
theorem P_X12_isTrue_J153 {N : Nat} {Z : xZ} {rv : Int32} {Hf : xH} (hZ : Z = xZm cX12_isTrue yX12_isTrue 5 3 (some .boolean) (some (.int rv)) Hf) {k5 : (Option Nat) → Int32 → Int32 → Int32 → xH → Option (Int32 × xH)} (hk5 : ∀ (x0 : (Option Nat)) (x2 : Int32) (x3 : Int32) (x4 : Int32) (H : xH), k5 x0 x2 x3 x4 H = some (rv, Hf) → xWq Z H 5 [xA x0, xN, xI x2, xI x3, xI x4] []) : ∀ (x0 : (Option Nat)) (x2 : Int32) (x3 : Int32) (x4 : Int32) (s0 : (Option Nat)) (s1 : Int32) (s2 : Int32) (H : xH), F_X12_isTrue_J153 N k5 x0 x2 x3 x4 s0 s1 s2 H = some (rv, Hf) → xWq Z H 153 [xA x0, xN, xI x2, xI x3, xI x4] [.int s2, .int s1, va_rf s0] := by
  have hz : Z.1 = (cX12_isTrue, yX12_isTrue, 5) := by rw [hZ]; rfl
  have hδ : Z.2.1 = 3 := by rw [hZ]; rfl
  intro x0 x2 x3 x4 s0 s1 s2 H h
  unfold F_X12_isTrue_J153 at h
  obtain ⟨H1, e_H1, h⟩ := x_bnd h
  refine x_zast hz dX12_isTrue_153 e_H1 ?_
  exact x_wk (xwk_c (xwk_n (xwk_c (xwk_c (xwk_c xwk_0))))) ((P_X12_isTrue_J154 hZ hk5) x0 x2 x3 x4 H1 h)
noncomputable def F_X12_isTrue_J120 (N : Nat) (k5 : (Option Nat) → Int32 → Int32 → Int32 → xH → Option (Int32 × xH)) (x0 : (Option Nat)) (x2 : Int32) (x3 : Int32) (x4 : Int32) (s0 : (Option Nat)) (s1 : Int32) (H : xH) : Option (Int32 × xH) :=
  (F_X12_isTrue_J153 N k5) x0 x2 x3 x4 s0 s1 (1 : Int32) H
set_option maxRecDepth 20000 in
set_option maxHeartbeats 4000000 in
theorem P_X12_isTrue_J120 {N : Nat} {Z : xZ} {rv : Int32} {Hf : xH} (hZ : Z = xZm cX12_isTrue yX12_isTrue 5 3 (some .boolean) (some (.int rv)) Hf) {k5 : (Option Nat) → Int32 → Int32 → Int32 → xH → Option (Int32 × xH)} (hk5 : ∀ (x0 : (Option Nat)) (x2 : Int32) (x3 : Int32) (x4 : Int32) (H : xH), k5 x0 x2 x3 x4 H = some (rv, Hf) → xWq Z H 5 [xA x0, xN, xI x2, xI x3, xI x4] []) : ∀ (x0 : (Option Nat)) (x2 : Int32) (x3 : Int32) (x4 : Int32) (s0 : (Option Nat)) (s1 : Int32) (H : xH), F_X12_isTrue_J120 N k5 x0 x2 x3 x4 s0 s1 H = some (rv, Hf) → xWq Z H 120 [xA x0, xN, xI x2, xI x3, xI x4] [.int s1, va_rf s0] := by
  have hz : Z.1 = (cX12_isTrue, yX12_isTrue, 5) := by rw [hZ]; rfl
  have hδ : Z.2.1 = 3 := by rw [hZ]; rfl
  intro x0 x2 x3 x4 s0 s1 H h
  unfold F_X12_isTrue_J120 at h
  refine x_iconst (v := (1 : Int32)) hz dX12_isTrue_120 (by decide) ?_
  refine x_goto (t := 153) hz dX12_isTrue_121 (by decide) ?_
  exact x_wk (xwk_c (xwk_n (xwk_c (xwk_c (xwk_c xwk_0))))) ((P_X12_isTrue_J153 hZ hk5) x0 x2 x3 x4 s0 s1 (1 : Int32) H h)
noncomputable def F_X12_isTrue_J152 (N : Nat) (k5 : (Option Nat) → Int32 → Int32 → Int32 → xH → Option (Int32 × xH)) (x0 : (Option Nat)) (x2 : Int32) (x3 : Int32) (x4 : Int32) (s0 : (Option Nat)) (s1 : Int32) (H : xH) : Option (Int32 × xH) :=
  (F_X12_isTrue_J153 N k5) x0 x2 x3 x4 s0 s1 (0 : Int32) H
set_option maxRecDepth 20000 in
set_option maxHeartbeats 4000000 in
theorem P_X12_isTrue_J152 {N : Nat} {Z : xZ} {rv : Int32} {Hf : xH} (hZ : Z = xZm cX12_isTrue yX12_isTrue 5 3 (some .boolean) (some (.int rv)) Hf) {k5 : (Option Nat) → Int32 → Int32 → Int32 → xH → Option (Int32 × xH)} (hk5 : ∀ (x0 : (Option Nat)) (x2 : Int32) (x3 : Int32) (x4 : Int32) (H : xH), k5 x0 x2 x3 x4 H = some (rv, Hf) → xWq Z H 5 [xA x0, xN, xI x2, xI x3, xI x4] []) : ∀ (x0 : (Option Nat)) (x2 : Int32) (x3 : Int32) (x4 : Int32) (s0 : (Option Nat)) (s1 : Int32) (H : xH), F_X12_isTrue_J152 N k5 x0 x2 x3 x4 s0 s1 H = some (rv, Hf) → xWq Z H 152 [xA x0, xN, xI x2, xI x3, xI x4] [.int s1, va_rf s0] := by
  have hz : Z.1 = (cX12_isTrue, yX12_isTrue, 5) := by rw [hZ]; rfl
  have hδ : Z.2.1 = 3 := by rw [hZ]; rfl
  intro x0 x2 x3 x4 s0 s1 H h
  unfold F_X12_isTrue_J152 at h
  refine x_iconst (v := (0 : Int32)) hz dX12_isTrue_152 (by decide) ?_
  exact x_wk (xwk_c (xwk_n (xwk_c (xwk_c (xwk_c xwk_0))))) ((P_X12_isTrue_J153 hZ hk5) x0 x2 x3 x4 s0 s1 (0 : Int32) H h)
noncomputable def F_X12_isTrue_J5 (N : Nat) (k5 : (Option Nat) → Int32 → Int32 → Int32 → xH → Option (Int32 × xH)) (k160 : (Option Nat) → xH → Option (Int32 × xH)) (x0 : (Option Nat)) (x2 : Int32) (x3 : Int32) (x4 : Int32) (H : xH) : Option (Int32 × xH) :=
  if x2 ≤ x4 then (k160 x0 H) else ((xgA H x0 11 20).bind fun v2 =>
  (xlI .int H v2 x4).bind fun v3 =>
  if (3 : Int32) < v3 then ((xgA H x0 11 20).bind fun v5 =>
  (xlI .int H v5 x4).bind fun v6 =>
  if v6 = (6 : Int32) then ((xgA H x0 11 45).bind fun v24 =>
  (xgA H x0 11 45).bind fun v25 =>
  (xlI .boolean H v25 (x3 - (1 : Int32))).bind fun v26 =>
  if v26 = 0 then ((F_X12_isTrue_J75 N k5) x0 x2 x3 x4 v24 (x3 - (1 : Int32)) (1 : Int32) H) else ((F_X12_isTrue_J75 N k5) x0 x2 x3 x4 v24 (x3 - (1 : Int32)) (0 : Int32) H)) else ((xgA H x0 11 45).bind fun v8 =>
  (xgA H x0 11 20).bind fun v9 =>
  (xlI .int H v9 x4).bind fun v10 =>
  if v10 = (4 : Int32) then ((xgA H x0 11 45).bind fun v18 =>
  (xlI .boolean H v18 ((x3 + (-1)) - (1 : Int32))).bind fun v19 =>
  if v19 = 0 then ((xgA H x0 11 45).bind fun v21 =>
  (xlI .boolean H v21 (x3 + (-1))).bind fun v22 =>
  if v22 = 0 then ((F_X12_isTrue_J153 N k5) x0 x2 (x3 + (-1)) x4 v8 ((x3 + (-1)) - (1 : Int32)) (0 : Int32) H) else ((F_X12_isTrue_J120 N k5) x0 x2 (x3 + (-1)) x4 v8 ((x3 + (-1)) - (1 : Int32)) H)) else ((F_X12_isTrue_J120 N k5) x0 x2 (x3 + (-1)) x4 v8 ((x3 + (-1)) - (1 : Int32)) H)) else ((xgA H x0 11 45).bind fun v12 =>
  (xlI .boolean H v12 ((x3 + (-1)) - (1 : Int32))).bind fun v13 =>
  if v13 = 0 then ((F_X12_isTrue_J152 N k5) x0 x2 (x3 + (-1)) x4 v8 ((x3 + (-1)) - (1 : Int32)) H) else ((xgA H x0 11 45).bind fun v15 =>
  (xlI .boolean H v15 (x3 + (-1))).bind fun v16 =>
  if v16 = 0 then ((F_X12_isTrue_J152 N k5) x0 x2 (x3 + (-1)) x4 v8 ((x3 + (-1)) - (1 : Int32)) H) else ((F_X12_isTrue_J153 N k5) x0 x2 (x3 + (-1)) x4 v8 ((x3 + (-1)) - (1 : Int32)) (1 : Int32) H))))) else ((xgA H x0 11 45).bind fun v28 =>
  (xob H x0 11).bind fun b30 =>
  x_bd2 (F_X12_tells N x0 x4 H) fun v31 H29 =>
  (xsI .boolean H29 v28 x3 v31).bind fun H32 =>
  (F_X12_isTrue_J154 N k5) x0 x2 (x3 + 1) x4 H32))
set_option maxRecDepth 20000 in
set_option maxHeartbeats 4000000 in
theorem P_X12_isTrue_J5 {N : Nat} {Z : xZ} {rv : Int32} {Hf : xH} (hZ : Z = xZm cX12_isTrue yX12_isTrue 5 3 (some .boolean) (some (.int rv)) Hf) {k5 : (Option Nat) → Int32 → Int32 → Int32 → xH → Option (Int32 × xH)} (hk5 : ∀ (x0 : (Option Nat)) (x2 : Int32) (x3 : Int32) (x4 : Int32) (H : xH), k5 x0 x2 x3 x4 H = some (rv, Hf) → xWq Z H 5 [xA x0, xN, xI x2, xI x3, xI x4] []) {k160 : (Option Nat) → xH → Option (Int32 × xH)} (hk160 : ∀ (x0 : (Option Nat)) (H : xH), k160 x0 H = some (rv, Hf) → xWq Z H 160 [xA x0, xN, xN, xN, xN] []) : ∀ (x0 : (Option Nat)) (x2 : Int32) (x3 : Int32) (x4 : Int32) (H : xH), F_X12_isTrue_J5 N k5 k160 x0 x2 x3 x4 H = some (rv, Hf) → xWq Z H 5 [xA x0, xN, xI x2, xI x3, xI x4] [] := by
  have hz : Z.1 = (cX12_isTrue, yX12_isTrue, 5) := by rw [hZ]; rfl
  have hδ : Z.2.1 = 3 := by rw [hZ]; rfl
  intro x0 x2 x3 x4 H h
  unfold F_X12_isTrue_J5 at h
  refine x_iload hz dX12_isTrue_5 rfl ?_
  refine x_iload_n hz dX12_isTrue_7 rfl ?_
  refine x_icmp_ge (t := 160) hz dX12_isTrue_8 (by decide) (fun c1 => ?_) (fun c1 => ?_)
  · replace h := x_ip c1 h
    exact x_wk (xwk_c (xwk_n (xwk_n (xwk_n (xwk_n xwk_0))))) (hk160 x0 H h)
  · replace h := x_in c1 h
    refine x_aload_n hz dX12_isTrue_11 rfl ?_
    obtain ⟨v2, e_v2, h⟩ := x_bnd h
    refine x_getA hz dX12_isTrue_12 fs_X12_52 e_v2 ?_
    refine x_iload hz dX12_isTrue_15 rfl ?_
    obtain ⟨v3, e_v3, h⟩ := x_bnd h
    refine x_iald hz dX12_isTrue_17 e_v3 ?_
    refine x_iconst (v := (3 : Int32)) hz dX12_isTrue_18 (by decide) ?_
    refine x_icmp_gt (t := 40) hz dX12_isTrue_19 (by decide) (fun c4 => ?_) (fun c4 => ?_)
    · replace h := x_ip c4 h
      refine x_aload_n hz dX12_isTrue_40 rfl ?_
      obtain ⟨v5, e_v5, h⟩ := x_bnd h
      refine x_getA hz dX12_isTrue_41 fs_X12_52 e_v5 ?_
      refine x_iload hz dX12_isTrue_44 rfl ?_
      obtain ⟨v6, e_v6, h⟩ := x_bnd h
      refine x_iald hz dX12_isTrue_46 e_v6 ?_
      refine x_bipush (v := (6 : Int32)) hz dX12_isTrue_47 (by decide) ?_
      refine x_icmp_ne (t := 79) hz dX12_isTrue_49 (by decide) (fun c7 => ?_) (fun c7 => ?_)
      · replace h := x_in c7 h
        refine x_iinc (w := (x3 + (-1))) (pl' := [xA x0, xN, xI x2, xI (x3 + (-1)), xI x4]) hz dX12_isTrue_79 rfl rfl (by decide) rfl ?_
        refine x_aload_n hz dX12_isTrue_82 rfl ?_
        obtain ⟨v8, e_v8, h⟩ := x_bnd h
        refine x_getA hz dX12_isTrue_83 fs_X12_90 e_v8 ?_
        refine x_iload_n hz dX12_isTrue_86 rfl ?_
        refine x_iconst (v := (1 : Int32)) hz dX12_isTrue_87 (by decide) ?_
        refine x_isub hz dX12_isTrue_88 ?_
        refine x_aload_n hz dX12_isTrue_89 rfl ?_
        obtain ⟨v9, e_v9, h⟩ := x_bnd h
        refine x_getA hz dX12_isTrue_90 fs_X12_52 e_v9 ?_
        refine x_iload hz dX12_isTrue_93 rfl ?_
        obtain ⟨v10, e_v10, h⟩ := x_bnd h
        refine x_iald hz dX12_isTrue_95 e_v10 ?_
        refine x_iconst (v := (4 : Int32)) hz dX12_isTrue_96 (by decide) ?_
        refine x_icmp_ne (t := 128) hz dX12_isTrue_97 (by decide) (fun c11 => ?_) (fun c11 => ?_)
        · replace h := x_in c11 h
          refine x_aload_n hz dX12_isTrue_128 rfl ?_
          obtain ⟨v12, e_v12, h⟩ := x_bnd h
          refine x_getA hz dX12_isTrue_129 fs_X12_90 e_v12 ?_
          refine x_iload_n hz dX12_isTrue_132 rfl ?_
          refine x_iconst (v := (1 : Int32)) hz dX12_isTrue_133 (by decide) ?_
          refine x_isub hz dX12_isTrue_134 ?_
          obtain ⟨v13, e_v13, h⟩ := x_bnd h
          refine x_zald hz dX12_isTrue_135 e_v13 ?_
          refine x_if_eq (t := 152) hz dX12_isTrue_136 (by decide) (fun c14 => ?_) (fun c14 => ?_)
          · replace h := x_ip c14 h
            exact x_wk (xwk_c (xwk_n (xwk_c (xwk_c (xwk_c xwk_0))))) ((P_X12_isTrue_J152 hZ hk5) x0 x2 (x3 + (-1)) x4 v8 ((x3 + (-1)) - (1 : Int32)) H h)
          · replace h := x_in c14 h
            refine x_aload_n hz dX12_isTrue_139 rfl ?_
            obtain ⟨v15, e_v15, h⟩ := x_bnd h
            refine x_getA hz dX12_isTrue_140 fs_X12_90 e_v15 ?_
            refine x_iload_n hz dX12_isTrue_143 rfl ?_
            obtain ⟨v16, e_v16, h⟩ := x_bnd h
            refine x_zald hz dX12_isTrue_144 e_v16 ?_
            refine x_if_eq (t := 152) hz dX12_isTrue_145 (by decide) (fun c17 => ?_) (fun c17 => ?_)
            · replace h := x_ip c17 h
              exact x_wk (xwk_c (xwk_n (xwk_c (xwk_c (xwk_c xwk_0))))) ((P_X12_isTrue_J152 hZ hk5) x0 x2 (x3 + (-1)) x4 v8 ((x3 + (-1)) - (1 : Int32)) H h)
            · replace h := x_in c17 h
              refine x_iconst (v := (1 : Int32)) hz dX12_isTrue_148 (by decide) ?_
              refine x_goto (t := 153) hz dX12_isTrue_149 (by decide) ?_
              exact x_wk (xwk_c (xwk_n (xwk_c (xwk_c (xwk_c xwk_0))))) ((P_X12_isTrue_J153 hZ hk5) x0 x2 (x3 + (-1)) x4 v8 ((x3 + (-1)) - (1 : Int32)) (1 : Int32) H h)
        · replace h := x_ip c11 h
          refine x_aload_n hz dX12_isTrue_100 rfl ?_
          obtain ⟨v18, e_v18, h⟩ := x_bnd h
          refine x_getA hz dX12_isTrue_101 fs_X12_90 e_v18 ?_
          refine x_iload_n hz dX12_isTrue_104 rfl ?_
          refine x_iconst (v := (1 : Int32)) hz dX12_isTrue_105 (by decide) ?_
          refine x_isub hz dX12_isTrue_106 ?_
          obtain ⟨v19, e_v19, h⟩ := x_bnd h
          refine x_zald hz dX12_isTrue_107 e_v19 ?_
          refine x_if_ne (t := 120) hz dX12_isTrue_108 (by decide) (fun c20 => ?_) (fun c20 => ?_)
          · replace h := x_in c20 h
            exact x_wk (xwk_c (xwk_n (xwk_c (xwk_c (xwk_c xwk_0))))) ((P_X12_isTrue_J120 hZ hk5) x0 x2 (x3 + (-1)) x4 v8 ((x3 + (-1)) - (1 : Int32)) H h)
          · replace h := x_ip c20 h
            refine x_aload_n hz dX12_isTrue_111 rfl ?_
            obtain ⟨v21, e_v21, h⟩ := x_bnd h
            refine x_getA hz dX12_isTrue_112 fs_X12_90 e_v21 ?_
            refine x_iload_n hz dX12_isTrue_115 rfl ?_
            obtain ⟨v22, e_v22, h⟩ := x_bnd h
            refine x_zald hz dX12_isTrue_116 e_v22 ?_
            refine x_if_eq (t := 124) hz dX12_isTrue_117 (by decide) (fun c23 => ?_) (fun c23 => ?_)
            · replace h := x_ip c23 h
              refine x_iconst (v := (0 : Int32)) hz dX12_isTrue_124 (by decide) ?_
              refine x_goto (t := 153) hz dX12_isTrue_125 (by decide) ?_
              exact x_wk (xwk_c (xwk_n (xwk_c (xwk_c (xwk_c xwk_0))))) ((P_X12_isTrue_J153 hZ hk5) x0 x2 (x3 + (-1)) x4 v8 ((x3 + (-1)) - (1 : Int32)) (0 : Int32) H h)
            · replace h := x_in c23 h
              exact x_wk (xwk_c (xwk_n (xwk_c (xwk_c (xwk_c xwk_0))))) ((P_X12_isTrue_J120 hZ hk5) x0 x2 (x3 + (-1)) x4 v8 ((x3 + (-1)) - (1 : Int32)) H h)
      · replace h := x_ip c7 h
        refine x_aload_n hz dX12_isTrue_52 rfl ?_
        obtain ⟨v24, e_v24, h⟩ := x_bnd h
        refine x_getA hz dX12_isTrue_53 fs_X12_90 e_v24 ?_
        refine x_iload_n hz dX12_isTrue_56 rfl ?_
        refine x_iconst (v := (1 : Int32)) hz dX12_isTrue_57 (by decide) ?_
        refine x_isub hz dX12_isTrue_58 ?_
        refine x_aload_n hz dX12_isTrue_59 rfl ?_
        obtain ⟨v25, e_v25, h⟩ := x_bnd h
        refine x_getA hz dX12_isTrue_60 fs_X12_90 e_v25 ?_
        refine x_iload_n hz dX12_isTrue_63 rfl ?_
        refine x_iconst (v := (1 : Int32)) hz dX12_isTrue_64 (by decide) ?_
        refine x_isub hz dX12_isTrue_65 ?_
        obtain ⟨v26, e_v26, h⟩ := x_bnd h
        refine x_zald hz dX12_isTrue_66 e_v26 ?_
        refine x_if_ne (t := 74) hz dX12_isTrue_67 (by decide) (fun c27 => ?_) (fun c27 => ?_)
        · replace h := x_in c27 h
          refine x_iconst (v := (0 : Int32)) hz dX12_isTrue_74 (by decide) ?_
          exact x_wk (xwk_c (xwk_n (xwk_c (xwk_c (xwk_c xwk_0))))) ((P_X12_isTrue_J75 hZ hk5) x0 x2 x3 x4 v24 (x3 - (1 : Int32)) (0 : Int32) H h)
        · replace h := x_ip c27 h
          refine x_iconst (v := (1 : Int32)) hz dX12_isTrue_70 (by decide) ?_
          refine x_goto (t := 75) hz dX12_isTrue_71 (by decide) ?_
          exact x_wk (xwk_c (xwk_n (xwk_c (xwk_c (xwk_c xwk_0))))) ((P_X12_isTrue_J75 hZ hk5) x0 x2 x3 x4 v24 (x3 - (1 : Int32)) (1 : Int32) H h)
    · replace h := x_in c4 h
      refine x_aload_n hz dX12_isTrue_22 rfl ?_
      obtain ⟨v28, e_v28, h⟩ := x_bnd h
      refine x_getA hz dX12_isTrue_23 fs_X12_90 e_v28 ?_
      refine x_iload_n hz dX12_isTrue_26 rfl ?_
      refine x_aload_n hz dX12_isTrue_27 rfl ?_
      refine x_iload hz dX12_isTrue_28 rfl ?_
      obtain ⟨b30, e_b30, h⟩ := x_bnd h
      obtain ⟨v31, H29, e_H29, h⟩ := x_b2 h
      refine x_callVi (as := [.inl x4]) (st := [.int x3, va_rf v28]) cs_X12_323 (ci := 11) ⟨rfl, rfl⟩ rfl rfl hz (by omega) (Nat.le_trans (x_sm1 rfl (x_sm1 (x_rfc _) x_sm0)) (by decide)) dX12_isTrue_30 e_b30 (M_X12_tells e_H29) ?_
      obtain ⟨H32, e_H32, h⟩ := x_bnd h
      refine x_zast hz dX12_isTrue_33 e_H32 ?_
      refine x_iinc (w := (x3 + 1)) (pl' := [xA x0, xN, xI x2, xI (x3 + 1), xI x4]) hz dX12_isTrue_34 rfl rfl (by decide) rfl ?_
      refine x_goto (t := 154) hz dX12_isTrue_37 (by decide) ?_
      exact x_wk (xwk_c (xwk_n (xwk_c (xwk_c (xwk_c xwk_0))))) ((P_X12_isTrue_J154 hZ hk5) x0 x2 (x3 + 1) x4 H32 h)
noncomputable def F_X12_isTrue_L5 (N : Nat) (k160 : (Option Nat) → xH → Option (Int32 × xH)) : Nat → (Option Nat) → Int32 → Int32 → Int32 → xH → Option (Int32 × xH)
  | 0 => fun _ _ _ _ _ => none
  | n + 1 => F_X12_isTrue_J5 N (F_X12_isTrue_L5 N k160 n) k160
theorem P_X12_isTrue_L5 {N : Nat} {Z : xZ} {rv : Int32} {Hf : xH} (hZ : Z = xZm cX12_isTrue yX12_isTrue 5 3 (some .boolean) (some (.int rv)) Hf) {k160 : (Option Nat) → xH → Option (Int32 × xH)} (hk160 : ∀ (x0 : (Option Nat)) (H : xH), k160 x0 H = some (rv, Hf) → xWq Z H 160 [xA x0, xN, xN, xN, xN] []) : ∀ (n : Nat) (x0 : (Option Nat)) (x2 : Int32) (x3 : Int32) (x4 : Int32) (H : xH), F_X12_isTrue_L5 N k160 n x0 x2 x3 x4 H = some (rv, Hf) → xWq Z H 5 [xA x0, xN, xI x2, xI x3, xI x4] [] := by
  intro n
  induction n with
  | zero => intro _ _ _ _ _ h; cases h
  | succ n ih => exact P_X12_isTrue_J5 hZ ih hk160
noncomputable def F_X12_isTrue_J160 (N : Nat) (x0 : (Option Nat)) (H : xH) : Option (Int32 × xH) :=
  (xgA H x0 11 45).bind fun v1 =>
  (xlI .boolean H v1 (0 : Int32)).bind fun v2 =>
  if v2 = 0 ∨ v2 = 1 then some (v2, H) else none
set_option maxRecDepth 20000 in
set_option maxHeartbeats 4000000 in
theorem P_X12_isTrue_J160 {N : Nat} {Z : xZ} {rv : Int32} {Hf : xH} (hZ : Z = xZm cX12_isTrue yX12_isTrue 5 3 (some .boolean) (some (.int rv)) Hf) : ∀ (x0 : (Option Nat)) (H : xH), F_X12_isTrue_J160 N x0 H = some (rv, Hf) → xWq Z H 160 [xA x0, xN, xN, xN, xN] [] := by
  have hz : Z.1 = (cX12_isTrue, yX12_isTrue, 5) := by rw [hZ]; rfl
  have hδ : Z.2.1 = 3 := by rw [hZ]; rfl
  intro x0 H h
  unfold F_X12_isTrue_J160 at h
  refine x_aload_n hz dX12_isTrue_160 rfl ?_
  obtain ⟨v1, e_v1, h⟩ := x_bnd h
  refine x_getA hz dX12_isTrue_161 fs_X12_90 e_v1 ?_
  refine x_iconst (v := (0 : Int32)) hz dX12_isTrue_164 (by decide) ?_
  obtain ⟨v2, e_v2, h⟩ := x_bnd h
  refine x_zald hz dX12_isTrue_165 e_v2 ?_
  obtain ⟨c3, h⟩ := x_inv h
  cases h
  exact x_zret01 hZ c3 dX12_isTrue_166
noncomputable def F_X12_isTrue (N : Nat) (a0 : (Option Nat)) (a1 : Int32) (a2 : Int32) (H : xH) : Option (Int32 × xH) :=
  (F_X12_isTrue_L5 N (F_X12_isTrue_J160 N) N) a0 a2 (0 : Int32) a1 H
set_option maxRecDepth 20000 in
set_option maxHeartbeats 4000000 in
theorem P_X12_isTrue {N : Nat} {Z : xZ} {rv : Int32} {Hf : xH} (hZ : Z = xZm cX12_isTrue yX12_isTrue 5 3 (some .boolean) (some (.int rv)) Hf) : ∀ (a0 : (Option Nat)) (a1 : Int32) (a2 : Int32) (H : xH), F_X12_isTrue N a0 a1 a2 H = some (rv, Hf) → xWq Z H 0 [xA a0, xI a1, xI a2, xN, xN] [] := by
  have hz : Z.1 = (cX12_isTrue, yX12_isTrue, 5) := by rw [hZ]; rfl
  have hδ : Z.2.1 = 3 := by rw [hZ]; rfl
  intro a0 a1 a2 H h
  unfold F_X12_isTrue at h
  refine x_iconst (v := (0 : Int32)) hz dX12_isTrue_0 (by decide) ?_
  refine x_istore_n (pl' := [xA a0, xI a1, xI a2, xI (0 : Int32), xN]) hz dX12_isTrue_1 (by decide) rfl ?_
  refine x_iload_n hz dX12_isTrue_2 rfl ?_
  refine x_istore (pl' := [xA a0, xI a1, xI a2, xI (0 : Int32), xI a1]) hz dX12_isTrue_3 (by decide) rfl ?_
  exact x_wk (xwk_c (xwk_n (xwk_c (xwk_c (xwk_c xwk_0))))) ((P_X12_isTrue_L5 hZ (P_X12_isTrue_J160 hZ) N) a0 a2 (0 : Int32) a1 H h)
theorem M_X12_isTrue {N : Nat} {a0 : (Option Nat)} {a1 : Int32} {a2 : Int32} {H H1 : xH} {r1 : Int32} (h : F_X12_isTrue N a0 a1 a2 H = some (r1, H1)) : xM yX12_isTrue cX12_isTrue 5 (some .boolean) 3 [.inr (.inr a0), .inl a1, .inl a2] H (some (.int r1)) H1 :=
  xM_of (by decide +kernel) (xT_tb 1010 (by decide +kernel) (by decide +kernel)) (by simp [xargs, x2]) rfl (P_X12_isTrue rfl a0 a1 a2 H h)
/-! BettingBookModel.doesNow(I)I -/
noncomputable def F_X12_doesNow_J60 (N : Nat) (x0 : (Option Nat)) (x1 : Int32) (s0 : Int32) (H : xH) : Option (Int32 × xH) :=
  (xgA H x0 11 18).bind fun v1 =>
  (xlI .int H v1 x1).bind fun v2 =>
  (xgA H x0 11 19).bind fun v3 =>
  (xlI .int H v3 x1).bind fun v4 =>
  if v4 ≤ v2 then (some (s0, H)) else ((xgA H x0 11 18).bind fun v6 =>
  (xlI .int H v6 x1).bind fun v7 =>
  (xgA H x0 11 19).bind fun v8 =>
  (xlI .int H v8 x1).bind fun v9 =>
  (xob H x0 11).bind fun b11 =>
  x_bd2 (F_X12_isTrue N x0 v7 v9 H) fun v12 H10 =>
  if v12 = 0 then (some (s0, H10)) else (some ((s0 + (2 : Int32)), H10)))
set_option maxRecDepth 20000 in
set_option maxHeartbeats 4000000 in
theorem P_X12_doesNow_J60 {N : Nat} {Z : xZ} {rv : Int32} {Hf : xH} (hZ : Z = xZm cX12_doesNow yX12_doesNow 3 4 (some .int) (some (.int rv)) Hf) : ∀ (x0 : (Option Nat)) (x1 : Int32) (s0 : Int32) (H : xH), F_X12_doesNow_J60 N x0 x1 s0 H = some (rv, Hf) → xWq Z H 60 [xA x0, xI x1, xN] [.int s0] := by
  have hz : Z.1 = (cX12_doesNow, yX12_doesNow, 3) := by rw [hZ]; rfl
  have hδ : Z.2.1 = 4 := by rw [hZ]; rfl
  intro x0 x1 s0 H h
  unfold F_X12_doesNow_J60 at h
  refine x_istore_n (pl' := [xA x0, xI x1, xI s0]) hz dX12_doesNow_60 (by decide) rfl ?_
  refine x_aload_n hz dX12_doesNow_61 rfl ?_
  obtain ⟨v1, e_v1, h⟩ := x_bnd h
  refine x_getA hz dX12_doesNow_62 fs_X12_46 e_v1 ?_
  refine x_iload_n hz dX12_doesNow_65 rfl ?_
  obtain ⟨v2, e_v2, h⟩ := x_bnd h
  refine x_iald hz dX12_doesNow_66 e_v2 ?_
  refine x_aload_n hz dX12_doesNow_67 rfl ?_
  obtain ⟨v3, e_v3, h⟩ := x_bnd h
  refine x_getA hz dX12_doesNow_68 fs_X12_49 e_v3 ?_
  refine x_iload_n hz dX12_doesNow_71 rfl ?_
  obtain ⟨v4, e_v4, h⟩ := x_bnd h
  refine x_iald hz dX12_doesNow_72 e_v4 ?_
  refine x_icmp_ge (t := 101) hz dX12_doesNow_73 (by decide) (fun c5 => ?_) (fun c5 => ?_)
  · replace h := x_ip c5 h
    refine x_iload_n hz dX12_doesNow_101 rfl ?_
    cases h
    exact x_iret hZ dX12_doesNow_102
  · replace h := x_in c5 h
    refine x_aload_n hz dX12_doesNow_76 rfl ?_
    refine x_aload_n hz dX12_doesNow_77 rfl ?_
    obtain ⟨v6, e_v6, h⟩ := x_bnd h
    refine x_getA hz dX12_doesNow_78 fs_X12_46 e_v6 ?_
    refine x_iload_n hz dX12_doesNow_81 rfl ?_
    obtain ⟨v7, e_v7, h⟩ := x_bnd h
    refine x_iald hz dX12_doesNow_82 e_v7 ?_
    refine x_aload_n hz dX12_doesNow_83 rfl ?_
    obtain ⟨v8, e_v8, h⟩ := x_bnd h
    refine x_getA hz dX12_doesNow_84 fs_X12_49 e_v8 ?_
    refine x_iload_n hz dX12_doesNow_87 rfl ?_
    obtain ⟨v9, e_v9, h⟩ := x_bnd h
    refine x_iald hz dX12_doesNow_88 e_v9 ?_
    obtain ⟨b11, e_b11, h⟩ := x_bnd h
    obtain ⟨v12, H10, e_H10, h⟩ := x_b2 h
    refine x_callVi (as := [.inl v7, .inl v9]) (st := []) cs_X12_326 (ci := 11) ⟨rfl, rfl⟩ rfl rfl hz (by omega) (by decide) dX12_doesNow_89 e_b11 (M_X12_isTrue e_H10) ?_
    refine x_if_eq (t := 101) hz dX12_doesNow_92 (by decide) (fun c13 => ?_) (fun c13 => ?_)
    · replace h := x_ip c13 h
      refine x_iload_n hz dX12_doesNow_101 rfl ?_
      cases h
      exact x_iret hZ dX12_doesNow_102
    · replace h := x_in c13 h
      refine x_iload_n hz dX12_doesNow_95 rfl ?_
      refine x_iconst (v := (2 : Int32)) hz dX12_doesNow_96 (by decide) ?_
      refine x_iadd hz dX12_doesNow_97 ?_
      refine x_goto (t := 102) hz dX12_doesNow_98 (by decide) ?_
      cases h
      exact x_iret hZ dX12_doesNow_102
noncomputable def F_X12_doesNow_J36 (N : Nat) (x0 : (Option Nat)) (x1 : Int32) (H : xH) : Option (Int32 × xH) :=
  (xgA H x0 11 16).bind fun v1 =>
  (xlI .int H v1 x1).bind fun v2 =>
  (xgA H x0 11 17).bind fun v3 =>
  (xlI .int H v3 x1).bind fun v4 =>
  (xob H x0 11).bind fun b6 =>
  x_bd2 (F_X12_isTrue N x0 v2 v4 H) fun v7 H5 =>
  if v7 = 0 then ((F_X12_doesNow_J60 N) x0 x1 (2 : Int32) H5) else ((F_X12_doesNow_J60 N) x0 x1 (1 : Int32) H5)
set_option maxRecDepth 20000 in
set_option maxHeartbeats 4000000 in
theorem P_X12_doesNow_J36 {N : Nat} {Z : xZ} {rv : Int32} {Hf : xH} (hZ : Z = xZm cX12_doesNow yX12_doesNow 3 4 (some .int) (some (.int rv)) Hf) : ∀ (x0 : (Option Nat)) (x1 : Int32) (H : xH), F_X12_doesNow_J36 N x0 x1 H = some (rv, Hf) → xWq Z H 36 [xA x0, xI x1, xN] [] := by
  have hz : Z.1 = (cX12_doesNow, yX12_doesNow, 3) := by rw [hZ]; rfl
  have hδ : Z.2.1 = 4 := by rw [hZ]; rfl
  intro x0 x1 H h
  unfold F_X12_doesNow_J36 at h
  refine x_aload_n hz dX12_doesNow_36 rfl ?_
  refine x_aload_n hz dX12_doesNow_37 rfl ?_
  obtain ⟨v1, e_v1, h⟩ := x_bnd h
  refine x_getA hz dX12_doesNow_38 fs_X12_40 e_v1 ?_
  refine x_iload_n hz dX12_doesNow_41 rfl ?_
  obtain ⟨v2, e_v2, h⟩ := x_bnd h
  refine x_iald hz dX12_doesNow_42 e_v2 ?_
  refine x_aload_n hz dX12_doesNow_43 rfl ?_
  obtain ⟨v3, e_v3, h⟩ := x_bnd h
  refine x_getA hz dX12_doesNow_44 fs_X12_43 e_v3 ?_
  refine x_iload_n hz dX12_doesNow_47 rfl ?_
  obtain ⟨v4, e_v4, h⟩ := x_bnd h
  refine x_iald hz dX12_doesNow_48 e_v4 ?_
  obtain ⟨b6, e_b6, h⟩ := x_bnd h
  obtain ⟨v7, H5, e_H5, h⟩ := x_b2 h
  refine x_callVi (as := [.inl v2, .inl v4]) (st := []) cs_X12_326 (ci := 11) ⟨rfl, rfl⟩ rfl rfl hz (by omega) (by decide) dX12_doesNow_49 e_b6 (M_X12_isTrue e_H5) ?_
  refine x_if_eq (t := 59) hz dX12_doesNow_52 (by decide) (fun c8 => ?_) (fun c8 => ?_)
  · replace h := x_ip c8 h
    refine x_iconst (v := (2 : Int32)) hz dX12_doesNow_59 (by decide) ?_
    exact x_wk (xwk_c (xwk_c (xwk_n xwk_0))) ((P_X12_doesNow_J60 hZ) x0 x1 (2 : Int32) H5 h)
  · replace h := x_in c8 h
    refine x_iconst (v := (1 : Int32)) hz dX12_doesNow_55 (by decide) ?_
    refine x_goto (t := 60) hz dX12_doesNow_56 (by decide) ?_
    exact x_wk (xwk_c (xwk_c (xwk_n xwk_0))) ((P_X12_doesNow_J60 hZ) x0 x1 (1 : Int32) H5 h)
noncomputable def F_X12_doesNow (N : Nat) (a0 : (Option Nat)) (a1 : Int32) (H : xH) : Option (Int32 × xH) :=
  (xgA H a0 11 17).bind fun v1 =>
  (xlI .int H v1 a1).bind fun v2 =>
  (xgA H a0 11 18).bind fun v3 =>
  (xlI .int H v3 a1).bind fun v4 =>
  if v4 ≤ v2 then ((F_X12_doesNow_J36 N) a0 a1 H) else ((xgA H a0 11 17).bind fun v6 =>
  (xlI .int H v6 a1).bind fun v7 =>
  (xgA H a0 11 18).bind fun v8 =>
  (xlI .int H v8 a1).bind fun v9 =>
  (xob H a0 11).bind fun b11 =>
  x_bd2 (F_X12_isTrue N a0 v7 v9 H) fun v12 H10 =>
  if v12 = 0 then ((F_X12_doesNow_J36 N) a0 a1 H10) else (some ((0 : Int32), H10)))
set_option maxRecDepth 20000 in
set_option maxHeartbeats 4000000 in
theorem P_X12_doesNow {N : Nat} {Z : xZ} {rv : Int32} {Hf : xH} (hZ : Z = xZm cX12_doesNow yX12_doesNow 3 4 (some .int) (some (.int rv)) Hf) : ∀ (a0 : (Option Nat)) (a1 : Int32) (H : xH), F_X12_doesNow N a0 a1 H = some (rv, Hf) → xWq Z H 0 [xA a0, xI a1, xN] [] := by
  have hz : Z.1 = (cX12_doesNow, yX12_doesNow, 3) := by rw [hZ]; rfl
  have hδ : Z.2.1 = 4 := by rw [hZ]; rfl
  intro a0 a1 H h
  unfold F_X12_doesNow at h
  refine x_aload_n hz dX12_doesNow_0 rfl ?_
  obtain ⟨v1, e_v1, h⟩ := x_bnd h
  refine x_getA hz dX12_doesNow_1 fs_X12_43 e_v1 ?_
  refine x_iload_n hz dX12_doesNow_4 rfl ?_
  obtain ⟨v2, e_v2, h⟩ := x_bnd h
  refine x_iald hz dX12_doesNow_5 e_v2 ?_
  refine x_aload_n hz dX12_doesNow_6 rfl ?_
  obtain ⟨v3, e_v3, h⟩ := x_bnd h
  refine x_getA hz dX12_doesNow_7 fs_X12_46 e_v3 ?_
  refine x_iload_n hz dX12_doesNow_10 rfl ?_
  obtain ⟨v4, e_v4, h⟩ := x_bnd h
  refine x_iald hz dX12_doesNow_11 e_v4 ?_
  refine x_icmp_ge (t := 36) hz dX12_doesNow_12 (by decide) (fun c5 => ?_) (fun c5 => ?_)
  · replace h := x_ip c5 h
    exact x_wk (xwk_c (xwk_c (xwk_n xwk_0))) ((P_X12_doesNow_J36 hZ) a0 a1 H h)
  · replace h := x_in c5 h
    refine x_aload_n hz dX12_doesNow_15 rfl ?_
    refine x_aload_n hz dX12_doesNow_16 rfl ?_
    obtain ⟨v6, e_v6, h⟩ := x_bnd h
    refine x_getA hz dX12_doesNow_17 fs_X12_43 e_v6 ?_
    refine x_iload_n hz dX12_doesNow_20 rfl ?_
    obtain ⟨v7, e_v7, h⟩ := x_bnd h
    refine x_iald hz dX12_doesNow_21 e_v7 ?_
    refine x_aload_n hz dX12_doesNow_22 rfl ?_
    obtain ⟨v8, e_v8, h⟩ := x_bnd h
    refine x_getA hz dX12_doesNow_23 fs_X12_46 e_v8 ?_
    refine x_iload_n hz dX12_doesNow_26 rfl ?_
    obtain ⟨v9, e_v9, h⟩ := x_bnd h
    refine x_iald hz dX12_doesNow_27 e_v9 ?_
    obtain ⟨b11, e_b11, h⟩ := x_bnd h
    obtain ⟨v12, H10, e_H10, h⟩ := x_b2 h
    refine x_callVi (as := [.inl v7, .inl v9]) (st := []) cs_X12_326 (ci := 11) ⟨rfl, rfl⟩ rfl rfl hz (by omega) (by decide) dX12_doesNow_28 e_b11 (M_X12_isTrue e_H10) ?_
    refine x_if_eq (t := 36) hz dX12_doesNow_31 (by decide) (fun c13 => ?_) (fun c13 => ?_)
    · replace h := x_ip c13 h
      exact x_wk (xwk_c (xwk_c (xwk_n xwk_0))) ((P_X12_doesNow_J36 hZ) a0 a1 H10 h)
    · replace h := x_in c13 h
      refine x_iconst (v := (0 : Int32)) hz dX12_doesNow_34 (by decide) ?_
      cases h
      exact x_iret hZ dX12_doesNow_35
theorem M_X12_doesNow {N : Nat} {a0 : (Option Nat)} {a1 : Int32} {H H1 : xH} {r1 : Int32} (h : F_X12_doesNow N a0 a1 H = some (r1, H1)) : xM yX12_doesNow cX12_doesNow 3 (some .int) 4 [.inr (.inr a0), .inl a1] H (some (.int r1)) H1 :=
  xM_of (by decide +kernel) (xT_tb 1006 (by decide +kernel) (by decide +kernel)) (by simp [xargs, x2]) rfl (P_X12_doesNow rfl a0 a1 H h)
/-! BettingBookModel.makes()V -/
noncomputable def F_X12_makes_J7 (N : Nat) (k7 : (Option Nat) → Int32 → xH → Option xH) (k32 : (Option Nat) → xH → Option xH) (x0 : (Option Nat)) (x1 : Int32) (H : xH) : Option xH :=
  (xgI H x0 11 0).bind fun v1 =>
  if v1 ≤ x1 then (k32 x0 H) else ((xgI H x0 11 41).bind fun v3 =>
  (xpI H x0 11 41 (v3 * (9 : Int32))).bind fun H4 =>
  k7 x0 (x1 + 1) H4)
set_option maxRecDepth 20000 in
set_option maxHeartbeats 4000000 in
theorem P_X12_makes_J7 {N : Nat} {Z : xZ} {Hf : xH} (hZ : Z = xZm cX12_makes yX12_makes 4 5 none none Hf) {k7 : (Option Nat) → Int32 → xH → Option xH} (hk7 : ∀ (x0 : (Option Nat)) (x1 : Int32) (H : xH), k7 x0 x1 H = some Hf → xWq Z H 7 [xA x0, xI x1, xN, xN] []) {k32 : (Option Nat) → xH → Option xH} (hk32 : ∀ (x0 : (Option Nat)) (H : xH), k32 x0 H = some Hf → xWq Z H 32 [xA x0, xN, xN, xN] []) : ∀ (x0 : (Option Nat)) (x1 : Int32) (H : xH), F_X12_makes_J7 N k7 k32 x0 x1 H = some Hf → xWq Z H 7 [xA x0, xI x1, xN, xN] [] := by
  have hz : Z.1 = (cX12_makes, yX12_makes, 4) := by rw [hZ]; rfl
  have hδ : Z.2.1 = 5 := by rw [hZ]; rfl
  intro x0 x1 H h
  unfold F_X12_makes_J7 at h
  refine x_iload_n hz dX12_makes_7 rfl ?_
  refine x_aload_n hz dX12_makes_8 rfl ?_
  obtain ⟨v1, e_v1, h⟩ := x_bnd h
  refine x_getI hz dX12_makes_9 fs_X12_282 e_v1 ?_
  refine x_icmp_ge (t := 32) hz dX12_makes_12 (by decide) (fun c2 => ?_) (fun c2 => ?_)
  · replace h := x_ip c2 h
    exact x_wk (xwk_c (xwk_n (xwk_n (xwk_n xwk_0)))) (hk32 x0 H h)
  · replace h := x_in c2 h
    refine x_aload_n hz dX12_makes_15 rfl ?_
    refine x_dup hz dX12_makes_16 (x_rfc _) ?_
    obtain ⟨v3, e_v3, h⟩ := x_bnd h
    refine x_getI hz dX12_makes_17 fs_X12_329 e_v3 ?_
    refine x_bipush (v := (9 : Int32)) hz dX12_makes_20 (by decide) ?_
    refine x_imul hz dX12_makes_22 ?_
    obtain ⟨H4, e_H4, h⟩ := x_bnd h
    refine x_putV (v := .int (v3 * (9 : Int32))) hz dX12_makes_23 fs_X12_329 rfl rfl e_H4 ?_
    refine x_iinc (w := (x1 + 1)) (pl' := [xA x0, xI (x1 + 1), xN, xN]) hz dX12_makes_26 rfl rfl (by decide) rfl ?_
    refine x_goto (t := 7) hz dX12_makes_29 (by decide) ?_
    exact x_wk (xwk_c (xwk_c (xwk_n (xwk_n xwk_0)))) (hk7 x0 (x1 + 1) H4 h)
noncomputable def F_X12_makes_L7 (N : Nat) (k32 : (Option Nat) → xH → Option xH) : Nat → (Option Nat) → Int32 → xH → Option xH
  | 0 => fun _ _ _ => none
  | n + 1 => F_X12_makes_J7 N (F_X12_makes_L7 N k32 n) k32
theorem P_X12_makes_L7 {N : Nat} {Z : xZ} {Hf : xH} (hZ : Z = xZm cX12_makes yX12_makes 4 5 none none Hf) {k32 : (Option Nat) → xH → Option xH} (hk32 : ∀ (x0 : (Option Nat)) (H : xH), k32 x0 H = some Hf → xWq Z H 32 [xA x0, xN, xN, xN] []) : ∀ (n : Nat) (x0 : (Option Nat)) (x1 : Int32) (H : xH), F_X12_makes_L7 N k32 n x0 x1 H = some Hf → xWq Z H 7 [xA x0, xI x1, xN, xN] [] := by
  intro n
  induction n with
  | zero => intro _ _ _ h; cases h
  | succ n ih => exact P_X12_makes_J7 hZ ih hk32
noncomputable def F_X12_makes_J77 (N : Nat) (k77 : (Option Nat) → Int32 → Int32 → Int32 → xH → Option xH) (k112 : (Option Nat) → Int32 → xH → Option xH) (x0 : (Option Nat)) (x1 : Int32) (x2 : Int32) (x3 : Int32) (H : xH) : Option xH :=
  (xgI H x0 11 2).bind fun v1 =>
  if v1 ≤ x3 then (k112 x0 x1 H) else (if x2 = 0 then (k112 x0 x1 H) else ((xgA H x0 11 44).bind fun v4 =>
  (xob H x0 11).bind fun b6 =>
  x_bd2 (F_X12_doesNow N x0 x3 H) fun v7 H5 =>
  (xsI .byte H5 v4 (((59049 : Int32) * x3) + x1) ((v7).toInt8.toInt32)).bind fun H8 =>
  k77 x0 x1 x2 (x3 + 1) H8))
set_option maxRecDepth 20000 in
set_option maxHeartbeats 4000000 in
theorem P_X12_makes_J77 {N : Nat} {Z : xZ} {Hf : xH} (hZ : Z = xZm cX12_makes yX12_makes 4 5 none none Hf) {k77 : (Option Nat) → Int32 → Int32 → Int32 → xH → Option xH} (hk77 : ∀ (x0 : (Option Nat)) (x1 : Int32) (x2 : Int32) (x3 : Int32) (H : xH), k77 x0 x1 x2 x3 H = some Hf → xWq Z H 77 [xA x0, xI x1, xI x2, xI x3] []) {k112 : (Option Nat) → Int32 → xH → Option xH} (hk112 : ∀ (x0 : (Option Nat)) (x1 : Int32) (H : xH), k112 x0 x1 H = some Hf → xWq Z H 112 [xA x0, xI x1, xN, xN] []) : ∀ (x0 : (Option Nat)) (x1 : Int32) (x2 : Int32) (x3 : Int32) (H : xH), F_X12_makes_J77 N k77 k112 x0 x1 x2 x3 H = some Hf → xWq Z H 77 [xA x0, xI x1, xI x2, xI x3] [] := by
  have hz : Z.1 = (cX12_makes, yX12_makes, 4) := by rw [hZ]; rfl
  have hδ : Z.2.1 = 5 := by rw [hZ]; rfl
  intro x0 x1 x2 x3 H h
  unfold F_X12_makes_J77 at h
  refine x_iload_n hz dX12_makes_77 rfl ?_
  refine x_aload_n hz dX12_makes_78 rfl ?_
  obtain ⟨v1, e_v1, h⟩ := x_bnd h
  refine x_getI hz dX12_makes_79 fs_X12_288 e_v1 ?_
  refine x_icmp_ge (t := 112) hz dX12_makes_82 (by decide) (fun c2 => ?_) (fun c2 => ?_)
  · replace h := x_ip c2 h
    exact x_wk (xwk_c (xwk_c (xwk_n (xwk_n xwk_0)))) (hk112 x0 x1 H h)
  · replace h := x_in c2 h
    refine x_iload_n hz dX12_makes_85 rfl ?_
    refine x_if_eq (t := 112) hz dX12_makes_86 (by decide) (fun c3 => ?_) (fun c3 => ?_)
    · replace h := x_ip c3 h
      exact x_wk (xwk_c (xwk_c (xwk_n (xwk_n xwk_0)))) (hk112 x0 x1 H h)
    · replace h := x_in c3 h
      refine x_aload_n hz dX12_makes_89 rfl ?_
      obtain ⟨v4, e_v4, h⟩ := x_bnd h
      refine x_getA hz dX12_makes_90 fs_X12_87 e_v4 ?_
      refine x_ldc (v := (59049 : Int32)) hz dX12_makes_93 wc_X12_82 ?_
      refine x_iload_n hz dX12_makes_95 rfl ?_
      refine x_imul hz dX12_makes_96 ?_
      refine x_iload_n hz dX12_makes_97 rfl ?_
      refine x_iadd hz dX12_makes_98 ?_
      refine x_aload_n hz dX12_makes_99 rfl ?_
      refine x_iload_n hz dX12_makes_100 rfl ?_
      obtain ⟨b6, e_b6, h⟩ := x_bnd h
      obtain ⟨v7, H5, e_H5, h⟩ := x_b2 h
      refine x_callVi (as := [.inl x3]) (st := [.int (((59049 : Int32) * x3) + x1), va_rf v4]) cs_X12_338 (ci := 11) ⟨rfl, rfl⟩ rfl rfl hz (by omega) (Nat.le_trans (x_sm1 rfl (x_sm1 (x_rfc _) x_sm0)) (by decide)) dX12_makes_101 e_b6 (M_X12_doesNow e_H5) ?_
      refine x_i2b hz dX12_makes_104 ?_
      obtain ⟨H8, e_H8, h⟩ := x_bnd h
      refine x_bast hz dX12_makes_105 e_H8 ?_
      refine x_iinc (w := (x3 + 1)) (pl' := [xA x0, xI x1, xI x2, xI (x3 + 1)]) hz dX12_makes_106 rfl rfl (by decide) rfl ?_
      refine x_goto (t := 77) hz dX12_makes_109 (by decide) ?_
      exact x_wk (xwk_c (xwk_c (xwk_c (xwk_c xwk_0)))) (hk77 x0 x1 x2 (x3 + 1) H8 h)
noncomputable def F_X12_makes_L77 (N : Nat) (k112 : (Option Nat) → Int32 → xH → Option xH) : Nat → (Option Nat) → Int32 → Int32 → Int32 → xH → Option xH
  | 0 => fun _ _ _ _ _ => none
  | n + 1 => F_X12_makes_J77 N (F_X12_makes_L77 N k112 n) k112
theorem P_X12_makes_L77 {N : Nat} {Z : xZ} {Hf : xH} (hZ : Z = xZm cX12_makes yX12_makes 4 5 none none Hf) {k112 : (Option Nat) → Int32 → xH → Option xH} (hk112 : ∀ (x0 : (Option Nat)) (x1 : Int32) (H : xH), k112 x0 x1 H = some Hf → xWq Z H 112 [xA x0, xI x1, xN, xN] []) : ∀ (n : Nat) (x0 : (Option Nat)) (x1 : Int32) (x2 : Int32) (x3 : Int32) (H : xH), F_X12_makes_L77 N k112 n x0 x1 x2 x3 H = some Hf → xWq Z H 77 [xA x0, xI x1, xI x2, xI x3] [] := by
  intro n
  induction n with
  | zero => intro _ _ _ _ _ h; cases h
  | succ n ih => exact P_X12_makes_J77 hZ ih hk112
noncomputable def F_X12_makes_J112 (N : Nat) (k34 : (Option Nat) → Int32 → xH → Option xH) (x0 : (Option Nat)) (x1 : Int32) (H : xH) : Option xH :=
  k34 x0 (x1 + 1) H
set_option maxRecDepth 20000 in
set_option maxHeartbeats 4000000 in
theorem P_X12_makes_J112 {N : Nat} {Z : xZ} {Hf : xH} (hZ : Z = xZm cX12_makes yX12_makes 4 5 none none Hf) {k34 : (Option Nat) → Int32 → xH → Option xH} (hk34 : ∀ (x0 : (Option Nat)) (x1 : Int32) (H : xH), k34 x0 x1 H = some Hf → xWq Z H 34 [xA x0, xI x1, xN, xN] []) : ∀ (x0 : (Option Nat)) (x1 : Int32) (H : xH), F_X12_makes_J112 N k34 x0 x1 H = some Hf → xWq Z H 112 [xA x0, xI x1, xN, xN] [] := by
  have hz : Z.1 = (cX12_makes, yX12_makes, 4) := by rw [hZ]; rfl
  have hδ : Z.2.1 = 5 := by rw [hZ]; rfl
  intro x0 x1 H h
  unfold F_X12_makes_J112 at h
  refine x_iinc (w := (x1 + 1)) (pl' := [xA x0, xI (x1 + 1), xN, xN]) hz dX12_makes_112 rfl rfl (by decide) rfl ?_
  refine x_goto (t := 34) hz dX12_makes_115 (by decide) ?_
  exact x_wk (xwk_c (xwk_c (xwk_n (xwk_n xwk_0)))) (hk34 x0 (x1 + 1) H h)
noncomputable def F_X12_makes_J73 (N : Nat) (k34 : (Option Nat) → Int32 → xH → Option xH) (x0 : (Option Nat)) (x1 : Int32) (x2 : Int32) (s0 : (Option Nat)) (s1 : Int32) (s2 : Int32) (H : xH) : Option xH :=
  (xsI .byte H s0 s1 ((s2).toInt8.toInt32)).bind fun H1 =>
  (F_X12_makes_L77 N (F_X12_makes_J112 N k34) N) x0 x1 x2 (0 : Int32) H1
set_option maxRecDepth 20000 in
set_option maxHeartbeats 4000000 in
theorem P_X12_makes_J73 {N : Nat} {Z : xZ} {Hf : xH} (hZ : Z = xZm cX12_makes yX12_makes 4 5 none none Hf) {k34 : (Option Nat) → Int32 → xH → Option xH} (hk34 : ∀ (x0 : (Option Nat)) (x1 : Int32) (H : xH), k34 x0 x1 H = some Hf → xWq Z H 34 [xA x0, xI x1, xN, xN] []) : ∀ (x0 : (Option Nat)) (x1 : Int32) (x2 : Int32) (s0 : (Option Nat)) (s1 : Int32) (s2 : Int32) (H : xH), F_X12_makes_J73 N k34 x0 x1 x2 s0 s1 s2 H = some Hf → xWq Z H 73 [xA x0, xI x1, xI x2, xN] [.int s2, .int s1, va_rf s0] := by
  have hz : Z.1 = (cX12_makes, yX12_makes, 4) := by rw [hZ]; rfl
  have hδ : Z.2.1 = 5 := by rw [hZ]; rfl
  intro x0 x1 x2 s0 s1 s2 H h
  unfold F_X12_makes_J73 at h
  refine x_i2b hz dX12_makes_73 ?_
  obtain ⟨H1, e_H1, h⟩ := x_bnd h
  refine x_bast hz dX12_makes_74 e_H1 ?_
  refine x_iconst (v := (0 : Int32)) hz dX12_makes_75 (by decide) ?_
  refine x_istore_n (pl' := [xA x0, xI x1, xI x2, xI (0 : Int32)]) hz dX12_makes_76 (by decide) rfl ?_
  exact x_wk (xwk_c (xwk_c (xwk_c (xwk_c xwk_0)))) ((P_X12_makes_L77 hZ (P_X12_makes_J112 hZ hk34) N) x0 x1 x2 (0 : Int32) H1 h)
noncomputable def F_X12_makes_J34 (N : Nat) (k34 : (Option Nat) → Int32 → xH → Option xH) (x0 : (Option Nat)) (x1 : Int32) (H : xH) : Option xH :=
  (xgI H x0 11 41).bind fun v1 =>
  if v1 ≤ x1 then (some H) else ((xob H x0 11).bind fun b4 =>
  x_bd2 (F_X12_lays N x0 x1 H) fun v5 H3 =>
  (xgA H3 x0 11 43).bind fun v6 =>
  if v5 = 0 then ((F_X12_makes_J73 N k34) x0 x1 v5 v6 x1 (0 : Int32) H3) else ((xob H3 x0 11).bind fun b9 =>
  x_bd2 (F_X12_isPossibleNow N x0 H3) fun v10 H8 =>
  if v10 = 0 then ((F_X12_makes_J73 N k34) x0 x1 v5 v6 x1 (1 : Int32) H8) else ((F_X12_makes_J73 N k34) x0 x1 v5 v6 x1 (2 : Int32) H8)))
set_option maxRecDepth 20000 in
set_option maxHeartbeats 4000000 in
theorem P_X12_makes_J34 {N : Nat} {Z : xZ} {Hf : xH} (hZ : Z = xZm cX12_makes yX12_makes 4 5 none none Hf) {k34 : (Option Nat) → Int32 → xH → Option xH} (hk34 : ∀ (x0 : (Option Nat)) (x1 : Int32) (H : xH), k34 x0 x1 H = some Hf → xWq Z H 34 [xA x0, xI x1, xN, xN] []) : ∀ (x0 : (Option Nat)) (x1 : Int32) (H : xH), F_X12_makes_J34 N k34 x0 x1 H = some Hf → xWq Z H 34 [xA x0, xI x1, xN, xN] [] := by
  have hz : Z.1 = (cX12_makes, yX12_makes, 4) := by rw [hZ]; rfl
  have hδ : Z.2.1 = 5 := by rw [hZ]; rfl
  intro x0 x1 H h
  unfold F_X12_makes_J34 at h
  refine x_iload_n hz dX12_makes_34 rfl ?_
  refine x_aload_n hz dX12_makes_35 rfl ?_
  obtain ⟨v1, e_v1, h⟩ := x_bnd h
  refine x_getI hz dX12_makes_36 fs_X12_329 e_v1 ?_
  refine x_icmp_ge (t := 118) hz dX12_makes_39 (by decide) (fun c2 => ?_) (fun c2 => ?_)
  · replace h := x_ip c2 h
    cases h
    exact x_vret hZ dX12_makes_118
  · replace h := x_in c2 h
    refine x_aload_n hz dX12_makes_42 rfl ?_
    refine x_iload_n hz dX12_makes_43 rfl ?_
    obtain ⟨b4, e_b4, h⟩ := x_bnd h
    obtain ⟨v5, H3, e_H3, h⟩ := x_b2 h
    refine x_callVi (as := [.inl x1]) (st := []) cs_X12_332 (ci := 11) ⟨rfl, rfl⟩ rfl rfl hz (by omega) (by decide) dX12_makes_44 e_b4 (M_X12_lays e_H3) ?_
    refine x_istore_n (pl' := [xA x0, xI x1, xI v5, xN]) hz dX12_makes_47 (by decide) rfl ?_
    refine x_aload_n hz dX12_makes_48 rfl ?_
    obtain ⟨v6, e_v6, h⟩ := x_bnd h
    refine x_getA hz dX12_makes_49 fs_X12_83 e_v6 ?_
    refine x_iload_n hz dX12_makes_52 rfl ?_
    refine x_iload_n hz dX12_makes_53 rfl ?_
    refine x_if_ne (t := 61) hz dX12_makes_54 (by decide) (fun c7 => ?_) (fun c7 => ?_)
    · replace h := x_in c7 h
      refine x_aload_n hz dX12_makes_61 rfl ?_
      obtain ⟨b9, e_b9, h⟩ := x_bnd h
      obtain ⟨v10, H8, e_H8, h⟩ := x_b2 h
      refine x_callVi (as := []) (st := [.int x1, va_rf v6]) cs_X12_335 (ci := 11) ⟨rfl, rfl⟩ rfl rfl hz (by omega) (Nat.le_trans (x_sm1 rfl (x_sm1 (x_rfc _) x_sm0)) (by decide)) dX12_makes_62 e_b9 (M_X12_isPossibleNow e_H8) ?_
      refine x_if_eq (t := 72) hz dX12_makes_65 (by decide) (fun c11 => ?_) (fun c11 => ?_)
      · replace h := x_ip c11 h
        refine x_iconst (v := (1 : Int32)) hz dX12_makes_72 (by decide) ?_
        exact x_wk (xwk_c (xwk_c (xwk_c (xwk_n xwk_0)))) ((P_X12_makes_J73 hZ hk34) x0 x1 v5 v6 x1 (1 : Int32) H8 h)
      · replace h := x_in c11 h
        refine x_iconst (v := (2 : Int32)) hz dX12_makes_68 (by decide) ?_
        refine x_goto (t := 73) hz dX12_makes_69 (by decide) ?_
        exact x_wk (xwk_c (xwk_c (xwk_c (xwk_n xwk_0)))) ((P_X12_makes_J73 hZ hk34) x0 x1 v5 v6 x1 (2 : Int32) H8 h)
    · replace h := x_ip c7 h
      refine x_iconst (v := (0 : Int32)) hz dX12_makes_57 (by decide) ?_
      refine x_goto (t := 73) hz dX12_makes_58 (by decide) ?_
      exact x_wk (xwk_c (xwk_c (xwk_c (xwk_n xwk_0)))) ((P_X12_makes_J73 hZ hk34) x0 x1 v5 v6 x1 (0 : Int32) H3 h)
noncomputable def F_X12_makes_L34 (N : Nat) : Nat → (Option Nat) → Int32 → xH → Option xH
  | 0 => fun _ _ _ => none
  | n + 1 => F_X12_makes_J34 N (F_X12_makes_L34 N n)
theorem P_X12_makes_L34 {N : Nat} {Z : xZ} {Hf : xH} (hZ : Z = xZm cX12_makes yX12_makes 4 5 none none Hf) : ∀ (n : Nat) (x0 : (Option Nat)) (x1 : Int32) (H : xH), F_X12_makes_L34 N n x0 x1 H = some Hf → xWq Z H 34 [xA x0, xI x1, xN, xN] [] := by
  intro n
  induction n with
  | zero => intro _ _ _ h; cases h
  | succ n ih => exact P_X12_makes_J34 hZ ih
noncomputable def F_X12_makes_J32 (N : Nat) (x0 : (Option Nat)) (H : xH) : Option xH :=
  (F_X12_makes_L34 N N) x0 (0 : Int32) H
set_option maxRecDepth 20000 in
set_option maxHeartbeats 4000000 in
theorem P_X12_makes_J32 {N : Nat} {Z : xZ} {Hf : xH} (hZ : Z = xZm cX12_makes yX12_makes 4 5 none none Hf) : ∀ (x0 : (Option Nat)) (H : xH), F_X12_makes_J32 N x0 H = some Hf → xWq Z H 32 [xA x0, xN, xN, xN] [] := by
  have hz : Z.1 = (cX12_makes, yX12_makes, 4) := by rw [hZ]; rfl
  have hδ : Z.2.1 = 5 := by rw [hZ]; rfl
  intro x0 H h
  unfold F_X12_makes_J32 at h
  refine x_iconst (v := (0 : Int32)) hz dX12_makes_32 (by decide) ?_
  refine x_istore_n (pl' := [xA x0, xI (0 : Int32), xN, xN]) hz dX12_makes_33 (by decide) rfl ?_
  exact x_wk (xwk_c (xwk_c (xwk_n (xwk_n xwk_0)))) ((P_X12_makes_L34 hZ N) x0 (0 : Int32) H h)
noncomputable def F_X12_makes (N : Nat) (a0 : (Option Nat)) (H : xH) : Option xH :=
  (xpI H a0 11 41 (1 : Int32)).bind fun H1 =>
  (F_X12_makes_L7 N (F_X12_makes_J32 N) N) a0 (0 : Int32) H1
set_option maxRecDepth 20000 in
set_option maxHeartbeats 4000000 in
theorem P_X12_makes {N : Nat} {Z : xZ} {Hf : xH} (hZ : Z = xZm cX12_makes yX12_makes 4 5 none none Hf) : ∀ (a0 : (Option Nat)) (H : xH), F_X12_makes N a0 H = some Hf → xWq Z H 0 [xA a0, xN, xN, xN] [] := by
  have hz : Z.1 = (cX12_makes, yX12_makes, 4) := by rw [hZ]; rfl
  have hδ : Z.2.1 = 5 := by rw [hZ]; rfl
  intro a0 H h
  unfold F_X12_makes at h
  refine x_aload_n hz dX12_makes_0 rfl ?_
  refine x_iconst (v := (1 : Int32)) hz dX12_makes_1 (by decide) ?_
  obtain ⟨H1, e_H1, h⟩ := x_bnd h
  refine x_putV (v := .int (1 : Int32)) hz dX12_makes_2 fs_X12_329 rfl rfl e_H1 ?_
  refine x_iconst (v := (0 : Int32)) hz dX12_makes_5 (by decide) ?_
  refine x_istore_n (pl' := [xA a0, xI (0 : Int32), xN, xN]) hz dX12_makes_6 (by decide) rfl ?_
  exact x_wk (xwk_c (xwk_c (xwk_n (xwk_n xwk_0)))) ((P_X12_makes_L7 hZ (P_X12_makes_J32 hZ) N) a0 (0 : Int32) H1 h)
theorem M_X12_makes {N : Nat} {a0 : (Option Nat)} {H H1 : xH} (h : F_X12_makes N a0 H = some H1) : xM yX12_makes cX12_makes 4 none 5 [.inr (.inr a0)] H none H1 :=
  xM_of (by decide +kernel) (xT_tb 991 (by decide +kernel) (by decide +kernel)) (by simp [xargs, x2]) rfl (P_X12_makes rfl a0 H h)
/-! BettingBookModel.init()V -/
noncomputable def F_X12_init (N : Nat) (a0 : (Option Nat)) (H : xH) : Option xH :=
  (a0).bind fun b1 =>
  (xnI .int H (10 : Int32)).bind fun H2 =>
  (xpA H2 a0 11 6 (some H.2.1)).bind fun H3 =>
  (xnI .int H3 (10 : Int32)).bind fun H4 =>
  (xpA H4 a0 11 7 (some H3.2.1)).bind fun H5 =>
  (xnI .int H5 (24 : Int32)).bind fun H6 =>
  (xpA H6 a0 11 8 (some H5.2.1)).bind fun H7 =>
  (xnI .int H7 (24 : Int32)).bind fun H8 =>
  (xpA H8 a0 11 9 (some H7.2.1)).bind fun H9 =>
  (xnI .int H9 (24 : Int32)).bind fun H10 =>
  (xpA H10 a0 11 10 (some H9.2.1)).bind fun H11 =>
  (xnI .int H11 (24 : Int32)).bind fun H12 =>
  (xpA H12 a0 11 11 (some H11.2.1)).bind fun H13 =>
  (xnI .int H13 (80 : Int32)).bind fun H14 =>
  (xpA H14 a0 11 12 (some H13.2.1)).bind fun H15 =>
  (xnI .int H15 (80 : Int32)).bind fun H16 =>
  (xpA H16 a0 11 13 (some H15.2.1)).bind fun H17 =>
  (xnI .int H17 (80 : Int32)).bind fun H18 =>
  (xpA H18 a0 11 14 (some H17.2.1)).bind fun H19 =>
  (xnI .int H19 (80 : Int32)).bind fun H20 =>
  (xpA H20 a0 11 15 (some H19.2.1)).bind fun H21 =>
  (xnI .int H21 (24 : Int32)).bind fun H22 =>
  (xpA H22 a0 11 16 (some H21.2.1)).bind fun H23 =>
  (xnI .int H23 (24 : Int32)).bind fun H24 =>
  (xpA H24 a0 11 17 (some H23.2.1)).bind fun H25 =>
  (xnI .int H25 (24 : Int32)).bind fun H26 =>
  (xpA H26 a0 11 18 (some H25.2.1)).bind fun H27 =>
  (xnI .int H27 (24 : Int32)).bind fun H28 =>
  (xpA H28 a0 11 19 (some H27.2.1)).bind fun H29 =>
  (xnI .int H29 (1400 : Int32)).bind fun H30 =>
  (xpA H30 a0 11 20 (some H29.2.1)).bind fun H31 =>
  (xnI .int H31 (1400 : Int32)).bind fun H32 =>
  (xpA H32 a0 11 21 (some H31.2.1)).bind fun H33 =>
  (xnI .int H33 (1400 : Int32)).bind fun H34 =>
  (xpA H34 a0 11 22 (some H33.2.1)).bind fun H35 =>
  (xnJ H35 (5 : Int32)).bind fun H36 =>
  (xpA H36 a0 11 29 (some H35.2.1)).bind fun H37 =>
  (xnJ H37 (6 : Int32)).bind fun H38 =>
  (xpA H38 a0 11 30 (some H37.2.1)).bind fun H39 =>
  (xpI H39 a0 11 35 (-1 : Int32)).bind fun H40 =>
  (xnI .byte H40 (1200 : Int32)).bind fun H41 =>
  (xpA H41 a0 11 36 (some H40.2.1)).bind fun H42 =>
  (xnI .byte H42 (1200 : Int32)).bind fun H43 =>
  (xpA H43 a0 11 37 (some H42.2.1)).bind fun H44 =>
  (xnI .int H44 (5 : Int32)).bind fun H45 =>
  (xpA H45 a0 11 42 (some H44.2.1)).bind fun H46 =>
  (xnI .byte H46 (59049 : Int32)).bind fun H47 =>
  (xpA H47 a0 11 43 (some H46.2.1)).bind fun H48 =>
  (xnI .byte H48 (708588 : Int32)).bind fun H49 =>
  (xpA H49 a0 11 44 (some H48.2.1)).bind fun H50 =>
  (xnI .boolean H50 (64 : Int32)).bind fun H51 =>
  (xpA H51 a0 11 45 (some H50.2.1)).bind fun H52 =>
  (xnI .int H52 (5 : Int32)).bind fun H53 =>
  (xpA H53 a0 11 48 (some H52.2.1)).bind fun H54 =>
  (xnI .int H54 (59049 : Int32)).bind fun H55 =>
  (xpA H55 a0 11 50 (some H54.2.1)).bind fun H56 =>
  (xnI .int H56 (24 : Int32)).bind fun H57 =>
  (xpA H57 a0 11 52 (some H56.2.1)).bind fun H58 =>
  (xnI .int H58 (6 : Int32)).bind fun H59 =>
  (xpA H59 a0 11 53 (some H58.2.1)).bind fun H60 =>
  (xnI .int H60 (6 : Int32)).bind fun H61 =>
  (xpA H61 a0 11 54 (some H60.2.1)).bind fun H62 =>
  (xnI .int H62 (64 : Int32)).bind fun H63 =>
  (xpA H63 a0 11 55 (some H62.2.1)).bind fun H64 =>
  (xnI .boolean H64 (15625 : Int32)).bind fun H65 =>
  (xpA H65 a0 11 56 (some H64.2.1)).bind fun H66 =>
  (xnI .int H66 (6 : Int32)).bind fun H67 =>
  (xpA H67 a0 11 57 (some H66.2.1)).bind fun H68 =>
  (xnI .int H68 (45 : Int32)).bind fun H69 =>
  (xpA H69 a0 11 61 (some H68.2.1)).bind fun H70 =>
  (xnI .int H70 (160 : Int32)).bind fun H71 =>
  (xpA H71 a0 11 63 (some H70.2.1)).bind fun H72 =>
  (xob H72 a0 11).bind fun b74 =>
  (F_X12_makes N a0 H72).bind fun H73 =>
  some H73
set_option maxRecDepth 20000 in
set_option maxHeartbeats 4000000 in
theorem P_X12_init {N : Nat} {Z : xZ} {Hf : xH} (hZ : Z = xZm cX12_init yX12_init 1 6 none none Hf) : ∀ (a0 : (Option Nat)) (H : xH), F_X12_init N a0 H = some Hf → xWq Z H 0 [xA a0] [] := by
  have hz : Z.1 = (cX12_init, yX12_init, 1) := by rw [hZ]; rfl
  have hδ : Z.2.1 = 6 := by rw [hZ]; rfl
  intro a0 H h
  unfold F_X12_init at h
  refine x_aload_n hz dX12_init_0 rfl ?_
  obtain ⟨b1, e_b1, h⟩ := x_bnd h
  refine x_objInit e_b1 hz (by omega) (by decide) ol_X12_1 oi_1 oi_2 dX12_init_1 ?_
  refine x_aload_n hz dX12_init_4 rfl ?_
  refine x_bipush (v := (10 : Int32)) hz dX12_init_5 (by decide) ?_
  obtain ⟨H2, e_H2, h⟩ := x_bnd h
  refine x_newI aw_int hz dX12_init_7 e_H2 ?_
  obtain ⟨H3, e_H3, h⟩ := x_bnd h
  refine x_putF (v := va_rf (some H.2.1)) hz rfl dX12_init_9 fs_X12_7F (x_nra _ _) (x_fta _ _) e_H3 ?_
  refine x_aload_n hz dX12_init_12 rfl ?_
  refine x_bipush (v := (10 : Int32)) hz dX12_init_13 (by decide) ?_
  obtain ⟨H4, e_H4, h⟩ := x_bnd h
  refine x_newI aw_int hz dX12_init_15 e_H4 ?_
  obtain ⟨H5, e_H5, h⟩ := x_bnd h
  refine x_putF (v := va_rf (some H3.2.1)) hz rfl dX12_init_17 fs_X12_13F (x_nra _ _) (x_fta _ _) e_H5 ?_
  refine x_aload_n hz dX12_init_20 rfl ?_
  refine x_bipush (v := (24 : Int32)) hz dX12_init_21 (by decide) ?_
  obtain ⟨H6, e_H6, h⟩ := x_bnd h
  refine x_newI aw_int hz dX12_init_23 e_H6 ?_
  obtain ⟨H7, e_H7, h⟩ := x_bnd h
  refine x_putF (v := va_rf (some H5.2.1)) hz rfl dX12_init_25 fs_X12_16F (x_nra _ _) (x_fta _ _) e_H7 ?_
  refine x_aload_n hz dX12_init_28 rfl ?_
  refine x_bipush (v := (24 : Int32)) hz dX12_init_29 (by decide) ?_
  obtain ⟨H8, e_H8, h⟩ := x_bnd h
  refine x_newI aw_int hz dX12_init_31 e_H8 ?_
  obtain ⟨H9, e_H9, h⟩ := x_bnd h
  refine x_putF (v := va_rf (some H7.2.1)) hz rfl dX12_init_33 fs_X12_19F (x_nra _ _) (x_fta _ _) e_H9 ?_
  refine x_aload_n hz dX12_init_36 rfl ?_
  refine x_bipush (v := (24 : Int32)) hz dX12_init_37 (by decide) ?_
  obtain ⟨H10, e_H10, h⟩ := x_bnd h
  refine x_newI aw_int hz dX12_init_39 e_H10 ?_
  obtain ⟨H11, e_H11, h⟩ := x_bnd h
  refine x_putF (v := va_rf (some H9.2.1)) hz rfl dX12_init_41 fs_X12_22F (x_nra _ _) (x_fta _ _) e_H11 ?_
  refine x_aload_n hz dX12_init_44 rfl ?_
  refine x_bipush (v := (24 : Int32)) hz dX12_init_45 (by decide) ?_
  obtain ⟨H12, e_H12, h⟩ := x_bnd h
  refine x_newI aw_int hz dX12_init_47 e_H12 ?_
  obtain ⟨H13, e_H13, h⟩ := x_bnd h
  refine x_putF (v := va_rf (some H11.2.1)) hz rfl dX12_init_49 fs_X12_25F (x_nra _ _) (x_fta _ _) e_H13 ?_
  refine x_aload_n hz dX12_init_52 rfl ?_
  refine x_bipush (v := (80 : Int32)) hz dX12_init_53 (by decide) ?_
  obtain ⟨H14, e_H14, h⟩ := x_bnd h
  refine x_newI aw_int hz dX12_init_55 e_H14 ?_
  obtain ⟨H15, e_H15, h⟩ := x_bnd h
  refine x_putF (v := va_rf (some H13.2.1)) hz rfl dX12_init_57 fs_X12_28F (x_nra _ _) (x_fta _ _) e_H15 ?_
  refine x_aload_n hz dX12_init_60 rfl ?_
  refine x_bipush (v := (80 : Int32)) hz dX12_init_61 (by decide) ?_
  obtain ⟨H16, e_H16, h⟩ := x_bnd h
  refine x_newI aw_int hz dX12_init_63 e_H16 ?_
  obtain ⟨H17, e_H17, h⟩ := x_bnd h
  refine x_putF (v := va_rf (some H15.2.1)) hz rfl dX12_init_65 fs_X12_31F (x_nra _ _) (x_fta _ _) e_H17 ?_
  refine x_aload_n hz dX12_init_68 rfl ?_
  refine x_bipush (v := (80 : Int32)) hz dX12_init_69 (by decide) ?_
  obtain ⟨H18, e_H18, h⟩ := x_bnd h
  refine x_newI aw_int hz dX12_init_71 e_H18 ?_
  obtain ⟨H19, e_H19, h⟩ := x_bnd h
  refine x_putF (v := va_rf (some H17.2.1)) hz rfl dX12_init_73 fs_X12_34F (x_nra _ _) (x_fta _ _) e_H19 ?_
  refine x_aload_n hz dX12_init_76 rfl ?_
  refine x_bipush (v := (80 : Int32)) hz dX12_init_77 (by decide) ?_
  obtain ⟨H20, e_H20, h⟩ := x_bnd h
  refine x_newI aw_int hz dX12_init_79 e_H20 ?_
  obtain ⟨H21, e_H21, h⟩ := x_bnd h
  refine x_putF (v := va_rf (some H19.2.1)) hz rfl dX12_init_81 fs_X12_37F (x_nra _ _) (x_fta _ _) e_H21 ?_
  refine x_aload_n hz dX12_init_84 rfl ?_
  refine x_bipush (v := (24 : Int32)) hz dX12_init_85 (by decide) ?_
  obtain ⟨H22, e_H22, h⟩ := x_bnd h
  refine x_newI aw_int hz dX12_init_87 e_H22 ?_
  obtain ⟨H23, e_H23, h⟩ := x_bnd h
  refine x_putF (v := va_rf (some H21.2.1)) hz rfl dX12_init_89 fs_X12_40F (x_nra _ _) (x_fta _ _) e_H23 ?_
  refine x_aload_n hz dX12_init_92 rfl ?_
  refine x_bipush (v := (24 : Int32)) hz dX12_init_93 (by decide) ?_
  obtain ⟨H24, e_H24, h⟩ := x_bnd h
  refine x_newI aw_int hz dX12_init_95 e_H24 ?_
  obtain ⟨H25, e_H25, h⟩ := x_bnd h
  refine x_putF (v := va_rf (some H23.2.1)) hz rfl dX12_init_97 fs_X12_43F (x_nra _ _) (x_fta _ _) e_H25 ?_
  refine x_aload_n hz dX12_init_100 rfl ?_
  refine x_bipush (v := (24 : Int32)) hz dX12_init_101 (by decide) ?_
  obtain ⟨H26, e_H26, h⟩ := x_bnd h
  refine x_newI aw_int hz dX12_init_103 e_H26 ?_
  obtain ⟨H27, e_H27, h⟩ := x_bnd h
  refine x_putF (v := va_rf (some H25.2.1)) hz rfl dX12_init_105 fs_X12_46F (x_nra _ _) (x_fta _ _) e_H27 ?_
  refine x_aload_n hz dX12_init_108 rfl ?_
  refine x_bipush (v := (24 : Int32)) hz dX12_init_109 (by decide) ?_
  obtain ⟨H28, e_H28, h⟩ := x_bnd h
  refine x_newI aw_int hz dX12_init_111 e_H28 ?_
  obtain ⟨H29, e_H29, h⟩ := x_bnd h
  refine x_putF (v := va_rf (some H27.2.1)) hz rfl dX12_init_113 fs_X12_49F (x_nra _ _) (x_fta _ _) e_H29 ?_
  refine x_aload_n hz dX12_init_116 rfl ?_
  refine x_sipush (v := (1400 : Int32)) hz dX12_init_117 (by decide) ?_
  obtain ⟨H30, e_H30, h⟩ := x_bnd h
  refine x_newI aw_int hz dX12_init_120 e_H30 ?_
  obtain ⟨H31, e_H31, h⟩ := x_bnd h
  refine x_putF (v := va_rf (some H29.2.1)) hz rfl dX12_init_122 fs_X12_52F (x_nra _ _) (x_fta _ _) e_H31 ?_
  refine x_aload_n hz dX12_init_125 rfl ?_
  refine x_sipush (v := (1400 : Int32)) hz dX12_init_126 (by decide) ?_
  obtain ⟨H32, e_H32, h⟩ := x_bnd h
  refine x_newI aw_int hz dX12_init_129 e_H32 ?_
  obtain ⟨H33, e_H33, h⟩ := x_bnd h
  refine x_putF (v := va_rf (some H31.2.1)) hz rfl dX12_init_131 fs_X12_55F (x_nra _ _) (x_fta _ _) e_H33 ?_
  refine x_aload_n hz dX12_init_134 rfl ?_
  refine x_sipush (v := (1400 : Int32)) hz dX12_init_135 (by decide) ?_
  obtain ⟨H34, e_H34, h⟩ := x_bnd h
  refine x_newI aw_int hz dX12_init_138 e_H34 ?_
  obtain ⟨H35, e_H35, h⟩ := x_bnd h
  refine x_putF (v := va_rf (some H33.2.1)) hz rfl dX12_init_140 fs_X12_58F (x_nra _ _) (x_fta _ _) e_H35 ?_
  refine x_aload_n hz dX12_init_143 rfl ?_
  refine x_iconst (v := (5 : Int32)) hz dX12_init_144 (by decide) ?_
  obtain ⟨H36, e_H36, h⟩ := x_bnd h
  refine x_newJ aw_long hz dX12_init_145 e_H36 ?_
  obtain ⟨H37, e_H37, h⟩ := x_bnd h
  refine x_putF (v := va_rf (some H35.2.1)) hz rfl dX12_init_147 fs_X12_61F (x_nra _ _) (x_fta _ _) e_H37 ?_
  refine x_aload_n hz dX12_init_150 rfl ?_
  refine x_bipush (v := (6 : Int32)) hz dX12_init_151 (by decide) ?_
  obtain ⟨H38, e_H38, h⟩ := x_bnd h
  refine x_newJ aw_long hz dX12_init_153 e_H38 ?_
  obtain ⟨H39, e_H39, h⟩ := x_bnd h
  refine x_putF (v := va_rf (some H37.2.1)) hz rfl dX12_init_155 fs_X12_65F (x_nra _ _) (x_fta _ _) e_H39 ?_
  refine x_aload_n hz dX12_init_158 rfl ?_
  refine x_iconst (v := (-1 : Int32)) hz dX12_init_159 (by decide) ?_
  obtain ⟨H40, e_H40, h⟩ := x_bnd h
  refine x_putV (v := .int (-1 : Int32)) hz dX12_init_160 fs_X12_68 rfl rfl e_H40 ?_
  refine x_aload_n hz dX12_init_163 rfl ?_
  refine x_sipush (v := (1200 : Int32)) hz dX12_init_164 (by decide) ?_
  obtain ⟨H41, e_H41, h⟩ := x_bnd h
  refine x_newB aw_byte hz dX12_init_167 e_H41 ?_
  obtain ⟨H42, e_H42, h⟩ := x_bnd h
  refine x_putF (v := va_rf (some H40.2.1)) hz rfl dX12_init_169 fs_X12_72F (x_nra _ _) (x_fta _ _) e_H42 ?_
  refine x_aload_n hz dX12_init_172 rfl ?_
  refine x_sipush (v := (1200 : Int32)) hz dX12_init_173 (by decide) ?_
  obtain ⟨H43, e_H43, h⟩ := x_bnd h
  refine x_newB aw_byte hz dX12_init_176 e_H43 ?_
  obtain ⟨H44, e_H44, h⟩ := x_bnd h
  refine x_putF (v := va_rf (some H42.2.1)) hz rfl dX12_init_178 fs_X12_76F (x_nra _ _) (x_fta _ _) e_H44 ?_
  refine x_aload_n hz dX12_init_181 rfl ?_
  refine x_iconst (v := (5 : Int32)) hz dX12_init_182 (by decide) ?_
  obtain ⟨H45, e_H45, h⟩ := x_bnd h
  refine x_newI aw_int hz dX12_init_183 e_H45 ?_
  obtain ⟨H46, e_H46, h⟩ := x_bnd h
  refine x_putF (v := va_rf (some H44.2.1)) hz rfl dX12_init_185 fs_X12_79F (x_nra _ _) (x_fta _ _) e_H46 ?_
  refine x_aload_n hz dX12_init_188 rfl ?_
  refine x_ldc (v := (59049 : Int32)) hz dX12_init_189 wc_X12_82 ?_
  obtain ⟨H47, e_H47, h⟩ := x_bnd h
  refine x_newB aw_byte hz dX12_init_191 e_H47 ?_
  obtain ⟨H48, e_H48, h⟩ := x_bnd h
  refine x_putF (v := va_rf (some H46.2.1)) hz rfl dX12_init_193 fs_X12_83F (x_nra _ _) (x_fta _ _) e_H48 ?_
  refine x_aload_n hz dX12_init_196 rfl ?_
  refine x_ldc (v := (708588 : Int32)) hz dX12_init_197 wc_X12_86 ?_
  obtain ⟨H49, e_H49, h⟩ := x_bnd h
  refine x_newB aw_byte hz dX12_init_199 e_H49 ?_
  obtain ⟨H50, e_H50, h⟩ := x_bnd h
  refine x_putF (v := va_rf (some H48.2.1)) hz rfl dX12_init_201 fs_X12_87F (x_nra _ _) (x_fta _ _) e_H50 ?_
  refine x_aload_n hz dX12_init_204 rfl ?_
  refine x_bipush (v := (64 : Int32)) hz dX12_init_205 (by decide) ?_
  obtain ⟨H51, e_H51, h⟩ := x_bnd h
  refine x_newZ aw_boolean hz dX12_init_207 e_H51 ?_
  obtain ⟨H52, e_H52, h⟩ := x_bnd h
  refine x_putF (v := va_rf (some H50.2.1)) hz rfl dX12_init_209 fs_X12_90F (x_nra _ _) (x_fta _ _) e_H52 ?_
  refine x_aload_n hz dX12_init_212 rfl ?_
  refine x_iconst (v := (5 : Int32)) hz dX12_init_213 (by decide) ?_
  obtain ⟨H53, e_H53, h⟩ := x_bnd h
  refine x_newI aw_int hz dX12_init_214 e_H53 ?_
  obtain ⟨H54, e_H54, h⟩ := x_bnd h
  refine x_putF (v := va_rf (some H52.2.1)) hz rfl dX12_init_216 fs_X12_94F (x_nra _ _) (x_fta _ _) e_H54 ?_
  refine x_aload_n hz dX12_init_219 rfl ?_
  refine x_ldc (v := (59049 : Int32)) hz dX12_init_220 wc_X12_82 ?_
  obtain ⟨H55, e_H55, h⟩ := x_bnd h
  refine x_newI aw_int hz dX12_init_222 e_H55 ?_
  obtain ⟨H56, e_H56, h⟩ := x_bnd h
  refine x_putF (v := va_rf (some H54.2.1)) hz rfl dX12_init_224 fs_X12_97F (x_nra _ _) (x_fta _ _) e_H56 ?_
  refine x_aload_n hz dX12_init_227 rfl ?_
  refine x_bipush (v := (24 : Int32)) hz dX12_init_228 (by decide) ?_
  obtain ⟨H57, e_H57, h⟩ := x_bnd h
  refine x_newI aw_int hz dX12_init_230 e_H57 ?_
  obtain ⟨H58, e_H58, h⟩ := x_bnd h
  refine x_putF (v := va_rf (some H56.2.1)) hz rfl dX12_init_232 fs_X12_100F (x_nra _ _) (x_fta _ _) e_H58 ?_
  refine x_aload_n hz dX12_init_235 rfl ?_
  refine x_bipush (v := (6 : Int32)) hz dX12_init_236 (by decide) ?_
  obtain ⟨H59, e_H59, h⟩ := x_bnd h
  refine x_newI aw_int hz dX12_init_238 e_H59 ?_
  obtain ⟨H60, e_H60, h⟩ := x_bnd h
  refine x_putF (v := va_rf (some H58.2.1)) hz rfl dX12_init_240 fs_X12_103F (x_nra _ _) (x_fta _ _) e_H60 ?_
  refine x_aload_n hz dX12_init_243 rfl ?_
  refine x_bipush (v := (6 : Int32)) hz dX12_init_244 (by decide) ?_
  obtain ⟨H61, e_H61, h⟩ := x_bnd h
  refine x_newI aw_int hz dX12_init_246 e_H61 ?_
  obtain ⟨H62, e_H62, h⟩ := x_bnd h
  refine x_putF (v := va_rf (some H60.2.1)) hz rfl dX12_init_248 fs_X12_106F (x_nra _ _) (x_fta _ _) e_H62 ?_
  refine x_aload_n hz dX12_init_251 rfl ?_
  refine x_bipush (v := (64 : Int32)) hz dX12_init_252 (by decide) ?_
  obtain ⟨H63, e_H63, h⟩ := x_bnd h
  refine x_newI aw_int hz dX12_init_254 e_H63 ?_
  obtain ⟨H64, e_H64, h⟩ := x_bnd h
  refine x_putF (v := va_rf (some H62.2.1)) hz rfl dX12_init_256 fs_X12_109F (x_nra _ _) (x_fta _ _) e_H64 ?_
  refine x_aload_n hz dX12_init_259 rfl ?_
  refine x_sipush (v := (15625 : Int32)) hz dX12_init_260 (by decide) ?_
  obtain ⟨H65, e_H65, h⟩ := x_bnd h
  refine x_newZ aw_boolean hz dX12_init_263 e_H65 ?_
  obtain ⟨H66, e_H66, h⟩ := x_bnd h
  refine x_putF (v := va_rf (some H64.2.1)) hz rfl dX12_init_265 fs_X12_112F (x_nra _ _) (x_fta _ _) e_H66 ?_
  refine x_aload_n hz dX12_init_268 rfl ?_
  refine x_bipush (v := (6 : Int32)) hz dX12_init_269 (by decide) ?_
  obtain ⟨H67, e_H67, h⟩ := x_bnd h
  refine x_newI aw_int hz dX12_init_271 e_H67 ?_
  obtain ⟨H68, e_H68, h⟩ := x_bnd h
  refine x_putF (v := va_rf (some H66.2.1)) hz rfl dX12_init_273 fs_X12_115F (x_nra _ _) (x_fta _ _) e_H68 ?_
  refine x_aload_n hz dX12_init_276 rfl ?_
  refine x_bipush (v := (45 : Int32)) hz dX12_init_277 (by decide) ?_
  obtain ⟨H69, e_H69, h⟩ := x_bnd h
  refine x_newI aw_int hz dX12_init_279 e_H69 ?_
  obtain ⟨H70, e_H70, h⟩ := x_bnd h
  refine x_putF (v := va_rf (some H68.2.1)) hz rfl dX12_init_281 fs_X12_118F (x_nra _ _) (x_fta _ _) e_H70 ?_
  refine x_aload_n hz dX12_init_284 rfl ?_
  refine x_sipush (v := (160 : Int32)) hz dX12_init_285 (by decide) ?_
  obtain ⟨H71, e_H71, h⟩ := x_bnd h
  refine x_newI aw_int hz dX12_init_288 e_H71 ?_
  obtain ⟨H72, e_H72, h⟩ := x_bnd h
  refine x_putF (v := va_rf (some H70.2.1)) hz rfl dX12_init_290 fs_X12_121F (x_nra _ _) (x_fta _ _) e_H72 ?_
  refine x_aload_n hz dX12_init_293 rfl ?_
  obtain ⟨b74, e_b74, h⟩ := x_bnd h
  obtain ⟨H73, e_H73, h⟩ := x_bnd h
  refine x_callVv (as := []) (st := []) cs_X12_124 (ci := 11) ⟨rfl, rfl⟩ rfl rfl hz (by omega) (by decide) dX12_init_294 e_b74 (M_X12_makes e_H73) ?_
  cases h
  exact x_vret hZ dX12_init_297
theorem M_X12_init {N : Nat} {a0 : (Option Nat)} {H H1 : xH} (h : F_X12_init N a0 H = some H1) : xM yX12_init cX12_init 1 none 6 [.inr (.inr a0)] H none H1 :=
  xM_of (by decide +kernel) (xT_tb 984 (by decide +kernel) (by decide +kernel)) (by simp [xargs, x2]) rfl (P_X12_init rfl a0 H h)
/-! BettingBookModel.bit(II)Z -/
noncomputable def F_X12_bit (N : Nat) (a0 : Int32) (a1 : Int32) (H : xH) : Option (Int32 × xH) :=
  if ((a0 >>> (a1 &&& 31)) &&& (1 : Int32)) = (1 : Int32) then (some ((1 : Int32), H)) else (some ((0 : Int32), H))
set_option maxRecDepth 20000 in
set_option maxHeartbeats 4000000 in
theorem P_X12_bit {N : Nat} {Z : xZ} {rv : Int32} {Hf : xH} (hZ : Z = xZm cX12_bit yX12_bit 2 1 (some .boolean) (some (.int rv)) Hf) : ∀ (a0 : Int32) (a1 : Int32) (H : xH), F_X12_bit N a0 a1 H = some (rv, Hf) → xWq Z H 0 [xI a0, xI a1] [] := by
  have hz : Z.1 = (cX12_bit, yX12_bit, 2) := by rw [hZ]; rfl
  have hδ : Z.2.1 = 1 := by rw [hZ]; rfl
  intro a0 a1 H h
  unfold F_X12_bit at h
  refine x_iload_n hz dX12_bit_0 rfl ?_
  refine x_iload_n hz dX12_bit_1 rfl ?_
  refine x_ishr hz dX12_bit_2 ?_
  refine x_iconst (v := (1 : Int32)) hz dX12_bit_3 (by decide) ?_
  refine x_iand hz dX12_bit_4 ?_
  refine x_iconst (v := (1 : Int32)) hz dX12_bit_5 (by decide) ?_
  refine x_icmp_ne (t := 13) hz dX12_bit_6 (by decide) (fun c1 => ?_) (fun c1 => ?_)
  · replace h := x_in c1 h
    refine x_iconst (v := (0 : Int32)) hz dX12_bit_13 (by decide) ?_
    cases h
    exact x_zret01 hZ (Or.inl rfl) dX12_bit_14
  · replace h := x_ip c1 h
    refine x_iconst (v := (1 : Int32)) hz dX12_bit_9 (by decide) ?_
    refine x_goto (t := 14) hz dX12_bit_10 (by decide) ?_
    cases h
    exact x_zret01 hZ (Or.inr rfl) dX12_bit_14
theorem M_X12_bit {N : Nat} {a0 : Int32} {a1 : Int32} {H H1 : xH} {r1 : Int32} (h : F_X12_bit N a0 a1 H = some (r1, H1)) : xM yX12_bit cX12_bit 2 (some .boolean) 1 [.inl a0, .inl a1] H (some (.int r1)) H1 :=
  xM_of (by decide +kernel) (xT_tb 1359 (by decide +kernel) (by decide +kernel)) (by simp [xargs, x2]) rfl (P_X12_bit rfl a0 a1 H h)
/-! BettingBookModel.bits(I)I -/
noncomputable def F_X12_bits_J4 (N : Nat) (k4 : Int32 → Int32 → xH → Option (Int32 × xH)) (x1 : Int32) (x2 : Int32) (H : xH) : Option (Int32 × xH) :=
  if x2 ≤ 0 then (some (x1, H)) else (k4 (x1 + (x2 &&& (1 : Int32))) (x2 >>> ((1 : Int32) &&& 31)) H)
set_option maxRecDepth 20000 in
set_option maxHeartbeats 4000000 in
theorem P_X12_bits_J4 {N : Nat} {Z : xZ} {rv : Int32} {Hf : xH} (hZ : Z = xZm cX12_bits yX12_bits 3 1 (some .int) (some (.int rv)) Hf) {k4 : Int32 → Int32 → xH → Option (Int32 × xH)} (hk4 : ∀ (x1 : Int32) (x2 : Int32) (H : xH), k4 x1 x2 H = some (rv, Hf) → xWq Z H 4 [xN, xI x1, xI x2] []) : ∀ (x1 : Int32) (x2 : Int32) (H : xH), F_X12_bits_J4 N k4 x1 x2 H = some (rv, Hf) → xWq Z H 4 [xN, xI x1, xI x2] [] := by
  have hz : Z.1 = (cX12_bits, yX12_bits, 3) := by rw [hZ]; rfl
  have hδ : Z.2.1 = 1 := by rw [hZ]; rfl
  intro x1 x2 H h
  unfold F_X12_bits_J4 at h
  refine x_iload_n hz dX12_bits_4 rfl ?_
  refine x_if_le (t := 21) hz dX12_bits_5 (by decide) (fun c1 => ?_) (fun c1 => ?_)
  · replace h := x_ip c1 h
    refine x_iload_n hz dX12_bits_21 rfl ?_
    cases h
    exact x_iret hZ dX12_bits_22
  · replace h := x_in c1 h
    refine x_iload_n hz dX12_bits_8 rfl ?_
    refine x_iload_n hz dX12_bits_9 rfl ?_
    refine x_iconst (v := (1 : Int32)) hz dX12_bits_10 (by decide) ?_
    refine x_iand hz dX12_bits_11 ?_
    refine x_iadd hz dX12_bits_12 ?_
    refine x_istore_n (pl' := [xN, xI (x1 + (x2 &&& (1 : Int32))), xI x2]) hz dX12_bits_13 (by decide) rfl ?_
    refine x_iload_n hz dX12_bits_14 rfl ?_
    refine x_iconst (v := (1 : Int32)) hz dX12_bits_15 (by decide) ?_
    refine x_ishr hz dX12_bits_16 ?_
    refine x_istore_n (pl' := [xN, xI (x1 + (x2 &&& (1 : Int32))), xI (x2 >>> ((1 : Int32) &&& 31))]) hz dX12_bits_17 (by decide) rfl ?_
    refine x_goto (t := 4) hz dX12_bits_18 (by decide) ?_
    exact x_wk (xwk_n (xwk_c (xwk_c xwk_0))) (hk4 (x1 + (x2 &&& (1 : Int32))) (x2 >>> ((1 : Int32) &&& 31)) H h)
noncomputable def F_X12_bits_L4 (N : Nat) : Nat → Int32 → Int32 → xH → Option (Int32 × xH)
  | 0 => fun _ _ _ => none
  | n + 1 => F_X12_bits_J4 N (F_X12_bits_L4 N n)
theorem P_X12_bits_L4 {N : Nat} {Z : xZ} {rv : Int32} {Hf : xH} (hZ : Z = xZm cX12_bits yX12_bits 3 1 (some .int) (some (.int rv)) Hf) : ∀ (n : Nat) (x1 : Int32) (x2 : Int32) (H : xH), F_X12_bits_L4 N n x1 x2 H = some (rv, Hf) → xWq Z H 4 [xN, xI x1, xI x2] [] := by
  intro n
  induction n with
  | zero => intro _ _ _ h; cases h
  | succ n ih => exact P_X12_bits_J4 hZ ih
noncomputable def F_X12_bits (N : Nat) (a0 : Int32) (H : xH) : Option (Int32 × xH) :=
  (F_X12_bits_L4 N N) (0 : Int32) a0 H
set_option maxRecDepth 20000 in
set_option maxHeartbeats 4000000 in
theorem P_X12_bits {N : Nat} {Z : xZ} {rv : Int32} {Hf : xH} (hZ : Z = xZm cX12_bits yX12_bits 3 1 (some .int) (some (.int rv)) Hf) : ∀ (a0 : Int32) (H : xH), F_X12_bits N a0 H = some (rv, Hf) → xWq Z H 0 [xI a0, xN, xN] [] := by
  have hz : Z.1 = (cX12_bits, yX12_bits, 3) := by rw [hZ]; rfl
  have hδ : Z.2.1 = 1 := by rw [hZ]; rfl
  intro a0 H h
  unfold F_X12_bits at h
  refine x_iconst (v := (0 : Int32)) hz dX12_bits_0 (by decide) ?_
  refine x_istore_n (pl' := [xI a0, xI (0 : Int32), xN]) hz dX12_bits_1 (by decide) rfl ?_
  refine x_iload_n hz dX12_bits_2 rfl ?_
  refine x_istore_n (pl' := [xI a0, xI (0 : Int32), xI a0]) hz dX12_bits_3 (by decide) rfl ?_
  exact x_wk (xwk_n (xwk_c (xwk_c xwk_0))) ((P_X12_bits_L4 hZ N) (0 : Int32) a0 H h)
theorem M_X12_bits {N : Nat} {a0 : Int32} {H H1 : xH} {r1 : Int32} (h : F_X12_bits N a0 H = some (r1, H1)) : xM yX12_bits cX12_bits 3 (some .int) 1 [.inl a0] H (some (.int r1)) H1 :=
  xM_of (by decide +kernel) (xT_tb 1427 (by decide +kernel) (by decide +kernel)) (by simp [xargs, x2]) rfl (P_X12_bits rfl a0 H h)
/-! BettingBookModel.four(I)V -/
noncomputable def F_X12_four_J3 (N : Nat) (k3 : (Option Nat) → Int32 → Int32 → xH → Option xH) (x0 : (Option Nat)) (x1 : Int32) (x2 : Int32) (H : xH) : Option xH :=
  if x2 < 0 then (some H) else ((xgA H x0 11 36).bind fun v2 =>
  (xgI H x0 11 31).bind fun v3 =>
  (xsI .byte H v2 v3 (((x1 >>> (x2 &&& 31))).toInt8.toInt32)).bind fun H4 =>
  (xgI H4 x0 11 31).bind fun v5 =>
  (xpI H4 x0 11 31 (v5 + (1 : Int32))).bind fun H6 =>
  k3 x0 x1 (x2 + (-8)) H6)
set_option maxRecDepth 20000 in
set_option maxHeartbeats 4000000 in
theorem P_X12_four_J3 {N : Nat} {Z : xZ} {Hf : xH} (hZ : Z = xZm cX12_four yX12_four 3 1 none none Hf) {k3 : (Option Nat) → Int32 → Int32 → xH → Option xH} (hk3 : ∀ (x0 : (Option Nat)) (x1 : Int32) (x2 : Int32) (H : xH), k3 x0 x1 x2 H = some Hf → xWq Z H 3 [xA x0, xI x1, xI x2] []) : ∀ (x0 : (Option Nat)) (x1 : Int32) (x2 : Int32) (H : xH), F_X12_four_J3 N k3 x0 x1 x2 H = some Hf → xWq Z H 3 [xA x0, xI x1, xI x2] [] := by
  have hz : Z.1 = (cX12_four, yX12_four, 3) := by rw [hZ]; rfl
  have hδ : Z.2.1 = 1 := by rw [hZ]; rfl
  intro x0 x1 x2 H h
  unfold F_X12_four_J3 at h
  refine x_iload_n hz dX12_four_3 rfl ?_
  refine x_if_lt (t := 36) hz dX12_four_4 (by decide) (fun c1 => ?_) (fun c1 => ?_)
  · replace h := x_ip c1 h
    cases h
    exact x_vret hZ dX12_four_36
  · replace h := x_in c1 h
    refine x_aload_n hz dX12_four_7 rfl ?_
    obtain ⟨v2, e_v2, h⟩ := x_bnd h
    refine x_getA hz dX12_four_8 fs_X12_72 e_v2 ?_
    refine x_aload_n hz dX12_four_11 rfl ?_
    obtain ⟨v3, e_v3, h⟩ := x_bnd h
    refine x_getI hz dX12_four_12 fs_X12_127 e_v3 ?_
    refine x_iload_n hz dX12_four_15 rfl ?_
    refine x_iload_n hz dX12_four_16 rfl ?_
    refine x_ishr hz dX12_four_17 ?_
    refine x_i2b hz dX12_four_18 ?_
    obtain ⟨H4, e_H4, h⟩ := x_bnd h
    refine x_bast hz dX12_four_19 e_H4 ?_
    refine x_aload_n hz dX12_four_20 rfl ?_
    refine x_dup hz dX12_four_21 (x_rfc _) ?_
    obtain ⟨v5, e_v5, h⟩ := x_bnd h
    refine x_getI hz dX12_four_22 fs_X12_127 e_v5 ?_
    refine x_iconst (v := (1 : Int32)) hz dX12_four_25 (by decide) ?_
    refine x_iadd hz dX12_four_26 ?_
    obtain ⟨H6, e_H6, h⟩ := x_bnd h
    refine x_putV (v := .int (v5 + (1 : Int32))) hz dX12_four_27 fs_X12_127 rfl rfl e_H6 ?_
    refine x_iinc (w := (x2 + (-8))) (pl' := [xA x0, xI x1, xI (x2 + (-8))]) hz dX12_four_30 rfl rfl (by decide) rfl ?_
    refine x_goto (t := 3) hz dX12_four_33 (by decide) ?_
    exact x_wk (xwk_c (xwk_c (xwk_c xwk_0))) (hk3 x0 x1 (x2 + (-8)) H6 h)
noncomputable def F_X12_four_L3 (N : Nat) : Nat → (Option Nat) → Int32 → Int32 → xH → Option xH
  | 0 => fun _ _ _ _ => none
  | n + 1 => F_X12_four_J3 N (F_X12_four_L3 N n)
theorem P_X12_four_L3 {N : Nat} {Z : xZ} {Hf : xH} (hZ : Z = xZm cX12_four yX12_four 3 1 none none Hf) : ∀ (n : Nat) (x0 : (Option Nat)) (x1 : Int32) (x2 : Int32) (H : xH), F_X12_four_L3 N n x0 x1 x2 H = some Hf → xWq Z H 3 [xA x0, xI x1, xI x2] [] := by
  intro n
  induction n with
  | zero => intro _ _ _ _ h; cases h
  | succ n ih => exact P_X12_four_J3 hZ ih
noncomputable def F_X12_four (N : Nat) (a0 : (Option Nat)) (a1 : Int32) (H : xH) : Option xH :=
  (F_X12_four_L3 N N) a0 a1 (24 : Int32) H
set_option maxRecDepth 20000 in
set_option maxHeartbeats 4000000 in
theorem P_X12_four {N : Nat} {Z : xZ} {Hf : xH} (hZ : Z = xZm cX12_four yX12_four 3 1 none none Hf) : ∀ (a0 : (Option Nat)) (a1 : Int32) (H : xH), F_X12_four N a0 a1 H = some Hf → xWq Z H 0 [xA a0, xI a1, xN] [] := by
  have hz : Z.1 = (cX12_four, yX12_four, 3) := by rw [hZ]; rfl
  have hδ : Z.2.1 = 1 := by rw [hZ]; rfl
  intro a0 a1 H h
  unfold F_X12_four at h
  refine x_bipush (v := (24 : Int32)) hz dX12_four_0 (by decide) ?_
  refine x_istore_n (pl' := [xA a0, xI a1, xI (24 : Int32)]) hz dX12_four_2 (by decide) rfl ?_
  exact x_wk (xwk_c (xwk_c (xwk_c xwk_0))) ((P_X12_four_L3 hZ N) a0 a1 (24 : Int32) H h)
theorem M_X12_four {N : Nat} {a0 : (Option Nat)} {a1 : Int32} {H H1 : xH} (h : F_X12_four N a0 a1 H = some H1) : xM yX12_four cX12_four 3 none 1 [.inr (.inr a0), .inl a1] H none H1 :=
  xM_of (by decide +kernel) (xT_tb 1223 (by decide +kernel) (by decide +kernel)) (by simp [xargs, x2]) rfl (P_X12_four rfl a0 a1 H h)
/-! BettingBookModel.feed(IIIII)I -/
noncomputable def F_X12_feed (N : Nat) (a0 : (Option Nat)) (a1 : Int32) (a2 : Int32) (a3 : Int32) (a4 : Int32) (a5 : Int32) (H : xH) : Option (Int32 × xH) :=
  (xgI H a0 11 31).bind fun v1 =>
  if (v1 + (20 : Int32)) ≤ (1200 : Int32) then ((xob H a0 11).bind fun b4 =>
  (F_X12_four N a0 a1 H).bind fun H3 =>
  (xob H3 a0 11).bind fun b6 =>
  (F_X12_four N a0 a2 H3).bind fun H5 =>
  (xob H5 a0 11).bind fun b8 =>
  (F_X12_four N a0 a3 H5).bind fun H7 =>
  (xob H7 a0 11).bind fun b10 =>
  (F_X12_four N a0 a4 H7).bind fun H9 =>
  (xob H9 a0 11).bind fun b12 =>
  (F_X12_four N a0 a5 H9).bind fun H11 =>
  (xgI H11 a0 11 31).bind fun v13 =>
  some (v13, H11)) else (some ((-1 : Int32), H))
set_option maxRecDepth 20000 in
set_option maxHeartbeats 4000000 in
theorem P_X12_feed {N : Nat} {Z : xZ} {rv : Int32} {Hf : xH} (hZ : Z = xZm cX12_feed yX12_feed 6 2 (some .int) (some (.int rv)) Hf) : ∀ (a0 : (Option Nat)) (a1 : Int32) (a2 : Int32) (a3 : Int32) (a4 : Int32) (a5 : Int32) (H : xH), F_X12_feed N a0 a1 a2 a3 a4 a5 H = some (rv, Hf) → xWq Z H 0 [xA a0, xI a1, xI a2, xI a3, xI a4, xI a5] [] := by
  have hz : Z.1 = (cX12_feed, yX12_feed, 6) := by rw [hZ]; rfl
  have hδ : Z.2.1 = 2 := by rw [hZ]; rfl
  intro a0 a1 a2 a3 a4 a5 H h
  unfold F_X12_feed at h
  refine x_aload_n hz dX12_feed_0 rfl ?_
  obtain ⟨v1, e_v1, h⟩ := x_bnd h
  refine x_getI hz dX12_feed_1 fs_X12_127 e_v1 ?_
  refine x_bipush (v := (20 : Int32)) hz dX12_feed_4 (by decide) ?_
  refine x_iadd hz dX12_feed_6 ?_
  refine x_sipush (v := (1200 : Int32)) hz dX12_feed_7 (by decide) ?_
  refine x_icmp_le (t := 15) hz dX12_feed_10 (by decide) (fun c2 => ?_) (fun c2 => ?_)
  · replace h := x_ip c2 h
    refine x_aload_n hz dX12_feed_15 rfl ?_
    refine x_iload_n hz dX12_feed_16 rfl ?_
    obtain ⟨b4, e_b4, h⟩ := x_bnd h
    obtain ⟨H3, e_H3, h⟩ := x_bnd h
    refine x_callVv (as := [.inl a1]) (st := []) cs_X12_130 (ci := 11) ⟨rfl, rfl⟩ rfl rfl hz (by omega) (by decide) dX12_feed_17 e_b4 (M_X12_four e_H3) ?_
    refine x_aload_n hz dX12_feed_20 rfl ?_
    refine x_iload_n hz dX12_feed_21 rfl ?_
    obtain ⟨b6, e_b6, h⟩ := x_bnd h
    obtain ⟨H5, e_H5, h⟩ := x_bnd h
    refine x_callVv (as := [.inl a2]) (st := []) cs_X12_130 (ci := 11) ⟨rfl, rfl⟩ rfl rfl hz (by omega) (by decide) dX12_feed_22 e_b6 (M_X12_four e_H5) ?_
    refine x_aload_n hz dX12_feed_25 rfl ?_
    refine x_iload_n hz dX12_feed_26 rfl ?_
    obtain ⟨b8, e_b8, h⟩ := x_bnd h
    obtain ⟨H7, e_H7, h⟩ := x_bnd h
    refine x_callVv (as := [.inl a3]) (st := []) cs_X12_130 (ci := 11) ⟨rfl, rfl⟩ rfl rfl hz (by omega) (by decide) dX12_feed_27 e_b8 (M_X12_four e_H7) ?_
    refine x_aload_n hz dX12_feed_30 rfl ?_
    refine x_iload hz dX12_feed_31 rfl ?_
    obtain ⟨b10, e_b10, h⟩ := x_bnd h
    obtain ⟨H9, e_H9, h⟩ := x_bnd h
    refine x_callVv (as := [.inl a4]) (st := []) cs_X12_130 (ci := 11) ⟨rfl, rfl⟩ rfl rfl hz (by omega) (by decide) dX12_feed_33 e_b10 (M_X12_four e_H9) ?_
    refine x_aload_n hz dX12_feed_36 rfl ?_
    refine x_iload hz dX12_feed_37 rfl ?_
    obtain ⟨b12, e_b12, h⟩ := x_bnd h
    obtain ⟨H11, e_H11, h⟩ := x_bnd h
    refine x_callVv (as := [.inl a5]) (st := []) cs_X12_130 (ci := 11) ⟨rfl, rfl⟩ rfl rfl hz (by omega) (by decide) dX12_feed_39 e_b12 (M_X12_four e_H11) ?_
    refine x_aload_n hz dX12_feed_42 rfl ?_
    obtain ⟨v13, e_v13, h⟩ := x_bnd h
    refine x_getI hz dX12_feed_43 fs_X12_127 e_v13 ?_
    cases h
    exact x_iret hZ dX12_feed_46
  · replace h := x_in c2 h
    refine x_iconst (v := (-1 : Int32)) hz dX12_feed_13 (by decide) ?_
    cases h
    exact x_iret hZ dX12_feed_14
theorem M_X12_feed {N : Nat} {a0 : (Option Nat)} {a1 : Int32} {a2 : Int32} {a3 : Int32} {a4 : Int32} {a5 : Int32} {H H1 : xH} {r1 : Int32} (h : F_X12_feed N a0 a1 a2 a3 a4 a5 H = some (r1, H1)) : xM yX12_feed cX12_feed 6 (some .int) 2 [.inr (.inr a0), .inl a1, .inl a2, .inl a3, .inl a4, .inl a5] H (some (.int r1)) H1 :=
  xM_of (by decide +kernel) (xT_tb 1219 (by decide +kernel) (by decide +kernel)) (by simp [xargs, x2]) rfl (P_X12_feed rfl a0 a1 a2 a3 a4 a5 H h)
/-! BettingBookModel.blanks()V -/
noncomputable def F_X12_blanks_J39 (N : Nat) (k0 : (Option Nat) → xH → Option xH) (x0 : (Option Nat)) (H : xH) : Option xH :=
  (xgI H x0 11 33).bind fun v1 =>
  (xpI H x0 11 33 (v1 + (1 : Int32))).bind fun H2 =>
  k0 x0 H2
set_option maxRecDepth 20000 in
set_option maxHeartbeats 4000000 in
theorem P_X12_blanks_J39 {N : Nat} {Z : xZ} {Hf : xH} (hZ : Z = xZm cX12_blanks yX12_blanks 1 1 none none Hf) {k0 : (Option Nat) → xH → Option xH} (hk0 : ∀ (x0 : (Option Nat)) (H : xH), k0 x0 H = some Hf → xWq Z H 0 [xA x0] []) : ∀ (x0 : (Option Nat)) (H : xH), F_X12_blanks_J39 N k0 x0 H = some Hf → xWq Z H 39 [xA x0] [] := by
  have hz : Z.1 = (cX12_blanks, yX12_blanks, 1) := by rw [hZ]; rfl
  have hδ : Z.2.1 = 1 := by rw [hZ]; rfl
  intro x0 H h
  unfold F_X12_blanks_J39 at h
  refine x_aload_n hz dX12_blanks_39 rfl ?_
  refine x_dup hz dX12_blanks_40 (x_rfc _) ?_
  obtain ⟨v1, e_v1, h⟩ := x_bnd h
  refine x_getI hz dX12_blanks_41 fs_X12_134 e_v1 ?_
  refine x_iconst (v := (1 : Int32)) hz dX12_blanks_44 (by decide) ?_
  refine x_iadd hz dX12_blanks_45 ?_
  obtain ⟨H2, e_H2, h⟩ := x_bnd h
  refine x_putV (v := .int (v1 + (1 : Int32))) hz dX12_blanks_46 fs_X12_134 rfl rfl e_H2 ?_
  refine x_goto (t := 0) hz dX12_blanks_49 (by decide) ?_
  exact x_wk (xwk_c xwk_0) (hk0 x0 H2 h)
noncomputable def F_X12_blanks_J0 (N : Nat) (k0 : (Option Nat) → xH → Option xH) (x0 : (Option Nat)) (H : xH) : Option xH :=
  (xgI H x0 11 33).bind fun v1 =>
  (xgI H x0 11 32).bind fun v2 =>
  if v2 ≤ v1 then (some H) else ((xgA H x0 11 37).bind fun v4 =>
  (xgI H x0 11 33).bind fun v5 =>
  (xlI .byte H v4 v5).bind fun v6 =>
  if v6 = (32 : Int32) then ((F_X12_blanks_J39 N k0) x0 H) else ((xgA H x0 11 37).bind fun v8 =>
  (xgI H x0 11 33).bind fun v9 =>
  (xlI .byte H v8 v9).bind fun v10 =>
  if v10 = (10 : Int32) then ((F_X12_blanks_J39 N k0) x0 H) else (some H)))
set_option maxRecDepth 20000 in
set_option maxHeartbeats 4000000 in
theorem P_X12_blanks_J0 {N : Nat} {Z : xZ} {Hf : xH} (hZ : Z = xZm cX12_blanks yX12_blanks 1 1 none none Hf) {k0 : (Option Nat) → xH → Option xH} (hk0 : ∀ (x0 : (Option Nat)) (H : xH), k0 x0 H = some Hf → xWq Z H 0 [xA x0] []) : ∀ (x0 : (Option Nat)) (H : xH), F_X12_blanks_J0 N k0 x0 H = some Hf → xWq Z H 0 [xA x0] [] := by
  have hz : Z.1 = (cX12_blanks, yX12_blanks, 1) := by rw [hZ]; rfl
  have hδ : Z.2.1 = 1 := by rw [hZ]; rfl
  intro x0 H h
  unfold F_X12_blanks_J0 at h
  refine x_aload_n hz dX12_blanks_0 rfl ?_
  obtain ⟨v1, e_v1, h⟩ := x_bnd h
  refine x_getI hz dX12_blanks_1 fs_X12_134 e_v1 ?_
  refine x_aload_n hz dX12_blanks_4 rfl ?_
  obtain ⟨v2, e_v2, h⟩ := x_bnd h
  refine x_getI hz dX12_blanks_5 fs_X12_137 e_v2 ?_
  refine x_icmp_ge (t := 52) hz dX12_blanks_8 (by decide) (fun c3 => ?_) (fun c3 => ?_)
  · replace h := x_ip c3 h
    cases h
    exact x_vret hZ dX12_blanks_52
  · replace h := x_in c3 h
    refine x_aload_n hz dX12_blanks_11 rfl ?_
    obtain ⟨v4, e_v4, h⟩ := x_bnd h
    refine x_getA hz dX12_blanks_12 fs_X12_76 e_v4 ?_
    refine x_aload_n hz dX12_blanks_15 rfl ?_
    obtain ⟨v5, e_v5, h⟩ := x_bnd h
    refine x_getI hz dX12_blanks_16 fs_X12_134 e_v5 ?_
    obtain ⟨v6, e_v6, h⟩ := x_bnd h
    refine x_bald hz dX12_blanks_19 e_v6 ?_
    refine x_bipush (v := (32 : Int32)) hz dX12_blanks_20 (by decide) ?_
    refine x_icmp_eq (t := 39) hz dX12_blanks_22 (by decide) (fun c7 => ?_) (fun c7 => ?_)
    · replace h := x_ip c7 h
      exact x_wk (xwk_c xwk_0) ((P_X12_blanks_J39 hZ hk0) x0 H h)
    · replace h := x_in c7 h
      refine x_aload_n hz dX12_blanks_25 rfl ?_
      obtain ⟨v8, e_v8, h⟩ := x_bnd h
      refine x_getA hz dX12_blanks_26 fs_X12_76 e_v8 ?_
      refine x_aload_n hz dX12_blanks_29 rfl ?_
      obtain ⟨v9, e_v9, h⟩ := x_bnd h
      refine x_getI hz dX12_blanks_30 fs_X12_134 e_v9 ?_
      obtain ⟨v10, e_v10, h⟩ := x_bnd h
      refine x_bald hz dX12_blanks_33 e_v10 ?_
      refine x_bipush (v := (10 : Int32)) hz dX12_blanks_34 (by decide) ?_
      refine x_icmp_ne (t := 52) hz dX12_blanks_36 (by decide) (fun c11 => ?_) (fun c11 => ?_)
      · replace h := x_in c11 h
        cases h
        exact x_vret hZ dX12_blanks_52
      · replace h := x_ip c11 h
        exact x_wk (xwk_c xwk_0) ((P_X12_blanks_J39 hZ hk0) x0 H h)
noncomputable def F_X12_blanks_L0 (N : Nat) : Nat → (Option Nat) → xH → Option xH
  | 0 => fun _ _ => none
  | n + 1 => F_X12_blanks_J0 N (F_X12_blanks_L0 N n)
theorem P_X12_blanks_L0 {N : Nat} {Z : xZ} {Hf : xH} (hZ : Z = xZm cX12_blanks yX12_blanks 1 1 none none Hf) : ∀ (n : Nat) (x0 : (Option Nat)) (H : xH), F_X12_blanks_L0 N n x0 H = some Hf → xWq Z H 0 [xA x0] [] := by
  intro n
  induction n with
  | zero => intro _ _ h; cases h
  | succ n ih => exact P_X12_blanks_J0 hZ ih
noncomputable def F_X12_blanks (N : Nat) (a0 : (Option Nat)) (H : xH) : Option xH :=
  (F_X12_blanks_L0 N N) a0 H
set_option maxRecDepth 20000 in
set_option maxHeartbeats 4000000 in
theorem P_X12_blanks {N : Nat} {Z : xZ} {Hf : xH} (hZ : Z = xZm cX12_blanks yX12_blanks 1 1 none none Hf) : ∀ (a0 : (Option Nat)) (H : xH), F_X12_blanks N a0 H = some Hf → xWq Z H 0 [xA a0] [] := by
  have hz : Z.1 = (cX12_blanks, yX12_blanks, 1) := by rw [hZ]; rfl
  have hδ : Z.2.1 = 1 := by rw [hZ]; rfl
  intro a0 H h
  unfold F_X12_blanks at h
  exact x_wk (xwk_c xwk_0) ((P_X12_blanks_L0 hZ N) a0 H h)
theorem M_X12_blanks {N : Nat} {a0 : (Option Nat)} {H H1 : xH} (h : F_X12_blanks N a0 H = some H1) : xM yX12_blanks cX12_blanks 1 none 1 [.inr (.inr a0)] H none H1 :=
  xM_of (by decide +kernel) (xT_tb 1235 (by decide +kernel) (by decide +kernel)) (by simp [xargs, x2]) rfl (P_X12_blanks rfl a0 H h)
/-! BettingBookModel.word()J -/
noncomputable def F_X12_word_J86 (N : Nat) (k14 : (Option Nat) → Int64 → xH → Option (Int64 × xH)) (x0 : (Option Nat)) (s0 : Int64) (H : xH) : Option (Int64 × xH) :=
  (xgI H x0 11 38).bind fun v1 =>
  (xpI H x0 11 38 (v1 + (1 : Int32))).bind fun H2 =>
  k14 x0 s0 H2
set_option maxRecDepth 20000 in
set_option maxHeartbeats 4000000 in
theorem P_X12_word_J86 {N : Nat} {Z : xZ} {rv : Int64} {Hf : xH} (hZ : Z = xZm cX12_word yX12_word 3 2 (some .long) (some (.long rv)) Hf) {k14 : (Option Nat) → Int64 → xH → Option (Int64 × xH)} (hk14 : ∀ (x0 : (Option Nat)) (x1 : Int64) (H : xH), k14 x0 x1 H = some (rv, Hf) → xWq Z H 14 [xA x0, xJ x1, xN] []) : ∀ (x0 : (Option Nat)) (s0 : Int64) (H : xH), F_X12_word_J86 N k14 x0 s0 H = some (rv, Hf) → xWq Z H 86 [xA x0, xN, xN] [.long s0] := by
  have hz : Z.1 = (cX12_word, yX12_word, 3) := by rw [hZ]; rfl
  have hδ : Z.2.1 = 2 := by rw [hZ]; rfl
  intro x0 s0 H h
  unfold F_X12_word_J86 at h
  refine x_lstore_n (pl' := [xA x0, xJ s0, xN]) hz dX12_word_86 (by decide) rfl ?_
  refine x_aload_n hz dX12_word_87 rfl ?_
  refine x_dup hz dX12_word_88 (x_rfc _) ?_
  obtain ⟨v1, e_v1, h⟩ := x_bnd h
  refine x_getI hz dX12_word_89 fs_X12_143 e_v1 ?_
  refine x_iconst (v := (1 : Int32)) hz dX12_word_92 (by decide) ?_
  refine x_iadd hz dX12_word_93 ?_
  obtain ⟨H2, e_H2, h⟩ := x_bnd h
  refine x_putV (v := .int (v1 + (1 : Int32))) hz dX12_word_94 fs_X12_143 rfl rfl e_H2 ?_
  refine x_goto (t := 14) hz dX12_word_97 (by decide) ?_
  exact x_wk (xwk_c (xwk_c (xwk_n xwk_0))) (hk14 x0 s0 H2 h)
noncomputable def F_X12_word_J14 (N : Nat) (k14 : (Option Nat) → Int64 → xH → Option (Int64 × xH)) (k100 : (Option Nat) → Int64 → xH → Option (Int64 × xH)) (x0 : (Option Nat)) (x1 : Int64) (H : xH) : Option (Int64 × xH) :=
  (xgI H x0 11 38).bind fun v1 =>
  (xgI H x0 11 32).bind fun v2 =>
  if v2 ≤ v1 then (k100 x0 x1 H) else ((xgA H x0 11 37).bind fun v4 =>
  (xgI H x0 11 38).bind fun v5 =>
  (xlI .byte H v4 v5).bind fun v6 =>
  if v6 < (97 : Int32) then (k100 x0 x1 H) else ((xgA H x0 11 37).bind fun v8 =>
  (xgI H x0 11 38).bind fun v9 =>
  (xlI .byte H v8 v9).bind fun v10 =>
  if (122 : Int32) < v10 then (k100 x0 x1 H) else ((xgI H x0 11 38).bind fun v12 =>
  (xgI H x0 11 33).bind fun v13 =>
  if (8 : Int32) ≤ (v12 - v13) then ((F_X12_word_J86 N k14) x0 (0 : Int64) H) else ((xgA H x0 11 37).bind fun v15 =>
  (xgI H x0 11 38).bind fun v16 =>
  (xlI .byte H v15 v16).bind fun v17 =>
  (F_X12_word_J86 N k14) x0 ((x1 <<< ((8 : Int32).toInt64 &&& 63)) ||| ((v17).toInt64)) H))))
set_option maxRecDepth 20000 in
set_option maxHeartbeats 4000000 in
theorem P_X12_word_J14 {N : Nat} {Z : xZ} {rv : Int64} {Hf : xH} (hZ : Z = xZm cX12_word yX12_word 3 2 (some .long) (some (.long rv)) Hf) {k14 : (Option Nat) → Int64 → xH → Option (Int64 × xH)} (hk14 : ∀ (x0 : (Option Nat)) (x1 : Int64) (H : xH), k14 x0 x1 H = some (rv, Hf) → xWq Z H 14 [xA x0, xJ x1, xN] []) {k100 : (Option Nat) → Int64 → xH → Option (Int64 × xH)} (hk100 : ∀ (x0 : (Option Nat)) (x1 : Int64) (H : xH), k100 x0 x1 H = some (rv, Hf) → xWq Z H 100 [xA x0, xJ x1, xN] []) : ∀ (x0 : (Option Nat)) (x1 : Int64) (H : xH), F_X12_word_J14 N k14 k100 x0 x1 H = some (rv, Hf) → xWq Z H 14 [xA x0, xJ x1, xN] [] := by
  have hz : Z.1 = (cX12_word, yX12_word, 3) := by rw [hZ]; rfl
  have hδ : Z.2.1 = 2 := by rw [hZ]; rfl
  intro x0 x1 H h
  unfold F_X12_word_J14 at h
  refine x_aload_n hz dX12_word_14 rfl ?_
  obtain ⟨v1, e_v1, h⟩ := x_bnd h
  refine x_getI hz dX12_word_15 fs_X12_143 e_v1 ?_
  refine x_aload_n hz dX12_word_18 rfl ?_
  obtain ⟨v2, e_v2, h⟩ := x_bnd h
  refine x_getI hz dX12_word_19 fs_X12_137 e_v2 ?_
  refine x_icmp_ge (t := 100) hz dX12_word_22 (by decide) (fun c3 => ?_) (fun c3 => ?_)
  · replace h := x_ip c3 h
    exact x_wk (xwk_c (xwk_c (xwk_n xwk_0))) (hk100 x0 x1 H h)
  · replace h := x_in c3 h
    refine x_aload_n hz dX12_word_25 rfl ?_
    obtain ⟨v4, e_v4, h⟩ := x_bnd h
    refine x_getA hz dX12_word_26 fs_X12_76 e_v4 ?_
    refine x_aload_n hz dX12_word_29 rfl ?_
    obtain ⟨v5, e_v5, h⟩ := x_bnd h
    refine x_getI hz dX12_word_30 fs_X12_143 e_v5 ?_
    obtain ⟨v6, e_v6, h⟩ := x_bnd h
    refine x_bald hz dX12_word_33 e_v6 ?_
    refine x_bipush (v := (97 : Int32)) hz dX12_word_34 (by decide) ?_
    refine x_icmp_lt (t := 100) hz dX12_word_36 (by decide) (fun c7 => ?_) (fun c7 => ?_)
    · replace h := x_ip c7 h
      exact x_wk (xwk_c (xwk_c (xwk_n xwk_0))) (hk100 x0 x1 H h)
    · replace h := x_in c7 h
      refine x_aload_n hz dX12_word_39 rfl ?_
      obtain ⟨v8, e_v8, h⟩ := x_bnd h
      refine x_getA hz dX12_word_40 fs_X12_76 e_v8 ?_
      refine x_aload_n hz dX12_word_43 rfl ?_
      obtain ⟨v9, e_v9, h⟩ := x_bnd h
      refine x_getI hz dX12_word_44 fs_X12_143 e_v9 ?_
      obtain ⟨v10, e_v10, h⟩ := x_bnd h
      refine x_bald hz dX12_word_47 e_v10 ?_
      refine x_bipush (v := (122 : Int32)) hz dX12_word_48 (by decide) ?_
      refine x_icmp_gt (t := 100) hz dX12_word_50 (by decide) (fun c11 => ?_) (fun c11 => ?_)
      · replace h := x_ip c11 h
        exact x_wk (xwk_c (xwk_c (xwk_n xwk_0))) (hk100 x0 x1 H h)
      · replace h := x_in c11 h
        refine x_aload_n hz dX12_word_53 rfl ?_
        obtain ⟨v12, e_v12, h⟩ := x_bnd h
        refine x_getI hz dX12_word_54 fs_X12_143 e_v12 ?_
        refine x_aload_n hz dX12_word_57 rfl ?_
        obtain ⟨v13, e_v13, h⟩ := x_bnd h
        refine x_getI hz dX12_word_58 fs_X12_134 e_v13 ?_
        refine x_isub hz dX12_word_61 ?_
        refine x_bipush (v := (8 : Int32)) hz dX12_word_62 (by decide) ?_
        refine x_icmp_ge (t := 85) hz dX12_word_64 (by decide) (fun c14 => ?_) (fun c14 => ?_)
        · replace h := x_ip c14 h
          refine x_lconst (v := (0 : Int64)) hz dX12_word_85 (by decide) ?_
          exact x_wk (xwk_c (xwk_n (xwk_n xwk_0))) ((P_X12_word_J86 hZ hk14) x0 (0 : Int64) H h)
        · replace h := x_in c14 h
          refine x_lload_n hz dX12_word_67 rfl ?_
          refine x_bipush (v := (8 : Int32)) hz dX12_word_68 (by decide) ?_
          refine x_lshl hz dX12_word_70 ?_
          refine x_aload_n hz dX12_word_71 rfl ?_
          obtain ⟨v15, e_v15, h⟩ := x_bnd h
          refine x_getA hz dX12_word_72 fs_X12_76 e_v15 ?_
          refine x_aload_n hz dX12_word_75 rfl ?_
          obtain ⟨v16, e_v16, h⟩ := x_bnd h
          refine x_getI hz dX12_word_76 fs_X12_143 e_v16 ?_
          obtain ⟨v17, e_v17, h⟩ := x_bnd h
          refine x_bald hz dX12_word_79 e_v17 ?_
          refine x_i2l hz dX12_word_80 ?_
          refine x_lor hz dX12_word_81 ?_
          refine x_goto (t := 86) hz dX12_word_82 (by decide) ?_
          exact x_wk (xwk_c (xwk_n (xwk_n xwk_0))) ((P_X12_word_J86 hZ hk14) x0 ((x1 <<< ((8 : Int32).toInt64 &&& 63)) ||| ((v17).toInt64)) H h)
noncomputable def F_X12_word_L14 (N : Nat) (k100 : (Option Nat) → Int64 → xH → Option (Int64 × xH)) : Nat → (Option Nat) → Int64 → xH → Option (Int64 × xH)
  | 0 => fun _ _ _ => none
  | n + 1 => F_X12_word_J14 N (F_X12_word_L14 N k100 n) k100
theorem P_X12_word_L14 {N : Nat} {Z : xZ} {rv : Int64} {Hf : xH} (hZ : Z = xZm cX12_word yX12_word 3 2 (some .long) (some (.long rv)) Hf) {k100 : (Option Nat) → Int64 → xH → Option (Int64 × xH)} (hk100 : ∀ (x0 : (Option Nat)) (x1 : Int64) (H : xH), k100 x0 x1 H = some (rv, Hf) → xWq Z H 100 [xA x0, xJ x1, xN] []) : ∀ (n : Nat) (x0 : (Option Nat)) (x1 : Int64) (H : xH), F_X12_word_L14 N k100 n x0 x1 H = some (rv, Hf) → xWq Z H 14 [xA x0, xJ x1, xN] [] := by
  intro n
  induction n with
  | zero => intro _ _ _ h; cases h
  | succ n ih => exact P_X12_word_J14 hZ ih hk100
noncomputable def F_X12_word_J100 (N : Nat) (x0 : (Option Nat)) (x1 : Int64) (H : xH) : Option (Int64 × xH) :=
  (xgI H x0 11 38).bind fun v1 =>
  (xgI H x0 11 33).bind fun v2 =>
  if (v1 - v2) ≤ (8 : Int32) then (some (x1, H)) else (some ((0 : Int64), H))
set_option maxRecDepth 20000 in
set_option maxHeartbeats 4000000 in
theorem P_X12_word_J100 {N : Nat} {Z : xZ} {rv : Int64} {Hf : xH} (hZ : Z = xZm cX12_word yX12_word 3 2 (some .long) (some (.long rv)) Hf) : ∀ (x0 : (Option Nat)) (x1 : Int64) (H : xH), F_X12_word_J100 N x0 x1 H = some (rv, Hf) → xWq Z H 100 [xA x0, xJ x1, xN] [] := by
  have hz : Z.1 = (cX12_word, yX12_word, 3) := by rw [hZ]; rfl
  have hδ : Z.2.1 = 2 := by rw [hZ]; rfl
  intro x0 x1 H h
  unfold F_X12_word_J100 at h
  refine x_aload_n hz dX12_word_100 rfl ?_
  obtain ⟨v1, e_v1, h⟩ := x_bnd h
  refine x_getI hz dX12_word_101 fs_X12_143 e_v1 ?_
  refine x_aload_n hz dX12_word_104 rfl ?_
  obtain ⟨v2, e_v2, h⟩ := x_bnd h
  refine x_getI hz dX12_word_105 fs_X12_134 e_v2 ?_
  refine x_isub hz dX12_word_108 ?_
  refine x_bipush (v := (8 : Int32)) hz dX12_word_109 (by decide) ?_
  refine x_icmp_le (t := 118) hz dX12_word_111 (by decide) (fun c3 => ?_) (fun c3 => ?_)
  · replace h := x_ip c3 h
    refine x_lload_n hz dX12_word_118 rfl ?_
    cases h
    exact x_lret hZ dX12_word_119
  · replace h := x_in c3 h
    refine x_lconst (v := (0 : Int64)) hz dX12_word_114 (by decide) ?_
    refine x_goto (t := 119) hz dX12_word_115 (by decide) ?_
    cases h
    exact x_lret hZ dX12_word_119
noncomputable def F_X12_word (N : Nat) (a0 : (Option Nat)) (H : xH) : Option (Int64 × xH) :=
  (xob H a0 11).bind fun b2 =>
  (F_X12_blanks N a0 H).bind fun H1 =>
  (xgI H1 a0 11 33).bind fun v3 =>
  (xpI H1 a0 11 38 v3).bind fun H4 =>
  (F_X12_word_L14 N (F_X12_word_J100 N) N) a0 (0 : Int64) H4
set_option maxRecDepth 20000 in
set_option maxHeartbeats 4000000 in
theorem P_X12_word {N : Nat} {Z : xZ} {rv : Int64} {Hf : xH} (hZ : Z = xZm cX12_word yX12_word 3 2 (some .long) (some (.long rv)) Hf) : ∀ (a0 : (Option Nat)) (H : xH), F_X12_word N a0 H = some (rv, Hf) → xWq Z H 0 [xA a0, xN, xN] [] := by
  have hz : Z.1 = (cX12_word, yX12_word, 3) := by rw [hZ]; rfl
  have hδ : Z.2.1 = 2 := by rw [hZ]; rfl
  intro a0 H h
  unfold F_X12_word at h
  refine x_aload_n hz dX12_word_0 rfl ?_
  obtain ⟨b2, e_b2, h⟩ := x_bnd h
  obtain ⟨H1, e_H1, h⟩ := x_bnd h
  refine x_callVv (as := []) (st := []) cs_X12_140 (ci := 11) ⟨rfl, rfl⟩ rfl rfl hz (by omega) (by decide) dX12_word_1 e_b2 (M_X12_blanks e_H1) ?_
  refine x_aload_n hz dX12_word_4 rfl ?_
  refine x_aload_n hz dX12_word_5 rfl ?_
  obtain ⟨v3, e_v3, h⟩ := x_bnd h
  refine x_getI hz dX12_word_6 fs_X12_134 e_v3 ?_
  obtain ⟨H4, e_H4, h⟩ := x_bnd h
  refine x_putV (v := .int v3) hz dX12_word_9 fs_X12_143 rfl rfl e_H4 ?_
  refine x_lconst (v := (0 : Int64)) hz dX12_word_12 (by decide) ?_
  refine x_lstore_n (pl' := [xA a0, xJ (0 : Int64), xN]) hz dX12_word_13 (by decide) rfl ?_
  exact x_wk (xwk_c (xwk_c (xwk_n xwk_0))) ((P_X12_word_L14 hZ (P_X12_word_J100 hZ) N) a0 (0 : Int64) H4 h)
theorem M_X12_word {N : Nat} {a0 : (Option Nat)} {H H1 : xH} {r1 : Int64} (h : F_X12_word N a0 H = some (r1, H1)) : xM yX12_word cX12_word 3 (some .long) 2 [.inr (.inr a0)] H (some (.long r1)) H1 :=
  xM_of (by decide +kernel) (xT_tb 1248 (by decide +kernel) (by decide +kernel)) (by simp [xargs, x2]) rfl (P_X12_word rfl a0 H h)
/-! BettingBookModel.takes(J)Z -/
noncomputable def F_X12_takes (N : Nat) (a0 : (Option Nat)) (a1 : Int64) (H : xH) : Option (Int32 × xH) :=
  (xob H a0 11).bind fun b2 =>
  x_bd2 (F_X12_word N a0 H) fun v3 H1 =>
  if (lg_cmp v3 a1) = 0 then ((xgI H1 a0 11 38).bind fun v5 =>
  (xpI H1 a0 11 33 v5).bind fun H6 =>
  some ((1 : Int32), H6)) else (some ((0 : Int32), H1))
set_option maxRecDepth 20000 in
set_option maxHeartbeats 4000000 in
theorem P_X12_takes {N : Nat} {Z : xZ} {rv : Int32} {Hf : xH} (hZ : Z = xZm cX12_takes yX12_takes 3 3 (some .boolean) (some (.int rv)) Hf) : ∀ (a0 : (Option Nat)) (a1 : Int64) (H : xH), F_X12_takes N a0 a1 H = some (rv, Hf) → xWq Z H 0 [xA a0, xJ a1, xN] [] := by
  have hz : Z.1 = (cX12_takes, yX12_takes, 3) := by rw [hZ]; rfl
  have hδ : Z.2.1 = 3 := by rw [hZ]; rfl
  intro a0 a1 H h
  unfold F_X12_takes at h
  refine x_aload_n hz dX12_takes_0 rfl ?_
  obtain ⟨b2, e_b2, h⟩ := x_bnd h
  obtain ⟨v3, H1, e_H1, h⟩ := x_b2 h
  refine x_callVl (as := []) (st := []) cs_X12_146 (ci := 11) ⟨rfl, rfl⟩ rfl rfl hz (by omega) (by decide) dX12_takes_1 e_b2 (M_X12_word e_H1) ?_
  refine x_lload_n hz dX12_takes_4 rfl ?_
  refine x_lcmp hz dX12_takes_5 ?_
  refine x_if_eq (t := 11) hz dX12_takes_6 (by decide) (fun c4 => ?_) (fun c4 => ?_)
  · replace h := x_ip c4 h
    refine x_aload_n hz dX12_takes_11 rfl ?_
    refine x_aload_n hz dX12_takes_12 rfl ?_
    obtain ⟨v5, e_v5, h⟩ := x_bnd h
    refine x_getI hz dX12_takes_13 fs_X12_143 e_v5 ?_
    obtain ⟨H6, e_H6, h⟩ := x_bnd h
    refine x_putV (v := .int v5) hz dX12_takes_16 fs_X12_134 rfl rfl e_H6 ?_
    refine x_iconst (v := (1 : Int32)) hz dX12_takes_19 (by decide) ?_
    cases h
    exact x_zret01 hZ (Or.inr rfl) dX12_takes_20
  · replace h := x_in c4 h
    refine x_iconst (v := (0 : Int32)) hz dX12_takes_9 (by decide) ?_
    cases h
    exact x_zret01 hZ (Or.inl rfl) dX12_takes_10
theorem M_X12_takes {N : Nat} {a0 : (Option Nat)} {a1 : Int64} {H H1 : xH} {r1 : Int32} (h : F_X12_takes N a0 a1 H = some (r1, H1)) : xM yX12_takes cX12_takes 3 (some .boolean) 3 [.inr (.inr a0), .inr (.inl a1)] H (some (.int r1)) H1 :=
  xM_of (by decide +kernel) (xT_tb 1244 (by decide +kernel) (by decide +kernel)) (by simp [xargs, x2]) rfl (P_X12_takes rfl a0 a1 H h)
/-! BettingBookModel.takesSign(I)Z -/
noncomputable def F_X12_takesSign (N : Nat) (a0 : (Option Nat)) (a1 : Int32) (H : xH) : Option (Int32 × xH) :=
  (xob H a0 11).bind fun b2 =>
  (F_X12_blanks N a0 H).bind fun H1 =>
  (xgI H1 a0 11 33).bind fun v3 =>
  (xgI H1 a0 11 32).bind fun v4 =>
  if v3 = v4 then (some ((0 : Int32), H1)) else ((xgA H1 a0 11 37).bind fun v6 =>
  (xgI H1 a0 11 33).bind fun v7 =>
  (xlI .byte H1 v6 v7).bind fun v8 =>
  if v8 = a1 then ((xgI H1 a0 11 33).bind fun v10 =>
  (xpI H1 a0 11 33 (v10 + (1 : Int32))).bind fun H11 =>
  some ((1 : Int32), H11)) else (some ((0 : Int32), H1)))
set_option maxRecDepth 20000 in
set_option maxHeartbeats 4000000 in
theorem P_X12_takesSign {N : Nat} {Z : xZ} {rv : Int32} {Hf : xH} (hZ : Z = xZm cX12_takesSign yX12_takesSign 2 2 (some .boolean) (some (.int rv)) Hf) : ∀ (a0 : (Option Nat)) (a1 : Int32) (H : xH), F_X12_takesSign N a0 a1 H = some (rv, Hf) → xWq Z H 0 [xA a0, xI a1] [] := by
  have hz : Z.1 = (cX12_takesSign, yX12_takesSign, 2) := by rw [hZ]; rfl
  have hδ : Z.2.1 = 2 := by rw [hZ]; rfl
  intro a0 a1 H h
  unfold F_X12_takesSign at h
  refine x_aload_n hz dX12_takesSign_0 rfl ?_
  obtain ⟨b2, e_b2, h⟩ := x_bnd h
  obtain ⟨H1, e_H1, h⟩ := x_bnd h
  refine x_callVv (as := []) (st := []) cs_X12_140 (ci := 11) ⟨rfl, rfl⟩ rfl rfl hz (by omega) (by decide) dX12_takesSign_1 e_b2 (M_X12_blanks e_H1) ?_
  refine x_aload_n hz dX12_takesSign_4 rfl ?_
  obtain ⟨v3, e_v3, h⟩ := x_bnd h
  refine x_getI hz dX12_takesSign_5 fs_X12_134 e_v3 ?_
  refine x_aload_n hz dX12_takesSign_8 rfl ?_
  obtain ⟨v4, e_v4, h⟩ := x_bnd h
  refine x_getI hz dX12_takesSign_9 fs_X12_137 e_v4 ?_
  refine x_icmp_eq (t := 28) hz dX12_takesSign_12 (by decide) (fun c5 => ?_) (fun c5 => ?_)
  · replace h := x_ip c5 h
    refine x_iconst (v := (0 : Int32)) hz dX12_takesSign_28 (by decide) ?_
    cases h
    exact x_zret01 hZ (Or.inl rfl) dX12_takesSign_29
  · replace h := x_in c5 h
    refine x_aload_n hz dX12_takesSign_15 rfl ?_
    obtain ⟨v6, e_v6, h⟩ := x_bnd h
    refine x_getA hz dX12_takesSign_16 fs_X12_76 e_v6 ?_
    refine x_aload_n hz dX12_takesSign_19 rfl ?_
    obtain ⟨v7, e_v7, h⟩ := x_bnd h
    refine x_getI hz dX12_takesSign_20 fs_X12_134 e_v7 ?_
    obtain ⟨v8, e_v8, h⟩ := x_bnd h
    refine x_bald hz dX12_takesSign_23 e_v8 ?_
    refine x_iload_n hz dX12_takesSign_24 rfl ?_
    refine x_icmp_eq (t := 30) hz dX12_takesSign_25 (by decide) (fun c9 => ?_) (fun c9 => ?_)
    · replace h := x_ip c9 h
      refine x_aload_n hz dX12_takesSign_30 rfl ?_
      refine x_dup hz dX12_takesSign_31 (x_rfc _) ?_
      obtain ⟨v10, e_v10, h⟩ := x_bnd h
      refine x_getI hz dX12_takesSign_32 fs_X12_134 e_v10 ?_
      refine x_iconst (v := (1 : Int32)) hz dX12_takesSign_35 (by decide) ?_
      refine x_iadd hz dX12_takesSign_36 ?_
      obtain ⟨H11, e_H11, h⟩ := x_bnd h
      refine x_putV (v := .int (v10 + (1 : Int32))) hz dX12_takesSign_37 fs_X12_134 rfl rfl e_H11 ?_
      refine x_iconst (v := (1 : Int32)) hz dX12_takesSign_40 (by decide) ?_
      cases h
      exact x_zret01 hZ (Or.inr rfl) dX12_takesSign_41
    · replace h := x_in c9 h
      refine x_iconst (v := (0 : Int32)) hz dX12_takesSign_28 (by decide) ?_
      cases h
      exact x_zret01 hZ (Or.inl rfl) dX12_takesSign_29
theorem M_X12_takesSign {N : Nat} {a0 : (Option Nat)} {a1 : Int32} {H H1 : xH} {r1 : Int32} (h : F_X12_takesSign N a0 a1 H = some (r1, H1)) : xM yX12_takesSign cX12_takesSign 2 (some .boolean) 2 [.inr (.inr a0), .inl a1] H (some (.int r1)) H1 :=
  xM_of (by decide +kernel) (xT_tb 1328 (by decide +kernel) (by decide +kernel)) (by simp [xargs, x2]) rfl (P_X12_takesSign rfl a0 a1 H h)
/-! BettingBookModel.takesNumber(II)Z -/
noncomputable def F_X12_takesNumber_J75 (N : Nat) (k14 : (Option Nat) → Int32 → Int32 → Int32 → xH → Option (Int32 × xH)) (x0 : (Option Nat)) (x1 : Int32) (x2 : Int32) (x3 : Int32) (H : xH) : Option (Int32 × xH) :=
  k14 x0 x1 x2 (x3 + 1) H
set_option maxRecDepth 20000 in
set_option maxHeartbeats 4000000 in
theorem P_X12_takesNumber_J75 {N : Nat} {Z : xZ} {rv : Int32} {Hf : xH} (hZ : Z = xZm cX12_takesNumber yX12_takesNumber 4 2 (some .boolean) (some (.int rv)) Hf) {k14 : (Option Nat) → Int32 → Int32 → Int32 → xH → Option (Int32 × xH)} (hk14 : ∀ (x0 : (Option Nat)) (x1 : Int32) (x2 : Int32) (x3 : Int32) (H : xH), k14 x0 x1 x2 x3 H = some (rv, Hf) → xWq Z H 14 [xA x0, xI x1, xI x2, xI x3] []) : ∀ (x0 : (Option Nat)) (x1 : Int32) (x2 : Int32) (x3 : Int32) (H : xH), F_X12_takesNumber_J75 N k14 x0 x1 x2 x3 H = some (rv, Hf) → xWq Z H 75 [xA x0, xI x1, xI x2, xI x3] [] := by
  have hz : Z.1 = (cX12_takesNumber, yX12_takesNumber, 4) := by rw [hZ]; rfl
  have hδ : Z.2.1 = 2 := by rw [hZ]; rfl
  intro x0 x1 x2 x3 H h
  unfold F_X12_takesNumber_J75 at h
  refine x_iinc (w := (x3 + 1)) (pl' := [xA x0, xI x1, xI x2, xI (x3 + 1)]) hz dX12_takesNumber_75 rfl rfl (by decide) rfl ?_
  refine x_goto (t := 14) hz dX12_takesNumber_78 (by decide) ?_
  exact x_wk (xwk_c (xwk_c (xwk_c (xwk_c xwk_0)))) (hk14 x0 x1 x2 (x3 + 1) H h)
noncomputable def F_X12_takesNumber_J14 (N : Nat) (k14 : (Option Nat) → Int32 → Int32 → Int32 → xH → Option (Int32 × xH)) (k81 : (Option Nat) → Int32 → Int32 → Int32 → xH → Option (Int32 × xH)) (x0 : (Option Nat)) (x1 : Int32) (x2 : Int32) (x3 : Int32) (H : xH) : Option (Int32 × xH) :=
  (xgI H x0 11 32).bind fun v1 =>
  if v1 ≤ x3 then (k81 x0 x1 x2 x3 H) else ((xgA H x0 11 37).bind fun v3 =>
  (xlI .byte H v3 x3).bind fun v4 =>
  if v4 < (48 : Int32) then (k81 x0 x1 x2 x3 H) else ((xgA H x0 11 37).bind fun v6 =>
  (xlI .byte H v6 x3).bind fun v7 =>
  if (57 : Int32) < v7 then (k81 x0 x1 x2 x3 H) else ((xgI H x0 11 33).bind fun v9 =>
  if (3 : Int32) ≤ (x3 - v9) then ((F_X12_takesNumber_J75 N k14) x0 x1 x2 x3 H) else ((xgI H x0 11 39).bind fun v11 =>
  (xgA H x0 11 37).bind fun v12 =>
  (xlI .byte H v12 x3).bind fun v13 =>
  (xpI H x0 11 39 ((((10 : Int32) * v11) + v13) - (48 : Int32))).bind fun H14 =>
  (F_X12_takesNumber_J75 N k14) x0 x1 x2 x3 H14))))
set_option maxRecDepth 20000 in
set_option maxHeartbeats 4000000 in
theorem P_X12_takesNumber_J14 {N : Nat} {Z : xZ} {rv : Int32} {Hf : xH} (hZ : Z = xZm cX12_takesNumber yX12_takesNumber 4 2 (some .boolean) (some (.int rv)) Hf) {k14 : (Option Nat) → Int32 → Int32 → Int32 → xH → Option (Int32 × xH)} (hk14 : ∀ (x0 : (Option Nat)) (x1 : Int32) (x2 : Int32) (x3 : Int32) (H : xH), k14 x0 x1 x2 x3 H = some (rv, Hf) → xWq Z H 14 [xA x0, xI x1, xI x2, xI x3] []) {k81 : (Option Nat) → Int32 → Int32 → Int32 → xH → Option (Int32 × xH)} (hk81 : ∀ (x0 : (Option Nat)) (x1 : Int32) (x2 : Int32) (x3 : Int32) (H : xH), k81 x0 x1 x2 x3 H = some (rv, Hf) → xWq Z H 81 [xA x0, xI x1, xI x2, xI x3] []) : ∀ (x0 : (Option Nat)) (x1 : Int32) (x2 : Int32) (x3 : Int32) (H : xH), F_X12_takesNumber_J14 N k14 k81 x0 x1 x2 x3 H = some (rv, Hf) → xWq Z H 14 [xA x0, xI x1, xI x2, xI x3] [] := by
  have hz : Z.1 = (cX12_takesNumber, yX12_takesNumber, 4) := by rw [hZ]; rfl
  have hδ : Z.2.1 = 2 := by rw [hZ]; rfl
  intro x0 x1 x2 x3 H h
  unfold F_X12_takesNumber_J14 at h
  refine x_iload_n hz dX12_takesNumber_14 rfl ?_
  refine x_aload_n hz dX12_takesNumber_15 rfl ?_
  obtain ⟨v1, e_v1, h⟩ := x_bnd h
  refine x_getI hz dX12_takesNumber_16 fs_X12_137 e_v1 ?_
  refine x_icmp_ge (t := 81) hz dX12_takesNumber_19 (by decide) (fun c2 => ?_) (fun c2 => ?_)
  · replace h := x_ip c2 h
    exact x_wk (xwk_c (xwk_c (xwk_c (xwk_c xwk_0)))) (hk81 x0 x1 x2 x3 H h)
  · replace h := x_in c2 h
    refine x_aload_n hz dX12_takesNumber_22 rfl ?_
    obtain ⟨v3, e_v3, h⟩ := x_bnd h
    refine x_getA hz dX12_takesNumber_23 fs_X12_76 e_v3 ?_
    refine x_iload_n hz dX12_takesNumber_26 rfl ?_
    obtain ⟨v4, e_v4, h⟩ := x_bnd h
    refine x_bald hz dX12_takesNumber_27 e_v4 ?_
    refine x_bipush (v := (48 : Int32)) hz dX12_takesNumber_28 (by decide) ?_
    refine x_icmp_lt (t := 81) hz dX12_takesNumber_30 (by decide) (fun c5 => ?_) (fun c5 => ?_)
    · replace h := x_ip c5 h
      exact x_wk (xwk_c (xwk_c (xwk_c (xwk_c xwk_0)))) (hk81 x0 x1 x2 x3 H h)
    · replace h := x_in c5 h
      refine x_aload_n hz dX12_takesNumber_33 rfl ?_
      obtain ⟨v6, e_v6, h⟩ := x_bnd h
      refine x_getA hz dX12_takesNumber_34 fs_X12_76 e_v6 ?_
      refine x_iload_n hz dX12_takesNumber_37 rfl ?_
      obtain ⟨v7, e_v7, h⟩ := x_bnd h
      refine x_bald hz dX12_takesNumber_38 e_v7 ?_
      refine x_bipush (v := (57 : Int32)) hz dX12_takesNumber_39 (by decide) ?_
      refine x_icmp_gt (t := 81) hz dX12_takesNumber_41 (by decide) (fun c8 => ?_) (fun c8 => ?_)
      · replace h := x_ip c8 h
        exact x_wk (xwk_c (xwk_c (xwk_c (xwk_c xwk_0)))) (hk81 x0 x1 x2 x3 H h)
      · replace h := x_in c8 h
        refine x_iload_n hz dX12_takesNumber_44 rfl ?_
        refine x_aload_n hz dX12_takesNumber_45 rfl ?_
        obtain ⟨v9, e_v9, h⟩ := x_bnd h
        refine x_getI hz dX12_takesNumber_46 fs_X12_134 e_v9 ?_
        refine x_isub hz dX12_takesNumber_49 ?_
        refine x_iconst (v := (3 : Int32)) hz dX12_takesNumber_50 (by decide) ?_
        refine x_icmp_ge (t := 75) hz dX12_takesNumber_51 (by decide) (fun c10 => ?_) (fun c10 => ?_)
        · replace h := x_ip c10 h
          exact x_wk (xwk_c (xwk_c (xwk_c (xwk_c xwk_0)))) ((P_X12_takesNumber_J75 hZ hk14) x0 x1 x2 x3 H h)
        · replace h := x_in c10 h
          refine x_aload_n hz dX12_takesNumber_54 rfl ?_
          refine x_bipush (v := (10 : Int32)) hz dX12_takesNumber_55 (by decide) ?_
          refine x_aload_n hz dX12_takesNumber_57 rfl ?_
          obtain ⟨v11, e_v11, h⟩ := x_bnd h
          refine x_getI hz dX12_takesNumber_58 fs_X12_150 e_v11 ?_
          refine x_imul hz dX12_takesNumber_61 ?_
          refine x_aload_n hz dX12_takesNumber_62 rfl ?_
          obtain ⟨v12, e_v12, h⟩ := x_bnd h
          refine x_getA hz dX12_takesNumber_63 fs_X12_76 e_v12 ?_
          refine x_iload_n hz dX12_takesNumber_66 rfl ?_
          obtain ⟨v13, e_v13, h⟩ := x_bnd h
          refine x_bald hz dX12_takesNumber_67 e_v13 ?_
          refine x_iadd hz dX12_takesNumber_68 ?_
          refine x_bipush (v := (48 : Int32)) hz dX12_takesNumber_69 (by decide) ?_
          refine x_isub hz dX12_takesNumber_71 ?_
          obtain ⟨H14, e_H14, h⟩ := x_bnd h
          refine x_putV (v := .int ((((10 : Int32) * v11) + v13) - (48 : Int32))) hz dX12_takesNumber_72 fs_X12_150 rfl rfl e_H14 ?_
          exact x_wk (xwk_c (xwk_c (xwk_c (xwk_c xwk_0)))) ((P_X12_takesNumber_J75 hZ hk14) x0 x1 x2 x3 H14 h)
noncomputable def F_X12_takesNumber_L14 (N : Nat) (k81 : (Option Nat) → Int32 → Int32 → Int32 → xH → Option (Int32 × xH)) : Nat → (Option Nat) → Int32 → Int32 → Int32 → xH → Option (Int32 × xH)
  | 0 => fun _ _ _ _ _ => none
  | n + 1 => F_X12_takesNumber_J14 N (F_X12_takesNumber_L14 N k81 n) k81
theorem P_X12_takesNumber_L14 {N : Nat} {Z : xZ} {rv : Int32} {Hf : xH} (hZ : Z = xZm cX12_takesNumber yX12_takesNumber 4 2 (some .boolean) (some (.int rv)) Hf) {k81 : (Option Nat) → Int32 → Int32 → Int32 → xH → Option (Int32 × xH)} (hk81 : ∀ (x0 : (Option Nat)) (x1 : Int32) (x2 : Int32) (x3 : Int32) (H : xH), k81 x0 x1 x2 x3 H = some (rv, Hf) → xWq Z H 81 [xA x0, xI x1, xI x2, xI x3] []) : ∀ (n : Nat) (x0 : (Option Nat)) (x1 : Int32) (x2 : Int32) (x3 : Int32) (H : xH), F_X12_takesNumber_L14 N k81 n x0 x1 x2 x3 H = some (rv, Hf) → xWq Z H 14 [xA x0, xI x1, xI x2, xI x3] [] := by
  intro n
  induction n with
  | zero => intro _ _ _ _ _ h; cases h
  | succ n ih => exact P_X12_takesNumber_J14 hZ ih hk81
noncomputable def F_X12_takesNumber_J81 (N : Nat) (x0 : (Option Nat)) (x1 : Int32) (x2 : Int32) (x3 : Int32) (H : xH) : Option (Int32 × xH) :=
  (xgI H x0 11 33).bind fun v1 =>
  if x3 = v1 then (some ((0 : Int32), H)) else ((xgI H x0 11 33).bind fun v3 =>
  if (3 : Int32) < (x3 - v3) then (some ((0 : Int32), H)) else ((xgI H x0 11 39).bind fun v5 =>
  x_bd2 (F_X12_isIn N v5 x1 x2 H) fun v7 H6 =>
  if v7 = 0 then (some ((0 : Int32), H6)) else ((xpI H6 x0 11 33 x3).bind fun H9 =>
  some ((1 : Int32), H9))))
set_option maxRecDepth 20000 in
set_option maxHeartbeats 4000000 in
theorem P_X12_takesNumber_J81 {N : Nat} {Z : xZ} {rv : Int32} {Hf : xH} (hZ : Z = xZm cX12_takesNumber yX12_takesNumber 4 2 (some .boolean) (some (.int rv)) Hf) : ∀ (x0 : (Option Nat)) (x1 : Int32) (x2 : Int32) (x3 : Int32) (H : xH), F_X12_takesNumber_J81 N x0 x1 x2 x3 H = some (rv, Hf) → xWq Z H 81 [xA x0, xI x1, xI x2, xI x3] [] := by
  have hz : Z.1 = (cX12_takesNumber, yX12_takesNumber, 4) := by rw [hZ]; rfl
  have hδ : Z.2.1 = 2 := by rw [hZ]; rfl
  intro x0 x1 x2 x3 H h
  unfold F_X12_takesNumber_J81 at h
  refine x_iload_n hz dX12_takesNumber_81 rfl ?_
  refine x_aload_n hz dX12_takesNumber_82 rfl ?_
  obtain ⟨v1, e_v1, h⟩ := x_bnd h
  refine x_getI hz dX12_takesNumber_83 fs_X12_134 e_v1 ?_
  refine x_icmp_eq (t := 111) hz dX12_takesNumber_86 (by decide) (fun c2 => ?_) (fun c2 => ?_)
  · replace h := x_ip c2 h
    refine x_iconst (v := (0 : Int32)) hz dX12_takesNumber_111 (by decide) ?_
    cases h
    exact x_zret01 hZ (Or.inl rfl) dX12_takesNumber_112
  · replace h := x_in c2 h
    refine x_iload_n hz dX12_takesNumber_89 rfl ?_
    refine x_aload_n hz dX12_takesNumber_90 rfl ?_
    obtain ⟨v3, e_v3, h⟩ := x_bnd h
    refine x_getI hz dX12_takesNumber_91 fs_X12_134 e_v3 ?_
    refine x_isub hz dX12_takesNumber_94 ?_
    refine x_iconst (v := (3 : Int32)) hz dX12_takesNumber_95 (by decide) ?_
    refine x_icmp_gt (t := 111) hz dX12_takesNumber_96 (by decide) (fun c4 => ?_) (fun c4 => ?_)
    · replace h := x_ip c4 h
      refine x_iconst (v := (0 : Int32)) hz dX12_takesNumber_111 (by decide) ?_
      cases h
      exact x_zret01 hZ (Or.inl rfl) dX12_takesNumber_112
    · replace h := x_in c4 h
      refine x_aload_n hz dX12_takesNumber_99 rfl ?_
      obtain ⟨v5, e_v5, h⟩ := x_bnd h
      refine x_getI hz dX12_takesNumber_100 fs_X12_150 e_v5 ?_
      refine x_iload_n hz dX12_takesNumber_103 rfl ?_
      refine x_iload_n hz dX12_takesNumber_104 rfl ?_
      obtain ⟨v7, H6, e_H6, h⟩ := x_b2 h
      refine x_callSi (as := [.inl v5, .inl x1, .inl x2]) (st := []) cs_X12_153 rfl rfl hz (by omega) (by decide) dX12_takesNumber_105 (M_X12_isIn e_H6) ?_
      refine x_if_ne (t := 113) hz dX12_takesNumber_108 (by decide) (fun c8 => ?_) (fun c8 => ?_)
      · replace h := x_in c8 h
        refine x_aload_n hz dX12_takesNumber_113 rfl ?_
        refine x_iload_n hz dX12_takesNumber_114 rfl ?_
        obtain ⟨H9, e_H9, h⟩ := x_bnd h
        refine x_putV (v := .int x3) hz dX12_takesNumber_115 fs_X12_134 rfl rfl e_H9 ?_
        refine x_iconst (v := (1 : Int32)) hz dX12_takesNumber_118 (by decide) ?_
        cases h
        exact x_zret01 hZ (Or.inr rfl) dX12_takesNumber_119
      · replace h := x_ip c8 h
        refine x_iconst (v := (0 : Int32)) hz dX12_takesNumber_111 (by decide) ?_
        cases h
        exact x_zret01 hZ (Or.inl rfl) dX12_takesNumber_112
noncomputable def F_X12_takesNumber (N : Nat) (a0 : (Option Nat)) (a1 : Int32) (a2 : Int32) (H : xH) : Option (Int32 × xH) :=
  (xob H a0 11).bind fun b2 =>
  (F_X12_blanks N a0 H).bind fun H1 =>
  (xgI H1 a0 11 33).bind fun v3 =>
  (xpI H1 a0 11 39 (0 : Int32)).bind fun H4 =>
  (F_X12_takesNumber_L14 N (F_X12_takesNumber_J81 N) N) a0 a1 a2 v3 H4
set_option maxRecDepth 20000 in
set_option maxHeartbeats 4000000 in
theorem P_X12_takesNumber {N : Nat} {Z : xZ} {rv : Int32} {Hf : xH} (hZ : Z = xZm cX12_takesNumber yX12_takesNumber 4 2 (some .boolean) (some (.int rv)) Hf) : ∀ (a0 : (Option Nat)) (a1 : Int32) (a2 : Int32) (H : xH), F_X12_takesNumber N a0 a1 a2 H = some (rv, Hf) → xWq Z H 0 [xA a0, xI a1, xI a2, xN] [] := by
  have hz : Z.1 = (cX12_takesNumber, yX12_takesNumber, 4) := by rw [hZ]; rfl
  have hδ : Z.2.1 = 2 := by rw [hZ]; rfl
  intro a0 a1 a2 H h
  unfold F_X12_takesNumber at h
  refine x_aload_n hz dX12_takesNumber_0 rfl ?_
  obtain ⟨b2, e_b2, h⟩ := x_bnd h
  obtain ⟨H1, e_H1, h⟩ := x_bnd h
  refine x_callVv (as := []) (st := []) cs_X12_140 (ci := 11) ⟨rfl, rfl⟩ rfl rfl hz (by omega) (by decide) dX12_takesNumber_1 e_b2 (M_X12_blanks e_H1) ?_
  refine x_aload_n hz dX12_takesNumber_4 rfl ?_
  obtain ⟨v3, e_v3, h⟩ := x_bnd h
  refine x_getI hz dX12_takesNumber_5 fs_X12_134 e_v3 ?_
  refine x_istore_n (pl' := [xA a0, xI a1, xI a2, xI v3]) hz dX12_takesNumber_8 (by decide) rfl ?_
  refine x_aload_n hz dX12_takesNumber_9 rfl ?_
  refine x_iconst (v := (0 : Int32)) hz dX12_takesNumber_10 (by decide) ?_
  obtain ⟨H4, e_H4, h⟩ := x_bnd h
  refine x_putV (v := .int (0 : Int32)) hz dX12_takesNumber_11 fs_X12_150 rfl rfl e_H4 ?_
  exact x_wk (xwk_c (xwk_c (xwk_c (xwk_c xwk_0)))) ((P_X12_takesNumber_L14 hZ (P_X12_takesNumber_J81 hZ) N) a0 a1 a2 v3 H4 h)
theorem M_X12_takesNumber {N : Nat} {a0 : (Option Nat)} {a1 : Int32} {a2 : Int32} {H H1 : xH} {r1 : Int32} (h : F_X12_takesNumber N a0 a1 a2 H = some (r1, H1)) : xM yX12_takesNumber cX12_takesNumber 4 (some .boolean) 2 [.inr (.inr a0), .inl a1, .inl a2] H (some (.int r1)) H1 :=
  xM_of (by decide +kernel) (xT_tb 1284 (by decide +kernel) (by decide +kernel)) (by simp [xargs, x2]) rfl (P_X12_takesNumber rfl a0 a1 a2 H h)
/-! BettingBookModel.isKept(J)Z -/
noncomputable def F_X12_isKept (N : Nat) (a0 : Int64) (H : xH) : Option (Int32 × xH) :=
  if (lg_cmp a0 (499967946343 : Int64)) = 0 then (some ((1 : Int32), H)) else (if (lg_cmp a0 (1718775661 : Int64)) = 0 then (some ((1 : Int32), H)) else (if (lg_cmp a0 (504364296556 : Int64)) = 0 then (some ((1 : Int32), H)) else (if (lg_cmp a0 (120282394289522 : Int64)) = 0 then (some ((1 : Int32), H)) else (if (lg_cmp a0 (1650553459 : Int64)) = 0 then (some ((1 : Int32), H)) else (if (lg_cmp a0 (108243534636915 : Int64)) = 0 then (some ((1 : Int32), H)) else (if (lg_cmp a0 (26990 : Int64)) = 0 then (some ((1 : Int32), H)) else (if (lg_cmp a0 (6448500 : Int64)) = 0 then (some ((1 : Int32), H)) else (if (lg_cmp a0 (29807 : Int64)) = 0 then (some ((1 : Int32), H)) else (if (lg_cmp a0 (1952997748 : Int64)) = 0 then (some ((1 : Int32), H)) else (if (lg_cmp a0 (7300710 : Int64)) = 0 then (some ((1 : Int32), H)) else (if (lg_cmp a0 (110429873532005 : Int64)) = 0 then (some ((1 : Int32), H)) else (if (lg_cmp a0 (28530 : Int64)) = 0 then (some ((1 : Int32), H)) else (if (lg_cmp a0 (6385252 : Int64)) = 0 then (some ((1 : Int32), H)) else (if (lg_cmp a0 (7237492 : Int64)) = 0 then (some ((1 : Int32), H)) else (if (lg_cmp a0 (427071202675 : Int64)) = 0 then (some ((1 : Int32), H)) else (if (lg_cmp a0 (25209 : Int64)) = 0 then (some ((1 : Int32), H)) else (if (lg_cmp a0 (108187649798757 : Int64)) = 0 then (some ((1 : Int32), H)) else (if (lg_cmp a0 (465557353332 : Int64)) = 0 then (some ((1 : Int32), H)) else (some ((0 : Int32), H))))))))))))))))))))
set_option maxRecDepth 20000 in
set_option maxHeartbeats 4000000 in
theorem P_X12_isKept {N : Nat} {Z : xZ} {rv : Int32} {Hf : xH} (hZ : Z = xZm cX12_isKept yX12_isKept 2 1 (some .boolean) (some (.int rv)) Hf) : ∀ (a0 : Int64) (H : xH), F_X12_isKept N a0 H = some (rv, Hf) → xWq Z H 0 [xJ a0, xN] [] := by
  have hz : Z.1 = (cX12_isKept, yX12_isKept, 2) := by rw [hZ]; rfl
  have hδ : Z.2.1 = 1 := by rw [hZ]; rfl
  intro a0 H h
  unfold F_X12_isKept at h
  refine x_lload_n hz dX12_isKept_0 rfl ?_
  refine x_ldc2 (v := (499967946343 : Int64)) hz dX12_isKept_1 wc_X12_157 ?_
  refine x_lcmp hz dX12_isKept_4 ?_
  refine x_if_eq (t := 80) hz dX12_isKept_5 (by decide) (fun c1 => ?_) (fun c1 => ?_)
  · replace h := x_ip c1 h
    refine x_iconst (v := (1 : Int32)) hz dX12_isKept_80 (by decide) ?_
    cases h
    exact x_zret01 hZ (Or.inr rfl) dX12_isKept_81
  · replace h := x_in c1 h
    refine x_lload_n hz dX12_isKept_8 rfl ?_
    refine x_ldc2 (v := (1718775661 : Int64)) hz dX12_isKept_9 wc_X12_159 ?_
    refine x_lcmp hz dX12_isKept_12 ?_
    refine x_if_eq (t := 80) hz dX12_isKept_13 (by decide) (fun c2 => ?_) (fun c2 => ?_)
    · replace h := x_ip c2 h
      refine x_iconst (v := (1 : Int32)) hz dX12_isKept_80 (by decide) ?_
      cases h
      exact x_zret01 hZ (Or.inr rfl) dX12_isKept_81
    · replace h := x_in c2 h
      refine x_lload_n hz dX12_isKept_16 rfl ?_
      refine x_ldc2 (v := (504364296556 : Int64)) hz dX12_isKept_17 wc_X12_161 ?_
      refine x_lcmp hz dX12_isKept_20 ?_
      refine x_if_eq (t := 80) hz dX12_isKept_21 (by decide) (fun c3 => ?_) (fun c3 => ?_)
      · replace h := x_ip c3 h
        refine x_iconst (v := (1 : Int32)) hz dX12_isKept_80 (by decide) ?_
        cases h
        exact x_zret01 hZ (Or.inr rfl) dX12_isKept_81
      · replace h := x_in c3 h
        refine x_lload_n hz dX12_isKept_24 rfl ?_
        refine x_ldc2 (v := (120282394289522 : Int64)) hz dX12_isKept_25 wc_X12_163 ?_
        refine x_lcmp hz dX12_isKept_28 ?_
        refine x_if_eq (t := 80) hz dX12_isKept_29 (by decide) (fun c4 => ?_) (fun c4 => ?_)
        · replace h := x_ip c4 h
          refine x_iconst (v := (1 : Int32)) hz dX12_isKept_80 (by decide) ?_
          cases h
          exact x_zret01 hZ (Or.inr rfl) dX12_isKept_81
        · replace h := x_in c4 h
          refine x_lload_n hz dX12_isKept_32 rfl ?_
          refine x_ldc2 (v := (1650553459 : Int64)) hz dX12_isKept_33 wc_X12_165 ?_
          refine x_lcmp hz dX12_isKept_36 ?_
          refine x_if_eq (t := 80) hz dX12_isKept_37 (by decide) (fun c5 => ?_) (fun c5 => ?_)
          · replace h := x_ip c5 h
            refine x_iconst (v := (1 : Int32)) hz dX12_isKept_80 (by decide) ?_
            cases h
            exact x_zret01 hZ (Or.inr rfl) dX12_isKept_81
          · replace h := x_in c5 h
            refine x_lload_n hz dX12_isKept_40 rfl ?_
            refine x_ldc2 (v := (108243534636915 : Int64)) hz dX12_isKept_41 wc_X12_167 ?_
            refine x_lcmp hz dX12_isKept_44 ?_
            refine x_if_eq (t := 80) hz dX12_isKept_45 (by decide) (fun c6 => ?_) (fun c6 => ?_)
            · replace h := x_ip c6 h
              refine x_iconst (v := (1 : Int32)) hz dX12_isKept_80 (by decide) ?_
              cases h
              exact x_zret01 hZ (Or.inr rfl) dX12_isKept_81
            · replace h := x_in c6 h
              refine x_lload_n hz dX12_isKept_48 rfl ?_
              refine x_ldc2 (v := (26990 : Int64)) hz dX12_isKept_49 wc_X12_169 ?_
              refine x_lcmp hz dX12_isKept_52 ?_
              refine x_if_eq (t := 80) hz dX12_isKept_53 (by decide) (fun c7 => ?_) (fun c7 => ?_)
              · replace h := x_ip c7 h
                refine x_iconst (v := (1 : Int32)) hz dX12_isKept_80 (by decide) ?_
                cases h
                exact x_zret01 hZ (Or.inr rfl) dX12_isKept_81
              · replace h := x_in c7 h
                refine x_lload_n hz dX12_isKept_56 rfl ?_
                refine x_ldc2 (v := (6448500 : Int64)) hz dX12_isKept_57 wc_X12_171 ?_
                refine x_lcmp hz dX12_isKept_60 ?_
                refine x_if_eq (t := 80) hz dX12_isKept_61 (by decide) (fun c8 => ?_) (fun c8 => ?_)
                · replace h := x_ip c8 h
                  refine x_iconst (v := (1 : Int32)) hz dX12_isKept_80 (by decide) ?_
                  cases h
                  exact x_zret01 hZ (Or.inr rfl) dX12_isKept_81
                · replace h := x_in c8 h
                  refine x_lload_n hz dX12_isKept_64 rfl ?_
                  refine x_ldc2 (v := (29807 : Int64)) hz dX12_isKept_65 wc_X12_173 ?_
                  refine x_lcmp hz dX12_isKept_68 ?_
                  refine x_if_eq (t := 80) hz dX12_isKept_69 (by decide) (fun c9 => ?_) (fun c9 => ?_)
                  · replace h := x_ip c9 h
                    refine x_iconst (v := (1 : Int32)) hz dX12_isKept_80 (by decide) ?_
                    cases h
                    exact x_zret01 hZ (Or.inr rfl) dX12_isKept_81
                  · replace h := x_in c9 h
                    refine x_lload_n hz dX12_isKept_72 rfl ?_
                    refine x_ldc2 (v := (1952997748 : Int64)) hz dX12_isKept_73 wc_X12_175 ?_
                    refine x_lcmp hz dX12_isKept_76 ?_
                    refine x_if_ne (t := 82) hz dX12_isKept_77 (by decide) (fun c10 => ?_) (fun c10 => ?_)
                    · replace h := x_in c10 h
                      refine x_lload_n hz dX12_isKept_82 rfl ?_
                      refine x_ldc2 (v := (7300710 : Int64)) hz dX12_isKept_83 wc_X12_177 ?_
                      refine x_lcmp hz dX12_isKept_86 ?_
                      refine x_if_eq (t := 154) hz dX12_isKept_87 (by decide) (fun c11 => ?_) (fun c11 => ?_)
                      · replace h := x_ip c11 h
                        refine x_iconst (v := (1 : Int32)) hz dX12_isKept_154 (by decide) ?_
                        refine x_goto (t := 159) hz dX12_isKept_155 (by decide) ?_
                        cases h
                        exact x_zret01 hZ (Or.inr rfl) dX12_isKept_159
                      · replace h := x_in c11 h
                        refine x_lload_n hz dX12_isKept_90 rfl ?_
                        refine x_ldc2 (v := (110429873532005 : Int64)) hz dX12_isKept_91 wc_X12_179 ?_
                        refine x_lcmp hz dX12_isKept_94 ?_
                        refine x_if_eq (t := 154) hz dX12_isKept_95 (by decide) (fun c12 => ?_) (fun c12 => ?_)
                        · replace h := x_ip c12 h
                          refine x_iconst (v := (1 : Int32)) hz dX12_isKept_154 (by decide) ?_
                          refine x_goto (t := 159) hz dX12_isKept_155 (by decide) ?_
                          cases h
                          exact x_zret01 hZ (Or.inr rfl) dX12_isKept_159
                        · replace h := x_in c12 h
                          refine x_lload_n hz dX12_isKept_98 rfl ?_
                          refine x_ldc2 (v := (28530 : Int64)) hz dX12_isKept_99 wc_X12_181 ?_
                          refine x_lcmp hz dX12_isKept_102 ?_
                          refine x_if_eq (t := 154) hz dX12_isKept_103 (by decide) (fun c13 => ?_) (fun c13 => ?_)
                          · replace h := x_ip c13 h
                            refine x_iconst (v := (1 : Int32)) hz dX12_isKept_154 (by decide) ?_
                            refine x_goto (t := 159) hz dX12_isKept_155 (by decide) ?_
                            cases h
                            exact x_zret01 hZ (Or.inr rfl) dX12_isKept_159
                          · replace h := x_in c13 h
                            refine x_lload_n hz dX12_isKept_106 rfl ?_
                            refine x_ldc2 (v := (6385252 : Int64)) hz dX12_isKept_107 wc_X12_183 ?_
                            refine x_lcmp hz dX12_isKept_110 ?_
                            refine x_if_eq (t := 154) hz dX12_isKept_111 (by decide) (fun c14 => ?_) (fun c14 => ?_)
                            · replace h := x_ip c14 h
                              refine x_iconst (v := (1 : Int32)) hz dX12_isKept_154 (by decide) ?_
                              refine x_goto (t := 159) hz dX12_isKept_155 (by decide) ?_
                              cases h
                              exact x_zret01 hZ (Or.inr rfl) dX12_isKept_159
                            · replace h := x_in c14 h
                              refine x_lload_n hz dX12_isKept_114 rfl ?_
                              refine x_ldc2 (v := (7237492 : Int64)) hz dX12_isKept_115 wc_X12_185 ?_
                              refine x_lcmp hz dX12_isKept_118 ?_
                              refine x_if_eq (t := 154) hz dX12_isKept_119 (by decide) (fun c15 => ?_) (fun c15 => ?_)
                              · replace h := x_ip c15 h
                                refine x_iconst (v := (1 : Int32)) hz dX12_isKept_154 (by decide) ?_
                                refine x_goto (t := 159) hz dX12_isKept_155 (by decide) ?_
                                cases h
                                exact x_zret01 hZ (Or.inr rfl) dX12_isKept_159
                              · replace h := x_in c15 h
                                refine x_lload_n hz dX12_isKept_122 rfl ?_
                                refine x_ldc2 (v := (427071202675 : Int64)) hz dX12_isKept_123 wc_X12_187 ?_
                                refine x_lcmp hz dX12_isKept_126 ?_
                                refine x_if_eq (t := 154) hz dX12_isKept_127 (by decide) (fun c16 => ?_) (fun c16 => ?_)
                                · replace h := x_ip c16 h
                                  refine x_iconst (v := (1 : Int32)) hz dX12_isKept_154 (by decide) ?_
                                  refine x_goto (t := 159) hz dX12_isKept_155 (by decide) ?_
                                  cases h
                                  exact x_zret01 hZ (Or.inr rfl) dX12_isKept_159
                                · replace h := x_in c16 h
                                  refine x_lload_n hz dX12_isKept_130 rfl ?_
                                  refine x_ldc2 (v := (25209 : Int64)) hz dX12_isKept_131 wc_X12_189 ?_
                                  refine x_lcmp hz dX12_isKept_134 ?_
                                  refine x_if_eq (t := 154) hz dX12_isKept_135 (by decide) (fun c17 => ?_) (fun c17 => ?_)
                                  · replace h := x_ip c17 h
                                    refine x_iconst (v := (1 : Int32)) hz dX12_isKept_154 (by decide) ?_
                                    refine x_goto (t := 159) hz dX12_isKept_155 (by decide) ?_
                                    cases h
                                    exact x_zret01 hZ (Or.inr rfl) dX12_isKept_159
                                  · replace h := x_in c17 h
                                    refine x_lload_n hz dX12_isKept_138 rfl ?_
                                    refine x_ldc2 (v := (108187649798757 : Int64)) hz dX12_isKept_139 wc_X12_191 ?_
                                    refine x_lcmp hz dX12_isKept_142 ?_
                                    refine x_if_eq (t := 154) hz dX12_isKept_143 (by decide) (fun c18 => ?_) (fun c18 => ?_)
                                    · replace h := x_ip c18 h
                                      refine x_iconst (v := (1 : Int32)) hz dX12_isKept_154 (by decide) ?_
                                      refine x_goto (t := 159) hz dX12_isKept_155 (by decide) ?_
                                      cases h
                                      exact x_zret01 hZ (Or.inr rfl) dX12_isKept_159
                                    · replace h := x_in c18 h
                                      refine x_lload_n hz dX12_isKept_146 rfl ?_
                                      refine x_ldc2 (v := (465557353332 : Int64)) hz dX12_isKept_147 wc_X12_193 ?_
                                      refine x_lcmp hz dX12_isKept_150 ?_
                                      refine x_if_ne (t := 158) hz dX12_isKept_151 (by decide) (fun c19 => ?_) (fun c19 => ?_)
                                      · replace h := x_in c19 h
                                        refine x_iconst (v := (0 : Int32)) hz dX12_isKept_158 (by decide) ?_
                                        cases h
                                        exact x_zret01 hZ (Or.inl rfl) dX12_isKept_159
                                      · replace h := x_ip c19 h
                                        refine x_iconst (v := (1 : Int32)) hz dX12_isKept_154 (by decide) ?_
                                        refine x_goto (t := 159) hz dX12_isKept_155 (by decide) ?_
                                        cases h
                                        exact x_zret01 hZ (Or.inr rfl) dX12_isKept_159
                    · replace h := x_ip c10 h
                      refine x_iconst (v := (1 : Int32)) hz dX12_isKept_80 (by decide) ?_
                      cases h
                      exact x_zret01 hZ (Or.inr rfl) dX12_isKept_81
theorem M_X12_isKept {N : Nat} {a0 : Int64} {H H1 : xH} {r1 : Int32} (h : F_X12_isKept N a0 H = some (r1, H1)) : xM yX12_isKept cX12_isKept 2 (some .boolean) 1 [.inr (.inl a0)] H (some (.int r1)) H1 :=
  xM_of (by decide +kernel) (xT_tb 1259 (by decide +kernel) (by decide +kernel)) (by simp [xargs, x2]) rfl (P_X12_isKept rfl a0 H h)
