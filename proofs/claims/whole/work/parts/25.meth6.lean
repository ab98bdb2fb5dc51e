/-! BettingBookModel.find([JIJ)I -/
noncomputable def F_X12_find_J3 (N : Nat) (k3 : (Option Nat) → Int32 → Int64 → Int32 → xH → Option (Int32 × xH)) (x0 : (Option Nat)) (x1 : Int32) (x2 : Int64) (x4 : Int32) (H : xH) : Option (Int32 × xH) :=
  if x1 ≤ x4 then (some ((-1 : Int32), H)) else ((xlJ H x0 x4).bind fun v2 =>
  if (lg_cmp v2 x2) = 0 then (some (x4, H)) else (k3 x0 x1 x2 (x4 + 1) H))
set_option maxRecDepth 20000 in
set_option maxHeartbeats 4000000 in
theorem P_X12_find_J3 {N : Nat} {Z : xZ} {rv : Int32} {Hf : xH} (hZ : Z = xZm cX12_find yX12_find 5 1 (some .int) (some (.int rv)) Hf) {k3 : (Option Nat) → Int32 → Int64 → Int32 → xH → Option (Int32 × xH)} (hk3 : ∀ (x0 : (Option Nat)) (x1 : Int32) (x2 : Int64) (x4 : Int32) (H : xH), k3 x0 x1 x2 x4 H = some (rv, Hf) → xWq Z H 3 [xA x0, xI x1, xJ x2, xN, xI x4] []) : ∀ (x0 : (Option Nat)) (x1 : Int32) (x2 : Int64) (x4 : Int32) (H : xH), F_X12_find_J3 N k3 x0 x1 x2 x4 H = some (rv, Hf) → xWq Z H 3 [xA x0, xI x1, xJ x2, xN, xI x4] [] := by
  have hz : Z.1 = (cX12_find, yX12_find, 5) := by rw [hZ]; rfl
  have hδ : Z.2.1 = 1 := by rw [hZ]; rfl
  intro x0 x1 x2 x4 H h
  unfold F_X12_find_J3 at h
  refine x_iload hz dX12_find_3 rfl ?_
  refine x_iload_n hz dX12_find_5 rfl ?_
  refine x_icmp_ge (t := 27) hz dX12_find_6 (by decide) (fun c1 => ?_) (fun c1 => ?_)
  · replace h := x_ip c1 h
    refine x_iconst (v := (-1 : Int32)) hz dX12_find_27 (by decide) ?_
    cases h
    exact x_iret hZ dX12_find_28
  · replace h := x_in c1 h
    refine x_aload_n hz dX12_find_9 rfl ?_
    refine x_iload hz dX12_find_10 rfl ?_
    obtain ⟨v2, e_v2, h⟩ := x_bnd h
    refine x_lald hz dX12_find_12 e_v2 ?_
    refine x_lload_n hz dX12_find_13 rfl ?_
    refine x_lcmp hz dX12_find_14 ?_
    refine x_if_ne (t := 21) hz dX12_find_15 (by decide) (fun c3 => ?_) (fun c3 => ?_)
    · replace h := x_in c3 h
      refine x_iinc (w := (x4 + 1)) (pl' := [xA x0, xI x1, xJ x2, xN, xI (x4 + 1)]) hz dX12_find_21 rfl rfl (by decide) rfl ?_
      refine x_goto (t := 3) hz dX12_find_24 (by decide) ?_
      exact x_wk (xwk_c (xwk_c (xwk_c (xwk_n (xwk_c xwk_0))))) (hk3 x0 x1 x2 (x4 + 1) H h)
    · replace h := x_ip c3 h
      refine x_iload hz dX12_find_18 rfl ?_
      cases h
      exact x_iret hZ dX12_find_20
noncomputable def F_X12_find_L3 (N : Nat) : Nat → (Option Nat) → Int32 → Int64 → Int32 → xH → Option (Int32 × xH)
  | 0 => fun _ _ _ _ _ => none
  | n + 1 => F_X12_find_J3 N (F_X12_find_L3 N n)
theorem P_X12_find_L3 {N : Nat} {Z : xZ} {rv : Int32} {Hf : xH} (hZ : Z = xZm cX12_find yX12_find 5 1 (some .int) (some (.int rv)) Hf) : ∀ (n : Nat) (x0 : (Option Nat)) (x1 : Int32) (x2 : Int64) (x4 : Int32) (H : xH), F_X12_find_L3 N n x0 x1 x2 x4 H = some (rv, Hf) → xWq Z H 3 [xA x0, xI x1, xJ x2, xN, xI x4] [] := by
  intro n
  induction n with
  | zero => intro _ _ _ _ _ h; cases h
  | succ n ih => exact P_X12_find_J3 hZ ih
noncomputable def F_X12_find (N : Nat) (a0 : (Option Nat)) (a1 : Int32) (a2 : Int64) (H : xH) : Option (Int32 × xH) :=
  (F_X12_find_L3 N N) a0 a1 a2 (0 : Int32) H
set_option maxRecDepth 20000 in
set_option maxHeartbeats 4000000 in
theorem P_X12_find {N : Nat} {Z : xZ} {rv : Int32} {Hf : xH} (hZ : Z = xZm cX12_find yX12_find 5 1 (some .int) (some (.int rv)) Hf) : ∀ (a0 : (Option Nat)) (a1 : Int32) (a2 : Int64) (H : xH), F_X12_find N a0 a1 a2 H = some (rv, Hf) → xWq Z H 0 [xA a0, xI a1, xJ a2, xN, xN] [] := by
  have hz : Z.1 = (cX12_find, yX12_find, 5) := by rw [hZ]; rfl
  have hδ : Z.2.1 = 1 := by rw [hZ]; rfl
  intro a0 a1 a2 H h
  unfold F_X12_find at h
  refine x_iconst (v := (0 : Int32)) hz dX12_find_0 (by decide) ?_
  refine x_istore (pl' := [xA a0, xI a1, xJ a2, xN, xI (0 : Int32)]) hz dX12_find_1 (by decide) rfl ?_
  exact x_wk (xwk_c (xwk_c (xwk_c (xwk_n (xwk_c xwk_0))))) ((P_X12_find_L3 hZ N) a0 a1 a2 (0 : Int32) H h)
theorem M_X12_find {N : Nat} {a0 : (Option Nat)} {a1 : Int32} {a2 : Int64} {H H1 : xH} {r1 : Int32} (h : F_X12_find N a0 a1 a2 H = some (r1, H1)) : xM yX12_find cX12_find 5 (some .int) 1 [.inr (.inr a0), .inl a1, .inr (.inl a2)] H (some (.int r1)) H1 :=
  xM_of (by decide +kernel) (xT_tb 1280 (by decide +kernel) (by decide +kernel)) (by simp [xargs, x2]) rfl (P_X12_find rfl a0 a1 a2 H h)
/-! BettingBookModel.isNew(J)Z -/
noncomputable def F_X12_isNew (N : Nat) (a0 : (Option Nat)) (a1 : Int64) (H : xH) : Option (Int32 × xH) :=
  if (lg_cmp a1 (0 : Int64)) = 0 then (some ((0 : Int32), H)) else (x_bd2 (F_X12_isKept N a1 H) fun v3 H2 =>
  if v3 = 0 then ((xgA H2 a0 11 29).bind fun v5 =>
  (xgI H2 a0 11 23).bind fun v6 =>
  x_bd2 (F_X12_find N v5 v6 a1 H2) fun v8 H7 =>
  if v8 = (-1 : Int32) then ((xgA H7 a0 11 30).bind fun v10 =>
  (xgI H7 a0 11 24).bind fun v11 =>
  x_bd2 (F_X12_find N v10 v11 a1 H7) fun v13 H12 =>
  if v13 = (-1 : Int32) then (some ((1 : Int32), H12)) else (some ((0 : Int32), H12))) else (some ((0 : Int32), H7))) else (some ((0 : Int32), H2)))
set_option maxRecDepth 20000 in
set_option maxHeartbeats 4000000 in
theorem P_X12_isNew {N : Nat} {Z : xZ} {rv : Int32} {Hf : xH} (hZ : Z = xZm cX12_isNew yX12_isNew 3 2 (some .boolean) (some (.int rv)) Hf) : ∀ (a0 : (Option Nat)) (a1 : Int64) (H : xH), F_X12_isNew N a0 a1 H = some (rv, Hf) → xWq Z H 0 [xA a0, xJ a1, xN] [] := by
  have hz : Z.1 = (cX12_isNew, yX12_isNew, 3) := by rw [hZ]; rfl
  have hδ : Z.2.1 = 2 := by rw [hZ]; rfl
  intro a0 a1 H h
  unfold F_X12_isNew at h
  refine x_lload_n hz dX12_isNew_0 rfl ?_
  refine x_lconst (v := (0 : Int64)) hz dX12_isNew_1 (by decide) ?_
  refine x_lcmp hz dX12_isNew_2 ?_
  refine x_if_eq (t := 49) hz dX12_isNew_3 (by decide) (fun c1 => ?_) (fun c1 => ?_)
  · replace h := x_ip c1 h
    refine x_iconst (v := (0 : Int32)) hz dX12_isNew_49 (by decide) ?_
    cases h
    exact x_zret01 hZ (Or.inl rfl) dX12_isNew_50
  · replace h := x_in c1 h
    refine x_lload_n hz dX12_isNew_6 rfl ?_
    obtain ⟨v3, H2, e_H2, h⟩ := x_b2 h
    refine x_callSi (as := [.inr (.inl a1)]) (st := []) cs_X12_195 rfl rfl hz (by omega) (by decide) dX12_isNew_7 (M_X12_isKept e_H2) ?_
    refine x_if_ne (t := 49) hz dX12_isNew_10 (by decide) (fun c4 => ?_) (fun c4 => ?_)
    · replace h := x_in c4 h
      refine x_iconst (v := (0 : Int32)) hz dX12_isNew_49 (by decide) ?_
      cases h
      exact x_zret01 hZ (Or.inl rfl) dX12_isNew_50
    · replace h := x_ip c4 h
      refine x_aload_n hz dX12_isNew_13 rfl ?_
      obtain ⟨v5, e_v5, h⟩ := x_bnd h
      refine x_getA hz dX12_isNew_14 fs_X12_61 e_v5 ?_
      refine x_aload_n hz dX12_isNew_17 rfl ?_
      obtain ⟨v6, e_v6, h⟩ := x_bnd h
      refine x_getI hz dX12_isNew_18 fs_X12_199 e_v6 ?_
      refine x_lload_n hz dX12_isNew_21 rfl ?_
      obtain ⟨v8, H7, e_H7, h⟩ := x_b2 h
      refine x_callSi (as := [.inr (.inr v5), .inl v6, .inr (.inl a1)]) (st := []) cs_X12_202 rfl rfl hz (by omega) (by decide) dX12_isNew_22 (M_X12_find e_H7) ?_
      refine x_iconst (v := (-1 : Int32)) hz dX12_isNew_25 (by decide) ?_
      refine x_icmp_ne (t := 49) hz dX12_isNew_26 (by decide) (fun c9 => ?_) (fun c9 => ?_)
      · replace h := x_in c9 h
        refine x_iconst (v := (0 : Int32)) hz dX12_isNew_49 (by decide) ?_
        cases h
        exact x_zret01 hZ (Or.inl rfl) dX12_isNew_50
      · replace h := x_ip c9 h
        refine x_aload_n hz dX12_isNew_29 rfl ?_
        obtain ⟨v10, e_v10, h⟩ := x_bnd h
        refine x_getA hz dX12_isNew_30 fs_X12_65 e_v10 ?_
        refine x_aload_n hz dX12_isNew_33 rfl ?_
        obtain ⟨v11, e_v11, h⟩ := x_bnd h
        refine x_getI hz dX12_isNew_34 fs_X12_206 e_v11 ?_
        refine x_lload_n hz dX12_isNew_37 rfl ?_
        obtain ⟨v13, H12, e_H12, h⟩ := x_b2 h
        refine x_callSi (as := [.inr (.inr v10), .inl v11, .inr (.inl a1)]) (st := []) cs_X12_202 rfl rfl hz (by omega) (by decide) dX12_isNew_38 (M_X12_find e_H12) ?_
        refine x_iconst (v := (-1 : Int32)) hz dX12_isNew_41 (by decide) ?_
        refine x_icmp_ne (t := 49) hz dX12_isNew_42 (by decide) (fun c14 => ?_) (fun c14 => ?_)
        · replace h := x_in c14 h
          refine x_iconst (v := (0 : Int32)) hz dX12_isNew_49 (by decide) ?_
          cases h
          exact x_zret01 hZ (Or.inl rfl) dX12_isNew_50
        · replace h := x_ip c14 h
          refine x_iconst (v := (1 : Int32)) hz dX12_isNew_45 (by decide) ?_
          refine x_goto (t := 50) hz dX12_isNew_46 (by decide) ?_
          cases h
          exact x_zret01 hZ (Or.inr rfl) dX12_isNew_50
theorem M_X12_isNew {N : Nat} {a0 : (Option Nat)} {a1 : Int64} {H H1 : xH} {r1 : Int32} (h : F_X12_isNew N a0 a1 H = some (r1, H1)) : xM yX12_isNew cX12_isNew 3 (some .boolean) 2 [.inr (.inr a0), .inr (.inl a1)] H (some (.int r1)) H1 :=
  xM_of (by decide +kernel) (xT_tb 1256 (by decide +kernel) (by decide +kernel)) (by simp [xargs, x2]) rfl (P_X12_isNew rfl a0 a1 H h)
/-! BettingBookModel.takesThing(I)Z -/
noncomputable def F_X12_takesThing (N : Nat) (a0 : (Option Nat)) (a1 : Int32) (H : xH) : Option (Int32 × xH) :=
  (xgA H a0 11 29).bind fun v1 =>
  (xgI H a0 11 23).bind fun v2 =>
  (xob H a0 11).bind fun b4 =>
  x_bd2 (F_X12_word N a0 H) fun v5 H3 =>
  x_bd2 (F_X12_find N v1 v2 v5 H3) fun v7 H6 =>
  (xpI H6 a0 11 40 v7).bind fun H8 =>
  (xgI H8 a0 11 40).bind fun v9 =>
  if v9 = (-1 : Int32) then (some ((0 : Int32), H8)) else ((xgI H8 a0 11 40).bind fun v11 =>
  if v11 = a1 then (some ((0 : Int32), H8)) else ((xgI H8 a0 11 38).bind fun v13 =>
  (xpI H8 a0 11 33 v13).bind fun H14 =>
  some ((1 : Int32), H14)))
set_option maxRecDepth 20000 in
set_option maxHeartbeats 4000000 in
theorem P_X12_takesThing {N : Nat} {Z : xZ} {rv : Int32} {Hf : xH} (hZ : Z = xZm cX12_takesThing yX12_takesThing 2 3 (some .boolean) (some (.int rv)) Hf) : ∀ (a0 : (Option Nat)) (a1 : Int32) (H : xH), F_X12_takesThing N a0 a1 H = some (rv, Hf) → xWq Z H 0 [xA a0, xI a1] [] := by
  have hz : Z.1 = (cX12_takesThing, yX12_takesThing, 2) := by rw [hZ]; rfl
  have hδ : Z.2.1 = 3 := by rw [hZ]; rfl
  intro a0 a1 H h
  unfold F_X12_takesThing at h
  refine x_aload_n hz dX12_takesThing_0 rfl ?_
  refine x_aload_n hz dX12_takesThing_1 rfl ?_
  obtain ⟨v1, e_v1, h⟩ := x_bnd h
  refine x_getA hz dX12_takesThing_2 fs_X12_61 e_v1 ?_
  refine x_aload_n hz dX12_takesThing_5 rfl ?_
  obtain ⟨v2, e_v2, h⟩ := x_bnd h
  refine x_getI hz dX12_takesThing_6 fs_X12_199 e_v2 ?_
  refine x_aload_n hz dX12_takesThing_9 rfl ?_
  obtain ⟨b4, e_b4, h⟩ := x_bnd h
  obtain ⟨v5, H3, e_H3, h⟩ := x_b2 h
  refine x_callVl (as := []) (st := [.int v2, va_rf v1, va_rf a0]) cs_X12_146 (ci := 11) ⟨rfl, rfl⟩ rfl rfl hz (by omega) (Nat.le_trans (x_sm1 rfl (x_sm1 (x_rfc _) (x_sm1 (x_rfc _) x_sm0))) (by decide)) dX12_takesThing_10 e_b4 (M_X12_word e_H3) ?_
  obtain ⟨v7, H6, e_H6, h⟩ := x_b2 h
  refine x_callSi (as := [.inr (.inr v1), .inl v2, .inr (.inl v5)]) (st := [va_rf a0]) cs_X12_202 rfl rfl hz (by omega) (Nat.le_trans (x_sm1 (x_rfc _) x_sm0) (by decide)) dX12_takesThing_13 (M_X12_find e_H6) ?_
  obtain ⟨H8, e_H8, h⟩ := x_bnd h
  refine x_putV (v := .int v7) hz dX12_takesThing_16 fs_X12_209 rfl rfl e_H8 ?_
  refine x_aload_n hz dX12_takesThing_19 rfl ?_
  obtain ⟨v9, e_v9, h⟩ := x_bnd h
  refine x_getI hz dX12_takesThing_20 fs_X12_209 e_v9 ?_
  refine x_iconst (v := (-1 : Int32)) hz dX12_takesThing_23 (by decide) ?_
  refine x_icmp_eq (t := 35) hz dX12_takesThing_24 (by decide) (fun c10 => ?_) (fun c10 => ?_)
  · replace h := x_ip c10 h
    refine x_iconst (v := (0 : Int32)) hz dX12_takesThing_35 (by decide) ?_
    cases h
    exact x_zret01 hZ (Or.inl rfl) dX12_takesThing_36
  · replace h := x_in c10 h
    refine x_aload_n hz dX12_takesThing_27 rfl ?_
    obtain ⟨v11, e_v11, h⟩ := x_bnd h
    refine x_getI hz dX12_takesThing_28 fs_X12_209 e_v11 ?_
    refine x_iload_n hz dX12_takesThing_31 rfl ?_
    refine x_icmp_ne (t := 37) hz dX12_takesThing_32 (by decide) (fun c12 => ?_) (fun c12 => ?_)
    · replace h := x_in c12 h
      refine x_aload_n hz dX12_takesThing_37 rfl ?_
      refine x_aload_n hz dX12_takesThing_38 rfl ?_
      obtain ⟨v13, e_v13, h⟩ := x_bnd h
      refine x_getI hz dX12_takesThing_39 fs_X12_143 e_v13 ?_
      obtain ⟨H14, e_H14, h⟩ := x_bnd h
      refine x_putV (v := .int v13) hz dX12_takesThing_42 fs_X12_134 rfl rfl e_H14 ?_
      refine x_iconst (v := (1 : Int32)) hz dX12_takesThing_45 (by decide) ?_
      cases h
      exact x_zret01 hZ (Or.inr rfl) dX12_takesThing_46
    · replace h := x_ip c12 h
      refine x_iconst (v := (0 : Int32)) hz dX12_takesThing_35 (by decide) ?_
      cases h
      exact x_zret01 hZ (Or.inl rfl) dX12_takesThing_36
theorem M_X12_takesThing {N : Nat} {a0 : (Option Nat)} {a1 : Int32} {H H1 : xH} {r1 : Int32} (h : F_X12_takesThing N a0 a1 H = some (r1, H1)) : xM yX12_takesThing cX12_takesThing 2 (some .boolean) 3 [.inr (.inr a0), .inl a1] H (some (.int r1)) H1 :=
  xM_of (by decide +kernel) (xT_tb 1296 (by decide +kernel) (by decide +kernel)) (by simp [xargs, x2]) rfl (P_X12_takesThing rfl a0 a1 H h)
/-! BettingBookModel.takesMember(I)Z -/
noncomputable def F_X12_takesMember (N : Nat) (a0 : (Option Nat)) (a1 : Int32) (H : xH) : Option (Int32 × xH) :=
  (xgA H a0 11 30).bind fun v1 =>
  (xgI H a0 11 24).bind fun v2 =>
  (xob H a0 11).bind fun b4 =>
  x_bd2 (F_X12_word N a0 H) fun v5 H3 =>
  x_bd2 (F_X12_find N v1 v2 v5 H3) fun v7 H6 =>
  (xpI H6 a0 11 40 v7).bind fun H8 =>
  (xgI H8 a0 11 40).bind fun v9 =>
  if v9 = (-1 : Int32) then (some ((0 : Int32), H8)) else ((xgI H8 a0 11 40).bind fun v11 =>
  if v11 = a1 then (some ((0 : Int32), H8)) else ((xgI H8 a0 11 38).bind fun v13 =>
  (xpI H8 a0 11 33 v13).bind fun H14 =>
  some ((1 : Int32), H14)))
set_option maxRecDepth 20000 in
set_option maxHeartbeats 4000000 in
theorem P_X12_takesMember {N : Nat} {Z : xZ} {rv : Int32} {Hf : xH} (hZ : Z = xZm cX12_takesMember yX12_takesMember 2 3 (some .boolean) (some (.int rv)) Hf) : ∀ (a0 : (Option Nat)) (a1 : Int32) (H : xH), F_X12_takesMember N a0 a1 H = some (rv, Hf) → xWq Z H 0 [xA a0, xI a1] [] := by
  have hz : Z.1 = (cX12_takesMember, yX12_takesMember, 2) := by rw [hZ]; rfl
  have hδ : Z.2.1 = 3 := by rw [hZ]; rfl
  intro a0 a1 H h
  unfold F_X12_takesMember at h
  refine x_aload_n hz dX12_takesMember_0 rfl ?_
  refine x_aload_n hz dX12_takesMember_1 rfl ?_
  obtain ⟨v1, e_v1, h⟩ := x_bnd h
  refine x_getA hz dX12_takesMember_2 fs_X12_65 e_v1 ?_
  refine x_aload_n hz dX12_takesMember_5 rfl ?_
  obtain ⟨v2, e_v2, h⟩ := x_bnd h
  refine x_getI hz dX12_takesMember_6 fs_X12_206 e_v2 ?_
  refine x_aload_n hz dX12_takesMember_9 rfl ?_
  obtain ⟨b4, e_b4, h⟩ := x_bnd h
  obtain ⟨v5, H3, e_H3, h⟩ := x_b2 h
  refine x_callVl (as := []) (st := [.int v2, va_rf v1, va_rf a0]) cs_X12_146 (ci := 11) ⟨rfl, rfl⟩ rfl rfl hz (by omega) (Nat.le_trans (x_sm1 rfl (x_sm1 (x_rfc _) (x_sm1 (x_rfc _) x_sm0))) (by decide)) dX12_takesMember_10 e_b4 (M_X12_word e_H3) ?_
  obtain ⟨v7, H6, e_H6, h⟩ := x_b2 h
  refine x_callSi (as := [.inr (.inr v1), .inl v2, .inr (.inl v5)]) (st := [va_rf a0]) cs_X12_202 rfl rfl hz (by omega) (Nat.le_trans (x_sm1 (x_rfc _) x_sm0) (by decide)) dX12_takesMember_13 (M_X12_find e_H6) ?_
  obtain ⟨H8, e_H8, h⟩ := x_bnd h
  refine x_putV (v := .int v7) hz dX12_takesMember_16 fs_X12_209 rfl rfl e_H8 ?_
  refine x_aload_n hz dX12_takesMember_19 rfl ?_
  obtain ⟨v9, e_v9, h⟩ := x_bnd h
  refine x_getI hz dX12_takesMember_20 fs_X12_209 e_v9 ?_
  refine x_iconst (v := (-1 : Int32)) hz dX12_takesMember_23 (by decide) ?_
  refine x_icmp_eq (t := 35) hz dX12_takesMember_24 (by decide) (fun c10 => ?_) (fun c10 => ?_)
  · replace h := x_ip c10 h
    refine x_iconst (v := (0 : Int32)) hz dX12_takesMember_35 (by decide) ?_
    cases h
    exact x_zret01 hZ (Or.inl rfl) dX12_takesMember_36
  · replace h := x_in c10 h
    refine x_aload_n hz dX12_takesMember_27 rfl ?_
    obtain ⟨v11, e_v11, h⟩ := x_bnd h
    refine x_getI hz dX12_takesMember_28 fs_X12_209 e_v11 ?_
    refine x_iload_n hz dX12_takesMember_31 rfl ?_
    refine x_icmp_ne (t := 37) hz dX12_takesMember_32 (by decide) (fun c12 => ?_) (fun c12 => ?_)
    · replace h := x_in c12 h
      refine x_aload_n hz dX12_takesMember_37 rfl ?_
      refine x_aload_n hz dX12_takesMember_38 rfl ?_
      obtain ⟨v13, e_v13, h⟩ := x_bnd h
      refine x_getI hz dX12_takesMember_39 fs_X12_143 e_v13 ?_
      obtain ⟨H14, e_H14, h⟩ := x_bnd h
      refine x_putV (v := .int v13) hz dX12_takesMember_42 fs_X12_134 rfl rfl e_H14 ?_
      refine x_iconst (v := (1 : Int32)) hz dX12_takesMember_45 (by decide) ?_
      cases h
      exact x_zret01 hZ (Or.inr rfl) dX12_takesMember_46
    · replace h := x_ip c12 h
      refine x_iconst (v := (0 : Int32)) hz dX12_takesMember_35 (by decide) ?_
      cases h
      exact x_zret01 hZ (Or.inl rfl) dX12_takesMember_36
theorem M_X12_takesMember {N : Nat} {a0 : (Option Nat)} {a1 : Int32} {H H1 : xH} {r1 : Int32} (h : F_X12_takesMember N a0 a1 H = some (r1, H1)) : xM yX12_takesMember cX12_takesMember 2 (some .boolean) 3 [.inr (.inr a0), .inl a1] H (some (.int r1)) H1 :=
  xM_of (by decide +kernel) (xT_tb 1304 (by decide +kernel) (by decide +kernel)) (by simp [xargs, x2]) rfl (P_X12_takesMember rfl a0 a1 H h)
/-! BettingBookModel.thingTold()Z -/
noncomputable def F_X12_thingTold_J122 (N : Nat) (x0 : (Option Nat)) (x1 : Int64) (H : xH) : Option (Int32 × xH) :=
  (xgA H x0 11 29).bind fun v1 =>
  (xgI H x0 11 23).bind fun v2 =>
  (xsJ H v1 v2 x1).bind fun H3 =>
  (xgI H3 x0 11 23).bind fun v4 =>
  (xpI H3 x0 11 23 (v4 + (1 : Int32))).bind fun H5 =>
  some ((1 : Int32), H5)
set_option maxRecDepth 20000 in
set_option maxHeartbeats 4000000 in
theorem P_X12_thingTold_J122 {N : Nat} {Z : xZ} {rv : Int32} {Hf : xH} (hZ : Z = xZm cX12_thingTold yX12_thingTold 4 4 (some .boolean) (some (.int rv)) Hf) : ∀ (x0 : (Option Nat)) (x1 : Int64) (H : xH), F_X12_thingTold_J122 N x0 x1 H = some (rv, Hf) → xWq Z H 122 [xA x0, xJ x1, xN, xN] [] := by
  have hz : Z.1 = (cX12_thingTold, yX12_thingTold, 4) := by rw [hZ]; rfl
  have hδ : Z.2.1 = 4 := by rw [hZ]; rfl
  intro x0 x1 H h
  unfold F_X12_thingTold_J122 at h
  refine x_aload_n hz dX12_thingTold_122 rfl ?_
  obtain ⟨v1, e_v1, h⟩ := x_bnd h
  refine x_getA hz dX12_thingTold_123 fs_X12_61 e_v1 ?_
  refine x_aload_n hz dX12_thingTold_126 rfl ?_
  obtain ⟨v2, e_v2, h⟩ := x_bnd h
  refine x_getI hz dX12_thingTold_127 fs_X12_199 e_v2 ?_
  refine x_lload_n hz dX12_thingTold_130 rfl ?_
  obtain ⟨H3, e_H3, h⟩ := x_bnd h
  refine x_last hz dX12_thingTold_131 e_H3 ?_
  refine x_aload_n hz dX12_thingTold_132 rfl ?_
  refine x_dup hz dX12_thingTold_133 (x_rfc _) ?_
  obtain ⟨v4, e_v4, h⟩ := x_bnd h
  refine x_getI hz dX12_thingTold_134 fs_X12_199 e_v4 ?_
  refine x_iconst (v := (1 : Int32)) hz dX12_thingTold_137 (by decide) ?_
  refine x_iadd hz dX12_thingTold_138 ?_
  obtain ⟨H5, e_H5, h⟩ := x_bnd h
  refine x_putV (v := .int (v4 + (1 : Int32))) hz dX12_thingTold_139 fs_X12_199 rfl rfl e_H5 ?_
  refine x_iconst (v := (1 : Int32)) hz dX12_thingTold_142 (by decide) ?_
  cases h
  exact x_zret01 hZ (Or.inr rfl) dX12_thingTold_143
noncomputable def F_X12_thingTold_J85 (N : Nat) (x0 : (Option Nat)) (x1 : Int64) (x3 : Int32) (H : xH) : Option (Int32 × xH) :=
  (xob H x0 11).bind fun b2 =>
  x_bd2 (F_X12_takes N x0 (504364296556 : Int64) H) fun v3 H1 =>
  if v3 = 0 then ((F_X12_thingTold_J122 N) x0 x1 H1) else ((xgA H1 x0 11 6).bind fun v5 =>
  (xlI .int H1 v5 x3).bind fun v6 =>
  (xob H1 x0 11).bind fun b8 =>
  x_bd2 (F_X12_takesNumber N x0 v6 (7 : Int32) H1) fun v9 H7 =>
  if v9 = 0 then (some ((0 : Int32), H7)) else ((xgA H7 x0 11 7).bind fun v11 =>
  (xgI H7 x0 11 39).bind fun v12 =>
  (xsI .int H7 v11 x3 v12).bind fun H13 =>
  (F_X12_thingTold_J122 N) x0 x1 H13))
set_option maxRecDepth 20000 in
set_option maxHeartbeats 4000000 in
theorem P_X12_thingTold_J85 {N : Nat} {Z : xZ} {rv : Int32} {Hf : xH} (hZ : Z = xZm cX12_thingTold yX12_thingTold 4 4 (some .boolean) (some (.int rv)) Hf) : ∀ (x0 : (Option Nat)) (x1 : Int64) (x3 : Int32) (H : xH), F_X12_thingTold_J85 N x0 x1 x3 H = some (rv, Hf) → xWq Z H 85 [xA x0, xJ x1, xN, xI x3] [] := by
  have hz : Z.1 = (cX12_thingTold, yX12_thingTold, 4) := by rw [hZ]; rfl
  have hδ : Z.2.1 = 4 := by rw [hZ]; rfl
  intro x0 x1 x3 H h
  unfold F_X12_thingTold_J85 at h
  refine x_aload_n hz dX12_thingTold_85 rfl ?_
  refine x_ldc2 (v := (504364296556 : Int64)) hz dX12_thingTold_86 wc_X12_161 ?_
  obtain ⟨b2, e_b2, h⟩ := x_bnd h
  obtain ⟨v3, H1, e_H1, h⟩ := x_b2 h
  refine x_callVi (as := [.inr (.inl (504364296556 : Int64))]) (st := []) cs_X12_215 (ci := 11) ⟨rfl, rfl⟩ rfl rfl hz (by omega) (by decide) dX12_thingTold_89 e_b2 (M_X12_takes e_H1) ?_
  refine x_if_eq (t := 122) hz dX12_thingTold_92 (by decide) (fun c4 => ?_) (fun c4 => ?_)
  · replace h := x_ip c4 h
    exact x_wk (xwk_c (xwk_c (xwk_n (xwk_n xwk_0)))) ((P_X12_thingTold_J122 hZ) x0 x1 H1 h)
  · replace h := x_in c4 h
    refine x_aload_n hz dX12_thingTold_95 rfl ?_
    refine x_aload_n hz dX12_thingTold_96 rfl ?_
    obtain ⟨v5, e_v5, h⟩ := x_bnd h
    refine x_getA hz dX12_thingTold_97 fs_X12_7 e_v5 ?_
    refine x_iload_n hz dX12_thingTold_100 rfl ?_
    obtain ⟨v6, e_v6, h⟩ := x_bnd h
    refine x_iald hz dX12_thingTold_101 e_v6 ?_
    refine x_bipush (v := (7 : Int32)) hz dX12_thingTold_102 (by decide) ?_
    obtain ⟨b8, e_b8, h⟩ := x_bnd h
    obtain ⟨v9, H7, e_H7, h⟩ := x_b2 h
    refine x_callVi (as := [.inl v6, .inl (7 : Int32)]) (st := []) cs_X12_218 (ci := 11) ⟨rfl, rfl⟩ rfl rfl hz (by omega) (by decide) dX12_thingTold_104 e_b8 (M_X12_takesNumber e_H7) ?_
    refine x_if_ne (t := 112) hz dX12_thingTold_107 (by decide) (fun c10 => ?_) (fun c10 => ?_)
    · replace h := x_in c10 h
      refine x_aload_n hz dX12_thingTold_112 rfl ?_
      obtain ⟨v11, e_v11, h⟩ := x_bnd h
      refine x_getA hz dX12_thingTold_113 fs_X12_13 e_v11 ?_
      refine x_iload_n hz dX12_thingTold_116 rfl ?_
      refine x_aload_n hz dX12_thingTold_117 rfl ?_
      obtain ⟨v12, e_v12, h⟩ := x_bnd h
      refine x_getI hz dX12_thingTold_118 fs_X12_150 e_v12 ?_
      obtain ⟨H13, e_H13, h⟩ := x_bnd h
      refine x_iast hz dX12_thingTold_121 e_H13 ?_
      exact x_wk (xwk_c (xwk_c (xwk_n (xwk_n xwk_0)))) ((P_X12_thingTold_J122 hZ) x0 x1 H13 h)
    · replace h := x_ip c10 h
      refine x_iconst (v := (0 : Int32)) hz dX12_thingTold_110 (by decide) ?_
      cases h
      exact x_zret01 hZ (Or.inl rfl) dX12_thingTold_111
noncomputable def F_X12_thingTold (N : Nat) (a0 : (Option Nat)) (H : xH) : Option (Int32 × xH) :=
  (xob H a0 11).bind fun b2 =>
  x_bd2 (F_X12_word N a0 H) fun v3 H1 =>
  (xob H1 a0 11).bind fun b5 =>
  x_bd2 (F_X12_isNew N a0 v3 H1) fun v6 H4 =>
  if v6 = 0 then (some ((0 : Int32), H4)) else ((xgI H4 a0 11 23).bind fun v8 =>
  if v8 = (5 : Int32) then (some ((0 : Int32), H4)) else ((xgI H4 a0 11 38).bind fun v10 =>
  (xpI H4 a0 11 33 v10).bind fun H11 =>
  (xgI H11 a0 11 23).bind fun v12 =>
  (xgA H11 a0 11 6).bind fun v13 =>
  (xsI .int H11 v13 ((5 : Int32) + v12) (0 : Int32)).bind fun H14 =>
  (xgA H14 a0 11 7).bind fun v15 =>
  (xsI .int H14 v15 ((5 : Int32) + v12) (7 : Int32)).bind fun H16 =>
  (xob H16 a0 11).bind fun b18 =>
  x_bd2 (F_X12_takes N a0 (1718775661 : Int64) H16) fun v19 H17 =>
  if v19 = 0 then ((F_X12_thingTold_J85 N) a0 v3 ((5 : Int32) + v12) H17) else ((xob H17 a0 11).bind fun b22 =>
  x_bd2 (F_X12_takesNumber N a0 (0 : Int32) (7 : Int32) H17) fun v23 H21 =>
  if v23 = 0 then (some ((0 : Int32), H21)) else ((xgA H21 a0 11 6).bind fun v25 =>
  (xgI H21 a0 11 39).bind fun v26 =>
  (xsI .int H21 v25 ((5 : Int32) + v12) v26).bind fun H27 =>
  (F_X12_thingTold_J85 N) a0 v3 ((5 : Int32) + v12) H27))))
set_option maxRecDepth 20000 in
set_option maxHeartbeats 4000000 in
theorem P_X12_thingTold {N : Nat} {Z : xZ} {rv : Int32} {Hf : xH} (hZ : Z = xZm cX12_thingTold yX12_thingTold 4 4 (some .boolean) (some (.int rv)) Hf) : ∀ (a0 : (Option Nat)) (H : xH), F_X12_thingTold N a0 H = some (rv, Hf) → xWq Z H 0 [xA a0, xN, xN, xN] [] := by
  have hz : Z.1 = (cX12_thingTold, yX12_thingTold, 4) := by rw [hZ]; rfl
  have hδ : Z.2.1 = 4 := by rw [hZ]; rfl
  intro a0 H h
  unfold F_X12_thingTold at h
  refine x_aload_n hz dX12_thingTold_0 rfl ?_
  obtain ⟨b2, e_b2, h⟩ := x_bnd h
  obtain ⟨v3, H1, e_H1, h⟩ := x_b2 h
  refine x_callVl (as := []) (st := []) cs_X12_146 (ci := 11) ⟨rfl, rfl⟩ rfl rfl hz (by omega) (by decide) dX12_thingTold_1 e_b2 (M_X12_word e_H1) ?_
  refine x_lstore_n (pl' := [xA a0, xJ v3, xN, xN]) hz dX12_thingTold_4 (by decide) rfl ?_
  refine x_aload_n hz dX12_thingTold_5 rfl ?_
  refine x_lload_n hz dX12_thingTold_6 rfl ?_
  obtain ⟨b5, e_b5, h⟩ := x_bnd h
  obtain ⟨v6, H4, e_H4, h⟩ := x_b2 h
  refine x_callVi (as := [.inr (.inl v3)]) (st := []) cs_X12_212 (ci := 11) ⟨rfl, rfl⟩ rfl rfl hz (by omega) (by decide) dX12_thingTold_7 e_b5 (M_X12_isNew e_H4) ?_
  refine x_if_eq (t := 21) hz dX12_thingTold_10 (by decide) (fun c7 => ?_) (fun c7 => ?_)
  · replace h := x_ip c7 h
    refine x_iconst (v := (0 : Int32)) hz dX12_thingTold_21 (by decide) ?_
    cases h
    exact x_zret01 hZ (Or.inl rfl) dX12_thingTold_22
  · replace h := x_in c7 h
    refine x_aload_n hz dX12_thingTold_13 rfl ?_
    obtain ⟨v8, e_v8, h⟩ := x_bnd h
    refine x_getI hz dX12_thingTold_14 fs_X12_199 e_v8 ?_
    refine x_iconst (v := (5 : Int32)) hz dX12_thingTold_17 (by decide) ?_
    refine x_icmp_ne (t := 23) hz dX12_thingTold_18 (by decide) (fun c9 => ?_) (fun c9 => ?_)
    · replace h := x_in c9 h
      refine x_aload_n hz dX12_thingTold_23 rfl ?_
      refine x_aload_n hz dX12_thingTold_24 rfl ?_
      obtain ⟨v10, e_v10, h⟩ := x_bnd h
      refine x_getI hz dX12_thingTold_25 fs_X12_143 e_v10 ?_
      obtain ⟨H11, e_H11, h⟩ := x_bnd h
      refine x_putV (v := .int v10) hz dX12_thingTold_28 fs_X12_134 rfl rfl e_H11 ?_
      refine x_iconst (v := (5 : Int32)) hz dX12_thingTold_31 (by decide) ?_
      refine x_aload_n hz dX12_thingTold_32 rfl ?_
      obtain ⟨v12, e_v12, h⟩ := x_bnd h
      refine x_getI hz dX12_thingTold_33 fs_X12_199 e_v12 ?_
      refine x_iadd hz dX12_thingTold_36 ?_
      refine x_istore_n (pl' := [xA a0, xJ v3, xN, xI ((5 : Int32) + v12)]) hz dX12_thingTold_37 (by decide) rfl ?_
      refine x_aload_n hz dX12_thingTold_38 rfl ?_
      obtain ⟨v13, e_v13, h⟩ := x_bnd h
      refine x_getA hz dX12_thingTold_39 fs_X12_7 e_v13 ?_
      refine x_iload_n hz dX12_thingTold_42 rfl ?_
      refine x_iconst (v := (0 : Int32)) hz dX12_thingTold_43 (by decide) ?_
      obtain ⟨H14, e_H14, h⟩ := x_bnd h
      refine x_iast hz dX12_thingTold_44 e_H14 ?_
      refine x_aload_n hz dX12_thingTold_45 rfl ?_
      obtain ⟨v15, e_v15, h⟩ := x_bnd h
      refine x_getA hz dX12_thingTold_46 fs_X12_13 e_v15 ?_
      refine x_iload_n hz dX12_thingTold_49 rfl ?_
      refine x_bipush (v := (7 : Int32)) hz dX12_thingTold_50 (by decide) ?_
      obtain ⟨H16, e_H16, h⟩ := x_bnd h
      refine x_iast hz dX12_thingTold_52 e_H16 ?_
      refine x_aload_n hz dX12_thingTold_53 rfl ?_
      refine x_ldc2 (v := (1718775661 : Int64)) hz dX12_thingTold_54 wc_X12_159 ?_
      obtain ⟨b18, e_b18, h⟩ := x_bnd h
      obtain ⟨v19, H17, e_H17, h⟩ := x_b2 h
      refine x_callVi (as := [.inr (.inl (1718775661 : Int64))]) (st := []) cs_X12_215 (ci := 11) ⟨rfl, rfl⟩ rfl rfl hz (by omega) (by decide) dX12_thingTold_57 e_b18 (M_X12_takes e_H17) ?_
      refine x_if_eq (t := 85) hz dX12_thingTold_60 (by decide) (fun c20 => ?_) (fun c20 => ?_)
      · replace h := x_ip c20 h
        exact x_wk (xwk_c (xwk_c (xwk_n (xwk_c xwk_0)))) ((P_X12_thingTold_J85 hZ) a0 v3 ((5 : Int32) + v12) H17 h)
      · replace h := x_in c20 h
        refine x_aload_n hz dX12_thingTold_63 rfl ?_
        refine x_iconst (v := (0 : Int32)) hz dX12_thingTold_64 (by decide) ?_
        refine x_bipush (v := (7 : Int32)) hz dX12_thingTold_65 (by decide) ?_
        obtain ⟨b22, e_b22, h⟩ := x_bnd h
        obtain ⟨v23, H21, e_H21, h⟩ := x_b2 h
        refine x_callVi (as := [.inl (0 : Int32), .inl (7 : Int32)]) (st := []) cs_X12_218 (ci := 11) ⟨rfl, rfl⟩ rfl rfl hz (by omega) (by decide) dX12_thingTold_67 e_b22 (M_X12_takesNumber e_H21) ?_
        refine x_if_ne (t := 75) hz dX12_thingTold_70 (by decide) (fun c24 => ?_) (fun c24 => ?_)
        · replace h := x_in c24 h
          refine x_aload_n hz dX12_thingTold_75 rfl ?_
          obtain ⟨v25, e_v25, h⟩ := x_bnd h
          refine x_getA hz dX12_thingTold_76 fs_X12_7 e_v25 ?_
          refine x_iload_n hz dX12_thingTold_79 rfl ?_
          refine x_aload_n hz dX12_thingTold_80 rfl ?_
          obtain ⟨v26, e_v26, h⟩ := x_bnd h
          refine x_getI hz dX12_thingTold_81 fs_X12_150 e_v26 ?_
          obtain ⟨H27, e_H27, h⟩ := x_bnd h
          refine x_iast hz dX12_thingTold_84 e_H27 ?_
          exact x_wk (xwk_c (xwk_c (xwk_n (xwk_c xwk_0)))) ((P_X12_thingTold_J85 hZ) a0 v3 ((5 : Int32) + v12) H27 h)
        · replace h := x_ip c24 h
          refine x_iconst (v := (0 : Int32)) hz dX12_thingTold_73 (by decide) ?_
          cases h
          exact x_zret01 hZ (Or.inl rfl) dX12_thingTold_74
    · replace h := x_ip c9 h
      refine x_iconst (v := (0 : Int32)) hz dX12_thingTold_21 (by decide) ?_
      cases h
      exact x_zret01 hZ (Or.inl rfl) dX12_thingTold_22
theorem M_X12_thingTold {N : Nat} {a0 : (Option Nat)} {H H1 : xH} {r1 : Int32} (h : F_X12_thingTold N a0 H = some (r1, H1)) : xM yX12_thingTold cX12_thingTold 4 (some .boolean) 4 [.inr (.inr a0)] H (some (.int r1)) H1 :=
  xM_of (by decide +kernel) (xT_tb 1252 (by decide +kernel) (by decide +kernel)) (by simp [xargs, x2]) rfl (P_X12_thingTold rfl a0 H h)
/-! BettingBookModel.memberTold()Z -/
noncomputable def F_X12_memberTold (N : Nat) (a0 : (Option Nat)) (H : xH) : Option (Int32 × xH) :=
  (xob H a0 11).bind fun b2 =>
  x_bd2 (F_X12_word N a0 H) fun v3 H1 =>
  (xob H1 a0 11).bind fun b5 =>
  x_bd2 (F_X12_isNew N a0 v3 H1) fun v6 H4 =>
  if v6 = 0 then (some ((0 : Int32), H4)) else ((xgI H4 a0 11 24).bind fun v8 =>
  if v8 = (6 : Int32) then (some ((0 : Int32), H4)) else ((xgI H4 a0 11 38).bind fun v10 =>
  (xpI H4 a0 11 33 v10).bind fun H11 =>
  (xgA H11 a0 11 30).bind fun v12 =>
  (xgI H11 a0 11 24).bind fun v13 =>
  (xsJ H11 v12 v13 v3).bind fun H14 =>
  (xgI H14 a0 11 24).bind fun v15 =>
  (xpI H14 a0 11 24 (v15 + (1 : Int32))).bind fun H16 =>
  some ((1 : Int32), H16)))
set_option maxRecDepth 20000 in
set_option maxHeartbeats 4000000 in
theorem P_X12_memberTold {N : Nat} {Z : xZ} {rv : Int32} {Hf : xH} (hZ : Z = xZm cX12_memberTold yX12_memberTold 3 3 (some .boolean) (some (.int rv)) Hf) : ∀ (a0 : (Option Nat)) (H : xH), F_X12_memberTold N a0 H = some (rv, Hf) → xWq Z H 0 [xA a0, xN, xN] [] := by
  have hz : Z.1 = (cX12_memberTold, yX12_memberTold, 3) := by rw [hZ]; rfl
  have hδ : Z.2.1 = 3 := by rw [hZ]; rfl
  intro a0 H h
  unfold F_X12_memberTold at h
  refine x_aload_n hz dX12_memberTold_0 rfl ?_
  obtain ⟨b2, e_b2, h⟩ := x_bnd h
  obtain ⟨v3, H1, e_H1, h⟩ := x_b2 h
  refine x_callVl (as := []) (st := []) cs_X12_146 (ci := 11) ⟨rfl, rfl⟩ rfl rfl hz (by omega) (by decide) dX12_memberTold_1 e_b2 (M_X12_word e_H1) ?_
  refine x_lstore_n (pl' := [xA a0, xJ v3, xN]) hz dX12_memberTold_4 (by decide) rfl ?_
  refine x_aload_n hz dX12_memberTold_5 rfl ?_
  refine x_lload_n hz dX12_memberTold_6 rfl ?_
  obtain ⟨b5, e_b5, h⟩ := x_bnd h
  obtain ⟨v6, H4, e_H4, h⟩ := x_b2 h
  refine x_callVi (as := [.inr (.inl v3)]) (st := []) cs_X12_212 (ci := 11) ⟨rfl, rfl⟩ rfl rfl hz (by omega) (by decide) dX12_memberTold_7 e_b5 (M_X12_isNew e_H4) ?_
  refine x_if_eq (t := 22) hz dX12_memberTold_10 (by decide) (fun c7 => ?_) (fun c7 => ?_)
  · replace h := x_ip c7 h
    refine x_iconst (v := (0 : Int32)) hz dX12_memberTold_22 (by decide) ?_
    cases h
    exact x_zret01 hZ (Or.inl rfl) dX12_memberTold_23
  · replace h := x_in c7 h
    refine x_aload_n hz dX12_memberTold_13 rfl ?_
    obtain ⟨v8, e_v8, h⟩ := x_bnd h
    refine x_getI hz dX12_memberTold_14 fs_X12_206 e_v8 ?_
    refine x_bipush (v := (6 : Int32)) hz dX12_memberTold_17 (by decide) ?_
    refine x_icmp_ne (t := 24) hz dX12_memberTold_19 (by decide) (fun c9 => ?_) (fun c9 => ?_)
    · replace h := x_in c9 h
      refine x_aload_n hz dX12_memberTold_24 rfl ?_
      refine x_aload_n hz dX12_memberTold_25 rfl ?_
      obtain ⟨v10, e_v10, h⟩ := x_bnd h
      refine x_getI hz dX12_memberTold_26 fs_X12_143 e_v10 ?_
      obtain ⟨H11, e_H11, h⟩ := x_bnd h
      refine x_putV (v := .int v10) hz dX12_memberTold_29 fs_X12_134 rfl rfl e_H11 ?_
      refine x_aload_n hz dX12_memberTold_32 rfl ?_
      obtain ⟨v12, e_v12, h⟩ := x_bnd h
      refine x_getA hz dX12_memberTold_33 fs_X12_65 e_v12 ?_
      refine x_aload_n hz dX12_memberTold_36 rfl ?_
      obtain ⟨v13, e_v13, h⟩ := x_bnd h
      refine x_getI hz dX12_memberTold_37 fs_X12_206 e_v13 ?_
      refine x_lload_n hz dX12_memberTold_40 rfl ?_
      obtain ⟨H14, e_H14, h⟩ := x_bnd h
      refine x_last hz dX12_memberTold_41 e_H14 ?_
      refine x_aload_n hz dX12_memberTold_42 rfl ?_
      refine x_dup hz dX12_memberTold_43 (x_rfc _) ?_
      obtain ⟨v15, e_v15, h⟩ := x_bnd h
      refine x_getI hz dX12_memberTold_44 fs_X12_206 e_v15 ?_
      refine x_iconst (v := (1 : Int32)) hz dX12_memberTold_47 (by decide) ?_
      refine x_iadd hz dX12_memberTold_48 ?_
      obtain ⟨H16, e_H16, h⟩ := x_bnd h
      refine x_putV (v := .int (v15 + (1 : Int32))) hz dX12_memberTold_49 fs_X12_206 rfl rfl e_H16 ?_
      refine x_iconst (v := (1 : Int32)) hz dX12_memberTold_52 (by decide) ?_
      cases h
      exact x_zret01 hZ (Or.inr rfl) dX12_memberTold_53
    · replace h := x_ip c9 h
      refine x_iconst (v := (0 : Int32)) hz dX12_memberTold_22 (by decide) ?_
      cases h
      exact x_zret01 hZ (Or.inl rfl) dX12_memberTold_23
theorem M_X12_memberTold {N : Nat} {a0 : (Option Nat)} {H H1 : xH} {r1 : Int32} (h : F_X12_memberTold N a0 H = some (r1, H1)) : xM yX12_memberTold cX12_memberTold 3 (some .boolean) 3 [.inr (.inr a0)] H (some (.int r1)) H1 :=
  xM_of (by decide +kernel) (xT_tb 1288 (by decide +kernel) (by decide +kernel)) (by simp [xargs, x2]) rfl (P_X12_memberTold rfl a0 H h)
/-! BettingBookModel.linkTold(I)Z -/
noncomputable def F_X12_linkTold_J104 (N : Nat) (x0 : (Option Nat)) (H : xH) : Option (Int32 × xH) :=
  (xgI H x0 11 27).bind fun v1 =>
  (xpI H x0 11 27 (v1 + (1 : Int32))).bind fun H2 =>
  some ((1 : Int32), H2)
set_option maxRecDepth 20000 in
set_option maxHeartbeats 4000000 in
theorem P_X12_linkTold_J104 {N : Nat} {Z : xZ} {rv : Int32} {Hf : xH} (hZ : Z = xZm cX12_linkTold yX12_linkTold 3 4 (some .boolean) (some (.int rv)) Hf) : ∀ (x0 : (Option Nat)) (H : xH), F_X12_linkTold_J104 N x0 H = some (rv, Hf) → xWq Z H 104 [xA x0, xN, xN] [] := by
  have hz : Z.1 = (cX12_linkTold, yX12_linkTold, 3) := by rw [hZ]; rfl
  have hδ : Z.2.1 = 4 := by rw [hZ]; rfl
  intro x0 H h
  unfold F_X12_linkTold_J104 at h
  refine x_aload_n hz dX12_linkTold_104 rfl ?_
  refine x_dup hz dX12_linkTold_105 (x_rfc _) ?_
  obtain ⟨v1, e_v1, h⟩ := x_bnd h
  refine x_getI hz dX12_linkTold_106 fs_X12_222 e_v1 ?_
  refine x_iconst (v := (1 : Int32)) hz dX12_linkTold_109 (by decide) ?_
  refine x_iadd hz dX12_linkTold_110 ?_
  obtain ⟨H2, e_H2, h⟩ := x_bnd h
  refine x_putV (v := .int (v1 + (1 : Int32))) hz dX12_linkTold_111 fs_X12_222 rfl rfl e_H2 ?_
  refine x_iconst (v := (1 : Int32)) hz dX12_linkTold_114 (by decide) ?_
  cases h
  exact x_zret01 hZ (Or.inr rfl) dX12_linkTold_115
noncomputable def F_X12_linkTold (N : Nat) (a0 : (Option Nat)) (a1 : Int32) (H : xH) : Option (Int32 × xH) :=
  (xgI H a0 11 27).bind fun v1 =>
  (xgA H a0 11 12).bind fun v2 =>
  (xsI .int H v2 ((40 : Int32) + v1) a1).bind fun H3 =>
  (xob H3 a0 11).bind fun b5 =>
  x_bd2 (F_X12_takesThing N a0 (-1 : Int32) H3) fun v6 H4 =>
  if v6 = 0 then (some ((0 : Int32), H4)) else ((xgA H4 a0 11 13).bind fun v8 =>
  (xgI H4 a0 11 40).bind fun v9 =>
  (xsI .int H4 v8 ((40 : Int32) + v1) v9).bind fun H10 =>
  (xgA H10 a0 11 13).bind fun v11 =>
  (xlI .int H10 v11 ((40 : Int32) + v1)).bind fun v12 =>
  (xob H10 a0 11).bind fun b14 =>
  x_bd2 (F_X12_takesThing N a0 v12 H10) fun v15 H13 =>
  if v15 = 0 then (some ((0 : Int32), H13)) else ((xgA H13 a0 11 14).bind fun v17 =>
  (xgI H13 a0 11 40).bind fun v18 =>
  (xsI .int H13 v17 ((40 : Int32) + v1) v18).bind fun H19 =>
  (xgA H19 a0 11 15).bind fun v20 =>
  (xsI .int H19 v20 ((40 : Int32) + v1) (0 : Int32)).bind fun H21 =>
  if a1 = (1 : Int32) then ((xob H21 a0 11).bind fun b24 =>
  x_bd2 (F_X12_takes N a0 (26990 : Int64) H21) fun v25 H23 =>
  if v25 = 0 then (some ((0 : Int32), H23)) else ((xob H23 a0 11).bind fun b28 =>
  x_bd2 (F_X12_takesNumber N a0 (0 : Int32) (7 : Int32) H23) fun v29 H27 =>
  if v29 = 0 then (some ((0 : Int32), H27)) else ((xgA H27 a0 11 15).bind fun v31 =>
  (xgI H27 a0 11 39).bind fun v32 =>
  (xsI .int H27 v31 ((40 : Int32) + v1) v32).bind fun H33 =>
  (F_X12_linkTold_J104 N) a0 H33))) else ((F_X12_linkTold_J104 N) a0 H21)))
set_option maxRecDepth 20000 in
set_option maxHeartbeats 4000000 in
theorem P_X12_linkTold {N : Nat} {Z : xZ} {rv : Int32} {Hf : xH} (hZ : Z = xZm cX12_linkTold yX12_linkTold 3 4 (some .boolean) (some (.int rv)) Hf) : ∀ (a0 : (Option Nat)) (a1 : Int32) (H : xH), F_X12_linkTold N a0 a1 H = some (rv, Hf) → xWq Z H 0 [xA a0, xI a1, xN] [] := by
  have hz : Z.1 = (cX12_linkTold, yX12_linkTold, 3) := by rw [hZ]; rfl
  have hδ : Z.2.1 = 4 := by rw [hZ]; rfl
  intro a0 a1 H h
  unfold F_X12_linkTold at h
  refine x_bipush (v := (40 : Int32)) hz dX12_linkTold_0 (by decide) ?_
  refine x_aload_n hz dX12_linkTold_2 rfl ?_
  obtain ⟨v1, e_v1, h⟩ := x_bnd h
  refine x_getI hz dX12_linkTold_3 fs_X12_222 e_v1 ?_
  refine x_iadd hz dX12_linkTold_6 ?_
  refine x_istore_n (pl' := [xA a0, xI a1, xI ((40 : Int32) + v1)]) hz dX12_linkTold_7 (by decide) rfl ?_
  refine x_aload_n hz dX12_linkTold_8 rfl ?_
  obtain ⟨v2, e_v2, h⟩ := x_bnd h
  refine x_getA hz dX12_linkTold_9 fs_X12_28 e_v2 ?_
  refine x_iload_n hz dX12_linkTold_12 rfl ?_
  refine x_iload_n hz dX12_linkTold_13 rfl ?_
  obtain ⟨H3, e_H3, h⟩ := x_bnd h
  refine x_iast hz dX12_linkTold_14 e_H3 ?_
  refine x_aload_n hz dX12_linkTold_15 rfl ?_
  refine x_iconst (v := (-1 : Int32)) hz dX12_linkTold_16 (by decide) ?_
  obtain ⟨b5, e_b5, h⟩ := x_bnd h
  obtain ⟨v6, H4, e_H4, h⟩ := x_b2 h
  refine x_callVi (as := [.inl (-1 : Int32)]) (st := []) cs_X12_225 (ci := 11) ⟨rfl, rfl⟩ rfl rfl hz (by omega) (by decide) dX12_linkTold_17 e_b5 (M_X12_takesThing e_H4) ?_
  refine x_if_ne (t := 25) hz dX12_linkTold_20 (by decide) (fun c7 => ?_) (fun c7 => ?_)
  · replace h := x_in c7 h
    refine x_aload_n hz dX12_linkTold_25 rfl ?_
    obtain ⟨v8, e_v8, h⟩ := x_bnd h
    refine x_getA hz dX12_linkTold_26 fs_X12_31 e_v8 ?_
    refine x_iload_n hz dX12_linkTold_29 rfl ?_
    refine x_aload_n hz dX12_linkTold_30 rfl ?_
    obtain ⟨v9, e_v9, h⟩ := x_bnd h
    refine x_getI hz dX12_linkTold_31 fs_X12_209 e_v9 ?_
    obtain ⟨H10, e_H10, h⟩ := x_bnd h
    refine x_iast hz dX12_linkTold_34 e_H10 ?_
    refine x_aload_n hz dX12_linkTold_35 rfl ?_
    refine x_aload_n hz dX12_linkTold_36 rfl ?_
    obtain ⟨v11, e_v11, h⟩ := x_bnd h
    refine x_getA hz dX12_linkTold_37 fs_X12_31 e_v11 ?_
    refine x_iload_n hz dX12_linkTold_40 rfl ?_
    obtain ⟨v12, e_v12, h⟩ := x_bnd h
    refine x_iald hz dX12_linkTold_41 e_v12 ?_
    obtain ⟨b14, e_b14, h⟩ := x_bnd h
    obtain ⟨v15, H13, e_H13, h⟩ := x_b2 h
    refine x_callVi (as := [.inl v12]) (st := []) cs_X12_225 (ci := 11) ⟨rfl, rfl⟩ rfl rfl hz (by omega) (by decide) dX12_linkTold_42 e_b14 (M_X12_takesThing e_H13) ?_
    refine x_if_ne (t := 50) hz dX12_linkTold_45 (by decide) (fun c16 => ?_) (fun c16 => ?_)
    · replace h := x_in c16 h
      refine x_aload_n hz dX12_linkTold_50 rfl ?_
      obtain ⟨v17, e_v17, h⟩ := x_bnd h
      refine x_getA hz dX12_linkTold_51 fs_X12_34 e_v17 ?_
      refine x_iload_n hz dX12_linkTold_54 rfl ?_
      refine x_aload_n hz dX12_linkTold_55 rfl ?_
      obtain ⟨v18, e_v18, h⟩ := x_bnd h
      refine x_getI hz dX12_linkTold_56 fs_X12_209 e_v18 ?_
      obtain ⟨H19, e_H19, h⟩ := x_bnd h
      refine x_iast hz dX12_linkTold_59 e_H19 ?_
      refine x_aload_n hz dX12_linkTold_60 rfl ?_
      obtain ⟨v20, e_v20, h⟩ := x_bnd h
      refine x_getA hz dX12_linkTold_61 fs_X12_37 e_v20 ?_
      refine x_iload_n hz dX12_linkTold_64 rfl ?_
      refine x_iconst (v := (0 : Int32)) hz dX12_linkTold_65 (by decide) ?_
      obtain ⟨H21, e_H21, h⟩ := x_bnd h
      refine x_iast hz dX12_linkTold_66 e_H21 ?_
      refine x_iload_n hz dX12_linkTold_67 rfl ?_
      refine x_iconst (v := (1 : Int32)) hz dX12_linkTold_68 (by decide) ?_
      refine x_icmp_ne (t := 104) hz dX12_linkTold_69 (by decide) (fun c22 => ?_) (fun c22 => ?_)
      · replace h := x_in c22 h
        exact x_wk (xwk_c (xwk_n (xwk_n xwk_0))) ((P_X12_linkTold_J104 hZ) a0 H21 h)
      · replace h := x_ip c22 h
        refine x_aload_n hz dX12_linkTold_72 rfl ?_
        refine x_ldc2 (v := (26990 : Int64)) hz dX12_linkTold_73 wc_X12_169 ?_
        obtain ⟨b24, e_b24, h⟩ := x_bnd h
        obtain ⟨v25, H23, e_H23, h⟩ := x_b2 h
        refine x_callVi (as := [.inr (.inl (26990 : Int64))]) (st := []) cs_X12_215 (ci := 11) ⟨rfl, rfl⟩ rfl rfl hz (by omega) (by decide) dX12_linkTold_76 e_b24 (M_X12_takes e_H23) ?_
        refine x_if_eq (t := 92) hz dX12_linkTold_79 (by decide) (fun c26 => ?_) (fun c26 => ?_)
        · replace h := x_ip c26 h
          refine x_iconst (v := (0 : Int32)) hz dX12_linkTold_92 (by decide) ?_
          cases h
          exact x_zret01 hZ (Or.inl rfl) dX12_linkTold_93
        · replace h := x_in c26 h
          refine x_aload_n hz dX12_linkTold_82 rfl ?_
          refine x_iconst (v := (0 : Int32)) hz dX12_linkTold_83 (by decide) ?_
          refine x_bipush (v := (7 : Int32)) hz dX12_linkTold_84 (by decide) ?_
          obtain ⟨b28, e_b28, h⟩ := x_bnd h
          obtain ⟨v29, H27, e_H27, h⟩ := x_b2 h
          refine x_callVi (as := [.inl (0 : Int32), .inl (7 : Int32)]) (st := []) cs_X12_218 (ci := 11) ⟨rfl, rfl⟩ rfl rfl hz (by omega) (by decide) dX12_linkTold_86 e_b28 (M_X12_takesNumber e_H27) ?_
          refine x_if_ne (t := 94) hz dX12_linkTold_89 (by decide) (fun c30 => ?_) (fun c30 => ?_)
          · replace h := x_in c30 h
            refine x_aload_n hz dX12_linkTold_94 rfl ?_
            obtain ⟨v31, e_v31, h⟩ := x_bnd h
            refine x_getA hz dX12_linkTold_95 fs_X12_37 e_v31 ?_
            refine x_iload_n hz dX12_linkTold_98 rfl ?_
            refine x_aload_n hz dX12_linkTold_99 rfl ?_
            obtain ⟨v32, e_v32, h⟩ := x_bnd h
            refine x_getI hz dX12_linkTold_100 fs_X12_150 e_v32 ?_
            obtain ⟨H33, e_H33, h⟩ := x_bnd h
            refine x_iast hz dX12_linkTold_103 e_H33 ?_
            exact x_wk (xwk_c (xwk_n (xwk_n xwk_0))) ((P_X12_linkTold_J104 hZ) a0 H33 h)
          · replace h := x_ip c30 h
            refine x_iconst (v := (0 : Int32)) hz dX12_linkTold_92 (by decide) ?_
            cases h
            exact x_zret01 hZ (Or.inl rfl) dX12_linkTold_93
    · replace h := x_ip c16 h
      refine x_iconst (v := (0 : Int32)) hz dX12_linkTold_48 (by decide) ?_
      cases h
      exact x_zret01 hZ (Or.inl rfl) dX12_linkTold_49
  · replace h := x_ip c7 h
    refine x_iconst (v := (0 : Int32)) hz dX12_linkTold_23 (by decide) ?_
    cases h
    exact x_zret01 hZ (Or.inl rfl) dX12_linkTold_24
theorem M_X12_linkTold {N : Nat} {a0 : (Option Nat)} {a1 : Int32} {H H1 : xH} {r1 : Int32} (h : F_X12_linkTold N a0 a1 H = some (r1, H1)) : xM yX12_linkTold cX12_linkTold 3 (some .boolean) 4 [.inr (.inr a0), .inl a1] H (some (.int r1)) H1 :=
  xM_of (by decide +kernel) (xT_tb 1292 (by decide +kernel) (by decide +kernel)) (by simp [xargs, x2]) rfl (P_X12_linkTold rfl a0 a1 H h)
/-! BettingBookModel.opens()Z -/
noncomputable def F_X12_opens (N : Nat) (a0 : (Option Nat)) (H : xH) : Option (Int32 × xH) :=
  (xgI H a0 11 34).bind fun v1 =>
  if v1 = (9 : Int32) then (some ((0 : Int32), H)) else ((xgI H a0 11 34).bind fun v3 =>
  (xpI H a0 11 34 (v3 + (1 : Int32))).bind fun H4 =>
  some ((1 : Int32), H4))
set_option maxRecDepth 20000 in
set_option maxHeartbeats 4000000 in
theorem P_X12_opens {N : Nat} {Z : xZ} {rv : Int32} {Hf : xH} (hZ : Z = xZm cX12_opens yX12_opens 1 1 (some .boolean) (some (.int rv)) Hf) : ∀ (a0 : (Option Nat)) (H : xH), F_X12_opens N a0 H = some (rv, Hf) → xWq Z H 0 [xA a0] [] := by
  have hz : Z.1 = (cX12_opens, yX12_opens, 1) := by rw [hZ]; rfl
  have hδ : Z.2.1 = 1 := by rw [hZ]; rfl
  intro a0 H h
  unfold F_X12_opens at h
  refine x_aload_n hz dX12_opens_0 rfl ?_
  obtain ⟨v1, e_v1, h⟩ := x_bnd h
  refine x_getI hz dX12_opens_1 fs_X12_242 e_v1 ?_
  refine x_bipush (v := (9 : Int32)) hz dX12_opens_4 (by decide) ?_
  refine x_icmp_ne (t := 11) hz dX12_opens_6 (by decide) (fun c2 => ?_) (fun c2 => ?_)
  · replace h := x_in c2 h
    refine x_aload_n hz dX12_opens_11 rfl ?_
    refine x_dup hz dX12_opens_12 (x_rfc _) ?_
    obtain ⟨v3, e_v3, h⟩ := x_bnd h
    refine x_getI hz dX12_opens_13 fs_X12_242 e_v3 ?_
    refine x_iconst (v := (1 : Int32)) hz dX12_opens_16 (by decide) ?_
    refine x_iadd hz dX12_opens_17 ?_
    obtain ⟨H4, e_H4, h⟩ := x_bnd h
    refine x_putV (v := .int (v3 + (1 : Int32))) hz dX12_opens_18 fs_X12_242 rfl rfl e_H4 ?_
    refine x_iconst (v := (1 : Int32)) hz dX12_opens_21 (by decide) ?_
    cases h
    exact x_zret01 hZ (Or.inr rfl) dX12_opens_22
  · replace h := x_ip c2 h
    refine x_iconst (v := (0 : Int32)) hz dX12_opens_9 (by decide) ?_
    cases h
    exact x_zret01 hZ (Or.inl rfl) dX12_opens_10
theorem M_X12_opens {N : Nat} {a0 : (Option Nat)} {H H1 : xH} {r1 : Int32} (h : F_X12_opens N a0 H = some (r1, H1)) : xM yX12_opens cX12_opens 1 (some .boolean) 1 [.inr (.inr a0)] H (some (.int r1)) H1 :=
  xM_of (by decide +kernel) (xT_tb 1320 (by decide +kernel) (by decide +kernel)) (by simp [xargs, x2]) rfl (P_X12_opens rfl a0 H h)
/-! BettingBookModel.puts(III)V -/
noncomputable def F_X12_puts (N : Nat) (a0 : (Option Nat)) (a1 : Int32) (a2 : Int32) (a3 : Int32) (H : xH) : Option xH :=
  (xgA H a0 11 20).bind fun v1 =>
  (xgI H a0 11 28).bind fun v2 =>
  (xsI .int H v1 v2 a1).bind fun H3 =>
  (xgA H3 a0 11 21).bind fun v4 =>
  (xgI H3 a0 11 28).bind fun v5 =>
  (xsI .int H3 v4 v5 a2).bind fun H6 =>
  (xgA H6 a0 11 22).bind fun v7 =>
  (xgI H6 a0 11 28).bind fun v8 =>
  (xsI .int H6 v7 v8 a3).bind fun H9 =>
  (xgI H9 a0 11 28).bind fun v10 =>
  (xpI H9 a0 11 28 (v10 + (1 : Int32))).bind fun H11 =>
  some H11
set_option maxRecDepth 20000 in
set_option maxHeartbeats 4000000 in
theorem P_X12_puts {N : Nat} {Z : xZ} {Hf : xH} (hZ : Z = xZm cX12_puts yX12_puts 4 1 none none Hf) : ∀ (a0 : (Option Nat)) (a1 : Int32) (a2 : Int32) (a3 : Int32) (H : xH), F_X12_puts N a0 a1 a2 a3 H = some Hf → xWq Z H 0 [xA a0, xI a1, xI a2, xI a3] [] := by
  have hz : Z.1 = (cX12_puts, yX12_puts, 4) := by rw [hZ]; rfl
  have hδ : Z.2.1 = 1 := by rw [hZ]; rfl
  intro a0 a1 a2 a3 H h
  unfold F_X12_puts at h
  refine x_aload_n hz dX12_puts_0 rfl ?_
  obtain ⟨v1, e_v1, h⟩ := x_bnd h
  refine x_getA hz dX12_puts_1 fs_X12_52 e_v1 ?_
  refine x_aload_n hz dX12_puts_4 rfl ?_
  obtain ⟨v2, e_v2, h⟩ := x_bnd h
  refine x_getI hz dX12_puts_5 fs_X12_235 e_v2 ?_
  refine x_iload_n hz dX12_puts_8 rfl ?_
  obtain ⟨H3, e_H3, h⟩ := x_bnd h
  refine x_iast hz dX12_puts_9 e_H3 ?_
  refine x_aload_n hz dX12_puts_10 rfl ?_
  obtain ⟨v4, e_v4, h⟩ := x_bnd h
  refine x_getA hz dX12_puts_11 fs_X12_55 e_v4 ?_
  refine x_aload_n hz dX12_puts_14 rfl ?_
  obtain ⟨v5, e_v5, h⟩ := x_bnd h
  refine x_getI hz dX12_puts_15 fs_X12_235 e_v5 ?_
  refine x_iload_n hz dX12_puts_18 rfl ?_
  obtain ⟨H6, e_H6, h⟩ := x_bnd h
  refine x_iast hz dX12_puts_19 e_H6 ?_
  refine x_aload_n hz dX12_puts_20 rfl ?_
  obtain ⟨v7, e_v7, h⟩ := x_bnd h
  refine x_getA hz dX12_puts_21 fs_X12_58 e_v7 ?_
  refine x_aload_n hz dX12_puts_24 rfl ?_
  obtain ⟨v8, e_v8, h⟩ := x_bnd h
  refine x_getI hz dX12_puts_25 fs_X12_235 e_v8 ?_
  refine x_iload_n hz dX12_puts_28 rfl ?_
  obtain ⟨H9, e_H9, h⟩ := x_bnd h
  refine x_iast hz dX12_puts_29 e_H9 ?_
  refine x_aload_n hz dX12_puts_30 rfl ?_
  refine x_dup hz dX12_puts_31 (x_rfc _) ?_
  obtain ⟨v10, e_v10, h⟩ := x_bnd h
  refine x_getI hz dX12_puts_32 fs_X12_235 e_v10 ?_
  refine x_iconst (v := (1 : Int32)) hz dX12_puts_35 (by decide) ?_
  refine x_iadd hz dX12_puts_36 ?_
  obtain ⟨H11, e_H11, h⟩ := x_bnd h
  refine x_putV (v := .int (v10 + (1 : Int32))) hz dX12_puts_37 fs_X12_235 rfl rfl e_H11 ?_
  cases h
  exact x_vret hZ dX12_puts_40
theorem M_X12_puts {N : Nat} {a0 : (Option Nat)} {a1 : Int32} {a2 : Int32} {a3 : Int32} {H H1 : xH} (h : F_X12_puts N a0 a1 a2 a3 H = some H1) : xM yX12_puts cX12_puts 4 none 1 [.inr (.inr a0), .inl a1, .inl a2, .inl a3] H none H1 :=
  xM_of (by decide +kernel) (xT_tb 1324 (by decide +kernel) (by decide +kernel)) (by simp [xargs, x2]) rfl (P_X12_puts rfl a0 a1 a2 a3 H h)
/-! BettingBookModel.any()Z -/
noncomputable def F_X12_any_J9 (N : Nat) (c_X12_any : (Option Nat) → xH → Option (Int32 × xH)) (c_X12_all : (Option Nat) → xH → Option (Int32 × xH)) (c_X12_single : (Option Nat) → xH → Option (Int32 × xH)) (k9 : (Option Nat) → xH → Option (Int32 × xH)) (x0 : (Option Nat)) (H : xH) : Option (Int32 × xH) :=
  (xob H x0 11).bind fun b2 =>
  x_bd2 (F_X12_takes N x0 (28530 : Int64) H) fun v3 H1 =>
  if v3 = 0 then (some ((1 : Int32), H1)) else ((xob H1 x0 11).bind fun b6 =>
  x_bd2 (c_X12_all x0 H1) fun v7 H5 =>
  if v7 = 0 then (some ((0 : Int32), H5)) else ((xob H5 x0 11).bind fun b10 =>
  (F_X12_puts N x0 (4 : Int32) (0 : Int32) (0 : Int32) H5).bind fun H9 =>
  k9 x0 H9))
set_option maxRecDepth 20000 in
set_option maxHeartbeats 4000000 in
theorem P_X12_any_J9 {N : Nat} {Z : xZ} {rv : Int32} {Hf : xH} {δ : Nat} (hZ : Z = xZm cX12_any yX12_any 1 (δ + 1) (some .boolean) (some (.int rv)) Hf) (hb : 3 ≤ δ) {c_X12_any : (Option Nat) → xH → Option (Int32 × xH)} (hc_X12_any : ∀ {a0 : (Option Nat)} {H H1 : xH} {r1 : Int32}, c_X12_any a0 H = some (r1, H1) → xM yX12_any cX12_any 1 (some .boolean) δ [.inr (.inr a0)] H (some (.int r1)) H1) {c_X12_all : (Option Nat) → xH → Option (Int32 × xH)} (hc_X12_all : ∀ {a0 : (Option Nat)} {H H1 : xH} {r1 : Int32}, c_X12_all a0 H = some (r1, H1) → xM yX12_all cX12_all 1 (some .boolean) δ [.inr (.inr a0)] H (some (.int r1)) H1) {c_X12_single : (Option Nat) → xH → Option (Int32 × xH)} (hc_X12_single : ∀ {a0 : (Option Nat)} {H H1 : xH} {r1 : Int32}, c_X12_single a0 H = some (r1, H1) → xM yX12_single cX12_single 2 (some .boolean) δ [.inr (.inr a0)] H (some (.int r1)) H1) {k9 : (Option Nat) → xH → Option (Int32 × xH)} (hk9 : ∀ (x0 : (Option Nat)) (H : xH), k9 x0 H = some (rv, Hf) → xWq Z H 9 [xA x0] []) : ∀ (x0 : (Option Nat)) (H : xH), F_X12_any_J9 N c_X12_any c_X12_all c_X12_single k9 x0 H = some (rv, Hf) → xWq Z H 9 [xA x0] [] := by
  have hz : Z.1 = (cX12_any, yX12_any, 1) := by rw [hZ]; rfl
  have hδ : Z.2.1 = (δ + 1) := by rw [hZ]; rfl
  intro x0 H h
  unfold F_X12_any_J9 at h
  refine x_aload_n hz dX12_any_9 rfl ?_
  refine x_ldc2 (v := (28530 : Int64)) hz dX12_any_10 wc_X12_181 ?_
  obtain ⟨b2, e_b2, h⟩ := x_bnd h
  obtain ⟨v3, H1, e_H1, h⟩ := x_b2 h
  refine x_callVi (as := [.inr (.inl (28530 : Int64))]) (st := []) cs_X12_215 (ci := 11) ⟨rfl, rfl⟩ rfl rfl hz (by omega) (by decide) dX12_any_13 e_b2 (M_X12_takes e_H1) ?_
  refine x_if_eq (t := 38) hz dX12_any_16 (by decide) (fun c4 => ?_) (fun c4 => ?_)
  · replace h := x_ip c4 h
    refine x_iconst (v := (1 : Int32)) hz dX12_any_38 (by decide) ?_
    cases h
    exact x_zret01 hZ (Or.inr rfl) dX12_any_39
  · replace h := x_in c4 h
    refine x_aload_n hz dX12_any_19 rfl ?_
    obtain ⟨b6, e_b6, h⟩ := x_bnd h
    obtain ⟨v7, H5, e_H5, h⟩ := x_b2 h
    refine x_callVi (as := []) (st := []) cs_X12_257 (ci := 11) ⟨rfl, rfl⟩ rfl rfl hz (by omega) (by decide) dX12_any_20 e_b6 (hc_X12_all e_H5) ?_
    refine x_if_ne (t := 28) hz dX12_any_23 (by decide) (fun c8 => ?_) (fun c8 => ?_)
    · replace h := x_in c8 h
      refine x_aload_n hz dX12_any_28 rfl ?_
      refine x_iconst (v := (4 : Int32)) hz dX12_any_29 (by decide) ?_
      refine x_iconst (v := (0 : Int32)) hz dX12_any_30 (by decide) ?_
      refine x_iconst (v := (0 : Int32)) hz dX12_any_31 (by decide) ?_
      obtain ⟨b10, e_b10, h⟩ := x_bnd h
      obtain ⟨H9, e_H9, h⟩ := x_bnd h
      refine x_callVv (as := [.inl (4 : Int32), .inl (0 : Int32), .inl (0 : Int32)]) (st := []) cs_X12_260 (ci := 11) ⟨rfl, rfl⟩ rfl rfl hz (by omega) (by decide) dX12_any_32 e_b10 (M_X12_puts e_H9) ?_
      refine x_goto (t := 9) hz dX12_any_35 (by decide) ?_
      exact x_wk (xwk_c xwk_0) (hk9 x0 H9 h)
    · replace h := x_ip c8 h
      refine x_iconst (v := (0 : Int32)) hz dX12_any_26 (by decide) ?_
      cases h
      exact x_zret01 hZ (Or.inl rfl) dX12_any_27
noncomputable def F_X12_any_L9 (N : Nat) (c_X12_any : (Option Nat) → xH → Option (Int32 × xH)) (c_X12_all : (Option Nat) → xH → Option (Int32 × xH)) (c_X12_single : (Option Nat) → xH → Option (Int32 × xH)) : Nat → (Option Nat) → xH → Option (Int32 × xH)
  | 0 => fun _ _ => none
  | n + 1 => F_X12_any_J9 N c_X12_any c_X12_all c_X12_single (F_X12_any_L9 N c_X12_any c_X12_all c_X12_single n)
theorem P_X12_any_L9 {N : Nat} {Z : xZ} {rv : Int32} {Hf : xH} {δ : Nat} (hZ : Z = xZm cX12_any yX12_any 1 (δ + 1) (some .boolean) (some (.int rv)) Hf) (hb : 3 ≤ δ) {c_X12_any : (Option Nat) → xH → Option (Int32 × xH)} (hc_X12_any : ∀ {a0 : (Option Nat)} {H H1 : xH} {r1 : Int32}, c_X12_any a0 H = some (r1, H1) → xM yX12_any cX12_any 1 (some .boolean) δ [.inr (.inr a0)] H (some (.int r1)) H1) {c_X12_all : (Option Nat) → xH → Option (Int32 × xH)} (hc_X12_all : ∀ {a0 : (Option Nat)} {H H1 : xH} {r1 : Int32}, c_X12_all a0 H = some (r1, H1) → xM yX12_all cX12_all 1 (some .boolean) δ [.inr (.inr a0)] H (some (.int r1)) H1) {c_X12_single : (Option Nat) → xH → Option (Int32 × xH)} (hc_X12_single : ∀ {a0 : (Option Nat)} {H H1 : xH} {r1 : Int32}, c_X12_single a0 H = some (r1, H1) → xM yX12_single cX12_single 2 (some .boolean) δ [.inr (.inr a0)] H (some (.int r1)) H1) : ∀ (n : Nat) (x0 : (Option Nat)) (H : xH), F_X12_any_L9 N c_X12_any c_X12_all c_X12_single n x0 H = some (rv, Hf) → xWq Z H 9 [xA x0] [] := by
  intro n
  induction n with
  | zero => intro _ _ h; cases h
  | succ n ih => exact P_X12_any_J9 hZ hb hc_X12_any hc_X12_all hc_X12_single ih
noncomputable def B_X12_any (N : Nat) (c_X12_any : (Option Nat) → xH → Option (Int32 × xH)) (c_X12_all : (Option Nat) → xH → Option (Int32 × xH)) (c_X12_single : (Option Nat) → xH → Option (Int32 × xH)) (a0 : (Option Nat)) (H : xH) : Option (Int32 × xH) :=
  (xob H a0 11).bind fun b2 =>
  x_bd2 (c_X12_all a0 H) fun v3 H1 =>
  if v3 = 0 then (some ((0 : Int32), H1)) else ((F_X12_any_L9 N c_X12_any c_X12_all c_X12_single N) a0 H1)
set_option maxRecDepth 20000 in
set_option maxHeartbeats 4000000 in
theorem P_X12_any {N : Nat} {Z : xZ} {rv : Int32} {Hf : xH} {δ : Nat} (hZ : Z = xZm cX12_any yX12_any 1 (δ + 1) (some .boolean) (some (.int rv)) Hf) (hb : 3 ≤ δ) {c_X12_any : (Option Nat) → xH → Option (Int32 × xH)} (hc_X12_any : ∀ {a0 : (Option Nat)} {H H1 : xH} {r1 : Int32}, c_X12_any a0 H = some (r1, H1) → xM yX12_any cX12_any 1 (some .boolean) δ [.inr (.inr a0)] H (some (.int r1)) H1) {c_X12_all : (Option Nat) → xH → Option (Int32 × xH)} (hc_X12_all : ∀ {a0 : (Option Nat)} {H H1 : xH} {r1 : Int32}, c_X12_all a0 H = some (r1, H1) → xM yX12_all cX12_all 1 (some .boolean) δ [.inr (.inr a0)] H (some (.int r1)) H1) {c_X12_single : (Option Nat) → xH → Option (Int32 × xH)} (hc_X12_single : ∀ {a0 : (Option Nat)} {H H1 : xH} {r1 : Int32}, c_X12_single a0 H = some (r1, H1) → xM yX12_single cX12_single 2 (some .boolean) δ [.inr (.inr a0)] H (some (.int r1)) H1) : ∀ (a0 : (Option Nat)) (H : xH), B_X12_any N c_X12_any c_X12_all c_X12_single a0 H = some (rv, Hf) → xWq Z H 0 [xA a0] [] := by
  have hz : Z.1 = (cX12_any, yX12_any, 1) := by rw [hZ]; rfl
  have hδ : Z.2.1 = (δ + 1) := by rw [hZ]; rfl
  intro a0 H h
  unfold B_X12_any at h
  refine x_aload_n hz dX12_any_0 rfl ?_
  obtain ⟨b2, e_b2, h⟩ := x_bnd h
  obtain ⟨v3, H1, e_H1, h⟩ := x_b2 h
  refine x_callVi (as := []) (st := []) cs_X12_257 (ci := 11) ⟨rfl, rfl⟩ rfl rfl hz (by omega) (by decide) dX12_any_1 e_b2 (hc_X12_all e_H1) ?_
  refine x_if_ne (t := 9) hz dX12_any_4 (by decide) (fun c4 => ?_) (fun c4 => ?_)
  · replace h := x_in c4 h
    exact x_wk (xwk_c xwk_0) ((P_X12_any_L9 hZ hb hc_X12_any hc_X12_all hc_X12_single N) a0 H1 h)
  · replace h := x_ip c4 h
    refine x_iconst (v := (0 : Int32)) hz dX12_any_7 (by decide) ?_
    cases h
    exact x_zret01 hZ (Or.inl rfl) dX12_any_8
theorem MB_X12_any {N : Nat} {δ : Nat} (hb : 3 ≤ δ) {c_X12_any : (Option Nat) → xH → Option (Int32 × xH)} (hc_X12_any : ∀ {a0 : (Option Nat)} {H H1 : xH} {r1 : Int32}, c_X12_any a0 H = some (r1, H1) → xM yX12_any cX12_any 1 (some .boolean) δ [.inr (.inr a0)] H (some (.int r1)) H1) {c_X12_all : (Option Nat) → xH → Option (Int32 × xH)} (hc_X12_all : ∀ {a0 : (Option Nat)} {H H1 : xH} {r1 : Int32}, c_X12_all a0 H = some (r1, H1) → xM yX12_all cX12_all 1 (some .boolean) δ [.inr (.inr a0)] H (some (.int r1)) H1) {c_X12_single : (Option Nat) → xH → Option (Int32 × xH)} (hc_X12_single : ∀ {a0 : (Option Nat)} {H H1 : xH} {r1 : Int32}, c_X12_single a0 H = some (r1, H1) → xM yX12_single cX12_single 2 (some .boolean) δ [.inr (.inr a0)] H (some (.int r1)) H1) {a0 : (Option Nat)} {H H1 : xH} {r1 : Int32} (h : B_X12_any N c_X12_any c_X12_all c_X12_single a0 H = some (r1, H1)) : xM yX12_any cX12_any 1 (some .boolean) (δ + 1) [.inr (.inr a0)] H (some (.int r1)) H1 :=
  xM_of (by decide +kernel) (xT_tb 1308 (by decide +kernel) (by decide +kernel)) (by simp [xargs, x2]) rfl (P_X12_any rfl hb hc_X12_any hc_X12_all hc_X12_single a0 H h)
/-! BettingBookModel.all()Z -/
noncomputable def F_X12_all_J9 (N : Nat) (c_X12_any : (Option Nat) → xH → Option (Int32 × xH)) (c_X12_all : (Option Nat) → xH → Option (Int32 × xH)) (c_X12_single : (Option Nat) → xH → Option (Int32 × xH)) (k9 : (Option Nat) → xH → Option (Int32 × xH)) (x0 : (Option Nat)) (H : xH) : Option (Int32 × xH) :=
  (xob H x0 11).bind fun b2 =>
  x_bd2 (F_X12_takes N x0 (6385252 : Int64) H) fun v3 H1 =>
  if v3 = 0 then (some ((1 : Int32), H1)) else ((xob H1 x0 11).bind fun b6 =>
  x_bd2 (c_X12_single x0 H1) fun v7 H5 =>
  if v7 = 0 then (some ((0 : Int32), H5)) else ((xob H5 x0 11).bind fun b10 =>
  (F_X12_puts N x0 (5 : Int32) (0 : Int32) (0 : Int32) H5).bind fun H9 =>
  k9 x0 H9))
set_option maxRecDepth 20000 in
set_option maxHeartbeats 4000000 in
theorem P_X12_all_J9 {N : Nat} {Z : xZ} {rv : Int32} {Hf : xH} {δ : Nat} (hZ : Z = xZm cX12_all yX12_all 1 (δ + 1) (some .boolean) (some (.int rv)) Hf) (hb : 3 ≤ δ) {c_X12_any : (Option Nat) → xH → Option (Int32 × xH)} (hc_X12_any : ∀ {a0 : (Option Nat)} {H H1 : xH} {r1 : Int32}, c_X12_any a0 H = some (r1, H1) → xM yX12_any cX12_any 1 (some .boolean) δ [.inr (.inr a0)] H (some (.int r1)) H1) {c_X12_all : (Option Nat) → xH → Option (Int32 × xH)} (hc_X12_all : ∀ {a0 : (Option Nat)} {H H1 : xH} {r1 : Int32}, c_X12_all a0 H = some (r1, H1) → xM yX12_all cX12_all 1 (some .boolean) δ [.inr (.inr a0)] H (some (.int r1)) H1) {c_X12_single : (Option Nat) → xH → Option (Int32 × xH)} (hc_X12_single : ∀ {a0 : (Option Nat)} {H H1 : xH} {r1 : Int32}, c_X12_single a0 H = some (r1, H1) → xM yX12_single cX12_single 2 (some .boolean) δ [.inr (.inr a0)] H (some (.int r1)) H1) {k9 : (Option Nat) → xH → Option (Int32 × xH)} (hk9 : ∀ (x0 : (Option Nat)) (H : xH), k9 x0 H = some (rv, Hf) → xWq Z H 9 [xA x0] []) : ∀ (x0 : (Option Nat)) (H : xH), F_X12_all_J9 N c_X12_any c_X12_all c_X12_single k9 x0 H = some (rv, Hf) → xWq Z H 9 [xA x0] [] := by
  have hz : Z.1 = (cX12_all, yX12_all, 1) := by rw [hZ]; rfl
  have hδ : Z.2.1 = (δ + 1) := by rw [hZ]; rfl
  intro x0 H h
  unfold F_X12_all_J9 at h
  refine x_aload_n hz dX12_all_9 rfl ?_
  refine x_ldc2 (v := (6385252 : Int64)) hz dX12_all_10 wc_X12_183 ?_
  obtain ⟨b2, e_b2, h⟩ := x_bnd h
  obtain ⟨v3, H1, e_H1, h⟩ := x_b2 h
  refine x_callVi (as := [.inr (.inl (6385252 : Int64))]) (st := []) cs_X12_215 (ci := 11) ⟨rfl, rfl⟩ rfl rfl hz (by omega) (by decide) dX12_all_13 e_b2 (M_X12_takes e_H1) ?_
  refine x_if_eq (t := 38) hz dX12_all_16 (by decide) (fun c4 => ?_) (fun c4 => ?_)
  · replace h := x_ip c4 h
    refine x_iconst (v := (1 : Int32)) hz dX12_all_38 (by decide) ?_
    cases h
    exact x_zret01 hZ (Or.inr rfl) dX12_all_39
  · replace h := x_in c4 h
    refine x_aload_n hz dX12_all_19 rfl ?_
    obtain ⟨b6, e_b6, h⟩ := x_bnd h
    obtain ⟨v7, H5, e_H5, h⟩ := x_b2 h
    refine x_callVi (as := []) (st := []) cs_X12_264 (ci := 11) ⟨rfl, rfl⟩ rfl rfl hz (by omega) (by decide) dX12_all_20 e_b6 (hc_X12_single e_H5) ?_
    refine x_if_ne (t := 28) hz dX12_all_23 (by decide) (fun c8 => ?_) (fun c8 => ?_)
    · replace h := x_in c8 h
      refine x_aload_n hz dX12_all_28 rfl ?_
      refine x_iconst (v := (5 : Int32)) hz dX12_all_29 (by decide) ?_
      refine x_iconst (v := (0 : Int32)) hz dX12_all_30 (by decide) ?_
      refine x_iconst (v := (0 : Int32)) hz dX12_all_31 (by decide) ?_
      obtain ⟨b10, e_b10, h⟩ := x_bnd h
      obtain ⟨H9, e_H9, h⟩ := x_bnd h
      refine x_callVv (as := [.inl (5 : Int32), .inl (0 : Int32), .inl (0 : Int32)]) (st := []) cs_X12_260 (ci := 11) ⟨rfl, rfl⟩ rfl rfl hz (by omega) (by decide) dX12_all_32 e_b10 (M_X12_puts e_H9) ?_
      refine x_goto (t := 9) hz dX12_all_35 (by decide) ?_
      exact x_wk (xwk_c xwk_0) (hk9 x0 H9 h)
    · replace h := x_ip c8 h
      refine x_iconst (v := (0 : Int32)) hz dX12_all_26 (by decide) ?_
      cases h
      exact x_zret01 hZ (Or.inl rfl) dX12_all_27
noncomputable def F_X12_all_L9 (N : Nat) (c_X12_any : (Option Nat) → xH → Option (Int32 × xH)) (c_X12_all : (Option Nat) → xH → Option (Int32 × xH)) (c_X12_single : (Option Nat) → xH → Option (Int32 × xH)) : Nat → (Option Nat) → xH → Option (Int32 × xH)
  | 0 => fun _ _ => none
  | n + 1 => F_X12_all_J9 N c_X12_any c_X12_all c_X12_single (F_X12_all_L9 N c_X12_any c_X12_all c_X12_single n)
theorem P_X12_all_L9 {N : Nat} {Z : xZ} {rv : Int32} {Hf : xH} {δ : Nat} (hZ : Z = xZm cX12_all yX12_all 1 (δ + 1) (some .boolean) (some (.int rv)) Hf) (hb : 3 ≤ δ) {c_X12_any : (Option Nat) → xH → Option (Int32 × xH)} (hc_X12_any : ∀ {a0 : (Option Nat)} {H H1 : xH} {r1 : Int32}, c_X12_any a0 H = some (r1, H1) → xM yX12_any cX12_any 1 (some .boolean) δ [.inr (.inr a0)] H (some (.int r1)) H1) {c_X12_all : (Option Nat) → xH → Option (Int32 × xH)} (hc_X12_all : ∀ {a0 : (Option Nat)} {H H1 : xH} {r1 : Int32}, c_X12_all a0 H = some (r1, H1) → xM yX12_all cX12_all 1 (some .boolean) δ [.inr (.inr a0)] H (some (.int r1)) H1) {c_X12_single : (Option Nat) → xH → Option (Int32 × xH)} (hc_X12_single : ∀ {a0 : (Option Nat)} {H H1 : xH} {r1 : Int32}, c_X12_single a0 H = some (r1, H1) → xM yX12_single cX12_single 2 (some .boolean) δ [.inr (.inr a0)] H (some (.int r1)) H1) : ∀ (n : Nat) (x0 : (Option Nat)) (H : xH), F_X12_all_L9 N c_X12_any c_X12_all c_X12_single n x0 H = some (rv, Hf) → xWq Z H 9 [xA x0] [] := by
  intro n
  induction n with
  | zero => intro _ _ h; cases h
  | succ n ih => exact P_X12_all_J9 hZ hb hc_X12_any hc_X12_all hc_X12_single ih
noncomputable def B_X12_all (N : Nat) (c_X12_any : (Option Nat) → xH → Option (Int32 × xH)) (c_X12_all : (Option Nat) → xH → Option (Int32 × xH)) (c_X12_single : (Option Nat) → xH → Option (Int32 × xH)) (a0 : (Option Nat)) (H : xH) : Option (Int32 × xH) :=
  (xob H a0 11).bind fun b2 =>
  x_bd2 (c_X12_single a0 H) fun v3 H1 =>
  if v3 = 0 then (some ((0 : Int32), H1)) else ((F_X12_all_L9 N c_X12_any c_X12_all c_X12_single N) a0 H1)
set_option maxRecDepth 20000 in
set_option maxHeartbeats 4000000 in
theorem P_X12_all {N : Nat} {Z : xZ} {rv : Int32} {Hf : xH} {δ : Nat} (hZ : Z = xZm cX12_all yX12_all 1 (δ + 1) (some .boolean) (some (.int rv)) Hf) (hb : 3 ≤ δ) {c_X12_any : (Option Nat) → xH → Option (Int32 × xH)} (hc_X12_any : ∀ {a0 : (Option Nat)} {H H1 : xH} {r1 : Int32}, c_X12_any a0 H = some (r1, H1) → xM yX12_any cX12_any 1 (some .boolean) δ [.inr (.inr a0)] H (some (.int r1)) H1) {c_X12_all : (Option Nat) → xH → Option (Int32 × xH)} (hc_X12_all : ∀ {a0 : (Option Nat)} {H H1 : xH} {r1 : Int32}, c_X12_all a0 H = some (r1, H1) → xM yX12_all cX12_all 1 (some .boolean) δ [.inr (.inr a0)] H (some (.int r1)) H1) {c_X12_single : (Option Nat) → xH → Option (Int32 × xH)} (hc_X12_single : ∀ {a0 : (Option Nat)} {H H1 : xH} {r1 : Int32}, c_X12_single a0 H = some (r1, H1) → xM yX12_single cX12_single 2 (some .boolean) δ [.inr (.inr a0)] H (some (.int r1)) H1) : ∀ (a0 : (Option Nat)) (H : xH), B_X12_all N c_X12_any c_X12_all c_X12_single a0 H = some (rv, Hf) → xWq Z H 0 [xA a0] [] := by
  have hz : Z.1 = (cX12_all, yX12_all, 1) := by rw [hZ]; rfl
  have hδ : Z.2.1 = (δ + 1) := by rw [hZ]; rfl
  intro a0 H h
  unfold B_X12_all at h
  refine x_aload_n hz dX12_all_0 rfl ?_
  obtain ⟨b2, e_b2, h⟩ := x_bnd h
  obtain ⟨v3, H1, e_H1, h⟩ := x_b2 h
  refine x_callVi (as := []) (st := []) cs_X12_264 (ci := 11) ⟨rfl, rfl⟩ rfl rfl hz (by omega) (by decide) dX12_all_1 e_b2 (hc_X12_single e_H1) ?_
  refine x_if_ne (t := 9) hz dX12_all_4 (by decide) (fun c4 => ?_) (fun c4 => ?_)
  · replace h := x_in c4 h
    exact x_wk (xwk_c xwk_0) ((P_X12_all_L9 hZ hb hc_X12_any hc_X12_all hc_X12_single N) a0 H1 h)
  · replace h := x_ip c4 h
    refine x_iconst (v := (0 : Int32)) hz dX12_all_7 (by decide) ?_
    cases h
    exact x_zret01 hZ (Or.inl rfl) dX12_all_8
theorem MB_X12_all {N : Nat} {δ : Nat} (hb : 3 ≤ δ) {c_X12_any : (Option Nat) → xH → Option (Int32 × xH)} (hc_X12_any : ∀ {a0 : (Option Nat)} {H H1 : xH} {r1 : Int32}, c_X12_any a0 H = some (r1, H1) → xM yX12_any cX12_any 1 (some .boolean) δ [.inr (.inr a0)] H (some (.int r1)) H1) {c_X12_all : (Option Nat) → xH → Option (Int32 × xH)} (hc_X12_all : ∀ {a0 : (Option Nat)} {H H1 : xH} {r1 : Int32}, c_X12_all a0 H = some (r1, H1) → xM yX12_all cX12_all 1 (some .boolean) δ [.inr (.inr a0)] H (some (.int r1)) H1) {c_X12_single : (Option Nat) → xH → Option (Int32 × xH)} (hc_X12_single : ∀ {a0 : (Option Nat)} {H H1 : xH} {r1 : Int32}, c_X12_single a0 H = some (r1, H1) → xM yX12_single cX12_single 2 (some .boolean) δ [.inr (.inr a0)] H (some (.int r1)) H1) {a0 : (Option Nat)} {H H1 : xH} {r1 : Int32} (h : B_X12_all N c_X12_any c_X12_all c_X12_single a0 H = some (r1, H1)) : xM yX12_all cX12_all 1 (some .boolean) (δ + 1) [.inr (.inr a0)] H (some (.int r1)) H1 :=
  xM_of (by decide +kernel) (xT_tb 1312 (by decide +kernel) (by decide +kernel)) (by simp [xargs, x2]) rfl (P_X12_all rfl hb hc_X12_any hc_X12_all hc_X12_single a0 H h)
/-! BettingBookModel.single()Z -/
noncomputable def F_X12_single_J131 (N : Nat) (c_X12_any : (Option Nat) → xH → Option (Int32 × xH)) (c_X12_all : (Option Nat) → xH → Option (Int32 × xH)) (c_X12_single : (Option Nat) → xH → Option (Int32 × xH)) (x0 : (Option Nat)) (H : xH) : Option (Int32 × xH) :=
  (xob H x0 11).bind fun b2 =>
  x_bd2 (F_X12_takes N x0 (465557353332 : Int64) H) fun v3 H1 =>
  if v3 = 0 then ((xob H1 x0 11).bind fun b6 =>
  x_bd2 (F_X12_takesThing N x0 (-1 : Int32) H1) fun v7 H5 =>
  if v7 = 0 then (some ((0 : Int32), H5)) else ((xgI H5 x0 11 40).bind fun v9 =>
  (xob H5 x0 11).bind fun b11 =>
  x_bd2 (F_X12_takes N x0 (427071202675 : Int64) H5) fun v12 H10 =>
  if v12 = 0 then ((xob H10 x0 11).bind fun b15 =>
  x_bd2 (F_X12_takes N x0 (25209 : Int64) H10) fun v16 H14 =>
  if v16 = 0 then ((xob H14 x0 11).bind fun b19 =>
  x_bd2 (F_X12_takes N x0 (108187649798757 : Int64) H14) fun v20 H18 =>
  if v20 = 0 then (some ((0 : Int32), H18)) else ((xob H18 x0 11).bind fun b23 =>
  x_bd2 (F_X12_takesThing N x0 v9 H18) fun v24 H22 =>
  if v24 = 0 then (some ((0 : Int32), H22)) else ((xgI H22 x0 11 40).bind fun v26 =>
  (xob H22 x0 11).bind fun b28 =>
  (F_X12_puts N x0 (2 : Int32) v9 v26 H22).bind fun H27 =>
  some ((1 : Int32), H27)))) else ((xob H14 x0 11).bind fun b30 =>
  x_bd2 (F_X12_takesNumber N x0 (0 : Int32) (7 : Int32) H14) fun v31 H29 =>
  if v31 = 0 then (some ((0 : Int32), H29)) else ((xgI H29 x0 11 39).bind fun v33 =>
  (xob H29 x0 11).bind fun b35 =>
  (F_X12_puts N x0 (1 : Int32) v9 v33 H29).bind fun H34 =>
  some ((1 : Int32), H34)))) else ((xob H10 x0 11).bind fun b37 =>
  (F_X12_puts N x0 (0 : Int32) v9 (0 : Int32) H10).bind fun H36 =>
  some ((1 : Int32), H36)))) else ((xob H1 x0 11).bind fun b39 =>
  x_bd2 (F_X12_takesNumber N x0 (0 : Int32) (9 : Int32) H1) fun v40 H38 =>
  if v40 = 0 then (some ((0 : Int32), H38)) else ((xgI H38 x0 11 39).bind fun v42 =>
  (xob H38 x0 11).bind fun b44 =>
  x_bd2 (F_X12_takes N x0 (25209 : Int64) H38) fun v45 H43 =>
  if v45 = 0 then (some ((0 : Int32), H43)) else ((xob H43 x0 11).bind fun b48 =>
  x_bd2 (F_X12_takesNumber N x0 (0 : Int32) (7 : Int32) H43) fun v49 H47 =>
  if v49 = 0 then (some ((0 : Int32), H47)) else ((xgI H47 x0 11 39).bind fun v51 =>
  (xob H47 x0 11).bind fun b53 =>
  (F_X12_puts N x0 (3 : Int32) v42 v51 H47).bind fun H52 =>
  some ((1 : Int32), H52)))))
set_option maxRecDepth 20000 in
set_option maxHeartbeats 4000000 in
theorem P_X12_single_J131 {N : Nat} {Z : xZ} {rv : Int32} {Hf : xH} {δ : Nat} (hZ : Z = xZm cX12_single yX12_single 2 (δ + 1) (some .boolean) (some (.int rv)) Hf) (hb : 3 ≤ δ) {c_X12_any : (Option Nat) → xH → Option (Int32 × xH)} (hc_X12_any : ∀ {a0 : (Option Nat)} {H H1 : xH} {r1 : Int32}, c_X12_any a0 H = some (r1, H1) → xM yX12_any cX12_any 1 (some .boolean) δ [.inr (.inr a0)] H (some (.int r1)) H1) {c_X12_all : (Option Nat) → xH → Option (Int32 × xH)} (hc_X12_all : ∀ {a0 : (Option Nat)} {H H1 : xH} {r1 : Int32}, c_X12_all a0 H = some (r1, H1) → xM yX12_all cX12_all 1 (some .boolean) δ [.inr (.inr a0)] H (some (.int r1)) H1) {c_X12_single : (Option Nat) → xH → Option (Int32 × xH)} (hc_X12_single : ∀ {a0 : (Option Nat)} {H H1 : xH} {r1 : Int32}, c_X12_single a0 H = some (r1, H1) → xM yX12_single cX12_single 2 (some .boolean) δ [.inr (.inr a0)] H (some (.int r1)) H1) : ∀ (x0 : (Option Nat)) (H : xH), F_X12_single_J131 N c_X12_any c_X12_all c_X12_single x0 H = some (rv, Hf) → xWq Z H 131 [xA x0, xN] [] := by
  have hz : Z.1 = (cX12_single, yX12_single, 2) := by rw [hZ]; rfl
  have hδ : Z.2.1 = (δ + 1) := by rw [hZ]; rfl
  intro x0 H h
  unfold F_X12_single_J131 at h
  refine x_aload_n hz dX12_single_131 rfl ?_
  refine x_ldc2 (v := (465557353332 : Int64)) hz dX12_single_132 wc_X12_193 ?_
  obtain ⟨b2, e_b2, h⟩ := x_bnd h
  obtain ⟨v3, H1, e_H1, h⟩ := x_b2 h
  refine x_callVi (as := [.inr (.inl (465557353332 : Int64))]) (st := []) cs_X12_215 (ci := 11) ⟨rfl, rfl⟩ rfl rfl hz (by omega) (by decide) dX12_single_135 e_b2 (M_X12_takes e_H1) ?_
  refine x_if_eq (t := 192) hz dX12_single_138 (by decide) (fun c4 => ?_) (fun c4 => ?_)
  · replace h := x_ip c4 h
    refine x_aload_n hz dX12_single_192 rfl ?_
    refine x_iconst (v := (-1 : Int32)) hz dX12_single_193 (by decide) ?_
    obtain ⟨b6, e_b6, h⟩ := x_bnd h
    obtain ⟨v7, H5, e_H5, h⟩ := x_b2 h
    refine x_callVi (as := [.inl (-1 : Int32)]) (st := []) cs_X12_225 (ci := 11) ⟨rfl, rfl⟩ rfl rfl hz (by omega) (by decide) dX12_single_194 e_b6 (M_X12_takesThing e_H5) ?_
    refine x_if_ne (t := 202) hz dX12_single_197 (by decide) (fun c8 => ?_) (fun c8 => ?_)
    · replace h := x_in c8 h
      refine x_aload_n hz dX12_single_202 rfl ?_
      obtain ⟨v9, e_v9, h⟩ := x_bnd h
      refine x_getI hz dX12_single_203 fs_X12_209 e_v9 ?_
      refine x_istore_n (pl' := [xA x0, xI v9]) hz dX12_single_206 (by decide) rfl ?_
      refine x_aload_n hz dX12_single_207 rfl ?_
      refine x_ldc2 (v := (427071202675 : Int64)) hz dX12_single_208 wc_X12_187 ?_
      obtain ⟨b11, e_b11, h⟩ := x_bnd h
      obtain ⟨v12, H10, e_H10, h⟩ := x_b2 h
      refine x_callVi (as := [.inr (.inl (427071202675 : Int64))]) (st := []) cs_X12_215 (ci := 11) ⟨rfl, rfl⟩ rfl rfl hz (by omega) (by decide) dX12_single_211 e_b11 (M_X12_takes e_H10) ?_
      refine x_if_eq (t := 226) hz dX12_single_214 (by decide) (fun c13 => ?_) (fun c13 => ?_)
      · replace h := x_ip c13 h
        refine x_aload_n hz dX12_single_226 rfl ?_
        refine x_ldc2 (v := (25209 : Int64)) hz dX12_single_227 wc_X12_189 ?_
        obtain ⟨b15, e_b15, h⟩ := x_bnd h
        obtain ⟨v16, H14, e_H14, h⟩ := x_b2 h
        refine x_callVi (as := [.inr (.inl (25209 : Int64))]) (st := []) cs_X12_215 (ci := 11) ⟨rfl, rfl⟩ rfl rfl hz (by omega) (by decide) dX12_single_230 e_b15 (M_X12_takes e_H14) ?_
        refine x_if_eq (t := 260) hz dX12_single_233 (by decide) (fun c17 => ?_) (fun c17 => ?_)
        · replace h := x_ip c17 h
          refine x_aload_n hz dX12_single_260 rfl ?_
          refine x_ldc2 (v := (108187649798757 : Int64)) hz dX12_single_261 wc_X12_191 ?_
          obtain ⟨b19, e_b19, h⟩ := x_bnd h
          obtain ⟨v20, H18, e_H18, h⟩ := x_b2 h
          refine x_callVi (as := [.inr (.inl (108187649798757 : Int64))]) (st := []) cs_X12_215 (ci := 11) ⟨rfl, rfl⟩ rfl rfl hz (by omega) (by decide) dX12_single_264 e_b19 (M_X12_takes e_H18) ?_
          refine x_if_eq (t := 278) hz dX12_single_267 (by decide) (fun c21 => ?_) (fun c21 => ?_)
          · replace h := x_ip c21 h
            refine x_iconst (v := (0 : Int32)) hz dX12_single_278 (by decide) ?_
            cases h
            exact x_zret01 hZ (Or.inl rfl) dX12_single_279
          · replace h := x_in c21 h
            refine x_aload_n hz dX12_single_270 rfl ?_
            refine x_iload_n hz dX12_single_271 rfl ?_
            obtain ⟨b23, e_b23, h⟩ := x_bnd h
            obtain ⟨v24, H22, e_H22, h⟩ := x_b2 h
            refine x_callVi (as := [.inl v9]) (st := []) cs_X12_225 (ci := 11) ⟨rfl, rfl⟩ rfl rfl hz (by omega) (by decide) dX12_single_272 e_b23 (M_X12_takesThing e_H22) ?_
            refine x_if_ne (t := 280) hz dX12_single_275 (by decide) (fun c25 => ?_) (fun c25 => ?_)
            · replace h := x_in c25 h
              refine x_aload_n hz dX12_single_280 rfl ?_
              refine x_iconst (v := (2 : Int32)) hz dX12_single_281 (by decide) ?_
              refine x_iload_n hz dX12_single_282 rfl ?_
              refine x_aload_n hz dX12_single_283 rfl ?_
              obtain ⟨v26, e_v26, h⟩ := x_bnd h
              refine x_getI hz dX12_single_284 fs_X12_209 e_v26 ?_
              obtain ⟨b28, e_b28, h⟩ := x_bnd h
              obtain ⟨H27, e_H27, h⟩ := x_bnd h
              refine x_callVv (as := [.inl (2 : Int32), .inl v9, .inl v26]) (st := []) cs_X12_260 (ci := 11) ⟨rfl, rfl⟩ rfl rfl hz (by omega) (by decide) dX12_single_287 e_b28 (M_X12_puts e_H27) ?_
              refine x_iconst (v := (1 : Int32)) hz dX12_single_290 (by decide) ?_
              cases h
              exact x_zret01 hZ (Or.inr rfl) dX12_single_291
            · replace h := x_ip c25 h
              refine x_iconst (v := (0 : Int32)) hz dX12_single_278 (by decide) ?_
              cases h
              exact x_zret01 hZ (Or.inl rfl) dX12_single_279
        · replace h := x_in c17 h
          refine x_aload_n hz dX12_single_236 rfl ?_
          refine x_iconst (v := (0 : Int32)) hz dX12_single_237 (by decide) ?_
          refine x_bipush (v := (7 : Int32)) hz dX12_single_238 (by decide) ?_
          obtain ⟨b30, e_b30, h⟩ := x_bnd h
          obtain ⟨v31, H29, e_H29, h⟩ := x_b2 h
          refine x_callVi (as := [.inl (0 : Int32), .inl (7 : Int32)]) (st := []) cs_X12_218 (ci := 11) ⟨rfl, rfl⟩ rfl rfl hz (by omega) (by decide) dX12_single_240 e_b30 (M_X12_takesNumber e_H29) ?_
          refine x_if_ne (t := 248) hz dX12_single_243 (by decide) (fun c32 => ?_) (fun c32 => ?_)
          · replace h := x_in c32 h
            refine x_aload_n hz dX12_single_248 rfl ?_
            refine x_iconst (v := (1 : Int32)) hz dX12_single_249 (by decide) ?_
            refine x_iload_n hz dX12_single_250 rfl ?_
            refine x_aload_n hz dX12_single_251 rfl ?_
            obtain ⟨v33, e_v33, h⟩ := x_bnd h
            refine x_getI hz dX12_single_252 fs_X12_150 e_v33 ?_
            obtain ⟨b35, e_b35, h⟩ := x_bnd h
            obtain ⟨H34, e_H34, h⟩ := x_bnd h
            refine x_callVv (as := [.inl (1 : Int32), .inl v9, .inl v33]) (st := []) cs_X12_260 (ci := 11) ⟨rfl, rfl⟩ rfl rfl hz (by omega) (by decide) dX12_single_255 e_b35 (M_X12_puts e_H34) ?_
            refine x_iconst (v := (1 : Int32)) hz dX12_single_258 (by decide) ?_
            cases h
            exact x_zret01 hZ (Or.inr rfl) dX12_single_259
          · replace h := x_ip c32 h
            refine x_iconst (v := (0 : Int32)) hz dX12_single_246 (by decide) ?_
            cases h
            exact x_zret01 hZ (Or.inl rfl) dX12_single_247
      · replace h := x_in c13 h
        refine x_aload_n hz dX12_single_217 rfl ?_
        refine x_iconst (v := (0 : Int32)) hz dX12_single_218 (by decide) ?_
        refine x_iload_n hz dX12_single_219 rfl ?_
        refine x_iconst (v := (0 : Int32)) hz dX12_single_220 (by decide) ?_
        obtain ⟨b37, e_b37, h⟩ := x_bnd h
        obtain ⟨H36, e_H36, h⟩ := x_bnd h
        refine x_callVv (as := [.inl (0 : Int32), .inl v9, .inl (0 : Int32)]) (st := []) cs_X12_260 (ci := 11) ⟨rfl, rfl⟩ rfl rfl hz (by omega) (by decide) dX12_single_221 e_b37 (M_X12_puts e_H36) ?_
        refine x_iconst (v := (1 : Int32)) hz dX12_single_224 (by decide) ?_
        cases h
        exact x_zret01 hZ (Or.inr rfl) dX12_single_225
    · replace h := x_ip c8 h
      refine x_iconst (v := (0 : Int32)) hz dX12_single_200 (by decide) ?_
      cases h
      exact x_zret01 hZ (Or.inl rfl) dX12_single_201
  · replace h := x_in c4 h
    refine x_aload_n hz dX12_single_141 rfl ?_
    refine x_iconst (v := (0 : Int32)) hz dX12_single_142 (by decide) ?_
    refine x_bipush (v := (9 : Int32)) hz dX12_single_143 (by decide) ?_
    obtain ⟨b39, e_b39, h⟩ := x_bnd h
    obtain ⟨v40, H38, e_H38, h⟩ := x_b2 h
    refine x_callVi (as := [.inl (0 : Int32), .inl (9 : Int32)]) (st := []) cs_X12_218 (ci := 11) ⟨rfl, rfl⟩ rfl rfl hz (by omega) (by decide) dX12_single_145 e_b39 (M_X12_takesNumber e_H38) ?_
    refine x_if_ne (t := 153) hz dX12_single_148 (by decide) (fun c41 => ?_) (fun c41 => ?_)
    · replace h := x_in c41 h
      refine x_aload_n hz dX12_single_153 rfl ?_
      obtain ⟨v42, e_v42, h⟩ := x_bnd h
      refine x_getI hz dX12_single_154 fs_X12_150 e_v42 ?_
      refine x_istore_n (pl' := [xA x0, xI v42]) hz dX12_single_157 (by decide) rfl ?_
      refine x_aload_n hz dX12_single_158 rfl ?_
      refine x_ldc2 (v := (25209 : Int64)) hz dX12_single_159 wc_X12_189 ?_
      obtain ⟨b44, e_b44, h⟩ := x_bnd h
      obtain ⟨v45, H43, e_H43, h⟩ := x_b2 h
      refine x_callVi (as := [.inr (.inl (25209 : Int64))]) (st := []) cs_X12_215 (ci := 11) ⟨rfl, rfl⟩ rfl rfl hz (by omega) (by decide) dX12_single_162 e_b44 (M_X12_takes e_H43) ?_
      refine x_if_eq (t := 178) hz dX12_single_165 (by decide) (fun c46 => ?_) (fun c46 => ?_)
      · replace h := x_ip c46 h
        refine x_iconst (v := (0 : Int32)) hz dX12_single_178 (by decide) ?_
        cases h
        exact x_zret01 hZ (Or.inl rfl) dX12_single_179
      · replace h := x_in c46 h
        refine x_aload_n hz dX12_single_168 rfl ?_
        refine x_iconst (v := (0 : Int32)) hz dX12_single_169 (by decide) ?_
        refine x_bipush (v := (7 : Int32)) hz dX12_single_170 (by decide) ?_
        obtain ⟨b48, e_b48, h⟩ := x_bnd h
        obtain ⟨v49, H47, e_H47, h⟩ := x_b2 h
        refine x_callVi (as := [.inl (0 : Int32), .inl (7 : Int32)]) (st := []) cs_X12_218 (ci := 11) ⟨rfl, rfl⟩ rfl rfl hz (by omega) (by decide) dX12_single_172 e_b48 (M_X12_takesNumber e_H47) ?_
        refine x_if_ne (t := 180) hz dX12_single_175 (by decide) (fun c50 => ?_) (fun c50 => ?_)
        · replace h := x_in c50 h
          refine x_aload_n hz dX12_single_180 rfl ?_
          refine x_iconst (v := (3 : Int32)) hz dX12_single_181 (by decide) ?_
          refine x_iload_n hz dX12_single_182 rfl ?_
          refine x_aload_n hz dX12_single_183 rfl ?_
          obtain ⟨v51, e_v51, h⟩ := x_bnd h
          refine x_getI hz dX12_single_184 fs_X12_150 e_v51 ?_
          obtain ⟨b53, e_b53, h⟩ := x_bnd h
          obtain ⟨H52, e_H52, h⟩ := x_bnd h
          refine x_callVv (as := [.inl (3 : Int32), .inl v42, .inl v51]) (st := []) cs_X12_260 (ci := 11) ⟨rfl, rfl⟩ rfl rfl hz (by omega) (by decide) dX12_single_187 e_b53 (M_X12_puts e_H52) ?_
          refine x_iconst (v := (1 : Int32)) hz dX12_single_190 (by decide) ?_
          cases h
          exact x_zret01 hZ (Or.inr rfl) dX12_single_191
        · replace h := x_ip c50 h
          refine x_iconst (v := (0 : Int32)) hz dX12_single_178 (by decide) ?_
          cases h
          exact x_zret01 hZ (Or.inl rfl) dX12_single_179
    · replace h := x_ip c41 h
      refine x_iconst (v := (0 : Int32)) hz dX12_single_151 (by decide) ?_
      cases h
      exact x_zret01 hZ (Or.inl rfl) dX12_single_152
noncomputable def B_X12_single (N : Nat) (c_X12_any : (Option Nat) → xH → Option (Int32 × xH)) (c_X12_all : (Option Nat) → xH → Option (Int32 × xH)) (c_X12_single : (Option Nat) → xH → Option (Int32 × xH)) (a0 : (Option Nat)) (H : xH) : Option (Int32 × xH) :=
  (xob H a0 11).bind fun b2 =>
  x_bd2 (F_X12_word N a0 H) fun v3 H1 =>
  if (lg_cmp v3 (7237492 : Int64)) = 0 then ((xob H1 a0 11).bind fun b29 =>
  x_bd2 (F_X12_opens N a0 H1) fun v30 H28 =>
  if v30 = 0 then (some ((0 : Int32), H28)) else ((xgI H28 a0 11 38).bind fun v32 =>
  (xpI H28 a0 11 33 v32).bind fun H33 =>
  (xob H33 a0 11).bind fun b35 =>
  x_bd2 (c_X12_single a0 H33) fun v36 H34 =>
  if v36 = 0 then (some ((0 : Int32), H34)) else ((xgI H34 a0 11 34).bind fun v38 =>
  (xpI H34 a0 11 34 (v38 - (1 : Int32))).bind fun H39 =>
  (xob H39 a0 11).bind fun b41 =>
  (F_X12_puts N a0 (6 : Int32) (0 : Int32) (0 : Int32) H39).bind fun H40 =>
  some ((1 : Int32), H40)))) else ((xgI H1 a0 11 33).bind fun v5 =>
  (xgI H1 a0 11 32).bind fun v6 =>
  if v6 ≤ v5 then ((F_X12_single_J131 N c_X12_any c_X12_all c_X12_single) a0 H1) else ((xgA H1 a0 11 37).bind fun v8 =>
  (xgI H1 a0 11 33).bind fun v9 =>
  (xlI .byte H1 v8 v9).bind fun v10 =>
  if v10 = (40 : Int32) then ((xob H1 a0 11).bind fun b13 =>
  x_bd2 (F_X12_opens N a0 H1) fun v14 H12 =>
  if v14 = 0 then (some ((0 : Int32), H12)) else ((xgI H12 a0 11 33).bind fun v16 =>
  (xpI H12 a0 11 33 (v16 + (1 : Int32))).bind fun H17 =>
  (xob H17 a0 11).bind fun b19 =>
  x_bd2 (c_X12_any a0 H17) fun v20 H18 =>
  if v20 = 0 then (some ((0 : Int32), H18)) else ((xob H18 a0 11).bind fun b23 =>
  x_bd2 (F_X12_takesSign N a0 (41 : Int32) H18) fun v24 H22 =>
  if v24 = 0 then (some ((0 : Int32), H22)) else ((xgI H22 a0 11 34).bind fun v26 =>
  (xpI H22 a0 11 34 (v26 - (1 : Int32))).bind fun H27 =>
  some ((1 : Int32), H27))))) else ((F_X12_single_J131 N c_X12_any c_X12_all c_X12_single) a0 H1)))
set_option maxRecDepth 20000 in
set_option maxHeartbeats 4000000 in
theorem P_X12_single {N : Nat} {Z : xZ} {rv : Int32} {Hf : xH} {δ : Nat} (hZ : Z = xZm cX12_single yX12_single 2 (δ + 1) (some .boolean) (some (.int rv)) Hf) (hb : 3 ≤ δ) {c_X12_any : (Option Nat) → xH → Option (Int32 × xH)} (hc_X12_any : ∀ {a0 : (Option Nat)} {H H1 : xH} {r1 : Int32}, c_X12_any a0 H = some (r1, H1) → xM yX12_any cX12_any 1 (some .boolean) δ [.inr (.inr a0)] H (some (.int r1)) H1) {c_X12_all : (Option Nat) → xH → Option (Int32 × xH)} (hc_X12_all : ∀ {a0 : (Option Nat)} {H H1 : xH} {r1 : Int32}, c_X12_all a0 H = some (r1, H1) → xM yX12_all cX12_all 1 (some .boolean) δ [.inr (.inr a0)] H (some (.int r1)) H1) {c_X12_single : (Option Nat) → xH → Option (Int32 × xH)} (hc_X12_single : ∀ {a0 : (Option Nat)} {H H1 : xH} {r1 : Int32}, c_X12_single a0 H = some (r1, H1) → xM yX12_single cX12_single 2 (some .boolean) δ [.inr (.inr a0)] H (some (.int r1)) H1) : ∀ (a0 : (Option Nat)) (H : xH), B_X12_single N c_X12_any c_X12_all c_X12_single a0 H = some (rv, Hf) → xWq Z H 0 [xA a0, xN] [] := by
  have hz : Z.1 = (cX12_single, yX12_single, 2) := by rw [hZ]; rfl
  have hδ : Z.2.1 = (δ + 1) := by rw [hZ]; rfl
  intro a0 H h
  unfold B_X12_single at h
  refine x_aload_n hz dX12_single_0 rfl ?_
  obtain ⟨b2, e_b2, h⟩ := x_bnd h
  obtain ⟨v3, H1, e_H1, h⟩ := x_b2 h
  refine x_callVl (as := []) (st := []) cs_X12_146 (ci := 11) ⟨rfl, rfl⟩ rfl rfl hz (by omega) (by decide) dX12_single_1 e_b2 (M_X12_word e_H1) ?_
  refine x_ldc2 (v := (7237492 : Int64)) hz dX12_single_4 wc_X12_185 ?_
  refine x_lcmp hz dX12_single_7 ?_
  refine x_if_ne (t := 57) hz dX12_single_8 (by decide) (fun c4 => ?_) (fun c4 => ?_)
  · replace h := x_in c4 h
    refine x_aload_n hz dX12_single_57 rfl ?_
    obtain ⟨v5, e_v5, h⟩ := x_bnd h
    refine x_getI hz dX12_single_58 fs_X12_134 e_v5 ?_
    refine x_aload_n hz dX12_single_61 rfl ?_
    obtain ⟨v6, e_v6, h⟩ := x_bnd h
    refine x_getI hz dX12_single_62 fs_X12_137 e_v6 ?_
    refine x_icmp_ge (t := 131) hz dX12_single_65 (by decide) (fun c7 => ?_) (fun c7 => ?_)
    · replace h := x_ip c7 h
      exact x_wk (xwk_c (xwk_n xwk_0)) ((P_X12_single_J131 hZ hb hc_X12_any hc_X12_all hc_X12_single) a0 H1 h)
    · replace h := x_in c7 h
      refine x_aload_n hz dX12_single_68 rfl ?_
      obtain ⟨v8, e_v8, h⟩ := x_bnd h
      refine x_getA hz dX12_single_69 fs_X12_76 e_v8 ?_
      refine x_aload_n hz dX12_single_72 rfl ?_
      obtain ⟨v9, e_v9, h⟩ := x_bnd h
      refine x_getI hz dX12_single_73 fs_X12_134 e_v9 ?_
      obtain ⟨v10, e_v10, h⟩ := x_bnd h
      refine x_bald hz dX12_single_76 e_v10 ?_
      refine x_bipush (v := (40 : Int32)) hz dX12_single_77 (by decide) ?_
      refine x_icmp_ne (t := 131) hz dX12_single_79 (by decide) (fun c11 => ?_) (fun c11 => ?_)
      · replace h := x_in c11 h
        exact x_wk (xwk_c (xwk_n xwk_0)) ((P_X12_single_J131 hZ hb hc_X12_any hc_X12_all hc_X12_single) a0 H1 h)
      · replace h := x_ip c11 h
        refine x_aload_n hz dX12_single_82 rfl ?_
        obtain ⟨b13, e_b13, h⟩ := x_bnd h
        obtain ⟨v14, H12, e_H12, h⟩ := x_b2 h
        refine x_callVi (as := []) (st := []) cs_X12_267 (ci := 11) ⟨rfl, rfl⟩ rfl rfl hz (by omega) (by decide) dX12_single_83 e_b13 (M_X12_opens e_H12) ?_
        refine x_if_ne (t := 91) hz dX12_single_86 (by decide) (fun c15 => ?_) (fun c15 => ?_)
        · replace h := x_in c15 h
          refine x_aload_n hz dX12_single_91 rfl ?_
          refine x_dup hz dX12_single_92 (x_rfc _) ?_
          obtain ⟨v16, e_v16, h⟩ := x_bnd h
          refine x_getI hz dX12_single_93 fs_X12_134 e_v16 ?_
          refine x_iconst (v := (1 : Int32)) hz dX12_single_96 (by decide) ?_
          refine x_iadd hz dX12_single_97 ?_
          obtain ⟨H17, e_H17, h⟩ := x_bnd h
          refine x_putV (v := .int (v16 + (1 : Int32))) hz dX12_single_98 fs_X12_134 rfl rfl e_H17 ?_
          refine x_aload_n hz dX12_single_101 rfl ?_
          obtain ⟨b19, e_b19, h⟩ := x_bnd h
          obtain ⟨v20, H18, e_H18, h⟩ := x_b2 h
          refine x_callVi (as := []) (st := []) cs_X12_238 (ci := 11) ⟨rfl, rfl⟩ rfl rfl hz (by omega) (by decide) dX12_single_102 e_b19 (hc_X12_any e_H18) ?_
          refine x_if_eq (t := 117) hz dX12_single_105 (by decide) (fun c21 => ?_) (fun c21 => ?_)
          · replace h := x_ip c21 h
            refine x_iconst (v := (0 : Int32)) hz dX12_single_117 (by decide) ?_
            cases h
            exact x_zret01 hZ (Or.inl rfl) dX12_single_118
          · replace h := x_in c21 h
            refine x_aload_n hz dX12_single_108 rfl ?_
            refine x_bipush (v := (41 : Int32)) hz dX12_single_109 (by decide) ?_
            obtain ⟨b23, e_b23, h⟩ := x_bnd h
            obtain ⟨v24, H22, e_H22, h⟩ := x_b2 h
            refine x_callVi (as := [.inl (41 : Int32)]) (st := []) cs_X12_270 (ci := 11) ⟨rfl, rfl⟩ rfl rfl hz (by omega) (by decide) dX12_single_111 e_b23 (M_X12_takesSign e_H22) ?_
            refine x_if_ne (t := 119) hz dX12_single_114 (by decide) (fun c25 => ?_) (fun c25 => ?_)
            · replace h := x_in c25 h
              refine x_aload_n hz dX12_single_119 rfl ?_
              refine x_dup hz dX12_single_120 (x_rfc _) ?_
              obtain ⟨v26, e_v26, h⟩ := x_bnd h
              refine x_getI hz dX12_single_121 fs_X12_242 e_v26 ?_
              refine x_iconst (v := (1 : Int32)) hz dX12_single_124 (by decide) ?_
              refine x_isub hz dX12_single_125 ?_
              obtain ⟨H27, e_H27, h⟩ := x_bnd h
              refine x_putV (v := .int (v26 - (1 : Int32))) hz dX12_single_126 fs_X12_242 rfl rfl e_H27 ?_
              refine x_iconst (v := (1 : Int32)) hz dX12_single_129 (by decide) ?_
              cases h
              exact x_zret01 hZ (Or.inr rfl) dX12_single_130
            · replace h := x_ip c25 h
              refine x_iconst (v := (0 : Int32)) hz dX12_single_117 (by decide) ?_
              cases h
              exact x_zret01 hZ (Or.inl rfl) dX12_single_118
        · replace h := x_ip c15 h
          refine x_iconst (v := (0 : Int32)) hz dX12_single_89 (by decide) ?_
          cases h
          exact x_zret01 hZ (Or.inl rfl) dX12_single_90
  · replace h := x_ip c4 h
    refine x_aload_n hz dX12_single_11 rfl ?_
    obtain ⟨b29, e_b29, h⟩ := x_bnd h
    obtain ⟨v30, H28, e_H28, h⟩ := x_b2 h
    refine x_callVi (as := []) (st := []) cs_X12_267 (ci := 11) ⟨rfl, rfl⟩ rfl rfl hz (by omega) (by decide) dX12_single_12 e_b29 (M_X12_opens e_H28) ?_
    refine x_if_ne (t := 20) hz dX12_single_15 (by decide) (fun c31 => ?_) (fun c31 => ?_)
    · replace h := x_in c31 h
      refine x_aload_n hz dX12_single_20 rfl ?_
      refine x_aload_n hz dX12_single_21 rfl ?_
      obtain ⟨v32, e_v32, h⟩ := x_bnd h
      refine x_getI hz dX12_single_22 fs_X12_143 e_v32 ?_
      obtain ⟨H33, e_H33, h⟩ := x_bnd h
      refine x_putV (v := .int v32) hz dX12_single_25 fs_X12_134 rfl rfl e_H33 ?_
      refine x_aload_n hz dX12_single_28 rfl ?_
      obtain ⟨b35, e_b35, h⟩ := x_bnd h
      obtain ⟨v36, H34, e_H34, h⟩ := x_b2 h
      refine x_callVi (as := []) (st := []) cs_X12_264 (ci := 11) ⟨rfl, rfl⟩ rfl rfl hz (by omega) (by decide) dX12_single_29 e_b35 (hc_X12_single e_H34) ?_
      refine x_if_ne (t := 37) hz dX12_single_32 (by decide) (fun c37 => ?_) (fun c37 => ?_)
      · replace h := x_in c37 h
        refine x_aload_n hz dX12_single_37 rfl ?_
        refine x_dup hz dX12_single_38 (x_rfc _) ?_
        obtain ⟨v38, e_v38, h⟩ := x_bnd h
        refine x_getI hz dX12_single_39 fs_X12_242 e_v38 ?_
        refine x_iconst (v := (1 : Int32)) hz dX12_single_42 (by decide) ?_
        refine x_isub hz dX12_single_43 ?_
        obtain ⟨H39, e_H39, h⟩ := x_bnd h
        refine x_putV (v := .int (v38 - (1 : Int32))) hz dX12_single_44 fs_X12_242 rfl rfl e_H39 ?_
        refine x_aload_n hz dX12_single_47 rfl ?_
        refine x_bipush (v := (6 : Int32)) hz dX12_single_48 (by decide) ?_
        refine x_iconst (v := (0 : Int32)) hz dX12_single_50 (by decide) ?_
        refine x_iconst (v := (0 : Int32)) hz dX12_single_51 (by decide) ?_
        obtain ⟨b41, e_b41, h⟩ := x_bnd h
        obtain ⟨H40, e_H40, h⟩ := x_bnd h
        refine x_callVv (as := [.inl (6 : Int32), .inl (0 : Int32), .inl (0 : Int32)]) (st := []) cs_X12_260 (ci := 11) ⟨rfl, rfl⟩ rfl rfl hz (by omega) (by decide) dX12_single_52 e_b41 (M_X12_puts e_H40) ?_
        refine x_iconst (v := (1 : Int32)) hz dX12_single_55 (by decide) ?_
        cases h
        exact x_zret01 hZ (Or.inr rfl) dX12_single_56
      · replace h := x_ip c37 h
        refine x_iconst (v := (0 : Int32)) hz dX12_single_35 (by decide) ?_
        cases h
        exact x_zret01 hZ (Or.inl rfl) dX12_single_36
    · replace h := x_ip c31 h
      refine x_iconst (v := (0 : Int32)) hz dX12_single_18 (by decide) ?_
      cases h
      exact x_zret01 hZ (Or.inl rfl) dX12_single_19
theorem MB_X12_single {N : Nat} {δ : Nat} (hb : 3 ≤ δ) {c_X12_any : (Option Nat) → xH → Option (Int32 × xH)} (hc_X12_any : ∀ {a0 : (Option Nat)} {H H1 : xH} {r1 : Int32}, c_X12_any a0 H = some (r1, H1) → xM yX12_any cX12_any 1 (some .boolean) δ [.inr (.inr a0)] H (some (.int r1)) H1) {c_X12_all : (Option Nat) → xH → Option (Int32 × xH)} (hc_X12_all : ∀ {a0 : (Option Nat)} {H H1 : xH} {r1 : Int32}, c_X12_all a0 H = some (r1, H1) → xM yX12_all cX12_all 1 (some .boolean) δ [.inr (.inr a0)] H (some (.int r1)) H1) {c_X12_single : (Option Nat) → xH → Option (Int32 × xH)} (hc_X12_single : ∀ {a0 : (Option Nat)} {H H1 : xH} {r1 : Int32}, c_X12_single a0 H = some (r1, H1) → xM yX12_single cX12_single 2 (some .boolean) δ [.inr (.inr a0)] H (some (.int r1)) H1) {a0 : (Option Nat)} {H H1 : xH} {r1 : Int32} (h : B_X12_single N c_X12_any c_X12_all c_X12_single a0 H = some (r1, H1)) : xM yX12_single cX12_single 2 (some .boolean) (δ + 1) [.inr (.inr a0)] H (some (.int r1)) H1 :=
  xM_of (by decide +kernel) (xT_tb 1316 (by decide +kernel) (by decide +kernel)) (by simp [xargs, x2]) rfl (P_X12_single rfl hb hc_X12_any hc_X12_all hc_X12_single a0 H h)
noncomputable def R_X12_any (N : Nat) : Nat → ((Option Nat) → xH → Option (Int32 × xH)) × ((Option Nat) → xH → Option (Int32 × xH)) × ((Option Nat) → xH → Option (Int32 × xH))
  | 0 => (fun _ _ => none, fun _ _ => none, fun _ _ => none)
  | n + 1 => (B_X12_any N ((R_X12_any N n).1) ((R_X12_any N n).2.1) ((R_X12_any N n).2.2), B_X12_all N ((R_X12_any N n).1) ((R_X12_any N n).2.1) ((R_X12_any N n).2.2), B_X12_single N ((R_X12_any N n).1) ((R_X12_any N n).2.1) ((R_X12_any N n).2.2))
theorem MR_X12_any (N : Nat) : ∀ n : Nat, (∀ {a0 : (Option Nat)} {H H1 : xH} {r1 : Int32}, ((R_X12_any N n).1) a0 H = some (r1, H1) → xM yX12_any cX12_any 1 (some .boolean) (3 + n) [.inr (.inr a0)] H (some (.int r1)) H1) ∧ (∀ {a0 : (Option Nat)} {H H1 : xH} {r1 : Int32}, ((R_X12_any N n).2.1) a0 H = some (r1, H1) → xM yX12_all cX12_all 1 (some .boolean) (3 + n) [.inr (.inr a0)] H (some (.int r1)) H1) ∧ (∀ {a0 : (Option Nat)} {H H1 : xH} {r1 : Int32}, ((R_X12_any N n).2.2) a0 H = some (r1, H1) → xM yX12_single cX12_single 2 (some .boolean) (3 + n) [.inr (.inr a0)] H (some (.int r1)) H1) := by
  intro n
  induction n with
  | zero => exact ⟨(fun h => by cases h), (fun h => by cases h), (fun h => by cases h)⟩
  | succ n ih => exact ⟨fun h => MB_X12_any (by omega) (ih.1) (ih.2.1) (ih.2.2) h, fun h => MB_X12_all (by omega) (ih.1) (ih.2.1) (ih.2.2) h, fun h => MB_X12_single (by omega) (ih.1) (ih.2.1) (ih.2.2) h⟩
noncomputable def F_X12_any (N : Nat) : (Option Nat) → xH → Option (Int32 × xH) := (R_X12_any N 45).1
theorem M_X12_any {N : Nat} {a0 : (Option Nat)} {H H1 : xH} {r1 : Int32} (h : F_X12_any N a0 H = some (r1, H1)) : xM yX12_any cX12_any 1 (some .boolean) 48 [.inr (.inr a0)] H (some (.int r1)) H1 := (MR_X12_any N 45).1 h
noncomputable def F_X12_all (N : Nat) : (Option Nat) → xH → Option (Int32 × xH) := (R_X12_any N 45).2.1
theorem M_X12_all {N : Nat} {a0 : (Option Nat)} {H H1 : xH} {r1 : Int32} (h : F_X12_all N a0 H = some (r1, H1)) : xM yX12_all cX12_all 1 (some .boolean) 48 [.inr (.inr a0)] H (some (.int r1)) H1 := (MR_X12_any N 45).2.1 h
noncomputable def F_X12_single (N : Nat) : (Option Nat) → xH → Option (Int32 × xH) := (R_X12_any N 45).2.2
theorem M_X12_single {N : Nat} {a0 : (Option Nat)} {H H1 : xH} {r1 : Int32} (h : F_X12_single N a0 H = some (r1, H1)) : xM yX12_single cX12_single 2 (some .boolean) 48 [.inr (.inr a0)] H (some (.int r1)) H1 := (MR_X12_any N 45).2.2 h
/-! BettingBookModel.betTold()Z -/
noncomputable def F_X12_betTold_J198 (N : Nat) (x0 : (Option Nat)) (x1 : Int32) (H : xH) : Option (Int32 × xH) :=
  (xgA H x0 11 19).bind fun v1 =>
  (xgI H x0 11 28).bind fun v2 =>
  (xsI .int H v1 x1 v2).bind fun H3 =>
  (xgI H3 x0 11 25).bind fun v4 =>
  (xpI H3 x0 11 25 (v4 + (1 : Int32))).bind fun H5 =>
  some ((1 : Int32), H5)
set_option maxRecDepth 20000 in
set_option maxHeartbeats 4000000 in
theorem P_X12_betTold_J198 {N : Nat} {Z : xZ} {rv : Int32} {Hf : xH} (hZ : Z = xZm cX12_betTold yX12_betTold 2 49 (some .boolean) (some (.int rv)) Hf) : ∀ (x0 : (Option Nat)) (x1 : Int32) (H : xH), F_X12_betTold_J198 N x0 x1 H = some (rv, Hf) → xWq Z H 198 [xA x0, xI x1] [] := by
  have hz : Z.1 = (cX12_betTold, yX12_betTold, 2) := by rw [hZ]; rfl
  have hδ : Z.2.1 = 49 := by rw [hZ]; rfl
  intro x0 x1 H h
  unfold F_X12_betTold_J198 at h
  refine x_aload_n hz dX12_betTold_198 rfl ?_
  obtain ⟨v1, e_v1, h⟩ := x_bnd h
  refine x_getA hz dX12_betTold_199 fs_X12_49 e_v1 ?_
  refine x_iload_n hz dX12_betTold_202 rfl ?_
  refine x_aload_n hz dX12_betTold_203 rfl ?_
  obtain ⟨v2, e_v2, h⟩ := x_bnd h
  refine x_getI hz dX12_betTold_204 fs_X12_235 e_v2 ?_
  obtain ⟨H3, e_H3, h⟩ := x_bnd h
  refine x_iast hz dX12_betTold_207 e_H3 ?_
  refine x_aload_n hz dX12_betTold_208 rfl ?_
  refine x_dup hz dX12_betTold_209 (x_rfc _) ?_
  obtain ⟨v4, e_v4, h⟩ := x_bnd h
  refine x_getI hz dX12_betTold_210 fs_X12_229 e_v4 ?_
  refine x_iconst (v := (1 : Int32)) hz dX12_betTold_213 (by decide) ?_
  refine x_iadd hz dX12_betTold_214 ?_
  obtain ⟨H5, e_H5, h⟩ := x_bnd h
  refine x_putV (v := .int (v4 + (1 : Int32))) hz dX12_betTold_215 fs_X12_229 rfl rfl e_H5 ?_
  refine x_iconst (v := (1 : Int32)) hz dX12_betTold_218 (by decide) ?_
  cases h
  exact x_zret01 hZ (Or.inr rfl) dX12_betTold_219
noncomputable def F_X12_betTold_J169 (N : Nat) (x0 : (Option Nat)) (x1 : Int32) (H : xH) : Option (Int32 × xH) :=
  (xgA H x0 11 18).bind fun v1 =>
  (xgI H x0 11 28).bind fun v2 =>
  (xsI .int H v1 x1 v2).bind fun H3 =>
  (xob H3 x0 11).bind fun b5 =>
  x_bd2 (F_X12_takes N x0 (110429873532005 : Int64) H3) fun v6 H4 =>
  if v6 = 0 then ((F_X12_betTold_J198 N) x0 x1 H4) else ((xob H4 x0 11).bind fun b9 =>
  x_bd2 (F_X12_any N x0 H4) fun v10 H8 =>
  if v10 = 0 then (some ((0 : Int32), H8)) else ((F_X12_betTold_J198 N) x0 x1 H8))
set_option maxRecDepth 20000 in
set_option maxHeartbeats 4000000 in
theorem P_X12_betTold_J169 {N : Nat} {Z : xZ} {rv : Int32} {Hf : xH} (hZ : Z = xZm cX12_betTold yX12_betTold 2 49 (some .boolean) (some (.int rv)) Hf) : ∀ (x0 : (Option Nat)) (x1 : Int32) (H : xH), F_X12_betTold_J169 N x0 x1 H = some (rv, Hf) → xWq Z H 169 [xA x0, xI x1] [] := by
  have hz : Z.1 = (cX12_betTold, yX12_betTold, 2) := by rw [hZ]; rfl
  have hδ : Z.2.1 = 49 := by rw [hZ]; rfl
  intro x0 x1 H h
  unfold F_X12_betTold_J169 at h
  refine x_aload_n hz dX12_betTold_169 rfl ?_
  obtain ⟨v1, e_v1, h⟩ := x_bnd h
  refine x_getA hz dX12_betTold_170 fs_X12_46 e_v1 ?_
  refine x_iload_n hz dX12_betTold_173 rfl ?_
  refine x_aload_n hz dX12_betTold_174 rfl ?_
  obtain ⟨v2, e_v2, h⟩ := x_bnd h
  refine x_getI hz dX12_betTold_175 fs_X12_235 e_v2 ?_
  obtain ⟨H3, e_H3, h⟩ := x_bnd h
  refine x_iast hz dX12_betTold_178 e_H3 ?_
  refine x_aload_n hz dX12_betTold_179 rfl ?_
  refine x_ldc2 (v := (110429873532005 : Int64)) hz dX12_betTold_180 wc_X12_179 ?_
  obtain ⟨b5, e_b5, h⟩ := x_bnd h
  obtain ⟨v6, H4, e_H4, h⟩ := x_b2 h
  refine x_callVi (as := [.inr (.inl (110429873532005 : Int64))]) (st := []) cs_X12_215 (ci := 11) ⟨rfl, rfl⟩ rfl rfl hz (by omega) (by decide) dX12_betTold_183 e_b5 (M_X12_takes e_H4) ?_
  refine x_if_eq (t := 198) hz dX12_betTold_186 (by decide) (fun c7 => ?_) (fun c7 => ?_)
  · replace h := x_ip c7 h
    exact x_wk (xwk_c (xwk_c xwk_0)) ((P_X12_betTold_J198 hZ) x0 x1 H4 h)
  · replace h := x_in c7 h
    refine x_aload_n hz dX12_betTold_189 rfl ?_
    obtain ⟨b9, e_b9, h⟩ := x_bnd h
    obtain ⟨v10, H8, e_H8, h⟩ := x_b2 h
    refine x_callVi (as := []) (st := []) cs_X12_238 (ci := 11) ⟨rfl, rfl⟩ rfl rfl hz (by omega) (by decide) dX12_betTold_190 e_b9 (M_X12_any e_H8) ?_
    refine x_if_ne (t := 198) hz dX12_betTold_193 (by decide) (fun c11 => ?_) (fun c11 => ?_)
    · replace h := x_in c11 h
      exact x_wk (xwk_c (xwk_c xwk_0)) ((P_X12_betTold_J198 hZ) x0 x1 H8 h)
    · replace h := x_ip c11 h
      refine x_iconst (v := (0 : Int32)) hz dX12_betTold_196 (by decide) ?_
      cases h
      exact x_zret01 hZ (Or.inl rfl) dX12_betTold_197
noncomputable def F_X12_betTold (N : Nat) (a0 : (Option Nat)) (H : xH) : Option (Int32 × xH) :=
  (xgI H a0 11 25).bind fun v1 =>
  (xob H a0 11).bind fun b3 =>
  x_bd2 (F_X12_takesMember N a0 (-1 : Int32) H) fun v4 H2 =>
  if v4 = 0 then (some ((0 : Int32), H2)) else ((xgA H2 a0 11 8).bind fun v6 =>
  (xgI H2 a0 11 40).bind fun v7 =>
  (xsI .int H2 v6 ((12 : Int32) + v1) v7).bind fun H8 =>
  (xob H8 a0 11).bind fun b10 =>
  x_bd2 (F_X12_takesNumber N a0 (1 : Int32) (999 : Int32) H8) fun v11 H9 =>
  if v11 = 0 then (some ((0 : Int32), H9)) else ((xgA H9 a0 11 10).bind fun v13 =>
  (xgI H9 a0 11 39).bind fun v14 =>
  (xsI .int H9 v13 ((12 : Int32) + v1) v14).bind fun H15 =>
  (xob H15 a0 11).bind fun b17 =>
  x_bd2 (F_X12_takes N a0 (29807 : Int64) H15) fun v18 H16 =>
  if v18 = 0 then (some ((0 : Int32), H16)) else ((xob H16 a0 11).bind fun b21 =>
  x_bd2 (F_X12_takesNumber N a0 (1 : Int32) (999 : Int32) H16) fun v22 H20 =>
  if v22 = 0 then (some ((0 : Int32), H20)) else ((xgA H20 a0 11 11).bind fun v24 =>
  (xgI H20 a0 11 39).bind fun v25 =>
  (xsI .int H20 v24 ((12 : Int32) + v1) v25).bind fun H26 =>
  (xgA H26 a0 11 8).bind fun v27 =>
  (xlI .int H26 v27 ((12 : Int32) + v1)).bind fun v28 =>
  (xob H26 a0 11).bind fun b30 =>
  x_bd2 (F_X12_takesMember N a0 v28 H26) fun v31 H29 =>
  if v31 = 0 then (some ((0 : Int32), H29)) else ((xgA H29 a0 11 9).bind fun v33 =>
  (xgI H29 a0 11 40).bind fun v34 =>
  (xsI .int H29 v33 ((12 : Int32) + v1) v34).bind fun H35 =>
  (xob H35 a0 11).bind fun b37 =>
  x_bd2 (F_X12_takes N a0 (1952997748 : Int64) H35) fun v38 H36 =>
  if v38 = 0 then (some ((0 : Int32), H36)) else ((xgA H36 a0 11 16).bind fun v40 =>
  (xgI H36 a0 11 28).bind fun v41 =>
  (xsI .int H36 v40 ((12 : Int32) + v1) v41).bind fun H42 =>
  (xob H42 a0 11).bind fun b44 =>
  x_bd2 (F_X12_any N a0 H42) fun v45 H43 =>
  if v45 = 0 then (some ((0 : Int32), H43)) else ((xgA H43 a0 11 17).bind fun v47 =>
  (xgI H43 a0 11 28).bind fun v48 =>
  (xsI .int H43 v47 ((12 : Int32) + v1) v48).bind fun H49 =>
  (xob H49 a0 11).bind fun b51 =>
  x_bd2 (F_X12_takes N a0 (7300710 : Int64) H49) fun v52 H50 =>
  if v52 = 0 then ((F_X12_betTold_J169 N) a0 ((12 : Int32) + v1) H50) else ((xob H50 a0 11).bind fun b55 =>
  x_bd2 (F_X12_any N a0 H50) fun v56 H54 =>
  if v56 = 0 then (some ((0 : Int32), H54)) else ((F_X12_betTold_J169 N) a0 ((12 : Int32) + v1) H54)))))))))
set_option maxRecDepth 20000 in
set_option maxHeartbeats 4000000 in
theorem P_X12_betTold {N : Nat} {Z : xZ} {rv : Int32} {Hf : xH} (hZ : Z = xZm cX12_betTold yX12_betTold 2 49 (some .boolean) (some (.int rv)) Hf) : ∀ (a0 : (Option Nat)) (H : xH), F_X12_betTold N a0 H = some (rv, Hf) → xWq Z H 0 [xA a0, xN] [] := by
  have hz : Z.1 = (cX12_betTold, yX12_betTold, 2) := by rw [hZ]; rfl
  have hδ : Z.2.1 = 49 := by rw [hZ]; rfl
  intro a0 H h
  unfold F_X12_betTold at h
  refine x_bipush (v := (12 : Int32)) hz dX12_betTold_0 (by decide) ?_
  refine x_aload_n hz dX12_betTold_2 rfl ?_
  obtain ⟨v1, e_v1, h⟩ := x_bnd h
  refine x_getI hz dX12_betTold_3 fs_X12_229 e_v1 ?_
  refine x_iadd hz dX12_betTold_6 ?_
  refine x_istore_n (pl' := [xA a0, xI ((12 : Int32) + v1)]) hz dX12_betTold_7 (by decide) rfl ?_
  refine x_aload_n hz dX12_betTold_8 rfl ?_
  refine x_iconst (v := (-1 : Int32)) hz dX12_betTold_9 (by decide) ?_
  obtain ⟨b3, e_b3, h⟩ := x_bnd h
  obtain ⟨v4, H2, e_H2, h⟩ := x_b2 h
  refine x_callVi (as := [.inl (-1 : Int32)]) (st := []) cs_X12_232 (ci := 11) ⟨rfl, rfl⟩ rfl rfl hz (by omega) (by decide) dX12_betTold_10 e_b3 (M_X12_takesMember e_H2) ?_
  refine x_if_ne (t := 18) hz dX12_betTold_13 (by decide) (fun c5 => ?_) (fun c5 => ?_)
  · replace h := x_in c5 h
    refine x_aload_n hz dX12_betTold_18 rfl ?_
    obtain ⟨v6, e_v6, h⟩ := x_bnd h
    refine x_getA hz dX12_betTold_19 fs_X12_16 e_v6 ?_
    refine x_iload_n hz dX12_betTold_22 rfl ?_
    refine x_aload_n hz dX12_betTold_23 rfl ?_
    obtain ⟨v7, e_v7, h⟩ := x_bnd h
    refine x_getI hz dX12_betTold_24 fs_X12_209 e_v7 ?_
    obtain ⟨H8, e_H8, h⟩ := x_bnd h
    refine x_iast hz dX12_betTold_27 e_H8 ?_
    refine x_aload_n hz dX12_betTold_28 rfl ?_
    refine x_iconst (v := (1 : Int32)) hz dX12_betTold_29 (by decide) ?_
    refine x_sipush (v := (999 : Int32)) hz dX12_betTold_30 (by decide) ?_
    obtain ⟨b10, e_b10, h⟩ := x_bnd h
    obtain ⟨v11, H9, e_H9, h⟩ := x_b2 h
    refine x_callVi (as := [.inl (1 : Int32), .inl (999 : Int32)]) (st := []) cs_X12_218 (ci := 11) ⟨rfl, rfl⟩ rfl rfl hz (by omega) (by decide) dX12_betTold_33 e_b10 (M_X12_takesNumber e_H9) ?_
    refine x_if_ne (t := 41) hz dX12_betTold_36 (by decide) (fun c12 => ?_) (fun c12 => ?_)
    · replace h := x_in c12 h
      refine x_aload_n hz dX12_betTold_41 rfl ?_
      obtain ⟨v13, e_v13, h⟩ := x_bnd h
      refine x_getA hz dX12_betTold_42 fs_X12_22 e_v13 ?_
      refine x_iload_n hz dX12_betTold_45 rfl ?_
      refine x_aload_n hz dX12_betTold_46 rfl ?_
      obtain ⟨v14, e_v14, h⟩ := x_bnd h
      refine x_getI hz dX12_betTold_47 fs_X12_150 e_v14 ?_
      obtain ⟨H15, e_H15, h⟩ := x_bnd h
      refine x_iast hz dX12_betTold_50 e_H15 ?_
      refine x_aload_n hz dX12_betTold_51 rfl ?_
      refine x_ldc2 (v := (29807 : Int64)) hz dX12_betTold_52 wc_X12_173 ?_
      obtain ⟨b17, e_b17, h⟩ := x_bnd h
      obtain ⟨v18, H16, e_H16, h⟩ := x_b2 h
      refine x_callVi (as := [.inr (.inl (29807 : Int64))]) (st := []) cs_X12_215 (ci := 11) ⟨rfl, rfl⟩ rfl rfl hz (by omega) (by decide) dX12_betTold_55 e_b17 (M_X12_takes e_H16) ?_
      refine x_if_eq (t := 72) hz dX12_betTold_58 (by decide) (fun c19 => ?_) (fun c19 => ?_)
      · replace h := x_ip c19 h
        refine x_iconst (v := (0 : Int32)) hz dX12_betTold_72 (by decide) ?_
        cases h
        exact x_zret01 hZ (Or.inl rfl) dX12_betTold_73
      · replace h := x_in c19 h
        refine x_aload_n hz dX12_betTold_61 rfl ?_
        refine x_iconst (v := (1 : Int32)) hz dX12_betTold_62 (by decide) ?_
        refine x_sipush (v := (999 : Int32)) hz dX12_betTold_63 (by decide) ?_
        obtain ⟨b21, e_b21, h⟩ := x_bnd h
        obtain ⟨v22, H20, e_H20, h⟩ := x_b2 h
        refine x_callVi (as := [.inl (1 : Int32), .inl (999 : Int32)]) (st := []) cs_X12_218 (ci := 11) ⟨rfl, rfl⟩ rfl rfl hz (by omega) (by decide) dX12_betTold_66 e_b21 (M_X12_takesNumber e_H20) ?_
        refine x_if_ne (t := 74) hz dX12_betTold_69 (by decide) (fun c23 => ?_) (fun c23 => ?_)
        · replace h := x_in c23 h
          refine x_aload_n hz dX12_betTold_74 rfl ?_
          obtain ⟨v24, e_v24, h⟩ := x_bnd h
          refine x_getA hz dX12_betTold_75 fs_X12_25 e_v24 ?_
          refine x_iload_n hz dX12_betTold_78 rfl ?_
          refine x_aload_n hz dX12_betTold_79 rfl ?_
          obtain ⟨v25, e_v25, h⟩ := x_bnd h
          refine x_getI hz dX12_betTold_80 fs_X12_150 e_v25 ?_
          obtain ⟨H26, e_H26, h⟩ := x_bnd h
          refine x_iast hz dX12_betTold_83 e_H26 ?_
          refine x_aload_n hz dX12_betTold_84 rfl ?_
          refine x_aload_n hz dX12_betTold_85 rfl ?_
          obtain ⟨v27, e_v27, h⟩ := x_bnd h
          refine x_getA hz dX12_betTold_86 fs_X12_16 e_v27 ?_
          refine x_iload_n hz dX12_betTold_89 rfl ?_
          obtain ⟨v28, e_v28, h⟩ := x_bnd h
          refine x_iald hz dX12_betTold_90 e_v28 ?_
          obtain ⟨b30, e_b30, h⟩ := x_bnd h
          obtain ⟨v31, H29, e_H29, h⟩ := x_b2 h
          refine x_callVi (as := [.inl v28]) (st := []) cs_X12_232 (ci := 11) ⟨rfl, rfl⟩ rfl rfl hz (by omega) (by decide) dX12_betTold_91 e_b30 (M_X12_takesMember e_H29) ?_
          refine x_if_ne (t := 99) hz dX12_betTold_94 (by decide) (fun c32 => ?_) (fun c32 => ?_)
          · replace h := x_in c32 h
            refine x_aload_n hz dX12_betTold_99 rfl ?_
            obtain ⟨v33, e_v33, h⟩ := x_bnd h
            refine x_getA hz dX12_betTold_100 fs_X12_19 e_v33 ?_
            refine x_iload_n hz dX12_betTold_103 rfl ?_
            refine x_aload_n hz dX12_betTold_104 rfl ?_
            obtain ⟨v34, e_v34, h⟩ := x_bnd h
            refine x_getI hz dX12_betTold_105 fs_X12_209 e_v34 ?_
            obtain ⟨H35, e_H35, h⟩ := x_bnd h
            refine x_iast hz dX12_betTold_108 e_H35 ?_
            refine x_aload_n hz dX12_betTold_109 rfl ?_
            refine x_ldc2 (v := (1952997748 : Int64)) hz dX12_betTold_110 wc_X12_175 ?_
            obtain ⟨b37, e_b37, h⟩ := x_bnd h
            obtain ⟨v38, H36, e_H36, h⟩ := x_b2 h
            refine x_callVi (as := [.inr (.inl (1952997748 : Int64))]) (st := []) cs_X12_215 (ci := 11) ⟨rfl, rfl⟩ rfl rfl hz (by omega) (by decide) dX12_betTold_113 e_b37 (M_X12_takes e_H36) ?_
            refine x_if_ne (t := 121) hz dX12_betTold_116 (by decide) (fun c39 => ?_) (fun c39 => ?_)
            · replace h := x_in c39 h
              refine x_aload_n hz dX12_betTold_121 rfl ?_
              obtain ⟨v40, e_v40, h⟩ := x_bnd h
              refine x_getA hz dX12_betTold_122 fs_X12_40 e_v40 ?_
              refine x_iload_n hz dX12_betTold_125 rfl ?_
              refine x_aload_n hz dX12_betTold_126 rfl ?_
              obtain ⟨v41, e_v41, h⟩ := x_bnd h
              refine x_getI hz dX12_betTold_127 fs_X12_235 e_v41 ?_
              obtain ⟨H42, e_H42, h⟩ := x_bnd h
              refine x_iast hz dX12_betTold_130 e_H42 ?_
              refine x_aload_n hz dX12_betTold_131 rfl ?_
              obtain ⟨b44, e_b44, h⟩ := x_bnd h
              obtain ⟨v45, H43, e_H43, h⟩ := x_b2 h
              refine x_callVi (as := []) (st := []) cs_X12_238 (ci := 11) ⟨rfl, rfl⟩ rfl rfl hz (by omega) (by decide) dX12_betTold_132 e_b44 (M_X12_any e_H43) ?_
              refine x_if_ne (t := 140) hz dX12_betTold_135 (by decide) (fun c46 => ?_) (fun c46 => ?_)
              · replace h := x_in c46 h
                refine x_aload_n hz dX12_betTold_140 rfl ?_
                obtain ⟨v47, e_v47, h⟩ := x_bnd h
                refine x_getA hz dX12_betTold_141 fs_X12_43 e_v47 ?_
                refine x_iload_n hz dX12_betTold_144 rfl ?_
                refine x_aload_n hz dX12_betTold_145 rfl ?_
                obtain ⟨v48, e_v48, h⟩ := x_bnd h
                refine x_getI hz dX12_betTold_146 fs_X12_235 e_v48 ?_
                obtain ⟨H49, e_H49, h⟩ := x_bnd h
                refine x_iast hz dX12_betTold_149 e_H49 ?_
                refine x_aload_n hz dX12_betTold_150 rfl ?_
                refine x_ldc2 (v := (7300710 : Int64)) hz dX12_betTold_151 wc_X12_177 ?_
                obtain ⟨b51, e_b51, h⟩ := x_bnd h
                obtain ⟨v52, H50, e_H50, h⟩ := x_b2 h
                refine x_callVi (as := [.inr (.inl (7300710 : Int64))]) (st := []) cs_X12_215 (ci := 11) ⟨rfl, rfl⟩ rfl rfl hz (by omega) (by decide) dX12_betTold_154 e_b51 (M_X12_takes e_H50) ?_
                refine x_if_eq (t := 169) hz dX12_betTold_157 (by decide) (fun c53 => ?_) (fun c53 => ?_)
                · replace h := x_ip c53 h
                  exact x_wk (xwk_c (xwk_c xwk_0)) ((P_X12_betTold_J169 hZ) a0 ((12 : Int32) + v1) H50 h)
                · replace h := x_in c53 h
                  refine x_aload_n hz dX12_betTold_160 rfl ?_
                  obtain ⟨b55, e_b55, h⟩ := x_bnd h
                  obtain ⟨v56, H54, e_H54, h⟩ := x_b2 h
                  refine x_callVi (as := []) (st := []) cs_X12_238 (ci := 11) ⟨rfl, rfl⟩ rfl rfl hz (by omega) (by decide) dX12_betTold_161 e_b55 (M_X12_any e_H54) ?_
                  refine x_if_ne (t := 169) hz dX12_betTold_164 (by decide) (fun c57 => ?_) (fun c57 => ?_)
                  · replace h := x_in c57 h
                    exact x_wk (xwk_c (xwk_c xwk_0)) ((P_X12_betTold_J169 hZ) a0 ((12 : Int32) + v1) H54 h)
                  · replace h := x_ip c57 h
                    refine x_iconst (v := (0 : Int32)) hz dX12_betTold_167 (by decide) ?_
                    cases h
                    exact x_zret01 hZ (Or.inl rfl) dX12_betTold_168
              · replace h := x_ip c46 h
                refine x_iconst (v := (0 : Int32)) hz dX12_betTold_138 (by decide) ?_
                cases h
                exact x_zret01 hZ (Or.inl rfl) dX12_betTold_139
            · replace h := x_ip c39 h
              refine x_iconst (v := (0 : Int32)) hz dX12_betTold_119 (by decide) ?_
              cases h
              exact x_zret01 hZ (Or.inl rfl) dX12_betTold_120
          · replace h := x_ip c32 h
            refine x_iconst (v := (0 : Int32)) hz dX12_betTold_97 (by decide) ?_
            cases h
            exact x_zret01 hZ (Or.inl rfl) dX12_betTold_98
        · replace h := x_ip c23 h
          refine x_iconst (v := (0 : Int32)) hz dX12_betTold_72 (by decide) ?_
          cases h
          exact x_zret01 hZ (Or.inl rfl) dX12_betTold_73
    · replace h := x_ip c12 h
      refine x_iconst (v := (0 : Int32)) hz dX12_betTold_39 (by decide) ?_
      cases h
      exact x_zret01 hZ (Or.inl rfl) dX12_betTold_40
  · replace h := x_ip c5 h
    refine x_iconst (v := (0 : Int32)) hz dX12_betTold_16 (by decide) ?_
    cases h
    exact x_zret01 hZ (Or.inl rfl) dX12_betTold_17
theorem M_X12_betTold {N : Nat} {a0 : (Option Nat)} {H H1 : xH} {r1 : Int32} (h : F_X12_betTold N a0 H = some (r1, H1)) : xM yX12_betTold cX12_betTold 2 (some .boolean) 49 [.inr (.inr a0)] H (some (.int r1)) H1 :=
  xM_of (by decide +kernel) (xT_tb 1300 (by decide +kernel) (by decide +kernel)) (by simp [xargs, x2]) rfl (P_X12_betTold rfl a0 H h)
/-! BettingBookModel.statement()Z -/
noncomputable def F_X12_statement (N : Nat) (a0 : (Option Nat)) (H : xH) : Option (Int32 × xH) :=
  (xpI H a0 11 34 (0 : Int32)).bind fun H1 =>
  (xob H1 a0 11).bind fun b3 =>
  x_bd2 (F_X12_takes N a0 (499967946343 : Int64) H1) fun v4 H2 =>
  if v4 = 0 then ((xob H2 a0 11).bind fun b7 =>
  x_bd2 (F_X12_takes N a0 (120282394289522 : Int64) H2) fun v8 H6 =>
  if v8 = 0 then ((xob H6 a0 11).bind fun b11 =>
  x_bd2 (F_X12_takes N a0 (1650553459 : Int64) H6) fun v12 H10 =>
  if v12 = 0 then ((xob H10 a0 11).bind fun b15 =>
  x_bd2 (F_X12_takes N a0 (108243534636915 : Int64) H10) fun v16 H14 =>
  if v16 = 0 then ((xgI H14 a0 11 25).bind fun v18 =>
  if (12 : Int32) ≤ v18 then (some ((0 : Int32), H14)) else ((xob H14 a0 11).bind fun b21 =>
  x_bd2 (F_X12_takes N a0 (6448500 : Int64) H14) fun v22 H20 =>
  if v22 = 0 then (some ((0 : Int32), H20)) else ((xob H20 a0 11).bind fun b25 =>
  x_bd2 (F_X12_betTold N a0 H20) fun v26 H24 =>
  if v26 = 0 then (some ((0 : Int32), H24)) else (some ((1 : Int32), H24))))) else ((xob H14 a0 11).bind fun b29 =>
  x_bd2 (F_X12_linkTold N a0 (1 : Int32) H14) fun v30 H28 =>
  if v30 = 0 ∨ v30 = 1 then some (v30, H28) else none)) else ((xob H10 a0 11).bind fun b33 =>
  x_bd2 (F_X12_linkTold N a0 (0 : Int32) H10) fun v34 H32 =>
  if v34 = 0 ∨ v34 = 1 then some (v34, H32) else none)) else ((xob H6 a0 11).bind fun b37 =>
  x_bd2 (F_X12_memberTold N a0 H6) fun v38 H36 =>
  if v38 = 0 ∨ v38 = 1 then some (v38, H36) else none)) else ((xob H2 a0 11).bind fun b41 =>
  x_bd2 (F_X12_thingTold N a0 H2) fun v42 H40 =>
  if v42 = 0 ∨ v42 = 1 then some (v42, H40) else none)
set_option maxRecDepth 20000 in
set_option maxHeartbeats 4000000 in
theorem P_X12_statement {N : Nat} {Z : xZ} {rv : Int32} {Hf : xH} (hZ : Z = xZm cX12_statement yX12_statement 1 50 (some .boolean) (some (.int rv)) Hf) : ∀ (a0 : (Option Nat)) (H : xH), F_X12_statement N a0 H = some (rv, Hf) → xWq Z H 0 [xA a0] [] := by
  have hz : Z.1 = (cX12_statement, yX12_statement, 1) := by rw [hZ]; rfl
  have hδ : Z.2.1 = 50 := by rw [hZ]; rfl
  intro a0 H h
  unfold F_X12_statement at h
  refine x_aload_n hz dX12_statement_0 rfl ?_
  refine x_iconst (v := (0 : Int32)) hz dX12_statement_1 (by decide) ?_
  obtain ⟨H1, e_H1, h⟩ := x_bnd h
  refine x_putV (v := .int (0 : Int32)) hz dX12_statement_2 fs_X12_242 rfl rfl e_H1 ?_
  refine x_aload_n hz dX12_statement_5 rfl ?_
  refine x_ldc2 (v := (499967946343 : Int64)) hz dX12_statement_6 wc_X12_157 ?_
  obtain ⟨b3, e_b3, h⟩ := x_bnd h
  obtain ⟨v4, H2, e_H2, h⟩ := x_b2 h
  refine x_callVi (as := [.inr (.inl (499967946343 : Int64))]) (st := []) cs_X12_215 (ci := 11) ⟨rfl, rfl⟩ rfl rfl hz (by omega) (by decide) dX12_statement_9 e_b3 (M_X12_takes e_H2) ?_
  refine x_if_eq (t := 20) hz dX12_statement_12 (by decide) (fun c5 => ?_) (fun c5 => ?_)
  · replace h := x_ip c5 h
    refine x_aload_n hz dX12_statement_20 rfl ?_
    refine x_ldc2 (v := (120282394289522 : Int64)) hz dX12_statement_21 wc_X12_163 ?_
    obtain ⟨b7, e_b7, h⟩ := x_bnd h
    obtain ⟨v8, H6, e_H6, h⟩ := x_b2 h
    refine x_callVi (as := [.inr (.inl (120282394289522 : Int64))]) (st := []) cs_X12_215 (ci := 11) ⟨rfl, rfl⟩ rfl rfl hz (by omega) (by decide) dX12_statement_24 e_b7 (M_X12_takes e_H6) ?_
    refine x_if_eq (t := 35) hz dX12_statement_27 (by decide) (fun c9 => ?_) (fun c9 => ?_)
    · replace h := x_ip c9 h
      refine x_aload_n hz dX12_statement_35 rfl ?_
      refine x_ldc2 (v := (1650553459 : Int64)) hz dX12_statement_36 wc_X12_165 ?_
      obtain ⟨b11, e_b11, h⟩ := x_bnd h
      obtain ⟨v12, H10, e_H10, h⟩ := x_b2 h
      refine x_callVi (as := [.inr (.inl (1650553459 : Int64))]) (st := []) cs_X12_215 (ci := 11) ⟨rfl, rfl⟩ rfl rfl hz (by omega) (by decide) dX12_statement_39 e_b11 (M_X12_takes e_H10) ?_
      refine x_if_eq (t := 51) hz dX12_statement_42 (by decide) (fun c13 => ?_) (fun c13 => ?_)
      · replace h := x_ip c13 h
        refine x_aload_n hz dX12_statement_51 rfl ?_
        refine x_ldc2 (v := (108243534636915 : Int64)) hz dX12_statement_52 wc_X12_167 ?_
        obtain ⟨b15, e_b15, h⟩ := x_bnd h
        obtain ⟨v16, H14, e_H14, h⟩ := x_b2 h
        refine x_callVi (as := [.inr (.inl (108243534636915 : Int64))]) (st := []) cs_X12_215 (ci := 11) ⟨rfl, rfl⟩ rfl rfl hz (by omega) (by decide) dX12_statement_55 e_b15 (M_X12_takes e_H14) ?_
        refine x_if_eq (t := 67) hz dX12_statement_58 (by decide) (fun c17 => ?_) (fun c17 => ?_)
        · replace h := x_ip c17 h
          refine x_aload_n hz dX12_statement_67 rfl ?_
          obtain ⟨v18, e_v18, h⟩ := x_bnd h
          refine x_getI hz dX12_statement_68 fs_X12_229 e_v18 ?_
          refine x_bipush (v := (12 : Int32)) hz dX12_statement_71 (by decide) ?_
          refine x_icmp_ge (t := 97) hz dX12_statement_73 (by decide) (fun c19 => ?_) (fun c19 => ?_)
          · replace h := x_ip c19 h
            refine x_iconst (v := (0 : Int32)) hz dX12_statement_97 (by decide) ?_
            cases h
            exact x_zret01 hZ (Or.inl rfl) dX12_statement_98
          · replace h := x_in c19 h
            refine x_aload_n hz dX12_statement_76 rfl ?_
            refine x_ldc2 (v := (6448500 : Int64)) hz dX12_statement_77 wc_X12_171 ?_
            obtain ⟨b21, e_b21, h⟩ := x_bnd h
            obtain ⟨v22, H20, e_H20, h⟩ := x_b2 h
            refine x_callVi (as := [.inr (.inl (6448500 : Int64))]) (st := []) cs_X12_215 (ci := 11) ⟨rfl, rfl⟩ rfl rfl hz (by omega) (by decide) dX12_statement_80 e_b21 (M_X12_takes e_H20) ?_
            refine x_if_eq (t := 97) hz dX12_statement_83 (by decide) (fun c23 => ?_) (fun c23 => ?_)
            · replace h := x_ip c23 h
              refine x_iconst (v := (0 : Int32)) hz dX12_statement_97 (by decide) ?_
              cases h
              exact x_zret01 hZ (Or.inl rfl) dX12_statement_98
            · replace h := x_in c23 h
              refine x_aload_n hz dX12_statement_86 rfl ?_
              obtain ⟨b25, e_b25, h⟩ := x_bnd h
              obtain ⟨v26, H24, e_H24, h⟩ := x_b2 h
              refine x_callVi (as := []) (st := []) cs_X12_254 (ci := 11) ⟨rfl, rfl⟩ rfl rfl hz (by omega) (by decide) dX12_statement_87 e_b25 (M_X12_betTold e_H24) ?_
              refine x_if_eq (t := 97) hz dX12_statement_90 (by decide) (fun c27 => ?_) (fun c27 => ?_)
              · replace h := x_ip c27 h
                refine x_iconst (v := (0 : Int32)) hz dX12_statement_97 (by decide) ?_
                cases h
                exact x_zret01 hZ (Or.inl rfl) dX12_statement_98
              · replace h := x_in c27 h
                refine x_iconst (v := (1 : Int32)) hz dX12_statement_93 (by decide) ?_
                refine x_goto (t := 98) hz dX12_statement_94 (by decide) ?_
                cases h
                exact x_zret01 hZ (Or.inr rfl) dX12_statement_98
        · replace h := x_in c17 h
          refine x_aload_n hz dX12_statement_61 rfl ?_
          refine x_iconst (v := (1 : Int32)) hz dX12_statement_62 (by decide) ?_
          obtain ⟨b29, e_b29, h⟩ := x_bnd h
          obtain ⟨v30, H28, e_H28, h⟩ := x_b2 h
          refine x_callVi (as := [.inl (1 : Int32)]) (st := []) cs_X12_251 (ci := 11) ⟨rfl, rfl⟩ rfl rfl hz (by omega) (by decide) dX12_statement_63 e_b29 (M_X12_linkTold e_H28) ?_
          obtain ⟨c31, h⟩ := x_inv h
          cases h
          exact x_zret01 hZ c31 dX12_statement_66
      · replace h := x_in c13 h
        refine x_aload_n hz dX12_statement_45 rfl ?_
        refine x_iconst (v := (0 : Int32)) hz dX12_statement_46 (by decide) ?_
        obtain ⟨b33, e_b33, h⟩ := x_bnd h
        obtain ⟨v34, H32, e_H32, h⟩ := x_b2 h
        refine x_callVi (as := [.inl (0 : Int32)]) (st := []) cs_X12_251 (ci := 11) ⟨rfl, rfl⟩ rfl rfl hz (by omega) (by decide) dX12_statement_47 e_b33 (M_X12_linkTold e_H32) ?_
        obtain ⟨c35, h⟩ := x_inv h
        cases h
        exact x_zret01 hZ c35 dX12_statement_50
    · replace h := x_in c9 h
      refine x_aload_n hz dX12_statement_30 rfl ?_
      obtain ⟨b37, e_b37, h⟩ := x_bnd h
      obtain ⟨v38, H36, e_H36, h⟩ := x_b2 h
      refine x_callVi (as := []) (st := []) cs_X12_248 (ci := 11) ⟨rfl, rfl⟩ rfl rfl hz (by omega) (by decide) dX12_statement_31 e_b37 (M_X12_memberTold e_H36) ?_
      obtain ⟨c39, h⟩ := x_inv h
      cases h
      exact x_zret01 hZ c39 dX12_statement_34
  · replace h := x_in c5 h
    refine x_aload_n hz dX12_statement_15 rfl ?_
    obtain ⟨b41, e_b41, h⟩ := x_bnd h
    obtain ⟨v42, H40, e_H40, h⟩ := x_b2 h
    refine x_callVi (as := []) (st := []) cs_X12_245 (ci := 11) ⟨rfl, rfl⟩ rfl rfl hz (by omega) (by decide) dX12_statement_16 e_b41 (M_X12_thingTold e_H40) ?_
    obtain ⟨c43, h⟩ := x_inv h
    cases h
    exact x_zret01 hZ c43 dX12_statement_19
theorem M_X12_statement {N : Nat} {a0 : (Option Nat)} {H H1 : xH} {r1 : Int32} (h : F_X12_statement N a0 H = some (r1, H1)) : xM yX12_statement cX12_statement 1 (some .boolean) 50 [.inr (.inr a0)] H (some (.int r1)) H1 :=
  xM_of (by decide +kernel) (xT_tb 1239 (by decide +kernel) (by decide +kernel)) (by simp [xargs, x2]) rfl (P_X12_statement rfl a0 H h)
/-! BettingBookModel.reads(I)Z -/
noncomputable def F_X12_reads_J2 (N : Nat) (k2 : (Option Nat) → Int32 → Int32 → xH → Option (Int32 × xH)) (k25 : (Option Nat) → Int32 → xH → Option (Int32 × xH)) (x0 : (Option Nat)) (x1 : Int32) (x2 : Int32) (H : xH) : Option (Int32 × xH) :=
  if x1 ≤ x2 then (k25 x0 x1 H) else ((xgA H x0 11 37).bind fun v2 =>
  (xgA H x0 11 36).bind fun v3 =>
  (xlI .byte H v3 x2).bind fun v4 =>
  (xsI .byte H v2 x2 v4).bind fun H5 =>
  k2 x0 x1 (x2 + 1) H5)
set_option maxRecDepth 20000 in
set_option maxHeartbeats 4000000 in
theorem P_X12_reads_J2 {N : Nat} {Z : xZ} {rv : Int32} {Hf : xH} (hZ : Z = xZm cX12_reads yX12_reads 3 51 (some .boolean) (some (.int rv)) Hf) {k2 : (Option Nat) → Int32 → Int32 → xH → Option (Int32 × xH)} (hk2 : ∀ (x0 : (Option Nat)) (x1 : Int32) (x2 : Int32) (H : xH), k2 x0 x1 x2 H = some (rv, Hf) → xWq Z H 2 [xA x0, xI x1, xI x2] []) {k25 : (Option Nat) → Int32 → xH → Option (Int32 × xH)} (hk25 : ∀ (x0 : (Option Nat)) (x1 : Int32) (H : xH), k25 x0 x1 H = some (rv, Hf) → xWq Z H 25 [xA x0, xI x1, xN] []) : ∀ (x0 : (Option Nat)) (x1 : Int32) (x2 : Int32) (H : xH), F_X12_reads_J2 N k2 k25 x0 x1 x2 H = some (rv, Hf) → xWq Z H 2 [xA x0, xI x1, xI x2] [] := by
  have hz : Z.1 = (cX12_reads, yX12_reads, 3) := by rw [hZ]; rfl
  have hδ : Z.2.1 = 51 := by rw [hZ]; rfl
  intro x0 x1 x2 H h
  unfold F_X12_reads_J2 at h
  refine x_iload_n hz dX12_reads_2 rfl ?_
  refine x_iload_n hz dX12_reads_3 rfl ?_
  refine x_icmp_ge (t := 25) hz dX12_reads_4 (by decide) (fun c1 => ?_) (fun c1 => ?_)
  · replace h := x_ip c1 h
    exact x_wk (xwk_c (xwk_c (xwk_n xwk_0))) (hk25 x0 x1 H h)
  · replace h := x_in c1 h
    refine x_aload_n hz dX12_reads_7 rfl ?_
    obtain ⟨v2, e_v2, h⟩ := x_bnd h
    refine x_getA hz dX12_reads_8 fs_X12_76 e_v2 ?_
    refine x_iload_n hz dX12_reads_11 rfl ?_
    refine x_aload_n hz dX12_reads_12 rfl ?_
    obtain ⟨v3, e_v3, h⟩ := x_bnd h
    refine x_getA hz dX12_reads_13 fs_X12_72 e_v3 ?_
    refine x_iload_n hz dX12_reads_16 rfl ?_
    obtain ⟨v4, e_v4, h⟩ := x_bnd h
    refine x_bald hz dX12_reads_17 e_v4 ?_
    obtain ⟨H5, e_H5, h⟩ := x_bnd h
    refine x_bast hz dX12_reads_18 e_H5 ?_
    refine x_iinc (w := (x2 + 1)) (pl' := [xA x0, xI x1, xI (x2 + 1)]) hz dX12_reads_19 rfl rfl (by decide) rfl ?_
    refine x_goto (t := 2) hz dX12_reads_22 (by decide) ?_
    exact x_wk (xwk_c (xwk_c (xwk_c xwk_0))) (hk2 x0 x1 (x2 + 1) H5 h)
noncomputable def F_X12_reads_L2 (N : Nat) (k25 : (Option Nat) → Int32 → xH → Option (Int32 × xH)) : Nat → (Option Nat) → Int32 → Int32 → xH → Option (Int32 × xH)
  | 0 => fun _ _ _ _ => none
  | n + 1 => F_X12_reads_J2 N (F_X12_reads_L2 N k25 n) k25
theorem P_X12_reads_L2 {N : Nat} {Z : xZ} {rv : Int32} {Hf : xH} (hZ : Z = xZm cX12_reads yX12_reads 3 51 (some .boolean) (some (.int rv)) Hf) {k25 : (Option Nat) → Int32 → xH → Option (Int32 × xH)} (hk25 : ∀ (x0 : (Option Nat)) (x1 : Int32) (H : xH), k25 x0 x1 H = some (rv, Hf) → xWq Z H 25 [xA x0, xI x1, xN] []) : ∀ (n : Nat) (x0 : (Option Nat)) (x1 : Int32) (x2 : Int32) (H : xH), F_X12_reads_L2 N k25 n x0 x1 x2 H = some (rv, Hf) → xWq Z H 2 [xA x0, xI x1, xI x2] [] := by
  intro n
  induction n with
  | zero => intro _ _ _ _ h; cases h
  | succ n ih => exact P_X12_reads_J2 hZ ih hk25
noncomputable def F_X12_reads_J123 (N : Nat) (k78 : (Option Nat) → Int32 → xH → Option (Int32 × xH)) (x0 : (Option Nat)) (s0 : Int32) (H : xH) : Option (Int32 × xH) :=
  if s0 = 0 then (k78 x0 s0 H) else ((xgI H x0 11 26).bind fun v2 =>
  (xpI H x0 11 26 (v2 + (1 : Int32))).bind fun H3 =>
  (xob H3 x0 11).bind fun b5 =>
  (F_X12_blanks N x0 H3).bind fun H4 =>
  k78 x0 s0 H4)
set_option maxRecDepth 20000 in
set_option maxHeartbeats 4000000 in
theorem P_X12_reads_J123 {N : Nat} {Z : xZ} {rv : Int32} {Hf : xH} (hZ : Z = xZm cX12_reads yX12_reads 3 51 (some .boolean) (some (.int rv)) Hf) {k78 : (Option Nat) → Int32 → xH → Option (Int32 × xH)} (hk78 : ∀ (x0 : (Option Nat)) (x2 : Int32) (H : xH), k78 x0 x2 H = some (rv, Hf) → xWq Z H 78 [xA x0, xN, xI x2] []) : ∀ (x0 : (Option Nat)) (s0 : Int32) (H : xH), F_X12_reads_J123 N k78 x0 s0 H = some (rv, Hf) → xWq Z H 123 [xA x0, xN, xN] [.int s0] := by
  have hz : Z.1 = (cX12_reads, yX12_reads, 3) := by rw [hZ]; rfl
  have hδ : Z.2.1 = 51 := by rw [hZ]; rfl
  intro x0 s0 H h
  unfold F_X12_reads_J123 at h
  refine x_istore_n (pl' := [xA x0, xN, xI s0]) hz dX12_reads_123 (by decide) rfl ?_
  refine x_iload_n hz dX12_reads_124 rfl ?_
  refine x_if_ne (t := 131) hz dX12_reads_125 (by decide) (fun c1 => ?_) (fun c1 => ?_)
  · replace h := x_in c1 h
    refine x_aload_n hz dX12_reads_131 rfl ?_
    refine x_dup hz dX12_reads_132 (x_rfc _) ?_
    obtain ⟨v2, e_v2, h⟩ := x_bnd h
    refine x_getI hz dX12_reads_133 fs_X12_273 e_v2 ?_
    refine x_iconst (v := (1 : Int32)) hz dX12_reads_136 (by decide) ?_
    refine x_iadd hz dX12_reads_137 ?_
    obtain ⟨H3, e_H3, h⟩ := x_bnd h
    refine x_putV (v := .int (v2 + (1 : Int32))) hz dX12_reads_138 fs_X12_273 rfl rfl e_H3 ?_
    refine x_aload_n hz dX12_reads_141 rfl ?_
    obtain ⟨b5, e_b5, h⟩ := x_bnd h
    obtain ⟨H4, e_H4, h⟩ := x_bnd h
    refine x_callVv (as := []) (st := []) cs_X12_140 (ci := 11) ⟨rfl, rfl⟩ rfl rfl hz (by omega) (by decide) dX12_reads_142 e_b5 (M_X12_blanks e_H4) ?_
    refine x_goto (t := 78) hz dX12_reads_145 (by decide) ?_
    exact x_wk (xwk_c (xwk_n (xwk_c xwk_0))) (hk78 x0 s0 H4 h)
  · replace h := x_ip c1 h
    refine x_goto (t := 78) hz dX12_reads_128 (by decide) ?_
    exact x_wk (xwk_c (xwk_n (xwk_c xwk_0))) (hk78 x0 s0 H h)
noncomputable def F_X12_reads_J122 (N : Nat) (k78 : (Option Nat) → Int32 → xH → Option (Int32 × xH)) (x0 : (Option Nat)) (H : xH) : Option (Int32 × xH) :=
  (F_X12_reads_J123 N k78) x0 (0 : Int32) H
set_option maxRecDepth 20000 in
set_option maxHeartbeats 4000000 in
theorem P_X12_reads_J122 {N : Nat} {Z : xZ} {rv : Int32} {Hf : xH} (hZ : Z = xZm cX12_reads yX12_reads 3 51 (some .boolean) (some (.int rv)) Hf) {k78 : (Option Nat) → Int32 → xH → Option (Int32 × xH)} (hk78 : ∀ (x0 : (Option Nat)) (x2 : Int32) (H : xH), k78 x0 x2 H = some (rv, Hf) → xWq Z H 78 [xA x0, xN, xI x2] []) : ∀ (x0 : (Option Nat)) (H : xH), F_X12_reads_J122 N k78 x0 H = some (rv, Hf) → xWq Z H 122 [xA x0, xN, xN] [] := by
  have hz : Z.1 = (cX12_reads, yX12_reads, 3) := by rw [hZ]; rfl
  have hδ : Z.2.1 = 51 := by rw [hZ]; rfl
  intro x0 H h
  unfold F_X12_reads_J122 at h
  refine x_iconst (v := (0 : Int32)) hz dX12_reads_122 (by decide) ?_
  exact x_wk (xwk_c (xwk_n (xwk_n xwk_0))) ((P_X12_reads_J123 hZ hk78) x0 (0 : Int32) H h)
noncomputable def F_X12_reads_J78 (N : Nat) (k78 : (Option Nat) → Int32 → xH → Option (Int32 × xH)) (k148 : (Option Nat) → Int32 → xH → Option (Int32 × xH)) (x0 : (Option Nat)) (x2 : Int32) (H : xH) : Option (Int32 × xH) :=
  if x2 = 0 then (k148 x0 x2 H) else ((xgI H x0 11 33).bind fun v2 =>
  (xgI H x0 11 32).bind fun v3 =>
  if v3 ≤ v2 then (k148 x0 x2 H) else ((xgI H x0 11 26).bind fun v5 =>
  if (40 : Int32) ≤ v5 then ((F_X12_reads_J122 N k78) x0 H) else ((xob H x0 11).bind fun b8 =>
  x_bd2 (F_X12_statement N x0 H) fun v9 H7 =>
  if v9 = 0 then ((F_X12_reads_J122 N k78) x0 H7) else ((xob H7 x0 11).bind fun b12 =>
  x_bd2 (F_X12_takesSign N x0 (59 : Int32) H7) fun v13 H11 =>
  if v13 = 0 then ((F_X12_reads_J122 N k78) x0 H11) else ((F_X12_reads_J123 N k78) x0 (1 : Int32) H11)))))
set_option maxRecDepth 20000 in
set_option maxHeartbeats 4000000 in
theorem P_X12_reads_J78 {N : Nat} {Z : xZ} {rv : Int32} {Hf : xH} (hZ : Z = xZm cX12_reads yX12_reads 3 51 (some .boolean) (some (.int rv)) Hf) {k78 : (Option Nat) → Int32 → xH → Option (Int32 × xH)} (hk78 : ∀ (x0 : (Option Nat)) (x2 : Int32) (H : xH), k78 x0 x2 H = some (rv, Hf) → xWq Z H 78 [xA x0, xN, xI x2] []) {k148 : (Option Nat) → Int32 → xH → Option (Int32 × xH)} (hk148 : ∀ (x0 : (Option Nat)) (x2 : Int32) (H : xH), k148 x0 x2 H = some (rv, Hf) → xWq Z H 148 [xA x0, xN, xI x2] []) : ∀ (x0 : (Option Nat)) (x2 : Int32) (H : xH), F_X12_reads_J78 N k78 k148 x0 x2 H = some (rv, Hf) → xWq Z H 78 [xA x0, xN, xI x2] [] := by
  have hz : Z.1 = (cX12_reads, yX12_reads, 3) := by rw [hZ]; rfl
  have hδ : Z.2.1 = 51 := by rw [hZ]; rfl
  intro x0 x2 H h
  unfold F_X12_reads_J78 at h
  refine x_iload_n hz dX12_reads_78 rfl ?_
  refine x_if_eq (t := 148) hz dX12_reads_79 (by decide) (fun c1 => ?_) (fun c1 => ?_)
  · replace h := x_ip c1 h
    exact x_wk (xwk_c (xwk_n (xwk_c xwk_0))) (hk148 x0 x2 H h)
  · replace h := x_in c1 h
    refine x_aload_n hz dX12_reads_82 rfl ?_
    obtain ⟨v2, e_v2, h⟩ := x_bnd h
    refine x_getI hz dX12_reads_83 fs_X12_134 e_v2 ?_
    refine x_aload_n hz dX12_reads_86 rfl ?_
    obtain ⟨v3, e_v3, h⟩ := x_bnd h
    refine x_getI hz dX12_reads_87 fs_X12_137 e_v3 ?_
    refine x_icmp_ge (t := 148) hz dX12_reads_90 (by decide) (fun c4 => ?_) (fun c4 => ?_)
    · replace h := x_ip c4 h
      exact x_wk (xwk_c (xwk_n (xwk_c xwk_0))) (hk148 x0 x2 H h)
    · replace h := x_in c4 h
      refine x_aload_n hz dX12_reads_93 rfl ?_
      obtain ⟨v5, e_v5, h⟩ := x_bnd h
      refine x_getI hz dX12_reads_94 fs_X12_273 e_v5 ?_
      refine x_bipush (v := (40 : Int32)) hz dX12_reads_97 (by decide) ?_
      refine x_icmp_ge (t := 122) hz dX12_reads_99 (by decide) (fun c6 => ?_) (fun c6 => ?_)
      · replace h := x_ip c6 h
        exact x_wk (xwk_c (xwk_n (xwk_n xwk_0))) ((P_X12_reads_J122 hZ hk78) x0 H h)
      · replace h := x_in c6 h
        refine x_aload_n hz dX12_reads_102 rfl ?_
        obtain ⟨b8, e_b8, h⟩ := x_bnd h
        obtain ⟨v9, H7, e_H7, h⟩ := x_b2 h
        refine x_callVi (as := []) (st := []) cs_X12_276 (ci := 11) ⟨rfl, rfl⟩ rfl rfl hz (by omega) (by decide) dX12_reads_103 e_b8 (M_X12_statement e_H7) ?_
        refine x_if_eq (t := 122) hz dX12_reads_106 (by decide) (fun c10 => ?_) (fun c10 => ?_)
        · replace h := x_ip c10 h
          exact x_wk (xwk_c (xwk_n (xwk_n xwk_0))) ((P_X12_reads_J122 hZ hk78) x0 H7 h)
        · replace h := x_in c10 h
          refine x_aload_n hz dX12_reads_109 rfl ?_
          refine x_bipush (v := (59 : Int32)) hz dX12_reads_110 (by decide) ?_
          obtain ⟨b12, e_b12, h⟩ := x_bnd h
          obtain ⟨v13, H11, e_H11, h⟩ := x_b2 h
          refine x_callVi (as := [.inl (59 : Int32)]) (st := []) cs_X12_270 (ci := 11) ⟨rfl, rfl⟩ rfl rfl hz (by omega) (by decide) dX12_reads_112 e_b12 (M_X12_takesSign e_H11) ?_
          refine x_if_eq (t := 122) hz dX12_reads_115 (by decide) (fun c14 => ?_) (fun c14 => ?_)
          · replace h := x_ip c14 h
            exact x_wk (xwk_c (xwk_n (xwk_n xwk_0))) ((P_X12_reads_J122 hZ hk78) x0 H11 h)
          · replace h := x_in c14 h
            refine x_iconst (v := (1 : Int32)) hz dX12_reads_118 (by decide) ?_
            refine x_goto (t := 123) hz dX12_reads_119 (by decide) ?_
            exact x_wk (xwk_c (xwk_n (xwk_n xwk_0))) ((P_X12_reads_J123 hZ hk78) x0 (1 : Int32) H11 h)
noncomputable def F_X12_reads_L78 (N : Nat) (k148 : (Option Nat) → Int32 → xH → Option (Int32 × xH)) : Nat → (Option Nat) → Int32 → xH → Option (Int32 × xH)
  | 0 => fun _ _ _ => none
  | n + 1 => F_X12_reads_J78 N (F_X12_reads_L78 N k148 n) k148
theorem P_X12_reads_L78 {N : Nat} {Z : xZ} {rv : Int32} {Hf : xH} (hZ : Z = xZm cX12_reads yX12_reads 3 51 (some .boolean) (some (.int rv)) Hf) {k148 : (Option Nat) → Int32 → xH → Option (Int32 × xH)} (hk148 : ∀ (x0 : (Option Nat)) (x2 : Int32) (H : xH), k148 x0 x2 H = some (rv, Hf) → xWq Z H 148 [xA x0, xN, xI x2] []) : ∀ (n : Nat) (x0 : (Option Nat)) (x2 : Int32) (H : xH), F_X12_reads_L78 N k148 n x0 x2 H = some (rv, Hf) → xWq Z H 78 [xA x0, xN, xI x2] [] := by
  intro n
  induction n with
  | zero => intro _ _ _ h; cases h
  | succ n ih => exact P_X12_reads_J78 hZ ih hk148
noncomputable def F_X12_reads_J161 (N : Nat) (x2 : Int32) (s0 : (Option Nat)) (s1 : Int32) (H : xH) : Option (Int32 × xH) :=
  (xpI H s0 11 35 s1).bind fun H1 =>
  if x2 = 0 ∨ x2 = 1 then some (x2, H1) else none
set_option maxRecDepth 20000 in
set_option maxHeartbeats 4000000 in
theorem P_X12_reads_J161 {N : Nat} {Z : xZ} {rv : Int32} {Hf : xH} (hZ : Z = xZm cX12_reads yX12_reads 3 51 (some .boolean) (some (.int rv)) Hf) : ∀ (x2 : Int32) (s0 : (Option Nat)) (s1 : Int32) (H : xH), F_X12_reads_J161 N x2 s0 s1 H = some (rv, Hf) → xWq Z H 161 [xN, xN, xI x2] [.int s1, va_rf s0] := by
  have hz : Z.1 = (cX12_reads, yX12_reads, 3) := by rw [hZ]; rfl
  have hδ : Z.2.1 = 51 := by rw [hZ]; rfl
  intro x2 s0 s1 H h
  unfold F_X12_reads_J161 at h
  obtain ⟨H1, e_H1, h⟩ := x_bnd h
  refine x_putV (v := .int s1) hz dX12_reads_161 fs_X12_68 rfl rfl e_H1 ?_
  refine x_iload_n hz dX12_reads_164 rfl ?_
  obtain ⟨c2, h⟩ := x_inv h
  cases h
  exact x_zret01 hZ c2 dX12_reads_165
noncomputable def F_X12_reads_J148 (N : Nat) (x0 : (Option Nat)) (x2 : Int32) (H : xH) : Option (Int32 × xH) :=
  if x2 = 0 then ((xgI H x0 11 33).bind fun v2 =>
  (F_X12_reads_J161 N) x2 x0 v2 H) else ((F_X12_reads_J161 N) x2 x0 (-1 : Int32) H)
set_option maxRecDepth 20000 in
set_option maxHeartbeats 4000000 in
theorem P_X12_reads_J148 {N : Nat} {Z : xZ} {rv : Int32} {Hf : xH} (hZ : Z = xZm cX12_reads yX12_reads 3 51 (some .boolean) (some (.int rv)) Hf) : ∀ (x0 : (Option Nat)) (x2 : Int32) (H : xH), F_X12_reads_J148 N x0 x2 H = some (rv, Hf) → xWq Z H 148 [xA x0, xN, xI x2] [] := by
  have hz : Z.1 = (cX12_reads, yX12_reads, 3) := by rw [hZ]; rfl
  have hδ : Z.2.1 = 51 := by rw [hZ]; rfl
  intro x0 x2 H h
  unfold F_X12_reads_J148 at h
  refine x_aload_n hz dX12_reads_148 rfl ?_
  refine x_iload_n hz dX12_reads_149 rfl ?_
  refine x_if_eq (t := 157) hz dX12_reads_150 (by decide) (fun c1 => ?_) (fun c1 => ?_)
  · replace h := x_ip c1 h
    refine x_aload_n hz dX12_reads_157 rfl ?_
    obtain ⟨v2, e_v2, h⟩ := x_bnd h
    refine x_getI hz dX12_reads_158 fs_X12_134 e_v2 ?_
    exact x_wk (xwk_n (xwk_n (xwk_c xwk_0))) ((P_X12_reads_J161 hZ) x2 x0 v2 H h)
  · replace h := x_in c1 h
    refine x_iconst (v := (-1 : Int32)) hz dX12_reads_153 (by decide) ?_
    refine x_goto (t := 161) hz dX12_reads_154 (by decide) ?_
    exact x_wk (xwk_n (xwk_n (xwk_c xwk_0))) ((P_X12_reads_J161 hZ) x2 x0 (-1 : Int32) H h)
noncomputable def F_X12_reads_J25 (N : Nat) (x0 : (Option Nat)) (x1 : Int32) (H : xH) : Option (Int32 × xH) :=
  (xpI H x0 11 32 x1).bind fun H1 =>
  (xpI H1 x0 11 31 (0 : Int32)).bind fun H2 =>
  (xpI H2 x0 11 33 (0 : Int32)).bind fun H3 =>
  (xpI H3 x0 11 23 (0 : Int32)).bind fun H4 =>
  (xpI H4 x0 11 24 (0 : Int32)).bind fun H5 =>
  (xpI H5 x0 11 25 (0 : Int32)).bind fun H6 =>
  (xpI H6 x0 11 26 (0 : Int32)).bind fun H7 =>
  (xpI H7 x0 11 27 (0 : Int32)).bind fun H8 =>
  (xpI H8 x0 11 28 (700 : Int32)).bind fun H9 =>
  (xob H9 x0 11).bind fun b11 =>
  (F_X12_blanks N x0 H9).bind fun H10 =>
  (F_X12_reads_L78 N (F_X12_reads_J148 N) N) x0 (1 : Int32) H10
set_option maxRecDepth 20000 in
set_option maxHeartbeats 4000000 in
theorem P_X12_reads_J25 {N : Nat} {Z : xZ} {rv : Int32} {Hf : xH} (hZ : Z = xZm cX12_reads yX12_reads 3 51 (some .boolean) (some (.int rv)) Hf) : ∀ (x0 : (Option Nat)) (x1 : Int32) (H : xH), F_X12_reads_J25 N x0 x1 H = some (rv, Hf) → xWq Z H 25 [xA x0, xI x1, xN] [] := by
  have hz : Z.1 = (cX12_reads, yX12_reads, 3) := by rw [hZ]; rfl
  have hδ : Z.2.1 = 51 := by rw [hZ]; rfl
  intro x0 x1 H h
  unfold F_X12_reads_J25 at h
  refine x_aload_n hz dX12_reads_25 rfl ?_
  refine x_iload_n hz dX12_reads_26 rfl ?_
  obtain ⟨H1, e_H1, h⟩ := x_bnd h
  refine x_putV (v := .int x1) hz dX12_reads_27 fs_X12_137 rfl rfl e_H1 ?_
  refine x_aload_n hz dX12_reads_30 rfl ?_
  refine x_iconst (v := (0 : Int32)) hz dX12_reads_31 (by decide) ?_
  obtain ⟨H2, e_H2, h⟩ := x_bnd h
  refine x_putV (v := .int (0 : Int32)) hz dX12_reads_32 fs_X12_127 rfl rfl e_H2 ?_
  refine x_aload_n hz dX12_reads_35 rfl ?_
  refine x_iconst (v := (0 : Int32)) hz dX12_reads_36 (by decide) ?_
  obtain ⟨H3, e_H3, h⟩ := x_bnd h
  refine x_putV (v := .int (0 : Int32)) hz dX12_reads_37 fs_X12_134 rfl rfl e_H3 ?_
  refine x_aload_n hz dX12_reads_40 rfl ?_
  refine x_iconst (v := (0 : Int32)) hz dX12_reads_41 (by decide) ?_
  obtain ⟨H4, e_H4, h⟩ := x_bnd h
  refine x_putV (v := .int (0 : Int32)) hz dX12_reads_42 fs_X12_199 rfl rfl e_H4 ?_
  refine x_aload_n hz dX12_reads_45 rfl ?_
  refine x_iconst (v := (0 : Int32)) hz dX12_reads_46 (by decide) ?_
  obtain ⟨H5, e_H5, h⟩ := x_bnd h
  refine x_putV (v := .int (0 : Int32)) hz dX12_reads_47 fs_X12_206 rfl rfl e_H5 ?_
  refine x_aload_n hz dX12_reads_50 rfl ?_
  refine x_iconst (v := (0 : Int32)) hz dX12_reads_51 (by decide) ?_
  obtain ⟨H6, e_H6, h⟩ := x_bnd h
  refine x_putV (v := .int (0 : Int32)) hz dX12_reads_52 fs_X12_229 rfl rfl e_H6 ?_
  refine x_aload_n hz dX12_reads_55 rfl ?_
  refine x_iconst (v := (0 : Int32)) hz dX12_reads_56 (by decide) ?_
  obtain ⟨H7, e_H7, h⟩ := x_bnd h
  refine x_putV (v := .int (0 : Int32)) hz dX12_reads_57 fs_X12_273 rfl rfl e_H7 ?_
  refine x_aload_n hz dX12_reads_60 rfl ?_
  refine x_iconst (v := (0 : Int32)) hz dX12_reads_61 (by decide) ?_
  obtain ⟨H8, e_H8, h⟩ := x_bnd h
  refine x_putV (v := .int (0 : Int32)) hz dX12_reads_62 fs_X12_222 rfl rfl e_H8 ?_
  refine x_aload_n hz dX12_reads_65 rfl ?_
  refine x_sipush (v := (700 : Int32)) hz dX12_reads_66 (by decide) ?_
  obtain ⟨H9, e_H9, h⟩ := x_bnd h
  refine x_putV (v := .int (700 : Int32)) hz dX12_reads_69 fs_X12_235 rfl rfl e_H9 ?_
  refine x_iconst (v := (1 : Int32)) hz dX12_reads_72 (by decide) ?_
  refine x_istore_n (pl' := [xA x0, xI x1, xI (1 : Int32)]) hz dX12_reads_73 (by decide) rfl ?_
  refine x_aload_n hz dX12_reads_74 rfl ?_
  obtain ⟨b11, e_b11, h⟩ := x_bnd h
  obtain ⟨H10, e_H10, h⟩ := x_bnd h
  refine x_callVv (as := []) (st := []) cs_X12_140 (ci := 11) ⟨rfl, rfl⟩ rfl rfl hz (by omega) (by decide) dX12_reads_75 e_b11 (M_X12_blanks e_H10) ?_
  exact x_wk (xwk_c (xwk_n (xwk_c xwk_0))) ((P_X12_reads_L78 hZ (P_X12_reads_J148 hZ) N) x0 (1 : Int32) H10 h)
noncomputable def F_X12_reads (N : Nat) (a0 : (Option Nat)) (a1 : Int32) (H : xH) : Option (Int32 × xH) :=
  (F_X12_reads_L2 N (F_X12_reads_J25 N) N) a0 a1 (0 : Int32) H
set_option maxRecDepth 20000 in
set_option maxHeartbeats 4000000 in
theorem P_X12_reads {N : Nat} {Z : xZ} {rv : Int32} {Hf : xH} (hZ : Z = xZm cX12_reads yX12_reads 3 51 (some .boolean) (some (.int rv)) Hf) : ∀ (a0 : (Option Nat)) (a1 : Int32) (H : xH), F_X12_reads N a0 a1 H = some (rv, Hf) → xWq Z H 0 [xA a0, xI a1, xN] [] := by
  have hz : Z.1 = (cX12_reads, yX12_reads, 3) := by rw [hZ]; rfl
  have hδ : Z.2.1 = 51 := by rw [hZ]; rfl
  intro a0 a1 H h
  unfold F_X12_reads at h
  refine x_iconst (v := (0 : Int32)) hz dX12_reads_0 (by decide) ?_
  refine x_istore_n (pl' := [xA a0, xI a1, xI (0 : Int32)]) hz dX12_reads_1 (by decide) rfl ?_
  exact x_wk (xwk_c (xwk_c (xwk_c xwk_0))) ((P_X12_reads_L2 hZ (P_X12_reads_J25 hZ) N) a0 a1 (0 : Int32) H h)
theorem M_X12_reads {N : Nat} {a0 : (Option Nat)} {a1 : Int32} {H H1 : xH} {r1 : Int32} (h : F_X12_reads N a0 a1 H = some (r1, H1)) : xM yX12_reads cX12_reads 3 (some .boolean) 51 [.inr (.inr a0), .inl a1] H (some (.int r1)) H1 :=
  xM_of (by decide +kernel) (xT_tb 1231 (by decide +kernel) (by decide +kernel)) (by simp [xargs, x2]) rfl (P_X12_reads rfl a0 a1 H h)
/-! BettingBookModel.takesOver(II)V -/
noncomputable def F_X12_takesOver (N : Nat) (a0 : (Option Nat)) (a1 : Int32) (a2 : Int32) (H : xH) : Option xH :=
  (xgA H a0 11 8).bind fun v1 =>
  (xgA H a0 11 8).bind fun v2 =>
  (xlI .int H v2 a2).bind fun v3 =>
  (xsI .int H v1 a1 v3).bind fun H4 =>
  (xgA H4 a0 11 9).bind fun v5 =>
  (xgA H4 a0 11 9).bind fun v6 =>
  (xlI .int H4 v6 a2).bind fun v7 =>
  (xsI .int H4 v5 a1 v7).bind fun H8 =>
  (xgA H8 a0 11 10).bind fun v9 =>
  (xgA H8 a0 11 10).bind fun v10 =>
  (xlI .int H8 v10 a2).bind fun v11 =>
  (xsI .int H8 v9 a1 v11).bind fun H12 =>
  (xgA H12 a0 11 11).bind fun v13 =>
  (xgA H12 a0 11 11).bind fun v14 =>
  (xlI .int H12 v14 a2).bind fun v15 =>
  (xsI .int H12 v13 a1 v15).bind fun H16 =>
  (xgA H16 a0 11 16).bind fun v17 =>
  (xgA H16 a0 11 16).bind fun v18 =>
  (xlI .int H16 v18 a2).bind fun v19 =>
  (xsI .int H16 v17 a1 (v19 - (700 : Int32))).bind fun H20 =>
  (xgA H20 a0 11 17).bind fun v21 =>
  (xgA H20 a0 11 17).bind fun v22 =>
  (xlI .int H20 v22 a2).bind fun v23 =>
  (xsI .int H20 v21 a1 (v23 - (700 : Int32))).bind fun H24 =>
  (xgA H24 a0 11 18).bind fun v25 =>
  (xgA H24 a0 11 18).bind fun v26 =>
  (xlI .int H24 v26 a2).bind fun v27 =>
  (xsI .int H24 v25 a1 (v27 - (700 : Int32))).bind fun H28 =>
  (xgA H28 a0 11 19).bind fun v29 =>
  (xgA H28 a0 11 19).bind fun v30 =>
  (xlI .int H28 v30 a2).bind fun v31 =>
  (xsI .int H28 v29 a1 (v31 - (700 : Int32))).bind fun H32 =>
  (xgA H32 a0 11 52).bind fun v33 =>
  (xgA H32 a0 11 8).bind fun v34 =>
  (xlI .int H32 v34 a1).bind fun v35 =>
  (xsI .int H32 v33 ((2 : Int32) * a1) v35).bind fun H36 =>
  (xgA H36 a0 11 52).bind fun v37 =>
  (xgA H36 a0 11 9).bind fun v38 =>
  (xlI .int H36 v38 a1).bind fun v39 =>
  (xsI .int H36 v37 (((2 : Int32) * a1) + (1 : Int32)) v39).bind fun H40 =>
  some H40
set_option maxRecDepth 20000 in
set_option maxHeartbeats 4000000 in
theorem P_X12_takesOver {N : Nat} {Z : xZ} {Hf : xH} (hZ : Z = xZm cX12_takesOver yX12_takesOver 3 1 none none Hf) : ∀ (a0 : (Option Nat)) (a1 : Int32) (a2 : Int32) (H : xH), F_X12_takesOver N a0 a1 a2 H = some Hf → xWq Z H 0 [xA a0, xI a1, xI a2] [] := by
  have hz : Z.1 = (cX12_takesOver, yX12_takesOver, 3) := by rw [hZ]; rfl
  have hδ : Z.2.1 = 1 := by rw [hZ]; rfl
  intro a0 a1 a2 H h
  unfold F_X12_takesOver at h
  refine x_aload_n hz dX12_takesOver_0 rfl ?_
  obtain ⟨v1, e_v1, h⟩ := x_bnd h
  refine x_getA hz dX12_takesOver_1 fs_X12_16 e_v1 ?_
  refine x_iload_n hz dX12_takesOver_4 rfl ?_
  refine x_aload_n hz dX12_takesOver_5 rfl ?_
  obtain ⟨v2, e_v2, h⟩ := x_bnd h
  refine x_getA hz dX12_takesOver_6 fs_X12_16 e_v2 ?_
  refine x_iload_n hz dX12_takesOver_9 rfl ?_
  obtain ⟨v3, e_v3, h⟩ := x_bnd h
  refine x_iald hz dX12_takesOver_10 e_v3 ?_
  obtain ⟨H4, e_H4, h⟩ := x_bnd h
  refine x_iast hz dX12_takesOver_11 e_H4 ?_
  refine x_aload_n hz dX12_takesOver_12 rfl ?_
  obtain ⟨v5, e_v5, h⟩ := x_bnd h
  refine x_getA hz dX12_takesOver_13 fs_X12_19 e_v5 ?_
  refine x_iload_n hz dX12_takesOver_16 rfl ?_
  refine x_aload_n hz dX12_takesOver_17 rfl ?_
  obtain ⟨v6, e_v6, h⟩ := x_bnd h
  refine x_getA hz dX12_takesOver_18 fs_X12_19 e_v6 ?_
  refine x_iload_n hz dX12_takesOver_21 rfl ?_
  obtain ⟨v7, e_v7, h⟩ := x_bnd h
  refine x_iald hz dX12_takesOver_22 e_v7 ?_
  obtain ⟨H8, e_H8, h⟩ := x_bnd h
  refine x_iast hz dX12_takesOver_23 e_H8 ?_
  refine x_aload_n hz dX12_takesOver_24 rfl ?_
  obtain ⟨v9, e_v9, h⟩ := x_bnd h
  refine x_getA hz dX12_takesOver_25 fs_X12_22 e_v9 ?_
  refine x_iload_n hz dX12_takesOver_28 rfl ?_
  refine x_aload_n hz dX12_takesOver_29 rfl ?_
  obtain ⟨v10, e_v10, h⟩ := x_bnd h
  refine x_getA hz dX12_takesOver_30 fs_X12_22 e_v10 ?_
  refine x_iload_n hz dX12_takesOver_33 rfl ?_
  obtain ⟨v11, e_v11, h⟩ := x_bnd h
  refine x_iald hz dX12_takesOver_34 e_v11 ?_
  obtain ⟨H12, e_H12, h⟩ := x_bnd h
  refine x_iast hz dX12_takesOver_35 e_H12 ?_
  refine x_aload_n hz dX12_takesOver_36 rfl ?_
  obtain ⟨v13, e_v13, h⟩ := x_bnd h
  refine x_getA hz dX12_takesOver_37 fs_X12_25 e_v13 ?_
  refine x_iload_n hz dX12_takesOver_40 rfl ?_
  refine x_aload_n hz dX12_takesOver_41 rfl ?_
  obtain ⟨v14, e_v14, h⟩ := x_bnd h
  refine x_getA hz dX12_takesOver_42 fs_X12_25 e_v14 ?_
  refine x_iload_n hz dX12_takesOver_45 rfl ?_
  obtain ⟨v15, e_v15, h⟩ := x_bnd h
  refine x_iald hz dX12_takesOver_46 e_v15 ?_
  obtain ⟨H16, e_H16, h⟩ := x_bnd h
  refine x_iast hz dX12_takesOver_47 e_H16 ?_
  refine x_aload_n hz dX12_takesOver_48 rfl ?_
  obtain ⟨v17, e_v17, h⟩ := x_bnd h
  refine x_getA hz dX12_takesOver_49 fs_X12_40 e_v17 ?_
  refine x_iload_n hz dX12_takesOver_52 rfl ?_
  refine x_aload_n hz dX12_takesOver_53 rfl ?_
  obtain ⟨v18, e_v18, h⟩ := x_bnd h
  refine x_getA hz dX12_takesOver_54 fs_X12_40 e_v18 ?_
  refine x_iload_n hz dX12_takesOver_57 rfl ?_
  obtain ⟨v19, e_v19, h⟩ := x_bnd h
  refine x_iald hz dX12_takesOver_58 e_v19 ?_
  refine x_sipush (v := (700 : Int32)) hz dX12_takesOver_59 (by decide) ?_
  refine x_isub hz dX12_takesOver_62 ?_
  obtain ⟨H20, e_H20, h⟩ := x_bnd h
  refine x_iast hz dX12_takesOver_63 e_H20 ?_
  refine x_aload_n hz dX12_takesOver_64 rfl ?_
  obtain ⟨v21, e_v21, h⟩ := x_bnd h
  refine x_getA hz dX12_takesOver_65 fs_X12_43 e_v21 ?_
  refine x_iload_n hz dX12_takesOver_68 rfl ?_
  refine x_aload_n hz dX12_takesOver_69 rfl ?_
  obtain ⟨v22, e_v22, h⟩ := x_bnd h
  refine x_getA hz dX12_takesOver_70 fs_X12_43 e_v22 ?_
  refine x_iload_n hz dX12_takesOver_73 rfl ?_
  obtain ⟨v23, e_v23, h⟩ := x_bnd h
  refine x_iald hz dX12_takesOver_74 e_v23 ?_
  refine x_sipush (v := (700 : Int32)) hz dX12_takesOver_75 (by decide) ?_
  refine x_isub hz dX12_takesOver_78 ?_
  obtain ⟨H24, e_H24, h⟩ := x_bnd h
  refine x_iast hz dX12_takesOver_79 e_H24 ?_
  refine x_aload_n hz dX12_takesOver_80 rfl ?_
  obtain ⟨v25, e_v25, h⟩ := x_bnd h
  refine x_getA hz dX12_takesOver_81 fs_X12_46 e_v25 ?_
  refine x_iload_n hz dX12_takesOver_84 rfl ?_
  refine x_aload_n hz dX12_takesOver_85 rfl ?_
  obtain ⟨v26, e_v26, h⟩ := x_bnd h
  refine x_getA hz dX12_takesOver_86 fs_X12_46 e_v26 ?_
  refine x_iload_n hz dX12_takesOver_89 rfl ?_
  obtain ⟨v27, e_v27, h⟩ := x_bnd h
  refine x_iald hz dX12_takesOver_90 e_v27 ?_
  refine x_sipush (v := (700 : Int32)) hz dX12_takesOver_91 (by decide) ?_
  refine x_isub hz dX12_takesOver_94 ?_
  obtain ⟨H28, e_H28, h⟩ := x_bnd h
  refine x_iast hz dX12_takesOver_95 e_H28 ?_
  refine x_aload_n hz dX12_takesOver_96 rfl ?_
  obtain ⟨v29, e_v29, h⟩ := x_bnd h
  refine x_getA hz dX12_takesOver_97 fs_X12_49 e_v29 ?_
  refine x_iload_n hz dX12_takesOver_100 rfl ?_
  refine x_aload_n hz dX12_takesOver_101 rfl ?_
  obtain ⟨v30, e_v30, h⟩ := x_bnd h
  refine x_getA hz dX12_takesOver_102 fs_X12_49 e_v30 ?_
  refine x_iload_n hz dX12_takesOver_105 rfl ?_
  obtain ⟨v31, e_v31, h⟩ := x_bnd h
  refine x_iald hz dX12_takesOver_106 e_v31 ?_
  refine x_sipush (v := (700 : Int32)) hz dX12_takesOver_107 (by decide) ?_
  refine x_isub hz dX12_takesOver_110 ?_
  obtain ⟨H32, e_H32, h⟩ := x_bnd h
  refine x_iast hz dX12_takesOver_111 e_H32 ?_
  refine x_aload_n hz dX12_takesOver_112 rfl ?_
  obtain ⟨v33, e_v33, h⟩ := x_bnd h
  refine x_getA hz dX12_takesOver_113 fs_X12_100 e_v33 ?_
  refine x_iconst (v := (2 : Int32)) hz dX12_takesOver_116 (by decide) ?_
  refine x_iload_n hz dX12_takesOver_117 rfl ?_
  refine x_imul hz dX12_takesOver_118 ?_
  refine x_aload_n hz dX12_takesOver_119 rfl ?_
  obtain ⟨v34, e_v34, h⟩ := x_bnd h
  refine x_getA hz dX12_takesOver_120 fs_X12_16 e_v34 ?_
  refine x_iload_n hz dX12_takesOver_123 rfl ?_
  obtain ⟨v35, e_v35, h⟩ := x_bnd h
  refine x_iald hz dX12_takesOver_124 e_v35 ?_
  obtain ⟨H36, e_H36, h⟩ := x_bnd h
  refine x_iast hz dX12_takesOver_125 e_H36 ?_
  refine x_aload_n hz dX12_takesOver_126 rfl ?_
  obtain ⟨v37, e_v37, h⟩ := x_bnd h
  refine x_getA hz dX12_takesOver_127 fs_X12_100 e_v37 ?_
  refine x_iconst (v := (2 : Int32)) hz dX12_takesOver_130 (by decide) ?_
  refine x_iload_n hz dX12_takesOver_131 rfl ?_
  refine x_imul hz dX12_takesOver_132 ?_
  refine x_iconst (v := (1 : Int32)) hz dX12_takesOver_133 (by decide) ?_
  refine x_iadd hz dX12_takesOver_134 ?_
  refine x_aload_n hz dX12_takesOver_135 rfl ?_
  obtain ⟨v38, e_v38, h⟩ := x_bnd h
  refine x_getA hz dX12_takesOver_136 fs_X12_19 e_v38 ?_
  refine x_iload_n hz dX12_takesOver_139 rfl ?_
  obtain ⟨v39, e_v39, h⟩ := x_bnd h
  refine x_iald hz dX12_takesOver_140 e_v39 ?_
  obtain ⟨H40, e_H40, h⟩ := x_bnd h
  refine x_iast hz dX12_takesOver_141 e_H40 ?_
  cases h
  exact x_vret hZ dX12_takesOver_142
theorem M_X12_takesOver {N : Nat} {a0 : (Option Nat)} {a1 : Int32} {a2 : Int32} {H H1 : xH} (h : F_X12_takesOver N a0 a1 a2 H = some H1) : xM yX12_takesOver cX12_takesOver 3 none 1 [.inr (.inr a0), .inl a1, .inl a2] H none H1 :=
  xM_of (by decide +kernel) (xT_tb 1332 (by decide +kernel) (by decide +kernel)) (by simp [xargs, x2]) rfl (P_X12_takesOver rfl a0 a1 a2 H h)
/-! BettingBookModel.book(I)I -/
noncomputable def F_X12_book_J67 (N : Nat) (k67 : (Option Nat) → Int32 → xH → Option (Int32 × xH)) (k109 : (Option Nat) → xH → Option (Int32 × xH)) (x0 : (Option Nat)) (x2 : Int32) (H : xH) : Option (Int32 × xH) :=
  (xgI H x0 11 0).bind fun v1 =>
  if v1 ≤ x2 then (k109 x0 H) else ((xgA H x0 11 6).bind fun v3 =>
  (xgA H x0 11 6).bind fun v4 =>
  (xlI .int H v4 ((5 : Int32) + x2)).bind fun v5 =>
  (xsI .int H v3 x2 v5).bind fun H6 =>
  (xgA H6 x0 11 7).bind fun v7 =>
  (xgA H6 x0 11 7).bind fun v8 =>
  (xlI .int H6 v8 ((5 : Int32) + x2)).bind fun v9 =>
  (xsI .int H6 v7 x2 v9).bind fun H10 =>
  k67 x0 (x2 + 1) H10)
set_option maxRecDepth 20000 in
set_option maxHeartbeats 4000000 in
theorem P_X12_book_J67 {N : Nat} {Z : xZ} {rv : Int32} {Hf : xH} (hZ : Z = xZm cX12_book yX12_book 3 52 (some .int) (some (.int rv)) Hf) {k67 : (Option Nat) → Int32 → xH → Option (Int32 × xH)} (hk67 : ∀ (x0 : (Option Nat)) (x2 : Int32) (H : xH), k67 x0 x2 H = some (rv, Hf) → xWq Z H 67 [xA x0, xN, xI x2] []) {k109 : (Option Nat) → xH → Option (Int32 × xH)} (hk109 : ∀ (x0 : (Option Nat)) (H : xH), k109 x0 H = some (rv, Hf) → xWq Z H 109 [xA x0, xN, xN] []) : ∀ (x0 : (Option Nat)) (x2 : Int32) (H : xH), F_X12_book_J67 N k67 k109 x0 x2 H = some (rv, Hf) → xWq Z H 67 [xA x0, xN, xI x2] [] := by
  have hz : Z.1 = (cX12_book, yX12_book, 3) := by rw [hZ]; rfl
  have hδ : Z.2.1 = 52 := by rw [hZ]; rfl
  intro x0 x2 H h
  unfold F_X12_book_J67 at h
  refine x_iload_n hz dX12_book_67 rfl ?_
  refine x_aload_n hz dX12_book_68 rfl ?_
  obtain ⟨v1, e_v1, h⟩ := x_bnd h
  refine x_getI hz dX12_book_69 fs_X12_282 e_v1 ?_
  refine x_icmp_ge (t := 109) hz dX12_book_72 (by decide) (fun c2 => ?_) (fun c2 => ?_)
  · replace h := x_ip c2 h
    exact x_wk (xwk_c (xwk_n (xwk_n xwk_0))) (hk109 x0 H h)
  · replace h := x_in c2 h
    refine x_aload_n hz dX12_book_75 rfl ?_
    obtain ⟨v3, e_v3, h⟩ := x_bnd h
    refine x_getA hz dX12_book_76 fs_X12_7 e_v3 ?_
    refine x_iload_n hz dX12_book_79 rfl ?_
    refine x_aload_n hz dX12_book_80 rfl ?_
    obtain ⟨v4, e_v4, h⟩ := x_bnd h
    refine x_getA hz dX12_book_81 fs_X12_7 e_v4 ?_
    refine x_iconst (v := (5 : Int32)) hz dX12_book_84 (by decide) ?_
    refine x_iload_n hz dX12_book_85 rfl ?_
    refine x_iadd hz dX12_book_86 ?_
    obtain ⟨v5, e_v5, h⟩ := x_bnd h
    refine x_iald hz dX12_book_87 e_v5 ?_
    obtain ⟨H6, e_H6, h⟩ := x_bnd h
    refine x_iast hz dX12_book_88 e_H6 ?_
    refine x_aload_n hz dX12_book_89 rfl ?_
    obtain ⟨v7, e_v7, h⟩ := x_bnd h
    refine x_getA hz dX12_book_90 fs_X12_13 e_v7 ?_
    refine x_iload_n hz dX12_book_93 rfl ?_
    refine x_aload_n hz dX12_book_94 rfl ?_
    obtain ⟨v8, e_v8, h⟩ := x_bnd h
    refine x_getA hz dX12_book_95 fs_X12_13 e_v8 ?_
    refine x_iconst (v := (5 : Int32)) hz dX12_book_98 (by decide) ?_
    refine x_iload_n hz dX12_book_99 rfl ?_
    refine x_iadd hz dX12_book_100 ?_
    obtain ⟨v9, e_v9, h⟩ := x_bnd h
    refine x_iald hz dX12_book_101 e_v9 ?_
    obtain ⟨H10, e_H10, h⟩ := x_bnd h
    refine x_iast hz dX12_book_102 e_H10 ?_
    refine x_iinc (w := (x2 + 1)) (pl' := [xA x0, xN, xI (x2 + 1)]) hz dX12_book_103 rfl rfl (by decide) rfl ?_
    refine x_goto (t := 67) hz dX12_book_106 (by decide) ?_
    exact x_wk (xwk_c (xwk_n (xwk_c xwk_0))) (hk67 x0 (x2 + 1) H10 h)
noncomputable def F_X12_book_L67 (N : Nat) (k109 : (Option Nat) → xH → Option (Int32 × xH)) : Nat → (Option Nat) → Int32 → xH → Option (Int32 × xH)
  | 0 => fun _ _ _ => none
  | n + 1 => F_X12_book_J67 N (F_X12_book_L67 N k109 n) k109
theorem P_X12_book_L67 {N : Nat} {Z : xZ} {rv : Int32} {Hf : xH} (hZ : Z = xZm cX12_book yX12_book 3 52 (some .int) (some (.int rv)) Hf) {k109 : (Option Nat) → xH → Option (Int32 × xH)} (hk109 : ∀ (x0 : (Option Nat)) (H : xH), k109 x0 H = some (rv, Hf) → xWq Z H 109 [xA x0, xN, xN] []) : ∀ (n : Nat) (x0 : (Option Nat)) (x2 : Int32) (H : xH), F_X12_book_L67 N k109 n x0 x2 H = some (rv, Hf) → xWq Z H 67 [xA x0, xN, xI x2] [] := by
  intro n
  induction n with
  | zero => intro _ _ _ h; cases h
  | succ n ih => exact P_X12_book_J67 hZ ih hk109
noncomputable def F_X12_book_J111 (N : Nat) (k111 : (Option Nat) → Int32 → xH → Option (Int32 × xH)) (k185 : (Option Nat) → xH → Option (Int32 × xH)) (x0 : (Option Nat)) (x2 : Int32) (H : xH) : Option (Int32 × xH) :=
  (xgI H x0 11 4).bind fun v1 =>
  if v1 ≤ x2 then (k185 x0 H) else ((xgA H x0 11 12).bind fun v3 =>
  (xgA H x0 11 12).bind fun v4 =>
  (xlI .int H v4 ((40 : Int32) + x2)).bind fun v5 =>
  (xsI .int H v3 x2 v5).bind fun H6 =>
  (xgA H6 x0 11 13).bind fun v7 =>
  (xgA H6 x0 11 13).bind fun v8 =>
  (xlI .int H6 v8 ((40 : Int32) + x2)).bind fun v9 =>
  (xsI .int H6 v7 x2 v9).bind fun H10 =>
  (xgA H10 x0 11 14).bind fun v11 =>
  (xgA H10 x0 11 14).bind fun v12 =>
  (xlI .int H10 v12 ((40 : Int32) + x2)).bind fun v13 =>
  (xsI .int H10 v11 x2 v13).bind fun H14 =>
  (xgA H14 x0 11 15).bind fun v15 =>
  (xgA H14 x0 11 15).bind fun v16 =>
  (xlI .int H14 v16 ((40 : Int32) + x2)).bind fun v17 =>
  (xsI .int H14 v15 x2 v17).bind fun H18 =>
  k111 x0 (x2 + 1) H18)
set_option maxRecDepth 20000 in
set_option maxHeartbeats 4000000 in
theorem P_X12_book_J111 {N : Nat} {Z : xZ} {rv : Int32} {Hf : xH} (hZ : Z = xZm cX12_book yX12_book 3 52 (some .int) (some (.int rv)) Hf) {k111 : (Option Nat) → Int32 → xH → Option (Int32 × xH)} (hk111 : ∀ (x0 : (Option Nat)) (x2 : Int32) (H : xH), k111 x0 x2 H = some (rv, Hf) → xWq Z H 111 [xA x0, xN, xI x2] []) {k185 : (Option Nat) → xH → Option (Int32 × xH)} (hk185 : ∀ (x0 : (Option Nat)) (H : xH), k185 x0 H = some (rv, Hf) → xWq Z H 185 [xA x0, xN, xN] []) : ∀ (x0 : (Option Nat)) (x2 : Int32) (H : xH), F_X12_book_J111 N k111 k185 x0 x2 H = some (rv, Hf) → xWq Z H 111 [xA x0, xN, xI x2] [] := by
  have hz : Z.1 = (cX12_book, yX12_book, 3) := by rw [hZ]; rfl
  have hδ : Z.2.1 = 52 := by rw [hZ]; rfl
  intro x0 x2 H h
  unfold F_X12_book_J111 at h
  refine x_iload_n hz dX12_book_111 rfl ?_
  refine x_aload_n hz dX12_book_112 rfl ?_
  obtain ⟨v1, e_v1, h⟩ := x_bnd h
  refine x_getI hz dX12_book_113 fs_X12_294 e_v1 ?_
  refine x_icmp_ge (t := 185) hz dX12_book_116 (by decide) (fun c2 => ?_) (fun c2 => ?_)
  · replace h := x_ip c2 h
    exact x_wk (xwk_c (xwk_n (xwk_n xwk_0))) (hk185 x0 H h)
  · replace h := x_in c2 h
    refine x_aload_n hz dX12_book_119 rfl ?_
    obtain ⟨v3, e_v3, h⟩ := x_bnd h
    refine x_getA hz dX12_book_120 fs_X12_28 e_v3 ?_
    refine x_iload_n hz dX12_book_123 rfl ?_
    refine x_aload_n hz dX12_book_124 rfl ?_
    obtain ⟨v4, e_v4, h⟩ := x_bnd h
    refine x_getA hz dX12_book_125 fs_X12_28 e_v4 ?_
    refine x_bipush (v := (40 : Int32)) hz dX12_book_128 (by decide) ?_
    refine x_iload_n hz dX12_book_130 rfl ?_
    refine x_iadd hz dX12_book_131 ?_
    obtain ⟨v5, e_v5, h⟩ := x_bnd h
    refine x_iald hz dX12_book_132 e_v5 ?_
    obtain ⟨H6, e_H6, h⟩ := x_bnd h
    refine x_iast hz dX12_book_133 e_H6 ?_
    refine x_aload_n hz dX12_book_134 rfl ?_
    obtain ⟨v7, e_v7, h⟩ := x_bnd h
    refine x_getA hz dX12_book_135 fs_X12_31 e_v7 ?_
    refine x_iload_n hz dX12_book_138 rfl ?_
    refine x_aload_n hz dX12_book_139 rfl ?_
    obtain ⟨v8, e_v8, h⟩ := x_bnd h
    refine x_getA hz dX12_book_140 fs_X12_31 e_v8 ?_
    refine x_bipush (v := (40 : Int32)) hz dX12_book_143 (by decide) ?_
    refine x_iload_n hz dX12_book_145 rfl ?_
    refine x_iadd hz dX12_book_146 ?_
    obtain ⟨v9, e_v9, h⟩ := x_bnd h
    refine x_iald hz dX12_book_147 e_v9 ?_
    obtain ⟨H10, e_H10, h⟩ := x_bnd h
    refine x_iast hz dX12_book_148 e_H10 ?_
    refine x_aload_n hz dX12_book_149 rfl ?_
    obtain ⟨v11, e_v11, h⟩ := x_bnd h
    refine x_getA hz dX12_book_150 fs_X12_34 e_v11 ?_
    refine x_iload_n hz dX12_book_153 rfl ?_
    refine x_aload_n hz dX12_book_154 rfl ?_
    obtain ⟨v12, e_v12, h⟩ := x_bnd h
    refine x_getA hz dX12_book_155 fs_X12_34 e_v12 ?_
    refine x_bipush (v := (40 : Int32)) hz dX12_book_158 (by decide) ?_
    refine x_iload_n hz dX12_book_160 rfl ?_
    refine x_iadd hz dX12_book_161 ?_
    obtain ⟨v13, e_v13, h⟩ := x_bnd h
    refine x_iald hz dX12_book_162 e_v13 ?_
    obtain ⟨H14, e_H14, h⟩ := x_bnd h
    refine x_iast hz dX12_book_163 e_H14 ?_
    refine x_aload_n hz dX12_book_164 rfl ?_
    obtain ⟨v15, e_v15, h⟩ := x_bnd h
    refine x_getA hz dX12_book_165 fs_X12_37 e_v15 ?_
    refine x_iload_n hz dX12_book_168 rfl ?_
    refine x_aload_n hz dX12_book_169 rfl ?_
    obtain ⟨v16, e_v16, h⟩ := x_bnd h
    refine x_getA hz dX12_book_170 fs_X12_37 e_v16 ?_
    refine x_bipush (v := (40 : Int32)) hz dX12_book_173 (by decide) ?_
    refine x_iload_n hz dX12_book_175 rfl ?_
    refine x_iadd hz dX12_book_176 ?_
    obtain ⟨v17, e_v17, h⟩ := x_bnd h
    refine x_iald hz dX12_book_177 e_v17 ?_
    obtain ⟨H18, e_H18, h⟩ := x_bnd h
    refine x_iast hz dX12_book_178 e_H18 ?_
    refine x_iinc (w := (x2 + 1)) (pl' := [xA x0, xN, xI (x2 + 1)]) hz dX12_book_179 rfl rfl (by decide) rfl ?_
    refine x_goto (t := 111) hz dX12_book_182 (by decide) ?_
    exact x_wk (xwk_c (xwk_n (xwk_c xwk_0))) (hk111 x0 (x2 + 1) H18 h)
noncomputable def F_X12_book_L111 (N : Nat) (k185 : (Option Nat) → xH → Option (Int32 × xH)) : Nat → (Option Nat) → Int32 → xH → Option (Int32 × xH)
  | 0 => fun _ _ _ => none
  | n + 1 => F_X12_book_J111 N (F_X12_book_L111 N k185 n) k185
theorem P_X12_book_L111 {N : Nat} {Z : xZ} {rv : Int32} {Hf : xH} (hZ : Z = xZm cX12_book yX12_book 3 52 (some .int) (some (.int rv)) Hf) {k185 : (Option Nat) → xH → Option (Int32 × xH)} (hk185 : ∀ (x0 : (Option Nat)) (H : xH), k185 x0 H = some (rv, Hf) → xWq Z H 185 [xA x0, xN, xN] []) : ∀ (n : Nat) (x0 : (Option Nat)) (x2 : Int32) (H : xH), F_X12_book_L111 N k185 n x0 x2 H = some (rv, Hf) → xWq Z H 111 [xA x0, xN, xI x2] [] := by
  intro n
  induction n with
  | zero => intro _ _ _ h; cases h
  | succ n ih => exact P_X12_book_J111 hZ ih hk185
noncomputable def F_X12_book_J187 (N : Nat) (k187 : (Option Nat) → Int32 → xH → Option (Int32 × xH)) (k210 : (Option Nat) → xH → Option (Int32 × xH)) (x0 : (Option Nat)) (x2 : Int32) (H : xH) : Option (Int32 × xH) :=
  (xgI H x0 11 2).bind fun v1 =>
  if v1 ≤ x2 then (k210 x0 H) else ((xob H x0 11).bind fun b4 =>
  (F_X12_takesOver N x0 x2 ((12 : Int32) + x2) H).bind fun H3 =>
  k187 x0 (x2 + 1) H3)
set_option maxRecDepth 20000 in
set_option maxHeartbeats 4000000 in
theorem P_X12_book_J187 {N : Nat} {Z : xZ} {rv : Int32} {Hf : xH} (hZ : Z = xZm cX12_book yX12_book 3 52 (some .int) (some (.int rv)) Hf) {k187 : (Option Nat) → Int32 → xH → Option (Int32 × xH)} (hk187 : ∀ (x0 : (Option Nat)) (x2 : Int32) (H : xH), k187 x0 x2 H = some (rv, Hf) → xWq Z H 187 [xA x0, xN, xI x2] []) {k210 : (Option Nat) → xH → Option (Int32 × xH)} (hk210 : ∀ (x0 : (Option Nat)) (H : xH), k210 x0 H = some (rv, Hf) → xWq Z H 210 [xA x0, xN, xN] []) : ∀ (x0 : (Option Nat)) (x2 : Int32) (H : xH), F_X12_book_J187 N k187 k210 x0 x2 H = some (rv, Hf) → xWq Z H 187 [xA x0, xN, xI x2] [] := by
  have hz : Z.1 = (cX12_book, yX12_book, 3) := by rw [hZ]; rfl
  have hδ : Z.2.1 = 52 := by rw [hZ]; rfl
  intro x0 x2 H h
  unfold F_X12_book_J187 at h
  refine x_iload_n hz dX12_book_187 rfl ?_
  refine x_aload_n hz dX12_book_188 rfl ?_
  obtain ⟨v1, e_v1, h⟩ := x_bnd h
  refine x_getI hz dX12_book_189 fs_X12_288 e_v1 ?_
  refine x_icmp_ge (t := 210) hz dX12_book_192 (by decide) (fun c2 => ?_) (fun c2 => ?_)
  · replace h := x_ip c2 h
    exact x_wk (xwk_c (xwk_n (xwk_n xwk_0))) (hk210 x0 H h)
  · replace h := x_in c2 h
    refine x_aload_n hz dX12_book_195 rfl ?_
    refine x_iload_n hz dX12_book_196 rfl ?_
    refine x_bipush (v := (12 : Int32)) hz dX12_book_197 (by decide) ?_
    refine x_iload_n hz dX12_book_199 rfl ?_
    refine x_iadd hz dX12_book_200 ?_
    obtain ⟨b4, e_b4, h⟩ := x_bnd h
    obtain ⟨H3, e_H3, h⟩ := x_bnd h
    refine x_callVv (as := [.inl x2, .inl ((12 : Int32) + x2)]) (st := []) cs_X12_297 (ci := 11) ⟨rfl, rfl⟩ rfl rfl hz (by omega) (by decide) dX12_book_201 e_b4 (M_X12_takesOver e_H3) ?_
    refine x_iinc (w := (x2 + 1)) (pl' := [xA x0, xN, xI (x2 + 1)]) hz dX12_book_204 rfl rfl (by decide) rfl ?_
    refine x_goto (t := 187) hz dX12_book_207 (by decide) ?_
    exact x_wk (xwk_c (xwk_n (xwk_c xwk_0))) (hk187 x0 (x2 + 1) H3 h)
noncomputable def F_X12_book_L187 (N : Nat) (k210 : (Option Nat) → xH → Option (Int32 × xH)) : Nat → (Option Nat) → Int32 → xH → Option (Int32 × xH)
  | 0 => fun _ _ _ => none
  | n + 1 => F_X12_book_J187 N (F_X12_book_L187 N k210 n) k210
theorem P_X12_book_L187 {N : Nat} {Z : xZ} {rv : Int32} {Hf : xH} (hZ : Z = xZm cX12_book yX12_book 3 52 (some .int) (some (.int rv)) Hf) {k210 : (Option Nat) → xH → Option (Int32 × xH)} (hk210 : ∀ (x0 : (Option Nat)) (H : xH), k210 x0 H = some (rv, Hf) → xWq Z H 210 [xA x0, xN, xN] []) : ∀ (n : Nat) (x0 : (Option Nat)) (x2 : Int32) (H : xH), F_X12_book_L187 N k210 n x0 x2 H = some (rv, Hf) → xWq Z H 187 [xA x0, xN, xI x2] [] := by
  intro n
  induction n with
  | zero => intro _ _ _ h; cases h
  | succ n ih => exact P_X12_book_J187 hZ ih hk210
noncomputable def F_X12_book_J214 (N : Nat) (k214 : (Option Nat) → Int32 → xH → Option (Int32 × xH)) (k276 : (Option Nat) → xH → Option (Int32 × xH)) (x0 : (Option Nat)) (x2 : Int32) (H : xH) : Option (Int32 × xH) :=
  (xgI H x0 11 28).bind fun v1 =>
  if v1 ≤ x2 then (k276 x0 H) else ((xgA H x0 11 20).bind fun v3 =>
  (xgA H x0 11 20).bind fun v4 =>
  (xlI .int H v4 x2).bind fun v5 =>
  (xsI .int H v3 (x2 - (700 : Int32)) v5).bind fun H6 =>
  (xgA H6 x0 11 21).bind fun v7 =>
  (xgA H6 x0 11 21).bind fun v8 =>
  (xlI .int H6 v8 x2).bind fun v9 =>
  (xsI .int H6 v7 (x2 - (700 : Int32)) v9).bind fun H10 =>
  (xgA H10 x0 11 22).bind fun v11 =>
  (xgA H10 x0 11 22).bind fun v12 =>
  (xlI .int H10 v12 x2).bind fun v13 =>
  (xsI .int H10 v11 (x2 - (700 : Int32)) v13).bind fun H14 =>
  k214 x0 (x2 + 1) H14)
set_option maxRecDepth 20000 in
set_option maxHeartbeats 4000000 in
theorem P_X12_book_J214 {N : Nat} {Z : xZ} {rv : Int32} {Hf : xH} (hZ : Z = xZm cX12_book yX12_book 3 52 (some .int) (some (.int rv)) Hf) {k214 : (Option Nat) → Int32 → xH → Option (Int32 × xH)} (hk214 : ∀ (x0 : (Option Nat)) (x2 : Int32) (H : xH), k214 x0 x2 H = some (rv, Hf) → xWq Z H 214 [xA x0, xN, xI x2] []) {k276 : (Option Nat) → xH → Option (Int32 × xH)} (hk276 : ∀ (x0 : (Option Nat)) (H : xH), k276 x0 H = some (rv, Hf) → xWq Z H 276 [xA x0, xN, xN] []) : ∀ (x0 : (Option Nat)) (x2 : Int32) (H : xH), F_X12_book_J214 N k214 k276 x0 x2 H = some (rv, Hf) → xWq Z H 214 [xA x0, xN, xI x2] [] := by
  have hz : Z.1 = (cX12_book, yX12_book, 3) := by rw [hZ]; rfl
  have hδ : Z.2.1 = 52 := by rw [hZ]; rfl
  intro x0 x2 H h
  unfold F_X12_book_J214 at h
  refine x_iload_n hz dX12_book_214 rfl ?_
  refine x_aload_n hz dX12_book_215 rfl ?_
  obtain ⟨v1, e_v1, h⟩ := x_bnd h
  refine x_getI hz dX12_book_216 fs_X12_235 e_v1 ?_
  refine x_icmp_ge (t := 276) hz dX12_book_219 (by decide) (fun c2 => ?_) (fun c2 => ?_)
  · replace h := x_ip c2 h
    exact x_wk (xwk_c (xwk_n (xwk_n xwk_0))) (hk276 x0 H h)
  · replace h := x_in c2 h
    refine x_aload_n hz dX12_book_222 rfl ?_
    obtain ⟨v3, e_v3, h⟩ := x_bnd h
    refine x_getA hz dX12_book_223 fs_X12_52 e_v3 ?_
    refine x_iload_n hz dX12_book_226 rfl ?_
    refine x_sipush (v := (700 : Int32)) hz dX12_book_227 (by decide) ?_
    refine x_isub hz dX12_book_230 ?_
    refine x_aload_n hz dX12_book_231 rfl ?_
    obtain ⟨v4, e_v4, h⟩ := x_bnd h
    refine x_getA hz dX12_book_232 fs_X12_52 e_v4 ?_
    refine x_iload_n hz dX12_book_235 rfl ?_
    obtain ⟨v5, e_v5, h⟩ := x_bnd h
    refine x_iald hz dX12_book_236 e_v5 ?_
    obtain ⟨H6, e_H6, h⟩ := x_bnd h
    refine x_iast hz dX12_book_237 e_H6 ?_
    refine x_aload_n hz dX12_book_238 rfl ?_
    obtain ⟨v7, e_v7, h⟩ := x_bnd h
    refine x_getA hz dX12_book_239 fs_X12_55 e_v7 ?_
    refine x_iload_n hz dX12_book_242 rfl ?_
    refine x_sipush (v := (700 : Int32)) hz dX12_book_243 (by decide) ?_
    refine x_isub hz dX12_book_246 ?_
    refine x_aload_n hz dX12_book_247 rfl ?_
    obtain ⟨v8, e_v8, h⟩ := x_bnd h
    refine x_getA hz dX12_book_248 fs_X12_55 e_v8 ?_
    refine x_iload_n hz dX12_book_251 rfl ?_
    obtain ⟨v9, e_v9, h⟩ := x_bnd h
    refine x_iald hz dX12_book_252 e_v9 ?_
    obtain ⟨H10, e_H10, h⟩ := x_bnd h
    refine x_iast hz dX12_book_253 e_H10 ?_
    refine x_aload_n hz dX12_book_254 rfl ?_
    obtain ⟨v11, e_v11, h⟩ := x_bnd h
    refine x_getA hz dX12_book_255 fs_X12_58 e_v11 ?_
    refine x_iload_n hz dX12_book_258 rfl ?_
    refine x_sipush (v := (700 : Int32)) hz dX12_book_259 (by decide) ?_
    refine x_isub hz dX12_book_262 ?_
    refine x_aload_n hz dX12_book_263 rfl ?_
    obtain ⟨v12, e_v12, h⟩ := x_bnd h
    refine x_getA hz dX12_book_264 fs_X12_58 e_v12 ?_
    refine x_iload_n hz dX12_book_267 rfl ?_
    obtain ⟨v13, e_v13, h⟩ := x_bnd h
    refine x_iald hz dX12_book_268 e_v13 ?_
    obtain ⟨H14, e_H14, h⟩ := x_bnd h
    refine x_iast hz dX12_book_269 e_H14 ?_
    refine x_iinc (w := (x2 + 1)) (pl' := [xA x0, xN, xI (x2 + 1)]) hz dX12_book_270 rfl rfl (by decide) rfl ?_
    refine x_goto (t := 214) hz dX12_book_273 (by decide) ?_
    exact x_wk (xwk_c (xwk_n (xwk_c xwk_0))) (hk214 x0 (x2 + 1) H14 h)
noncomputable def F_X12_book_L214 (N : Nat) (k276 : (Option Nat) → xH → Option (Int32 × xH)) : Nat → (Option Nat) → Int32 → xH → Option (Int32 × xH)
  | 0 => fun _ _ _ => none
  | n + 1 => F_X12_book_J214 N (F_X12_book_L214 N k276 n) k276
theorem P_X12_book_L214 {N : Nat} {Z : xZ} {rv : Int32} {Hf : xH} (hZ : Z = xZm cX12_book yX12_book 3 52 (some .int) (some (.int rv)) Hf) {k276 : (Option Nat) → xH → Option (Int32 × xH)} (hk276 : ∀ (x0 : (Option Nat)) (H : xH), k276 x0 H = some (rv, Hf) → xWq Z H 276 [xA x0, xN, xN] []) : ∀ (n : Nat) (x0 : (Option Nat)) (x2 : Int32) (H : xH), F_X12_book_L214 N k276 n x0 x2 H = some (rv, Hf) → xWq Z H 214 [xA x0, xN, xI x2] [] := by
  intro n
  induction n with
  | zero => intro _ _ _ h; cases h
  | succ n ih => exact P_X12_book_J214 hZ ih hk276
noncomputable def F_X12_book_J278 (N : Nat) (k278 : (Option Nat) → Int32 → xH → Option (Int32 × xH)) (k297 : (Option Nat) → xH → Option (Int32 × xH)) (x0 : (Option Nat)) (x2 : Int32) (H : xH) : Option (Int32 × xH) :=
  if (45 : Int32) ≤ x2 then (k297 x0 H) else ((xgA H x0 11 61).bind fun v2 =>
  (xsI .int H v2 x2 (0 : Int32)).bind fun H3 =>
  k278 x0 (x2 + 1) H3)
set_option maxRecDepth 20000 in
set_option maxHeartbeats 4000000 in
theorem P_X12_book_J278 {N : Nat} {Z : xZ} {rv : Int32} {Hf : xH} (hZ : Z = xZm cX12_book yX12_book 3 52 (some .int) (some (.int rv)) Hf) {k278 : (Option Nat) → Int32 → xH → Option (Int32 × xH)} (hk278 : ∀ (x0 : (Option Nat)) (x2 : Int32) (H : xH), k278 x0 x2 H = some (rv, Hf) → xWq Z H 278 [xA x0, xN, xI x2] []) {k297 : (Option Nat) → xH → Option (Int32 × xH)} (hk297 : ∀ (x0 : (Option Nat)) (H : xH), k297 x0 H = some (rv, Hf) → xWq Z H 297 [xA x0, xN, xN] []) : ∀ (x0 : (Option Nat)) (x2 : Int32) (H : xH), F_X12_book_J278 N k278 k297 x0 x2 H = some (rv, Hf) → xWq Z H 278 [xA x0, xN, xI x2] [] := by
  have hz : Z.1 = (cX12_book, yX12_book, 3) := by rw [hZ]; rfl
  have hδ : Z.2.1 = 52 := by rw [hZ]; rfl
  intro x0 x2 H h
  unfold F_X12_book_J278 at h
  refine x_iload_n hz dX12_book_278 rfl ?_
  refine x_bipush (v := (45 : Int32)) hz dX12_book_279 (by decide) ?_
  refine x_icmp_ge (t := 297) hz dX12_book_281 (by decide) (fun c1 => ?_) (fun c1 => ?_)
  · replace h := x_ip c1 h
    exact x_wk (xwk_c (xwk_n (xwk_n xwk_0))) (hk297 x0 H h)
  · replace h := x_in c1 h
    refine x_aload_n hz dX12_book_284 rfl ?_
    obtain ⟨v2, e_v2, h⟩ := x_bnd h
    refine x_getA hz dX12_book_285 fs_X12_118 e_v2 ?_
    refine x_iload_n hz dX12_book_288 rfl ?_
    refine x_iconst (v := (0 : Int32)) hz dX12_book_289 (by decide) ?_
    obtain ⟨H3, e_H3, h⟩ := x_bnd h
    refine x_iast hz dX12_book_290 e_H3 ?_
    refine x_iinc (w := (x2 + 1)) (pl' := [xA x0, xN, xI (x2 + 1)]) hz dX12_book_291 rfl rfl (by decide) rfl ?_
    refine x_goto (t := 278) hz dX12_book_294 (by decide) ?_
    exact x_wk (xwk_c (xwk_n (xwk_c xwk_0))) (hk278 x0 (x2 + 1) H3 h)
noncomputable def F_X12_book_L278 (N : Nat) (k297 : (Option Nat) → xH → Option (Int32 × xH)) : Nat → (Option Nat) → Int32 → xH → Option (Int32 × xH)
  | 0 => fun _ _ _ => none
  | n + 1 => F_X12_book_J278 N (F_X12_book_L278 N k297 n) k297
theorem P_X12_book_L278 {N : Nat} {Z : xZ} {rv : Int32} {Hf : xH} (hZ : Z = xZm cX12_book yX12_book 3 52 (some .int) (some (.int rv)) Hf) {k297 : (Option Nat) → xH → Option (Int32 × xH)} (hk297 : ∀ (x0 : (Option Nat)) (H : xH), k297 x0 H = some (rv, Hf) → xWq Z H 297 [xA x0, xN, xN] []) : ∀ (n : Nat) (x0 : (Option Nat)) (x2 : Int32) (H : xH), F_X12_book_L278 N k297 n x0 x2 H = some (rv, Hf) → xWq Z H 278 [xA x0, xN, xI x2] [] := by
  intro n
  induction n with
  | zero => intro _ _ _ h; cases h
  | succ n ih => exact P_X12_book_J278 hZ ih hk297
noncomputable def F_X12_book_J299 (N : Nat) (k299 : (Option Nat) → Int32 → xH → Option (Int32 × xH)) (k318 : (Option Nat) → xH → Option (Int32 × xH)) (x0 : (Option Nat)) (x2 : Int32) (H : xH) : Option (Int32 × xH) :=
  if (6 : Int32) ≤ x2 then (k318 x0 H) else ((xgA H x0 11 53).bind fun v2 =>
  (xsI .int H v2 x2 (0 : Int32)).bind fun H3 =>
  k299 x0 (x2 + 1) H3)
set_option maxRecDepth 20000 in
set_option maxHeartbeats 4000000 in
theorem P_X12_book_J299 {N : Nat} {Z : xZ} {rv : Int32} {Hf : xH} (hZ : Z = xZm cX12_book yX12_book 3 52 (some .int) (some (.int rv)) Hf) {k299 : (Option Nat) → Int32 → xH → Option (Int32 × xH)} (hk299 : ∀ (x0 : (Option Nat)) (x2 : Int32) (H : xH), k299 x0 x2 H = some (rv, Hf) → xWq Z H 299 [xA x0, xN, xI x2] []) {k318 : (Option Nat) → xH → Option (Int32 × xH)} (hk318 : ∀ (x0 : (Option Nat)) (H : xH), k318 x0 H = some (rv, Hf) → xWq Z H 318 [xA x0, xN, xN] []) : ∀ (x0 : (Option Nat)) (x2 : Int32) (H : xH), F_X12_book_J299 N k299 k318 x0 x2 H = some (rv, Hf) → xWq Z H 299 [xA x0, xN, xI x2] [] := by
  have hz : Z.1 = (cX12_book, yX12_book, 3) := by rw [hZ]; rfl
  have hδ : Z.2.1 = 52 := by rw [hZ]; rfl
  intro x0 x2 H h
  unfold F_X12_book_J299 at h
  refine x_iload_n hz dX12_book_299 rfl ?_
  refine x_bipush (v := (6 : Int32)) hz dX12_book_300 (by decide) ?_
  refine x_icmp_ge (t := 318) hz dX12_book_302 (by decide) (fun c1 => ?_) (fun c1 => ?_)
  · replace h := x_ip c1 h
    exact x_wk (xwk_c (xwk_n (xwk_n xwk_0))) (hk318 x0 H h)
  · replace h := x_in c1 h
    refine x_aload_n hz dX12_book_305 rfl ?_
    obtain ⟨v2, e_v2, h⟩ := x_bnd h
    refine x_getA hz dX12_book_306 fs_X12_103 e_v2 ?_
    refine x_iload_n hz dX12_book_309 rfl ?_
    refine x_iconst (v := (0 : Int32)) hz dX12_book_310 (by decide) ?_
    obtain ⟨H3, e_H3, h⟩ := x_bnd h
    refine x_iast hz dX12_book_311 e_H3 ?_
    refine x_iinc (w := (x2 + 1)) (pl' := [xA x0, xN, xI (x2 + 1)]) hz dX12_book_312 rfl rfl (by decide) rfl ?_
    refine x_goto (t := 299) hz dX12_book_315 (by decide) ?_
    exact x_wk (xwk_c (xwk_n (xwk_c xwk_0))) (hk299 x0 (x2 + 1) H3 h)
noncomputable def F_X12_book_L299 (N : Nat) (k318 : (Option Nat) → xH → Option (Int32 × xH)) : Nat → (Option Nat) → Int32 → xH → Option (Int32 × xH)
  | 0 => fun _ _ _ => none
  | n + 1 => F_X12_book_J299 N (F_X12_book_L299 N k318 n) k318
theorem P_X12_book_L299 {N : Nat} {Z : xZ} {rv : Int32} {Hf : xH} (hZ : Z = xZm cX12_book yX12_book 3 52 (some .int) (some (.int rv)) Hf) {k318 : (Option Nat) → xH → Option (Int32 × xH)} (hk318 : ∀ (x0 : (Option Nat)) (H : xH), k318 x0 H = some (rv, Hf) → xWq Z H 318 [xA x0, xN, xN] []) : ∀ (n : Nat) (x0 : (Option Nat)) (x2 : Int32) (H : xH), F_X12_book_L299 N k318 n x0 x2 H = some (rv, Hf) → xWq Z H 299 [xA x0, xN, xI x2] [] := by
  intro n
  induction n with
  | zero => intro _ _ _ h; cases h
  | succ n ih => exact P_X12_book_J299 hZ ih hk318
noncomputable def F_X12_book_J318 (N : Nat) (x0 : (Option Nat)) (H : xH) : Option (Int32 × xH) :=
  (xpI H x0 11 46 (0 : Int32)).bind fun H1 =>
  (xpI H1 x0 11 47 (0 : Int32)).bind fun H2 =>
  (xpI H2 x0 11 51 (0 : Int32)).bind fun H3 =>
  (xpI H3 x0 11 62 (0 : Int32)).bind fun H4 =>
  (xgI H4 x0 11 5).bind fun v5 =>
  (xpI H4 x0 11 5 (v5 + (1 : Int32))).bind fun H6 =>
  (xob H6 x0 11).bind fun b8 =>
  (F_X12_makes N x0 H6).bind fun H7 =>
  (xgI H7 x0 11 2).bind fun v9 =>
  some (v9, H7)
set_option maxRecDepth 20000 in
set_option maxHeartbeats 4000000 in
theorem P_X12_book_J318 {N : Nat} {Z : xZ} {rv : Int32} {Hf : xH} (hZ : Z = xZm cX12_book yX12_book 3 52 (some .int) (some (.int rv)) Hf) : ∀ (x0 : (Option Nat)) (H : xH), F_X12_book_J318 N x0 H = some (rv, Hf) → xWq Z H 318 [xA x0, xN, xN] [] := by
  have hz : Z.1 = (cX12_book, yX12_book, 3) := by rw [hZ]; rfl
  have hδ : Z.2.1 = 52 := by rw [hZ]; rfl
  intro x0 H h
  unfold F_X12_book_J318 at h
  refine x_aload_n hz dX12_book_318 rfl ?_
  refine x_iconst (v := (0 : Int32)) hz dX12_book_319 (by decide) ?_
  obtain ⟨H1, e_H1, h⟩ := x_bnd h
  refine x_putV (v := .int (0 : Int32)) hz dX12_book_320 fs_X12_301 rfl rfl e_H1 ?_
  refine x_aload_n hz dX12_book_323 rfl ?_
  refine x_iconst (v := (0 : Int32)) hz dX12_book_324 (by decide) ?_
  obtain ⟨H2, e_H2, h⟩ := x_bnd h
  refine x_putV (v := .int (0 : Int32)) hz dX12_book_325 fs_X12_304 rfl rfl e_H2 ?_
  refine x_aload_n hz dX12_book_328 rfl ?_
  refine x_iconst (v := (0 : Int32)) hz dX12_book_329 (by decide) ?_
  obtain ⟨H3, e_H3, h⟩ := x_bnd h
  refine x_putV (v := .int (0 : Int32)) hz dX12_book_330 fs_X12_307 rfl rfl e_H3 ?_
  refine x_aload_n hz dX12_book_333 rfl ?_
  refine x_iconst (v := (0 : Int32)) hz dX12_book_334 (by decide) ?_
  obtain ⟨H4, e_H4, h⟩ := x_bnd h
  refine x_putV (v := .int (0 : Int32)) hz dX12_book_335 fs_X12_310 rfl rfl e_H4 ?_
  refine x_aload_n hz dX12_book_338 rfl ?_
  refine x_dup hz dX12_book_339 (x_rfc _) ?_
  obtain ⟨v5, e_v5, h⟩ := x_bnd h
  refine x_getI hz dX12_book_340 fs_X12_313 e_v5 ?_
  refine x_iconst (v := (1 : Int32)) hz dX12_book_343 (by decide) ?_
  refine x_iadd hz dX12_book_344 ?_
  obtain ⟨H6, e_H6, h⟩ := x_bnd h
  refine x_putV (v := .int (v5 + (1 : Int32))) hz dX12_book_345 fs_X12_313 rfl rfl e_H6 ?_
  refine x_aload_n hz dX12_book_348 rfl ?_
  obtain ⟨b8, e_b8, h⟩ := x_bnd h
  obtain ⟨H7, e_H7, h⟩ := x_bnd h
  refine x_callVv (as := []) (st := []) cs_X12_124 (ci := 11) ⟨rfl, rfl⟩ rfl rfl hz (by omega) (by decide) dX12_book_349 e_b8 (M_X12_makes e_H7) ?_
  refine x_aload_n hz dX12_book_352 rfl ?_
  obtain ⟨v9, e_v9, h⟩ := x_bnd h
  refine x_getI hz dX12_book_353 fs_X12_288 e_v9 ?_
  cases h
  exact x_iret hZ dX12_book_356
noncomputable def F_X12_book_J297 (N : Nat) (x0 : (Option Nat)) (H : xH) : Option (Int32 × xH) :=
  (F_X12_book_L299 N (F_X12_book_J318 N) N) x0 (0 : Int32) H
set_option maxRecDepth 20000 in
set_option maxHeartbeats 4000000 in
theorem P_X12_book_J297 {N : Nat} {Z : xZ} {rv : Int32} {Hf : xH} (hZ : Z = xZm cX12_book yX12_book 3 52 (some .int) (some (.int rv)) Hf) : ∀ (x0 : (Option Nat)) (H : xH), F_X12_book_J297 N x0 H = some (rv, Hf) → xWq Z H 297 [xA x0, xN, xN] [] := by
  have hz : Z.1 = (cX12_book, yX12_book, 3) := by rw [hZ]; rfl
  have hδ : Z.2.1 = 52 := by rw [hZ]; rfl
  intro x0 H h
  unfold F_X12_book_J297 at h
  refine x_iconst (v := (0 : Int32)) hz dX12_book_297 (by decide) ?_
  refine x_istore_n (pl' := [xA x0, xN, xI (0 : Int32)]) hz dX12_book_298 (by decide) rfl ?_
  exact x_wk (xwk_c (xwk_n (xwk_c xwk_0))) ((P_X12_book_L299 hZ (P_X12_book_J318 hZ) N) x0 (0 : Int32) H h)
noncomputable def F_X12_book_J276 (N : Nat) (x0 : (Option Nat)) (H : xH) : Option (Int32 × xH) :=
  (F_X12_book_L278 N (F_X12_book_J297 N) N) x0 (0 : Int32) H
set_option maxRecDepth 20000 in
set_option maxHeartbeats 4000000 in
theorem P_X12_book_J276 {N : Nat} {Z : xZ} {rv : Int32} {Hf : xH} (hZ : Z = xZm cX12_book yX12_book 3 52 (some .int) (some (.int rv)) Hf) : ∀ (x0 : (Option Nat)) (H : xH), F_X12_book_J276 N x0 H = some (rv, Hf) → xWq Z H 276 [xA x0, xN, xN] [] := by
  have hz : Z.1 = (cX12_book, yX12_book, 3) := by rw [hZ]; rfl
  have hδ : Z.2.1 = 52 := by rw [hZ]; rfl
  intro x0 H h
  unfold F_X12_book_J276 at h
  refine x_iconst (v := (0 : Int32)) hz dX12_book_276 (by decide) ?_
  refine x_istore_n (pl' := [xA x0, xN, xI (0 : Int32)]) hz dX12_book_277 (by decide) rfl ?_
  exact x_wk (xwk_c (xwk_n (xwk_c xwk_0))) ((P_X12_book_L278 hZ (P_X12_book_J297 hZ) N) x0 (0 : Int32) H h)
noncomputable def F_X12_book_J210 (N : Nat) (x0 : (Option Nat)) (H : xH) : Option (Int32 × xH) :=
  (F_X12_book_L214 N (F_X12_book_J276 N) N) x0 (700 : Int32) H
set_option maxRecDepth 20000 in
set_option maxHeartbeats 4000000 in
theorem P_X12_book_J210 {N : Nat} {Z : xZ} {rv : Int32} {Hf : xH} (hZ : Z = xZm cX12_book yX12_book 3 52 (some .int) (some (.int rv)) Hf) : ∀ (x0 : (Option Nat)) (H : xH), F_X12_book_J210 N x0 H = some (rv, Hf) → xWq Z H 210 [xA x0, xN, xN] [] := by
  have hz : Z.1 = (cX12_book, yX12_book, 3) := by rw [hZ]; rfl
  have hδ : Z.2.1 = 52 := by rw [hZ]; rfl
  intro x0 H h
  unfold F_X12_book_J210 at h
  refine x_sipush (v := (700 : Int32)) hz dX12_book_210 (by decide) ?_
  refine x_istore_n (pl' := [xA x0, xN, xI (700 : Int32)]) hz dX12_book_213 (by decide) rfl ?_
  exact x_wk (xwk_c (xwk_n (xwk_c xwk_0))) ((P_X12_book_L214 hZ (P_X12_book_J276 hZ) N) x0 (700 : Int32) H h)
noncomputable def F_X12_book_J185 (N : Nat) (x0 : (Option Nat)) (H : xH) : Option (Int32 × xH) :=
  (F_X12_book_L187 N (F_X12_book_J210 N) N) x0 (0 : Int32) H
set_option maxRecDepth 20000 in
set_option maxHeartbeats 4000000 in
theorem P_X12_book_J185 {N : Nat} {Z : xZ} {rv : Int32} {Hf : xH} (hZ : Z = xZm cX12_book yX12_book 3 52 (some .int) (some (.int rv)) Hf) : ∀ (x0 : (Option Nat)) (H : xH), F_X12_book_J185 N x0 H = some (rv, Hf) → xWq Z H 185 [xA x0, xN, xN] [] := by
  have hz : Z.1 = (cX12_book, yX12_book, 3) := by rw [hZ]; rfl
  have hδ : Z.2.1 = 52 := by rw [hZ]; rfl
  intro x0 H h
  unfold F_X12_book_J185 at h
  refine x_iconst (v := (0 : Int32)) hz dX12_book_185 (by decide) ?_
  refine x_istore_n (pl' := [xA x0, xN, xI (0 : Int32)]) hz dX12_book_186 (by decide) rfl ?_
  exact x_wk (xwk_c (xwk_n (xwk_c xwk_0))) ((P_X12_book_L187 hZ (P_X12_book_J210 hZ) N) x0 (0 : Int32) H h)
noncomputable def F_X12_book_J109 (N : Nat) (x0 : (Option Nat)) (H : xH) : Option (Int32 × xH) :=
  (F_X12_book_L111 N (F_X12_book_J185 N) N) x0 (0 : Int32) H
set_option maxRecDepth 20000 in
set_option maxHeartbeats 4000000 in
theorem P_X12_book_J109 {N : Nat} {Z : xZ} {rv : Int32} {Hf : xH} (hZ : Z = xZm cX12_book yX12_book 3 52 (some .int) (some (.int rv)) Hf) : ∀ (x0 : (Option Nat)) (H : xH), F_X12_book_J109 N x0 H = some (rv, Hf) → xWq Z H 109 [xA x0, xN, xN] [] := by
  have hz : Z.1 = (cX12_book, yX12_book, 3) := by rw [hZ]; rfl
  have hδ : Z.2.1 = 52 := by rw [hZ]; rfl
  intro x0 H h
  unfold F_X12_book_J109 at h
  refine x_iconst (v := (0 : Int32)) hz dX12_book_109 (by decide) ?_
  refine x_istore_n (pl' := [xA x0, xN, xI (0 : Int32)]) hz dX12_book_110 (by decide) rfl ?_
  exact x_wk (xwk_c (xwk_n (xwk_c xwk_0))) ((P_X12_book_L111 hZ (P_X12_book_J185 hZ) N) x0 (0 : Int32) H h)
noncomputable def F_X12_book (N : Nat) (a0 : (Option Nat)) (a1 : Int32) (H : xH) : Option (Int32 × xH) :=
  (xgI H a0 11 31).bind fun v1 =>
  x_bd2 (F_X12_isIn N a1 (0 : Int32) v1 H) fun v3 H2 =>
  if v3 = 0 then (some ((-2 : Int32), H2)) else ((xob H2 a0 11).bind fun b6 =>
  x_bd2 (F_X12_reads N a0 a1 H2) fun v7 H5 =>
  if v7 = 0 then (some ((-1 : Int32), H5)) else ((xgI H5 a0 11 23).bind fun v9 =>
  (xpI H5 a0 11 0 v9).bind fun H10 =>
  (xgI H10 a0 11 24).bind fun v11 =>
  (xpI H10 a0 11 1 v11).bind fun H12 =>
  (xgI H12 a0 11 25).bind fun v13 =>
  (xpI H12 a0 11 2 v13).bind fun H14 =>
  (xgI H14 a0 11 26).bind fun v15 =>
  (xpI H14 a0 11 3 v15).bind fun H16 =>
  (xgI H16 a0 11 27).bind fun v17 =>
  (xpI H16 a0 11 4 v17).bind fun H18 =>
  (F_X12_book_L67 N (F_X12_book_J109 N) N) a0 (0 : Int32) H18))
set_option maxRecDepth 20000 in
set_option maxHeartbeats 4000000 in
theorem P_X12_book {N : Nat} {Z : xZ} {rv : Int32} {Hf : xH} (hZ : Z = xZm cX12_book yX12_book 3 52 (some .int) (some (.int rv)) Hf) : ∀ (a0 : (Option Nat)) (a1 : Int32) (H : xH), F_X12_book N a0 a1 H = some (rv, Hf) → xWq Z H 0 [xA a0, xI a1, xN] [] := by
  have hz : Z.1 = (cX12_book, yX12_book, 3) := by rw [hZ]; rfl
  have hδ : Z.2.1 = 52 := by rw [hZ]; rfl
  intro a0 a1 H h
  unfold F_X12_book at h
  refine x_iload_n hz dX12_book_0 rfl ?_
  refine x_iconst (v := (0 : Int32)) hz dX12_book_1 (by decide) ?_
  refine x_aload_n hz dX12_book_2 rfl ?_
  obtain ⟨v1, e_v1, h⟩ := x_bnd h
  refine x_getI hz dX12_book_3 fs_X12_127 e_v1 ?_
  obtain ⟨v3, H2, e_H2, h⟩ := x_b2 h
  refine x_callSi (as := [.inl a1, .inl (0 : Int32), .inl v1]) (st := []) cs_X12_153 rfl rfl hz (by omega) (by decide) dX12_book_6 (M_X12_isIn e_H2) ?_
  refine x_if_ne (t := 15) hz dX12_book_9 (by decide) (fun c4 => ?_) (fun c4 => ?_)
  · replace h := x_in c4 h
    refine x_aload_n hz dX12_book_15 rfl ?_
    refine x_iload_n hz dX12_book_16 rfl ?_
    obtain ⟨b6, e_b6, h⟩ := x_bnd h
    obtain ⟨v7, H5, e_H5, h⟩ := x_b2 h
    refine x_callVi (as := [.inl a1]) (st := []) cs_X12_279 (ci := 11) ⟨rfl, rfl⟩ rfl rfl hz (by omega) (by decide) dX12_book_17 e_b6 (M_X12_reads e_H5) ?_
    refine x_if_ne (t := 25) hz dX12_book_20 (by decide) (fun c8 => ?_) (fun c8 => ?_)
    · replace h := x_in c8 h
      refine x_aload_n hz dX12_book_25 rfl ?_
      refine x_aload_n hz dX12_book_26 rfl ?_
      obtain ⟨v9, e_v9, h⟩ := x_bnd h
      refine x_getI hz dX12_book_27 fs_X12_199 e_v9 ?_
      obtain ⟨H10, e_H10, h⟩ := x_bnd h
      refine x_putV (v := .int v9) hz dX12_book_30 fs_X12_282 rfl rfl e_H10 ?_
      refine x_aload_n hz dX12_book_33 rfl ?_
      refine x_aload_n hz dX12_book_34 rfl ?_
      obtain ⟨v11, e_v11, h⟩ := x_bnd h
      refine x_getI hz dX12_book_35 fs_X12_206 e_v11 ?_
      obtain ⟨H12, e_H12, h⟩ := x_bnd h
      refine x_putV (v := .int v11) hz dX12_book_38 fs_X12_285 rfl rfl e_H12 ?_
      refine x_aload_n hz dX12_book_41 rfl ?_
      refine x_aload_n hz dX12_book_42 rfl ?_
      obtain ⟨v13, e_v13, h⟩ := x_bnd h
      refine x_getI hz dX12_book_43 fs_X12_229 e_v13 ?_
      obtain ⟨H14, e_H14, h⟩ := x_bnd h
      refine x_putV (v := .int v13) hz dX12_book_46 fs_X12_288 rfl rfl e_H14 ?_
      refine x_aload_n hz dX12_book_49 rfl ?_
      refine x_aload_n hz dX12_book_50 rfl ?_
      obtain ⟨v15, e_v15, h⟩ := x_bnd h
      refine x_getI hz dX12_book_51 fs_X12_273 e_v15 ?_
      obtain ⟨H16, e_H16, h⟩ := x_bnd h
      refine x_putV (v := .int v15) hz dX12_book_54 fs_X12_291 rfl rfl e_H16 ?_
      refine x_aload_n hz dX12_book_57 rfl ?_
      refine x_aload_n hz dX12_book_58 rfl ?_
      obtain ⟨v17, e_v17, h⟩ := x_bnd h
      refine x_getI hz dX12_book_59 fs_X12_222 e_v17 ?_
      obtain ⟨H18, e_H18, h⟩ := x_bnd h
      refine x_putV (v := .int v17) hz dX12_book_62 fs_X12_294 rfl rfl e_H18 ?_
      refine x_iconst (v := (0 : Int32)) hz dX12_book_65 (by decide) ?_
      refine x_istore_n (pl' := [xA a0, xI a1, xI (0 : Int32)]) hz dX12_book_66 (by decide) rfl ?_
      exact x_wk (xwk_c (xwk_n (xwk_c xwk_0))) ((P_X12_book_L67 hZ (P_X12_book_J109 hZ) N) a0 (0 : Int32) H18 h)
    · replace h := x_ip c8 h
      refine x_iconst (v := (-1 : Int32)) hz dX12_book_23 (by decide) ?_
      cases h
      exact x_iret hZ dX12_book_24
  · replace h := x_ip c4 h
    refine x_bipush (v := (-2 : Int32)) hz dX12_book_12 (by decide) ?_
    cases h
    exact x_iret hZ dX12_book_14
theorem M_X12_book {N : Nat} {a0 : (Option Nat)} {a1 : Int32} {H H1 : xH} {r1 : Int32} (h : F_X12_book N a0 a1 H = some (r1, H1)) : xM yX12_book cX12_book 3 (some .int) 52 [.inr (.inr a0), .inl a1] H (some (.int r1)) H1 :=
  xM_of (by decide +kernel) (xT_tb 1227 (by decide +kernel) (by decide +kernel)) (by simp [xargs, x2]) rfl (P_X12_book rfl a0 a1 H h)
/-! BettingBookModel.fault()I -/
noncomputable def F_X12_fault (N : Nat) (a0 : (Option Nat)) (H : xH) : Option (Int32 × xH) :=
  (xgI H a0 11 35).bind fun v1 =>
  some (v1, H)
set_option maxRecDepth 20000 in
set_option maxHeartbeats 4000000 in
theorem P_X12_fault {N : Nat} {Z : xZ} {rv : Int32} {Hf : xH} (hZ : Z = xZm cX12_fault yX12_fault 1 1 (some .int) (some (.int rv)) Hf) : ∀ (a0 : (Option Nat)) (H : xH), F_X12_fault N a0 H = some (rv, Hf) → xWq Z H 0 [xA a0] [] := by
  have hz : Z.1 = (cX12_fault, yX12_fault, 1) := by rw [hZ]; rfl
  have hδ : Z.2.1 = 1 := by rw [hZ]; rfl
  intro a0 H h
  unfold F_X12_fault at h
  refine x_aload_n hz dX12_fault_0 rfl ?_
  obtain ⟨v1, e_v1, h⟩ := x_bnd h
  refine x_getI hz dX12_fault_1 fs_X12_68 e_v1 ?_
  cases h
  exact x_iret hZ dX12_fault_4
theorem M_X12_fault {N : Nat} {a0 : (Option Nat)} {H H1 : xH} {r1 : Int32} (h : F_X12_fault N a0 H = some (r1, H1)) : xM yX12_fault cX12_fault 1 (some .int) 1 [.inr (.inr a0)] H (some (.int r1)) H1 :=
  xM_of (by decide +kernel) (xT_tb 1336 (by decide +kernel) (by decide +kernel)) (by simp [xargs, x2]) rfl (P_X12_fault rfl a0 H h)
/-! BettingBookModel.told(I)I -/
noncomputable def F_X12_told (N : Nat) (a0 : (Option Nat)) (a1 : Int32) (H : xH) : Option (Int32 × xH) :=
  if a1 = 0 then ((xgI H a0 11 0).bind fun v2 =>
  some (v2, H)) else (if a1 = 1 then ((xgI H a0 11 1).bind fun v4 =>
  some (v4, H)) else (if a1 = 2 then ((xgI H a0 11 2).bind fun v6 =>
  some (v6, H)) else (if a1 = 3 then ((xgI H a0 11 3).bind fun v8 =>
  some (v8, H)) else ((xgI H a0 11 0).bind fun v9 =>
  x_bd2 (F_X12_isIn N a1 (100 : Int32) ((99 : Int32) + ((2 : Int32) * v9)) H) fun v11 H10 =>
  if v11 = 0 then (some ((-1 : Int32), H10)) else (if (a1 - a1 / (2 : Int32) * (2 : Int32)) = 0 then ((xgA H10 a0 11 6).bind fun v16 =>
  (xlI .int H10 v16 ((a1 - (100 : Int32)) / (2 : Int32))).bind fun v17 =>
  some (v17, H10)) else ((xgA H10 a0 11 7).bind fun v14 =>
  (xlI .int H10 v14 ((a1 - (100 : Int32)) / (2 : Int32))).bind fun v15 =>
  some (v15, H10)))))))
set_option maxRecDepth 20000 in
set_option maxHeartbeats 4000000 in
theorem P_X12_told {N : Nat} {Z : xZ} {rv : Int32} {Hf : xH} (hZ : Z = xZm cX12_told yX12_told 2 2 (some .int) (some (.int rv)) Hf) : ∀ (a0 : (Option Nat)) (a1 : Int32) (H : xH), F_X12_told N a0 a1 H = some (rv, Hf) → xWq Z H 0 [xA a0, xI a1] [] := by
  have hz : Z.1 = (cX12_told, yX12_told, 2) := by rw [hZ]; rfl
  have hδ : Z.2.1 = 2 := by rw [hZ]; rfl
  intro a0 a1 H h
  unfold F_X12_told at h
  refine x_iload_n hz dX12_told_0 rfl ?_
  by_cases c1 : a1 = 0
  · replace h := x_ip c1 h
    refine x_tsIn (t := 32) (off := 31) hz dX12_told_1 (by rw [c1]; decide) (by rw [c1]; decide) (by rw [c1]; decide) (by decide) ?_
    refine x_aload_n hz dX12_told_32 rfl ?_
    obtain ⟨v2, e_v2, h⟩ := x_bnd h
    refine x_getI hz dX12_told_33 fs_X12_282 e_v2 ?_
    cases h
    exact x_iret hZ dX12_told_36
  replace h := x_in c1 h
  by_cases c3 : a1 = 1
  · replace h := x_ip c3 h
    refine x_tsIn (t := 37) (off := 36) hz dX12_told_1 (by rw [c3]; decide) (by rw [c3]; decide) (by rw [c3]; decide) (by decide) ?_
    refine x_aload_n hz dX12_told_37 rfl ?_
    obtain ⟨v4, e_v4, h⟩ := x_bnd h
    refine x_getI hz dX12_told_38 fs_X12_285 e_v4 ?_
    cases h
    exact x_iret hZ dX12_told_41
  replace h := x_in c3 h
  by_cases c5 : a1 = 2
  · replace h := x_ip c5 h
    refine x_tsIn (t := 42) (off := 41) hz dX12_told_1 (by rw [c5]; decide) (by rw [c5]; decide) (by rw [c5]; decide) (by decide) ?_
    refine x_aload_n hz dX12_told_42 rfl ?_
    obtain ⟨v6, e_v6, h⟩ := x_bnd h
    refine x_getI hz dX12_told_43 fs_X12_288 e_v6 ?_
    cases h
    exact x_iret hZ dX12_told_46
  replace h := x_in c5 h
  by_cases c7 : a1 = 3
  · replace h := x_ip c7 h
    refine x_tsIn (t := 47) (off := 46) hz dX12_told_1 (by rw [c7]; decide) (by rw [c7]; decide) (by rw [c7]; decide) (by decide) ?_
    refine x_aload_n hz dX12_told_47 rfl ?_
    obtain ⟨v8, e_v8, h⟩ := x_bnd h
    refine x_getI hz dX12_told_48 fs_X12_291 e_v8 ?_
    cases h
    exact x_iret hZ dX12_told_51
  replace h := x_in c7 h
  refine x_tsOut (t := 52) hz dX12_told_1 (x_tsN a1 (0) (3) (by decide) (by decide) (fun i h1 h2 => ?_)) (by decide) ?_
  · (have h3 : i = 0 ∨ i = 1 ∨ i = 2 ∨ i = 3 := by omega); rcases h3 with rfl | rfl | rfl | rfl <;> intro e <;> first | exact c1 (Int32.toInt_inj.mp (e.trans rfl)) | exact c3 (Int32.toInt_inj.mp (e.trans rfl)) | exact c5 (Int32.toInt_inj.mp (e.trans rfl)) | exact c7 (Int32.toInt_inj.mp (e.trans rfl))
  refine x_iload_n hz dX12_told_52 rfl ?_
  refine x_bipush (v := (100 : Int32)) hz dX12_told_53 (by decide) ?_
  refine x_bipush (v := (99 : Int32)) hz dX12_told_55 (by decide) ?_
  refine x_iconst (v := (2 : Int32)) hz dX12_told_57 (by decide) ?_
  refine x_aload_n hz dX12_told_58 rfl ?_
  obtain ⟨v9, e_v9, h⟩ := x_bnd h
  refine x_getI hz dX12_told_59 fs_X12_282 e_v9 ?_
  refine x_imul hz dX12_told_62 ?_
  refine x_iadd hz dX12_told_63 ?_
  obtain ⟨v11, H10, e_H10, h⟩ := x_b2 h
  refine x_callSi (as := [.inl a1, .inl (100 : Int32), .inl ((99 : Int32) + ((2 : Int32) * v9))]) (st := []) cs_X12_153 rfl rfl hz (by omega) (by decide) dX12_told_64 (M_X12_isIn e_H10) ?_
  refine x_if_ne (t := 72) hz dX12_told_67 (by decide) (fun c12 => ?_) (fun c12 => ?_)
  · replace h := x_in c12 h
    refine x_iload_n hz dX12_told_72 rfl ?_
    refine x_iconst (v := (2 : Int32)) hz dX12_told_73 (by decide) ?_
    refine x_irem hz dX12_told_74 (by decide) ?_
    refine x_if_ne (t := 92) hz dX12_told_75 (by decide) (fun c13 => ?_) (fun c13 => ?_)
    · replace h := x_in c13 h
      refine x_aload_n hz dX12_told_92 rfl ?_
      obtain ⟨v14, e_v14, h⟩ := x_bnd h
      refine x_getA hz dX12_told_93 fs_X12_13 e_v14 ?_
      refine x_iload_n hz dX12_told_96 rfl ?_
      refine x_bipush (v := (100 : Int32)) hz dX12_told_97 (by decide) ?_
      refine x_isub hz dX12_told_99 ?_
      refine x_iconst (v := (2 : Int32)) hz dX12_told_100 (by decide) ?_
      refine x_idiv hz dX12_told_101 (by decide) ?_
      obtain ⟨v15, e_v15, h⟩ := x_bnd h
      refine x_iald hz dX12_told_102 e_v15 ?_
      cases h
      exact x_iret hZ dX12_told_103
    · replace h := x_ip c13 h
      refine x_aload_n hz dX12_told_78 rfl ?_
      obtain ⟨v16, e_v16, h⟩ := x_bnd h
      refine x_getA hz dX12_told_79 fs_X12_7 e_v16 ?_
      refine x_iload_n hz dX12_told_82 rfl ?_
      refine x_bipush (v := (100 : Int32)) hz dX12_told_83 (by decide) ?_
      refine x_isub hz dX12_told_85 ?_
      refine x_iconst (v := (2 : Int32)) hz dX12_told_86 (by decide) ?_
      refine x_idiv hz dX12_told_87 (by decide) ?_
      obtain ⟨v17, e_v17, h⟩ := x_bnd h
      refine x_iald hz dX12_told_88 e_v17 ?_
      refine x_goto (t := 103) hz dX12_told_89 (by decide) ?_
      cases h
      exact x_iret hZ dX12_told_103
  · replace h := x_ip c12 h
    refine x_iconst (v := (-1 : Int32)) hz dX12_told_70 (by decide) ?_
    cases h
    exact x_iret hZ dX12_told_71
theorem M_X12_told {N : Nat} {a0 : (Option Nat)} {a1 : Int32} {H H1 : xH} {r1 : Int32} (h : F_X12_told N a0 a1 H = some (r1, H1)) : xM yX12_told cX12_told 2 (some .int) 2 [.inr (.inr a0), .inl a1] H (some (.int r1)) H1 :=
  xM_of (by decide +kernel) (xT_tb 1340 (by decide +kernel) (by decide +kernel)) (by simp [xargs, x2]) rfl (P_X12_told rfl a0 a1 H h)
/-! BettingBookModel.isRow(I)Z -/
noncomputable def F_X12_isRow (N : Nat) (a0 : (Option Nat)) (a1 : Int32) (H : xH) : Option (Int32 × xH) :=
  (xgI H a0 11 41).bind fun v1 =>
  x_bd2 (F_X12_isIn N a1 (0 : Int32) (v1 - (1 : Int32)) H) fun v3 H2 =>
  if v3 = 0 then (some ((0 : Int32), H2)) else ((xgA H2 a0 11 43).bind fun v5 =>
  (xlI .byte H2 v5 a1).bind fun v6 =>
  if v6 ≤ 0 then (some ((0 : Int32), H2)) else (some ((1 : Int32), H2)))
set_option maxRecDepth 20000 in
set_option maxHeartbeats 4000000 in
theorem P_X12_isRow {N : Nat} {Z : xZ} {rv : Int32} {Hf : xH} (hZ : Z = xZm cX12_isRow yX12_isRow 2 2 (some .boolean) (some (.int rv)) Hf) : ∀ (a0 : (Option Nat)) (a1 : Int32) (H : xH), F_X12_isRow N a0 a1 H = some (rv, Hf) → xWq Z H 0 [xA a0, xI a1] [] := by
  have hz : Z.1 = (cX12_isRow, yX12_isRow, 2) := by rw [hZ]; rfl
  have hδ : Z.2.1 = 2 := by rw [hZ]; rfl
  intro a0 a1 H h
  unfold F_X12_isRow at h
  refine x_iload_n hz dX12_isRow_0 rfl ?_
  refine x_iconst (v := (0 : Int32)) hz dX12_isRow_1 (by decide) ?_
  refine x_aload_n hz dX12_isRow_2 rfl ?_
  obtain ⟨v1, e_v1, h⟩ := x_bnd h
  refine x_getI hz dX12_isRow_3 fs_X12_329 e_v1 ?_
  refine x_iconst (v := (1 : Int32)) hz dX12_isRow_6 (by decide) ?_
  refine x_isub hz dX12_isRow_7 ?_
  obtain ⟨v3, H2, e_H2, h⟩ := x_b2 h
  refine x_callSi (as := [.inl a1, .inl (0 : Int32), .inl (v1 - (1 : Int32))]) (st := []) cs_X12_153 rfl rfl hz (by omega) (by decide) dX12_isRow_8 (M_X12_isIn e_H2) ?_
  refine x_if_eq (t := 27) hz dX12_isRow_11 (by decide) (fun c4 => ?_) (fun c4 => ?_)
  · replace h := x_ip c4 h
    refine x_iconst (v := (0 : Int32)) hz dX12_isRow_27 (by decide) ?_
    cases h
    exact x_zret01 hZ (Or.inl rfl) dX12_isRow_28
  · replace h := x_in c4 h
    refine x_aload_n hz dX12_isRow_14 rfl ?_
    obtain ⟨v5, e_v5, h⟩ := x_bnd h
    refine x_getA hz dX12_isRow_15 fs_X12_83 e_v5 ?_
    refine x_iload_n hz dX12_isRow_18 rfl ?_
    obtain ⟨v6, e_v6, h⟩ := x_bnd h
    refine x_bald hz dX12_isRow_19 e_v6 ?_
    refine x_if_le (t := 27) hz dX12_isRow_20 (by decide) (fun c7 => ?_) (fun c7 => ?_)
    · replace h := x_ip c7 h
      refine x_iconst (v := (0 : Int32)) hz dX12_isRow_27 (by decide) ?_
      cases h
      exact x_zret01 hZ (Or.inl rfl) dX12_isRow_28
    · replace h := x_in c7 h
      refine x_iconst (v := (1 : Int32)) hz dX12_isRow_23 (by decide) ?_
      refine x_goto (t := 28) hz dX12_isRow_24 (by decide) ?_
      cases h
      exact x_zret01 hZ (Or.inr rfl) dX12_isRow_28
theorem M_X12_isRow {N : Nat} {a0 : (Option Nat)} {a1 : Int32} {H H1 : xH} {r1 : Int32} (h : F_X12_isRow N a0 a1 H = some (r1, H1)) : xM yX12_isRow cX12_isRow 2 (some .boolean) 2 [.inr (.inr a0), .inl a1] H (some (.int r1)) H1 :=
  xM_of (by decide +kernel) (xT_tb 1379 (by decide +kernel) (by decide +kernel)) (by simp [xargs, x2]) rfl (P_X12_isRow rfl a0 a1 H h)
/-! BettingBookModel.isPossible(I)Z -/
noncomputable def F_X12_isPossible (N : Nat) (a0 : (Option Nat)) (a1 : Int32) (H : xH) : Option (Int32 × xH) :=
  (xgA H a0 11 43).bind fun v1 =>
  (xlI .byte H v1 a1).bind fun v2 =>
  if v2 = (2 : Int32) then (some ((1 : Int32), H)) else (some ((0 : Int32), H))
set_option maxRecDepth 20000 in
set_option maxHeartbeats 4000000 in
theorem P_X12_isPossible {N : Nat} {Z : xZ} {rv : Int32} {Hf : xH} (hZ : Z = xZm cX12_isPossible yX12_isPossible 2 1 (some .boolean) (some (.int rv)) Hf) : ∀ (a0 : (Option Nat)) (a1 : Int32) (H : xH), F_X12_isPossible N a0 a1 H = some (rv, Hf) → xWq Z H 0 [xA a0, xI a1] [] := by
  have hz : Z.1 = (cX12_isPossible, yX12_isPossible, 2) := by rw [hZ]; rfl
  have hδ : Z.2.1 = 1 := by rw [hZ]; rfl
  intro a0 a1 H h
  unfold F_X12_isPossible at h
  refine x_aload_n hz dX12_isPossible_0 rfl ?_
  obtain ⟨v1, e_v1, h⟩ := x_bnd h
  refine x_getA hz dX12_isPossible_1 fs_X12_83 e_v1 ?_
  refine x_iload_n hz dX12_isPossible_4 rfl ?_
  obtain ⟨v2, e_v2, h⟩ := x_bnd h
  refine x_bald hz dX12_isPossible_5 e_v2 ?_
  refine x_iconst (v := (2 : Int32)) hz dX12_isPossible_6 (by decide) ?_
  refine x_icmp_ne (t := 14) hz dX12_isPossible_7 (by decide) (fun c3 => ?_) (fun c3 => ?_)
  · replace h := x_in c3 h
    refine x_iconst (v := (0 : Int32)) hz dX12_isPossible_14 (by decide) ?_
    cases h
    exact x_zret01 hZ (Or.inl rfl) dX12_isPossible_15
  · replace h := x_ip c3 h
    refine x_iconst (v := (1 : Int32)) hz dX12_isPossible_10 (by decide) ?_
    refine x_goto (t := 15) hz dX12_isPossible_11 (by decide) ?_
    cases h
    exact x_zret01 hZ (Or.inr rfl) dX12_isPossible_15
theorem M_X12_isPossible {N : Nat} {a0 : (Option Nat)} {a1 : Int32} {H H1 : xH} {r1 : Int32} (h : F_X12_isPossible N a0 a1 H = some (r1, H1)) : xM yX12_isPossible cX12_isPossible 2 (some .boolean) 1 [.inr (.inr a0), .inl a1] H (some (.int r1)) H1 :=
  xM_of (by decide +kernel) (xT_tb 1356 (by decide +kernel) (by decide +kernel)) (by simp [xargs, x2]) rfl (P_X12_isPossible rfl a0 a1 H h)
/-! BettingBookModel.paysAt(II)I -/
noncomputable def F_X12_paysAt (N : Nat) (a0 : (Option Nat)) (a1 : Int32) (a2 : Int32) (H : xH) : Option (Int32 × xH) :=
  (xgA H a0 11 44).bind fun v1 =>
  (xlI .byte H v1 (((59049 : Int32) * a1) + a2)).bind fun v2 =>
  if v2 = 0 then (some ((0 : Int32), H)) else (if v2 = 1 then ((xgA H a0 11 11).bind fun v5 =>
  (xlI .int H v5 a1).bind fun v6 =>
  some (v6, H)) else (if v2 = 2 then ((xgA H a0 11 10).bind fun v8 =>
  (xlI .int H v8 a1).bind fun v9 =>
  some ((-v9), H)) else (if v2 = 3 then ((xgA H a0 11 11).bind fun v11 =>
  (xlI .int H v11 a1).bind fun v12 =>
  some (((2 : Int32) * v12), H)) else ((xgA H a0 11 10).bind fun v13 =>
  (xlI .int H v13 a1).bind fun v14 =>
  some (((-2 : Int32) * v14), H)))))
set_option maxRecDepth 20000 in
set_option maxHeartbeats 4000000 in
theorem P_X12_paysAt {N : Nat} {Z : xZ} {rv : Int32} {Hf : xH} (hZ : Z = xZm cX12_paysAt yX12_paysAt 3 1 (some .int) (some (.int rv)) Hf) : ∀ (a0 : (Option Nat)) (a1 : Int32) (a2 : Int32) (H : xH), F_X12_paysAt N a0 a1 a2 H = some (rv, Hf) → xWq Z H 0 [xA a0, xI a1, xI a2] [] := by
  have hz : Z.1 = (cX12_paysAt, yX12_paysAt, 3) := by rw [hZ]; rfl
  have hδ : Z.2.1 = 1 := by rw [hZ]; rfl
  intro a0 a1 a2 H h
  unfold F_X12_paysAt at h
  refine x_aload_n hz dX12_paysAt_0 rfl ?_
  obtain ⟨v1, e_v1, h⟩ := x_bnd h
  refine x_getA hz dX12_paysAt_1 fs_X12_87 e_v1 ?_
  refine x_ldc (v := (59049 : Int32)) hz dX12_paysAt_4 wc_X12_82 ?_
  refine x_iload_n hz dX12_paysAt_6 rfl ?_
  refine x_imul hz dX12_paysAt_7 ?_
  refine x_iload_n hz dX12_paysAt_8 rfl ?_
  refine x_iadd hz dX12_paysAt_9 ?_
  obtain ⟨v2, e_v2, h⟩ := x_bnd h
  refine x_bald hz dX12_paysAt_10 e_v2 ?_
  by_cases c3 : v2 = 0
  · replace h := x_ip c3 h
    refine x_tsIn (t := 40) (off := 29) hz dX12_paysAt_11 (by rw [c3]; decide) (by rw [c3]; decide) (by rw [c3]; decide) (by decide) ?_
    refine x_iconst (v := (0 : Int32)) hz dX12_paysAt_40 (by decide) ?_
    cases h
    exact x_iret hZ dX12_paysAt_41
  replace h := x_in c3 h
  by_cases c4 : v2 = 1
  · replace h := x_ip c4 h
    refine x_tsIn (t := 42) (off := 31) hz dX12_paysAt_11 (by rw [c4]; decide) (by rw [c4]; decide) (by rw [c4]; decide) (by decide) ?_
    refine x_aload_n hz dX12_paysAt_42 rfl ?_
    obtain ⟨v5, e_v5, h⟩ := x_bnd h
    refine x_getA hz dX12_paysAt_43 fs_X12_25 e_v5 ?_
    refine x_iload_n hz dX12_paysAt_46 rfl ?_
    obtain ⟨v6, e_v6, h⟩ := x_bnd h
    refine x_iald hz dX12_paysAt_47 e_v6 ?_
    cases h
    exact x_iret hZ dX12_paysAt_48
  replace h := x_in c4 h
  by_cases c7 : v2 = 2
  · replace h := x_ip c7 h
    refine x_tsIn (t := 49) (off := 38) hz dX12_paysAt_11 (by rw [c7]; decide) (by rw [c7]; decide) (by rw [c7]; decide) (by decide) ?_
    refine x_aload_n hz dX12_paysAt_49 rfl ?_
    obtain ⟨v8, e_v8, h⟩ := x_bnd h
    refine x_getA hz dX12_paysAt_50 fs_X12_22 e_v8 ?_
    refine x_iload_n hz dX12_paysAt_53 rfl ?_
    obtain ⟨v9, e_v9, h⟩ := x_bnd h
    refine x_iald hz dX12_paysAt_54 e_v9 ?_
    refine x_ineg hz dX12_paysAt_55 ?_
    cases h
    exact x_iret hZ dX12_paysAt_56
  replace h := x_in c7 h
  by_cases c10 : v2 = 3
  · replace h := x_ip c10 h
    refine x_tsIn (t := 57) (off := 46) hz dX12_paysAt_11 (by rw [c10]; decide) (by rw [c10]; decide) (by rw [c10]; decide) (by decide) ?_
    refine x_iconst (v := (2 : Int32)) hz dX12_paysAt_57 (by decide) ?_
    refine x_aload_n hz dX12_paysAt_58 rfl ?_
    obtain ⟨v11, e_v11, h⟩ := x_bnd h
    refine x_getA hz dX12_paysAt_59 fs_X12_25 e_v11 ?_
    refine x_iload_n hz dX12_paysAt_62 rfl ?_
    obtain ⟨v12, e_v12, h⟩ := x_bnd h
    refine x_iald hz dX12_paysAt_63 e_v12 ?_
    refine x_imul hz dX12_paysAt_64 ?_
    cases h
    exact x_iret hZ dX12_paysAt_65
  replace h := x_in c10 h
  refine x_tsOut (t := 66) hz dX12_paysAt_11 (x_tsN v2 (0) (3) (by decide) (by decide) (fun i h1 h2 => ?_)) (by decide) ?_
  · (have h3 : i = 0 ∨ i = 1 ∨ i = 2 ∨ i = 3 := by omega); rcases h3 with rfl | rfl | rfl | rfl <;> intro e <;> first | exact c3 (Int32.toInt_inj.mp (e.trans rfl)) | exact c4 (Int32.toInt_inj.mp (e.trans rfl)) | exact c7 (Int32.toInt_inj.mp (e.trans rfl)) | exact c10 (Int32.toInt_inj.mp (e.trans rfl))
  refine x_bipush (v := (-2 : Int32)) hz dX12_paysAt_66 (by decide) ?_
  refine x_aload_n hz dX12_paysAt_68 rfl ?_
  obtain ⟨v13, e_v13, h⟩ := x_bnd h
  refine x_getA hz dX12_paysAt_69 fs_X12_22 e_v13 ?_
  refine x_iload_n hz dX12_paysAt_72 rfl ?_
  obtain ⟨v14, e_v14, h⟩ := x_bnd h
  refine x_iald hz dX12_paysAt_73 e_v14 ?_
  refine x_imul hz dX12_paysAt_74 ?_
  cases h
  exact x_iret hZ dX12_paysAt_75
theorem M_X12_paysAt {N : Nat} {a0 : (Option Nat)} {a1 : Int32} {a2 : Int32} {H H1 : xH} {r1 : Int32} (h : F_X12_paysAt N a0 a1 a2 H = some (r1, H1)) : xM yX12_paysAt cX12_paysAt 3 (some .int) 1 [.inr (.inr a0), .inl a1, .inl a2] H (some (.int r1)) H1 :=
  xM_of (by decide +kernel) (xT_tb 1391 (by decide +kernel) (by decide +kernel)) (by simp [xargs, x2]) rfl (P_X12_paysAt rfl a0 a1 a2 H h)
/-! BettingBookModel.isLeft(I)Z -/
noncomputable def F_X12_isLeft_J77 (N : Nat) (k14 : (Option Nat) → Int32 → Int32 → xH → Option (Int32 × xH)) (x0 : (Option Nat)) (x2 : Int32) (x3 : Int32) (H : xH) : Option (Int32 × xH) :=
  k14 x0 x2 (x3 + 1) H
set_option maxRecDepth 20000 in
set_option maxHeartbeats 4000000 in
theorem P_X12_isLeft_J77 {N : Nat} {Z : xZ} {rv : Int32} {Hf : xH} (hZ : Z = xZm cX12_isLeft yX12_isLeft 5 2 (some .boolean) (some (.int rv)) Hf) {k14 : (Option Nat) → Int32 → Int32 → xH → Option (Int32 × xH)} (hk14 : ∀ (x0 : (Option Nat)) (x2 : Int32) (x3 : Int32) (H : xH), k14 x0 x2 x3 H = some (rv, Hf) → xWq Z H 14 [xA x0, xN, xI x2, xI x3, xN] []) : ∀ (x0 : (Option Nat)) (x2 : Int32) (x3 : Int32) (H : xH), F_X12_isLeft_J77 N k14 x0 x2 x3 H = some (rv, Hf) → xWq Z H 77 [xA x0, xN, xI x2, xI x3, xN] [] := by
  have hz : Z.1 = (cX12_isLeft, yX12_isLeft, 5) := by rw [hZ]; rfl
  have hδ : Z.2.1 = 2 := by rw [hZ]; rfl
  intro x0 x2 x3 H h
  unfold F_X12_isLeft_J77 at h
  refine x_iinc (w := (x3 + 1)) (pl' := [xA x0, xN, xI x2, xI (x3 + 1), xN]) hz dX12_isLeft_77 rfl rfl (by decide) rfl ?_
  refine x_goto (t := 14) hz dX12_isLeft_80 (by decide) ?_
  exact x_wk (xwk_c (xwk_n (xwk_c (xwk_c (xwk_n xwk_0))))) (hk14 x0 x2 (x3 + 1) H h)
noncomputable def F_X12_isLeft_J14 (N : Nat) (k14 : (Option Nat) → Int32 → Int32 → xH → Option (Int32 × xH)) (x0 : (Option Nat)) (x2 : Int32) (x3 : Int32) (H : xH) : Option (Int32 × xH) :=
  (xgI H x0 11 0).bind fun v1 =>
  if v1 ≤ x3 then (some ((1 : Int32), H)) else ((xgI H x0 11 47).bind fun v3 =>
  x_bd2 (F_X12_bit N v3 x3 H) fun v5 H4 =>
  if v5 = 0 then (if ((x2 - x2 / (9 : Int32) * (9 : Int32)) - (1 : Int32)) = (-1 : Int32) then ((F_X12_isLeft_J77 N k14) x0 (x2 / (9 : Int32)) x3 H4) else ((xgI H4 x0 11 46).bind fun v8 =>
  if v8 ≤ ((x2 - x2 / (9 : Int32) * (9 : Int32)) - (1 : Int32)) then ((F_X12_isLeft_J77 N k14) x0 (x2 / (9 : Int32)) x3 H4) else (some ((0 : Int32), H4)))) else ((xgA H4 x0 11 48).bind fun v10 =>
  (xlI .int H4 v10 x3).bind fun v11 =>
  if ((x2 - x2 / (9 : Int32) * (9 : Int32)) - (1 : Int32)) = v11 then ((F_X12_isLeft_J77 N k14) x0 (x2 / (9 : Int32)) x3 H4) else (some ((0 : Int32), H4))))
set_option maxRecDepth 20000 in
set_option maxHeartbeats 4000000 in
theorem P_X12_isLeft_J14 {N : Nat} {Z : xZ} {rv : Int32} {Hf : xH} (hZ : Z = xZm cX12_isLeft yX12_isLeft 5 2 (some .boolean) (some (.int rv)) Hf) {k14 : (Option Nat) → Int32 → Int32 → xH → Option (Int32 × xH)} (hk14 : ∀ (x0 : (Option Nat)) (x2 : Int32) (x3 : Int32) (H : xH), k14 x0 x2 x3 H = some (rv, Hf) → xWq Z H 14 [xA x0, xN, xI x2, xI x3, xN] []) : ∀ (x0 : (Option Nat)) (x2 : Int32) (x3 : Int32) (H : xH), F_X12_isLeft_J14 N k14 x0 x2 x3 H = some (rv, Hf) → xWq Z H 14 [xA x0, xN, xI x2, xI x3, xN] [] := by
  have hz : Z.1 = (cX12_isLeft, yX12_isLeft, 5) := by rw [hZ]; rfl
  have hδ : Z.2.1 = 2 := by rw [hZ]; rfl
  intro x0 x2 x3 H h
  unfold F_X12_isLeft_J14 at h
  refine x_iload_n hz dX12_isLeft_14 rfl ?_
  refine x_aload_n hz dX12_isLeft_15 rfl ?_
  obtain ⟨v1, e_v1, h⟩ := x_bnd h
  refine x_getI hz dX12_isLeft_16 fs_X12_282 e_v1 ?_
  refine x_icmp_ge (t := 83) hz dX12_isLeft_19 (by decide) (fun c2 => ?_) (fun c2 => ?_)
  · replace h := x_ip c2 h
    refine x_iconst (v := (1 : Int32)) hz dX12_isLeft_83 (by decide) ?_
    cases h
    exact x_zret01 hZ (Or.inr rfl) dX12_isLeft_84
  · replace h := x_in c2 h
    refine x_iload_n hz dX12_isLeft_22 rfl ?_
    refine x_bipush (v := (9 : Int32)) hz dX12_isLeft_23 (by decide) ?_
    refine x_irem hz dX12_isLeft_25 (by decide) ?_
    refine x_iconst (v := (1 : Int32)) hz dX12_isLeft_26 (by decide) ?_
    refine x_isub hz dX12_isLeft_27 ?_
    refine x_istore (pl' := [xA x0, xN, xI x2, xI x3, xI ((x2 - x2 / (9 : Int32) * (9 : Int32)) - (1 : Int32))]) hz dX12_isLeft_28 (by decide) rfl ?_
    refine x_iload_n hz dX12_isLeft_30 rfl ?_
    refine x_bipush (v := (9 : Int32)) hz dX12_isLeft_31 (by decide) ?_
    refine x_idiv hz dX12_isLeft_33 (by decide) ?_
    refine x_istore_n (pl' := [xA x0, xN, xI (x2 / (9 : Int32)), xI x3, xI ((x2 - x2 / (9 : Int32) * (9 : Int32)) - (1 : Int32))]) hz dX12_isLeft_34 (by decide) rfl ?_
    refine x_aload_n hz dX12_isLeft_35 rfl ?_
    obtain ⟨v3, e_v3, h⟩ := x_bnd h
    refine x_getI hz dX12_isLeft_36 fs_X12_304 e_v3 ?_
    refine x_iload_n hz dX12_isLeft_39 rfl ?_
    obtain ⟨v5, H4, e_H4, h⟩ := x_b2 h
    refine x_callSi (as := [.inl v3, .inl x3]) (st := []) cs_X12_345 rfl rfl hz (by omega) (by decide) dX12_isLeft_40 (M_X12_bit e_H4) ?_
    refine x_if_eq (t := 60) hz dX12_isLeft_43 (by decide) (fun c6 => ?_) (fun c6 => ?_)
    · replace h := x_ip c6 h
      refine x_iload hz dX12_isLeft_60 rfl ?_
      refine x_iconst (v := (-1 : Int32)) hz dX12_isLeft_62 (by decide) ?_
      refine x_icmp_eq (t := 77) hz dX12_isLeft_63 (by decide) (fun c7 => ?_) (fun c7 => ?_)
      · replace h := x_ip c7 h
        exact x_wk (xwk_c (xwk_n (xwk_c (xwk_c (xwk_n xwk_0))))) ((P_X12_isLeft_J77 hZ hk14) x0 (x2 / (9 : Int32)) x3 H4 h)
      · replace h := x_in c7 h
        refine x_iload hz dX12_isLeft_66 rfl ?_
        refine x_aload_n hz dX12_isLeft_68 rfl ?_
        obtain ⟨v8, e_v8, h⟩ := x_bnd h
        refine x_getI hz dX12_isLeft_69 fs_X12_301 e_v8 ?_
        refine x_icmp_ge (t := 77) hz dX12_isLeft_72 (by decide) (fun c9 => ?_) (fun c9 => ?_)
        · replace h := x_ip c9 h
          exact x_wk (xwk_c (xwk_n (xwk_c (xwk_c (xwk_n xwk_0))))) ((P_X12_isLeft_J77 hZ hk14) x0 (x2 / (9 : Int32)) x3 H4 h)
        · replace h := x_in c9 h
          refine x_iconst (v := (0 : Int32)) hz dX12_isLeft_75 (by decide) ?_
          cases h
          exact x_zret01 hZ (Or.inl rfl) dX12_isLeft_76
    · replace h := x_in c6 h
      refine x_iload hz dX12_isLeft_46 rfl ?_
      refine x_aload_n hz dX12_isLeft_48 rfl ?_
      obtain ⟨v10, e_v10, h⟩ := x_bnd h
      refine x_getA hz dX12_isLeft_49 fs_X12_94 e_v10 ?_
      refine x_iload_n hz dX12_isLeft_52 rfl ?_
      obtain ⟨v11, e_v11, h⟩ := x_bnd h
      refine x_iald hz dX12_isLeft_53 e_v11 ?_
      refine x_icmp_eq (t := 77) hz dX12_isLeft_54 (by decide) (fun c12 => ?_) (fun c12 => ?_)
      · replace h := x_ip c12 h
        exact x_wk (xwk_c (xwk_n (xwk_c (xwk_c (xwk_n xwk_0))))) ((P_X12_isLeft_J77 hZ hk14) x0 (x2 / (9 : Int32)) x3 H4 h)
      · replace h := x_in c12 h
        refine x_goto (t := 75) hz dX12_isLeft_57 (by decide) ?_
        refine x_iconst (v := (0 : Int32)) hz dX12_isLeft_75 (by decide) ?_
        cases h
        exact x_zret01 hZ (Or.inl rfl) dX12_isLeft_76
noncomputable def F_X12_isLeft_L14 (N : Nat) : Nat → (Option Nat) → Int32 → Int32 → xH → Option (Int32 × xH)
  | 0 => fun _ _ _ _ => none
  | n + 1 => F_X12_isLeft_J14 N (F_X12_isLeft_L14 N n)
theorem P_X12_isLeft_L14 {N : Nat} {Z : xZ} {rv : Int32} {Hf : xH} (hZ : Z = xZm cX12_isLeft yX12_isLeft 5 2 (some .boolean) (some (.int rv)) Hf) : ∀ (n : Nat) (x0 : (Option Nat)) (x2 : Int32) (x3 : Int32) (H : xH), F_X12_isLeft_L14 N n x0 x2 x3 H = some (rv, Hf) → xWq Z H 14 [xA x0, xN, xI x2, xI x3, xN] [] := by
  intro n
  induction n with
  | zero => intro _ _ _ _ h; cases h
  | succ n ih => exact P_X12_isLeft_J14 hZ ih
noncomputable def F_X12_isLeft (N : Nat) (a0 : (Option Nat)) (a1 : Int32) (H : xH) : Option (Int32 × xH) :=
  (xob H a0 11).bind fun b2 =>
  x_bd2 (F_X12_isPossible N a0 a1 H) fun v3 H1 =>
  if v3 = 0 then (some ((0 : Int32), H1)) else ((F_X12_isLeft_L14 N N) a0 a1 (0 : Int32) H1)
set_option maxRecDepth 20000 in
set_option maxHeartbeats 4000000 in
theorem P_X12_isLeft {N : Nat} {Z : xZ} {rv : Int32} {Hf : xH} (hZ : Z = xZm cX12_isLeft yX12_isLeft 5 2 (some .boolean) (some (.int rv)) Hf) : ∀ (a0 : (Option Nat)) (a1 : Int32) (H : xH), F_X12_isLeft N a0 a1 H = some (rv, Hf) → xWq Z H 0 [xA a0, xI a1, xN, xN, xN] [] := by
  have hz : Z.1 = (cX12_isLeft, yX12_isLeft, 5) := by rw [hZ]; rfl
  have hδ : Z.2.1 = 2 := by rw [hZ]; rfl
  intro a0 a1 H h
  unfold F_X12_isLeft at h
  refine x_aload_n hz dX12_isLeft_0 rfl ?_
  refine x_iload_n hz dX12_isLeft_1 rfl ?_
  obtain ⟨b2, e_b2, h⟩ := x_bnd h
  obtain ⟨v3, H1, e_H1, h⟩ := x_b2 h
  refine x_callVi (as := [.inl a1]) (st := []) cs_X12_342 (ci := 11) ⟨rfl, rfl⟩ rfl rfl hz (by omega) (by decide) dX12_isLeft_2 e_b2 (M_X12_isPossible e_H1) ?_
  refine x_if_ne (t := 10) hz dX12_isLeft_5 (by decide) (fun c4 => ?_) (fun c4 => ?_)
  · replace h := x_in c4 h
    refine x_iload_n hz dX12_isLeft_10 rfl ?_
    refine x_istore_n (pl' := [xA a0, xI a1, xI a1, xN, xN]) hz dX12_isLeft_11 (by decide) rfl ?_
    refine x_iconst (v := (0 : Int32)) hz dX12_isLeft_12 (by decide) ?_
    refine x_istore_n (pl' := [xA a0, xI a1, xI a1, xI (0 : Int32), xN]) hz dX12_isLeft_13 (by decide) rfl ?_
    exact x_wk (xwk_c (xwk_n (xwk_c (xwk_c (xwk_n xwk_0))))) ((P_X12_isLeft_L14 hZ N) a0 a1 (0 : Int32) H1 h)
  · replace h := x_ip c4 h
    refine x_iconst (v := (0 : Int32)) hz dX12_isLeft_8 (by decide) ?_
    cases h
    exact x_zret01 hZ (Or.inl rfl) dX12_isLeft_9
theorem M_X12_isLeft {N : Nat} {a0 : (Option Nat)} {a1 : Int32} {H H1 : xH} {r1 : Int32} (h : F_X12_isLeft N a0 a1 H = some (r1, H1)) : xM yX12_isLeft cX12_isLeft 5 (some .boolean) 2 [.inr (.inr a0), .inl a1] H (some (.int r1)) H1 :=
  xM_of (by decide +kernel) (xT_tb 1352 (by decide +kernel) (by decide +kernel)) (by simp [xargs, x2]) rfl (P_X12_isLeft rfl a0 a1 H h)
/-! BettingBookModel.leftMany()I -/
noncomputable def F_X12_leftMany_J4 (N : Nat) (k4 : (Option Nat) → Int32 → Int32 → xH → Option (Int32 × xH)) (x0 : (Option Nat)) (x1 : Int32) (x2 : Int32) (H : xH) : Option (Int32 × xH) :=
  (xgI H x0 11 41).bind fun v1 =>
  if v1 ≤ x2 then (some (x1, H)) else ((xob H x0 11).bind fun b4 =>
  x_bd2 (F_X12_isLeft N x0 x2 H) fun v5 H3 =>
  x_bd2 (F_X12_unit N v5 H3) fun v7 H6 =>
  k4 x0 (x1 + v7) (x2 + 1) H6)
set_option maxRecDepth 20000 in
set_option maxHeartbeats 4000000 in
theorem P_X12_leftMany_J4 {N : Nat} {Z : xZ} {rv : Int32} {Hf : xH} (hZ : Z = xZm cX12_leftMany yX12_leftMany 3 3 (some .int) (some (.int rv)) Hf) {k4 : (Option Nat) → Int32 → Int32 → xH → Option (Int32 × xH)} (hk4 : ∀ (x0 : (Option Nat)) (x1 : Int32) (x2 : Int32) (H : xH), k4 x0 x1 x2 H = some (rv, Hf) → xWq Z H 4 [xA x0, xI x1, xI x2] []) : ∀ (x0 : (Option Nat)) (x1 : Int32) (x2 : Int32) (H : xH), F_X12_leftMany_J4 N k4 x0 x1 x2 H = some (rv, Hf) → xWq Z H 4 [xA x0, xI x1, xI x2] [] := by
  have hz : Z.1 = (cX12_leftMany, yX12_leftMany, 3) := by rw [hZ]; rfl
  have hδ : Z.2.1 = 3 := by rw [hZ]; rfl
  intro x0 x1 x2 H h
  unfold F_X12_leftMany_J4 at h
  refine x_iload_n hz dX12_leftMany_4 rfl ?_
  refine x_aload_n hz dX12_leftMany_5 rfl ?_
  obtain ⟨v1, e_v1, h⟩ := x_bnd h
  refine x_getI hz dX12_leftMany_6 fs_X12_329 e_v1 ?_
  refine x_icmp_ge (t := 29) hz dX12_leftMany_9 (by decide) (fun c2 => ?_) (fun c2 => ?_)
  · replace h := x_ip c2 h
    refine x_iload_n hz dX12_leftMany_29 rfl ?_
    cases h
    exact x_iret hZ dX12_leftMany_30
  · replace h := x_in c2 h
    refine x_iload_n hz dX12_leftMany_12 rfl ?_
    refine x_aload_n hz dX12_leftMany_13 rfl ?_
    refine x_iload_n hz dX12_leftMany_14 rfl ?_
    obtain ⟨b4, e_b4, h⟩ := x_bnd h
    obtain ⟨v5, H3, e_H3, h⟩ := x_b2 h
    refine x_callVi (as := [.inl x2]) (st := [.int x1]) cs_X12_348 (ci := 11) ⟨rfl, rfl⟩ rfl rfl hz (by omega) (Nat.le_trans (x_sm1 rfl x_sm0) (by decide)) dX12_leftMany_15 e_b4 (M_X12_isLeft e_H3) ?_
    obtain ⟨v7, H6, e_H6, h⟩ := x_b2 h
    refine x_callSi (as := [.inl v5]) (st := [.int x1]) cs_X12_319 rfl rfl hz (by omega) (Nat.le_trans (x_sm1 rfl x_sm0) (by decide)) dX12_leftMany_18 (M_X12_unit e_H6) ?_
    refine x_iadd hz dX12_leftMany_21 ?_
    refine x_istore_n (pl' := [xA x0, xI (x1 + v7), xI x2]) hz dX12_leftMany_22 (by decide) rfl ?_
    refine x_iinc (w := (x2 + 1)) (pl' := [xA x0, xI (x1 + v7), xI (x2 + 1)]) hz dX12_leftMany_23 rfl rfl (by decide) rfl ?_
    refine x_goto (t := 4) hz dX12_leftMany_26 (by decide) ?_
    exact x_wk (xwk_c (xwk_c (xwk_c xwk_0))) (hk4 x0 (x1 + v7) (x2 + 1) H6 h)
noncomputable def F_X12_leftMany_L4 (N : Nat) : Nat → (Option Nat) → Int32 → Int32 → xH → Option (Int32 × xH)
  | 0 => fun _ _ _ _ => none
  | n + 1 => F_X12_leftMany_J4 N (F_X12_leftMany_L4 N n)
theorem P_X12_leftMany_L4 {N : Nat} {Z : xZ} {rv : Int32} {Hf : xH} (hZ : Z = xZm cX12_leftMany yX12_leftMany 3 3 (some .int) (some (.int rv)) Hf) : ∀ (n : Nat) (x0 : (Option Nat)) (x1 : Int32) (x2 : Int32) (H : xH), F_X12_leftMany_L4 N n x0 x1 x2 H = some (rv, Hf) → xWq Z H 4 [xA x0, xI x1, xI x2] [] := by
  intro n
  induction n with
  | zero => intro _ _ _ _ h; cases h
  | succ n ih => exact P_X12_leftMany_J4 hZ ih
noncomputable def F_X12_leftMany (N : Nat) (a0 : (Option Nat)) (H : xH) : Option (Int32 × xH) :=
  (F_X12_leftMany_L4 N N) a0 (0 : Int32) (0 : Int32) H
set_option maxRecDepth 20000 in
set_option maxHeartbeats 4000000 in
theorem P_X12_leftMany {N : Nat} {Z : xZ} {rv : Int32} {Hf : xH} (hZ : Z = xZm cX12_leftMany yX12_leftMany 3 3 (some .int) (some (.int rv)) Hf) : ∀ (a0 : (Option Nat)) (H : xH), F_X12_leftMany N a0 H = some (rv, Hf) → xWq Z H 0 [xA a0, xN, xN] [] := by
  have hz : Z.1 = (cX12_leftMany, yX12_leftMany, 3) := by rw [hZ]; rfl
  have hδ : Z.2.1 = 3 := by rw [hZ]; rfl
  intro a0 H h
  unfold F_X12_leftMany at h
  refine x_iconst (v := (0 : Int32)) hz dX12_leftMany_0 (by decide) ?_
  refine x_istore_n (pl' := [xA a0, xI (0 : Int32), xN]) hz dX12_leftMany_1 (by decide) rfl ?_
  refine x_iconst (v := (0 : Int32)) hz dX12_leftMany_2 (by decide) ?_
  refine x_istore_n (pl' := [xA a0, xI (0 : Int32), xI (0 : Int32)]) hz dX12_leftMany_3 (by decide) rfl ?_
  exact x_wk (xwk_c (xwk_c (xwk_c xwk_0))) ((P_X12_leftMany_L4 hZ N) a0 (0 : Int32) (0 : Int32) H h)
theorem M_X12_leftMany {N : Nat} {a0 : (Option Nat)} {H H1 : xH} {r1 : Int32} (h : F_X12_leftMany N a0 H = some (r1, H1)) : xM yX12_leftMany cX12_leftMany 3 (some .int) 3 [.inr (.inr a0)] H (some (.int r1)) H1 :=
  xM_of (by decide +kernel) (xT_tb 1348 (by decide +kernel) (by decide +kernel)) (by simp [xargs, x2]) rfl (P_X12_leftMany rfl a0 H h)
/-! BettingBookModel.day(I)I -/
noncomputable def F_X12_day (N : Nat) (a0 : (Option Nat)) (a1 : Int32) (H : xH) : Option (Int32 × xH) :=
  (xgI H a0 11 46).bind fun v1 =>
  x_bd2 (F_X12_isIn N a1 (v1 + (1 : Int32)) (7 : Int32) H) fun v3 H2 =>
  if v3 = 0 then (some ((-1 : Int32), H2)) else ((xgI H2 a0 11 46).bind fun v5 =>
  (xpI H2 a0 11 46 a1).bind fun H6 =>
  (xob H6 a0 11).bind fun b8 =>
  x_bd2 (F_X12_leftMany N a0 H6) fun v9 H7 =>
  if v9 ≤ 0 then ((xpI H7 a0 11 46 v5).bind fun H11 =>
  some ((-1 : Int32), H11)) else (some (v9, H7)))
set_option maxRecDepth 20000 in
set_option maxHeartbeats 4000000 in
theorem P_X12_day {N : Nat} {Z : xZ} {rv : Int32} {Hf : xH} (hZ : Z = xZm cX12_day yX12_day 4 4 (some .int) (some (.int rv)) Hf) : ∀ (a0 : (Option Nat)) (a1 : Int32) (H : xH), F_X12_day N a0 a1 H = some (rv, Hf) → xWq Z H 0 [xA a0, xI a1, xN, xN] [] := by
  have hz : Z.1 = (cX12_day, yX12_day, 4) := by rw [hZ]; rfl
  have hδ : Z.2.1 = 4 := by rw [hZ]; rfl
  intro a0 a1 H h
  unfold F_X12_day at h
  refine x_iload_n hz dX12_day_0 rfl ?_
  refine x_aload_n hz dX12_day_1 rfl ?_
  obtain ⟨v1, e_v1, h⟩ := x_bnd h
  refine x_getI hz dX12_day_2 fs_X12_301 e_v1 ?_
  refine x_iconst (v := (1 : Int32)) hz dX12_day_5 (by decide) ?_
  refine x_iadd hz dX12_day_6 ?_
  refine x_bipush (v := (7 : Int32)) hz dX12_day_7 (by decide) ?_
  obtain ⟨v3, H2, e_H2, h⟩ := x_b2 h
  refine x_callSi (as := [.inl a1, .inl (v1 + (1 : Int32)), .inl (7 : Int32)]) (st := []) cs_X12_153 rfl rfl hz (by omega) (by decide) dX12_day_9 (M_X12_isIn e_H2) ?_
  refine x_if_ne (t := 17) hz dX12_day_12 (by decide) (fun c4 => ?_) (fun c4 => ?_)
  · replace h := x_in c4 h
    refine x_aload_n hz dX12_day_17 rfl ?_
    obtain ⟨v5, e_v5, h⟩ := x_bnd h
    refine x_getI hz dX12_day_18 fs_X12_301 e_v5 ?_
    refine x_istore_n (pl' := [xA a0, xI a1, xI v5, xN]) hz dX12_day_21 (by decide) rfl ?_
    refine x_aload_n hz dX12_day_22 rfl ?_
    refine x_iload_n hz dX12_day_23 rfl ?_
    obtain ⟨H6, e_H6, h⟩ := x_bnd h
    refine x_putV (v := .int a1) hz dX12_day_24 fs_X12_301 rfl rfl e_H6 ?_
    refine x_aload_n hz dX12_day_27 rfl ?_
    obtain ⟨b8, e_b8, h⟩ := x_bnd h
    obtain ⟨v9, H7, e_H7, h⟩ := x_b2 h
    refine x_callVi (as := []) (st := []) cs_X12_351 (ci := 11) ⟨rfl, rfl⟩ rfl rfl hz (by omega) (by decide) dX12_day_28 e_b8 (M_X12_leftMany e_H7) ?_
    refine x_istore_n (pl' := [xA a0, xI a1, xI v5, xI v9]) hz dX12_day_31 (by decide) rfl ?_
    refine x_iload_n hz dX12_day_32 rfl ?_
    refine x_if_le (t := 38) hz dX12_day_33 (by decide) (fun c10 => ?_) (fun c10 => ?_)
    · replace h := x_ip c10 h
      refine x_aload_n hz dX12_day_38 rfl ?_
      refine x_iload_n hz dX12_day_39 rfl ?_
      obtain ⟨H11, e_H11, h⟩ := x_bnd h
      refine x_putV (v := .int v5) hz dX12_day_40 fs_X12_301 rfl rfl e_H11 ?_
      refine x_iconst (v := (-1 : Int32)) hz dX12_day_43 (by decide) ?_
      cases h
      exact x_iret hZ dX12_day_44
    · replace h := x_in c10 h
      refine x_iload_n hz dX12_day_36 rfl ?_
      cases h
      exact x_iret hZ dX12_day_37
  · replace h := x_ip c4 h
    refine x_iconst (v := (-1 : Int32)) hz dX12_day_15 (by decide) ?_
    cases h
    exact x_iret hZ dX12_day_16
theorem M_X12_day {N : Nat} {a0 : (Option Nat)} {a1 : Int32} {H H1 : xH} {r1 : Int32} (h : F_X12_day N a0 a1 H = some (r1, H1)) : xM yX12_day cX12_day 4 (some .int) 4 [.inr (.inr a0), .inl a1] H (some (.int r1)) H1 :=
  xM_of (by decide +kernel) (xT_tb 1344 (by decide +kernel) (by decide +kernel)) (by simp [xargs, x2]) rfl (P_X12_day rfl a0 a1 H h)
/-! BettingBookModel.isThing(I)Z -/
noncomputable def F_X12_isThing (N : Nat) (a0 : (Option Nat)) (a1 : Int32) (H : xH) : Option (Int32 × xH) :=
  (xgI H a0 11 0).bind fun v1 =>
  x_bd2 (F_X12_isIn N a1 (0 : Int32) (v1 - (1 : Int32)) H) fun v3 H2 =>
  if v3 = 0 ∨ v3 = 1 then some (v3, H2) else none
set_option maxRecDepth 20000 in
set_option maxHeartbeats 4000000 in
theorem P_X12_isThing {N : Nat} {Z : xZ} {rv : Int32} {Hf : xH} (hZ : Z = xZm cX12_isThing yX12_isThing 2 2 (some .boolean) (some (.int rv)) Hf) : ∀ (a0 : (Option Nat)) (a1 : Int32) (H : xH), F_X12_isThing N a0 a1 H = some (rv, Hf) → xWq Z H 0 [xA a0, xI a1] [] := by
  have hz : Z.1 = (cX12_isThing, yX12_isThing, 2) := by rw [hZ]; rfl
  have hδ : Z.2.1 = 2 := by rw [hZ]; rfl
  intro a0 a1 H h
  unfold F_X12_isThing at h
  refine x_iload_n hz dX12_isThing_0 rfl ?_
  refine x_iconst (v := (0 : Int32)) hz dX12_isThing_1 (by decide) ?_
  refine x_aload_n hz dX12_isThing_2 rfl ?_
  obtain ⟨v1, e_v1, h⟩ := x_bnd h
  refine x_getI hz dX12_isThing_3 fs_X12_282 e_v1 ?_
  refine x_iconst (v := (1 : Int32)) hz dX12_isThing_6 (by decide) ?_
  refine x_isub hz dX12_isThing_7 ?_
  obtain ⟨v3, H2, e_H2, h⟩ := x_b2 h
  refine x_callSi (as := [.inl a1, .inl (0 : Int32), .inl (v1 - (1 : Int32))]) (st := []) cs_X12_153 rfl rfl hz (by omega) (by decide) dX12_isThing_8 (M_X12_isIn e_H2) ?_
  obtain ⟨c4, h⟩ := x_inv h
  cases h
  exact x_zret01 hZ c4 dX12_isThing_11
theorem M_X12_isThing {N : Nat} {a0 : (Option Nat)} {a1 : Int32} {H H1 : xH} {r1 : Int32} (h : F_X12_isThing N a0 a1 H = some (r1, H1)) : xM yX12_isThing cX12_isThing 2 (some .boolean) 2 [.inr (.inr a0), .inl a1] H (some (.int r1)) H1 :=
  xM_of (by decide +kernel) (xT_tb 1367 (by decide +kernel) (by decide +kernel)) (by simp [xargs, x2]) rfl (P_X12_isThing rfl a0 a1 H h)
/-! BettingBookModel.isMember(I)Z -/
noncomputable def F_X12_isMember (N : Nat) (a0 : (Option Nat)) (a1 : Int32) (H : xH) : Option (Int32 × xH) :=
  (xgI H a0 11 1).bind fun v1 =>
  x_bd2 (F_X12_isIn N a1 (0 : Int32) (v1 - (1 : Int32)) H) fun v3 H2 =>
  if v3 = 0 ∨ v3 = 1 then some (v3, H2) else none
set_option maxRecDepth 20000 in
set_option maxHeartbeats 4000000 in
theorem P_X12_isMember {N : Nat} {Z : xZ} {rv : Int32} {Hf : xH} (hZ : Z = xZm cX12_isMember yX12_isMember 2 2 (some .boolean) (some (.int rv)) Hf) : ∀ (a0 : (Option Nat)) (a1 : Int32) (H : xH), F_X12_isMember N a0 a1 H = some (rv, Hf) → xWq Z H 0 [xA a0, xI a1] [] := by
  have hz : Z.1 = (cX12_isMember, yX12_isMember, 2) := by rw [hZ]; rfl
  have hδ : Z.2.1 = 2 := by rw [hZ]; rfl
  intro a0 a1 H h
  unfold F_X12_isMember at h
  refine x_iload_n hz dX12_isMember_0 rfl ?_
  refine x_iconst (v := (0 : Int32)) hz dX12_isMember_1 (by decide) ?_
  refine x_aload_n hz dX12_isMember_2 rfl ?_
  obtain ⟨v1, e_v1, h⟩ := x_bnd h
  refine x_getI hz dX12_isMember_3 fs_X12_285 e_v1 ?_
  refine x_iconst (v := (1 : Int32)) hz dX12_isMember_6 (by decide) ?_
  refine x_isub hz dX12_isMember_7 ?_
  obtain ⟨v3, H2, e_H2, h⟩ := x_b2 h
  refine x_callSi (as := [.inl a1, .inl (0 : Int32), .inl (v1 - (1 : Int32))]) (st := []) cs_X12_153 rfl rfl hz (by omega) (by decide) dX12_isMember_8 (M_X12_isIn e_H2) ?_
  obtain ⟨c4, h⟩ := x_inv h
  cases h
  exact x_zret01 hZ c4 dX12_isMember_11
theorem M_X12_isMember {N : Nat} {a0 : (Option Nat)} {a1 : Int32} {H H1 : xH} {r1 : Int32} (h : F_X12_isMember N a0 a1 H = some (r1, H1)) : xM yX12_isMember cX12_isMember 2 (some .boolean) 2 [.inr (.inr a0), .inl a1] H (some (.int r1)) H1 :=
  xM_of (by decide +kernel) (xT_tb 1451 (by decide +kernel) (by decide +kernel)) (by simp [xargs, x2]) rfl (P_X12_isMember rfl a0 a1 H h)
/-! BettingBookModel.isWager(I)Z -/
noncomputable def F_X12_isWager (N : Nat) (a0 : (Option Nat)) (a1 : Int32) (H : xH) : Option (Int32 × xH) :=
  (xgI H a0 11 2).bind fun v1 =>
  x_bd2 (F_X12_isIn N a1 (0 : Int32) (v1 - (1 : Int32)) H) fun v3 H2 =>
  if v3 = 0 ∨ v3 = 1 then some (v3, H2) else none
set_option maxRecDepth 20000 in
set_option maxHeartbeats 4000000 in
theorem P_X12_isWager {N : Nat} {Z : xZ} {rv : Int32} {Hf : xH} (hZ : Z = xZm cX12_isWager yX12_isWager 2 2 (some .boolean) (some (.int rv)) Hf) : ∀ (a0 : (Option Nat)) (a1 : Int32) (H : xH), F_X12_isWager N a0 a1 H = some (rv, Hf) → xWq Z H 0 [xA a0, xI a1] [] := by
  have hz : Z.1 = (cX12_isWager, yX12_isWager, 2) := by rw [hZ]; rfl
  have hδ : Z.2.1 = 2 := by rw [hZ]; rfl
  intro a0 a1 H h
  unfold F_X12_isWager at h
  refine x_iload_n hz dX12_isWager_0 rfl ?_
  refine x_iconst (v := (0 : Int32)) hz dX12_isWager_1 (by decide) ?_
  refine x_aload_n hz dX12_isWager_2 rfl ?_
  obtain ⟨v1, e_v1, h⟩ := x_bnd h
  refine x_getI hz dX12_isWager_3 fs_X12_288 e_v1 ?_
  refine x_iconst (v := (1 : Int32)) hz dX12_isWager_6 (by decide) ?_
  refine x_isub hz dX12_isWager_7 ?_
  obtain ⟨v3, H2, e_H2, h⟩ := x_b2 h
  refine x_callSi (as := [.inl a1, .inl (0 : Int32), .inl (v1 - (1 : Int32))]) (st := []) cs_X12_153 rfl rfl hz (by omega) (by decide) dX12_isWager_8 (M_X12_isIn e_H2) ?_
  obtain ⟨c4, h⟩ := x_inv h
  cases h
  exact x_zret01 hZ c4 dX12_isWager_11
theorem M_X12_isWager {N : Nat} {a0 : (Option Nat)} {a1 : Int32} {H H1 : xH} {r1 : Int32} (h : F_X12_isWager N a0 a1 H = some (r1, H1)) : xM yX12_isWager cX12_isWager 2 (some .boolean) 2 [.inr (.inr a0), .inl a1] H (some (.int r1)) H1 :=
  xM_of (by decide +kernel) (xT_tb 1387 (by decide +kernel) (by decide +kernel)) (by simp [xargs, x2]) rfl (P_X12_isWager rfl a0 a1 H h)
/-! BettingBookModel.come(I)I -/
noncomputable def F_X12_come (N : Nat) (a0 : (Option Nat)) (a1 : Int32) (H : xH) : Option (Int32 × xH) :=
  (xob H a0 11).bind fun b2 =>
  x_bd2 (F_X12_isThing N a0 a1 H) fun v3 H1 =>
  if v3 = 0 then (some ((-1 : Int32), H1)) else ((xgI H1 a0 11 47).bind fun v5 =>
  x_bd2 (F_X12_bit N v5 a1 H1) fun v7 H6 =>
  if v7 = 0 then ((xgI H6 a0 11 47).bind fun v9 =>
  (xpI H6 a0 11 47 (v9 ||| ((1 : Int32) <<< (a1 &&& 31)))).bind fun H10 =>
  (xgA H10 a0 11 48).bind fun v11 =>
  (xgI H10 a0 11 46).bind fun v12 =>
  (xsI .int H10 v11 a1 v12).bind fun H13 =>
  (xob H13 a0 11).bind fun b15 =>
  x_bd2 (F_X12_leftMany N a0 H13) fun v16 H14 =>
  if v16 ≤ 0 then ((xgI H14 a0 11 47).bind fun v18 =>
  (xpI H14 a0 11 47 (v18 &&& (((1 : Int32) <<< (a1 &&& 31)) ^^^ (-1 : Int32)))).bind fun H19 =>
  some ((-1 : Int32), H19)) else (some (v16, H14))) else (some ((-1 : Int32), H6)))
set_option maxRecDepth 20000 in
set_option maxHeartbeats 4000000 in
theorem P_X12_come {N : Nat} {Z : xZ} {rv : Int32} {Hf : xH} (hZ : Z = xZm cX12_come yX12_come 3 4 (some .int) (some (.int rv)) Hf) : ∀ (a0 : (Option Nat)) (a1 : Int32) (H : xH), F_X12_come N a0 a1 H = some (rv, Hf) → xWq Z H 0 [xA a0, xI a1, xN] [] := by
  have hz : Z.1 = (cX12_come, yX12_come, 3) := by rw [hZ]; rfl
  have hδ : Z.2.1 = 4 := by rw [hZ]; rfl
  intro a0 a1 H h
  unfold F_X12_come at h
  refine x_aload_n hz dX12_come_0 rfl ?_
  refine x_iload_n hz dX12_come_1 rfl ?_
  obtain ⟨b2, e_b2, h⟩ := x_bnd h
  obtain ⟨v3, H1, e_H1, h⟩ := x_b2 h
  refine x_callVi (as := [.inl a1]) (st := []) cs_X12_355 (ci := 11) ⟨rfl, rfl⟩ rfl rfl hz (by omega) (by decide) dX12_come_2 e_b2 (M_X12_isThing e_H1) ?_
  refine x_if_eq (t := 19) hz dX12_come_5 (by decide) (fun c4 => ?_) (fun c4 => ?_)
  · replace h := x_ip c4 h
    refine x_iconst (v := (-1 : Int32)) hz dX12_come_19 (by decide) ?_
    cases h
    exact x_iret hZ dX12_come_20
  · replace h := x_in c4 h
    refine x_aload_n hz dX12_come_8 rfl ?_
    obtain ⟨v5, e_v5, h⟩ := x_bnd h
    refine x_getI hz dX12_come_9 fs_X12_304 e_v5 ?_
    refine x_iload_n hz dX12_come_12 rfl ?_
    obtain ⟨v7, H6, e_H6, h⟩ := x_b2 h
    refine x_callSi (as := [.inl v5, .inl a1]) (st := []) cs_X12_345 rfl rfl hz (by omega) (by decide) dX12_come_13 (M_X12_bit e_H6) ?_
    refine x_if_eq (t := 21) hz dX12_come_16 (by decide) (fun c8 => ?_) (fun c8 => ?_)
    · replace h := x_ip c8 h
      refine x_aload_n hz dX12_come_21 rfl ?_
      refine x_dup hz dX12_come_22 (x_rfc _) ?_
      obtain ⟨v9, e_v9, h⟩ := x_bnd h
      refine x_getI hz dX12_come_23 fs_X12_304 e_v9 ?_
      refine x_iconst (v := (1 : Int32)) hz dX12_come_26 (by decide) ?_
      refine x_iload_n hz dX12_come_27 rfl ?_
      refine x_ishl hz dX12_come_28 ?_
      refine x_ior hz dX12_come_29 ?_
      obtain ⟨H10, e_H10, h⟩ := x_bnd h
      refine x_putV (v := .int (v9 ||| ((1 : Int32) <<< (a1 &&& 31)))) hz dX12_come_30 fs_X12_304 rfl rfl e_H10 ?_
      refine x_aload_n hz dX12_come_33 rfl ?_
      obtain ⟨v11, e_v11, h⟩ := x_bnd h
      refine x_getA hz dX12_come_34 fs_X12_94 e_v11 ?_
      refine x_iload_n hz dX12_come_37 rfl ?_
      refine x_aload_n hz dX12_come_38 rfl ?_
      obtain ⟨v12, e_v12, h⟩ := x_bnd h
      refine x_getI hz dX12_come_39 fs_X12_301 e_v12 ?_
      obtain ⟨H13, e_H13, h⟩ := x_bnd h
      refine x_iast hz dX12_come_42 e_H13 ?_
      refine x_aload_n hz dX12_come_43 rfl ?_
      obtain ⟨b15, e_b15, h⟩ := x_bnd h
      obtain ⟨v16, H14, e_H14, h⟩ := x_b2 h
      refine x_callVi (as := []) (st := []) cs_X12_351 (ci := 11) ⟨rfl, rfl⟩ rfl rfl hz (by omega) (by decide) dX12_come_44 e_b15 (M_X12_leftMany e_H14) ?_
      refine x_istore_n (pl' := [xA a0, xI a1, xI v16]) hz dX12_come_47 (by decide) rfl ?_
      refine x_iload_n hz dX12_come_48 rfl ?_
      refine x_if_le (t := 54) hz dX12_come_49 (by decide) (fun c17 => ?_) (fun c17 => ?_)
      · replace h := x_ip c17 h
        refine x_aload_n hz dX12_come_54 rfl ?_
        refine x_dup hz dX12_come_55 (x_rfc _) ?_
        obtain ⟨v18, e_v18, h⟩ := x_bnd h
        refine x_getI hz dX12_come_56 fs_X12_304 e_v18 ?_
        refine x_iconst (v := (1 : Int32)) hz dX12_come_59 (by decide) ?_
        refine x_iload_n hz dX12_come_60 rfl ?_
        refine x_ishl hz dX12_come_61 ?_
        refine x_iconst (v := (-1 : Int32)) hz dX12_come_62 (by decide) ?_
        refine x_ixor hz dX12_come_63 ?_
        refine x_iand hz dX12_come_64 ?_
        obtain ⟨H19, e_H19, h⟩ := x_bnd h
        refine x_putV (v := .int (v18 &&& (((1 : Int32) <<< (a1 &&& 31)) ^^^ (-1 : Int32)))) hz dX12_come_65 fs_X12_304 rfl rfl e_H19 ?_
        refine x_iconst (v := (-1 : Int32)) hz dX12_come_68 (by decide) ?_
        cases h
        exact x_iret hZ dX12_come_69
      · replace h := x_in c17 h
        refine x_iload_n hz dX12_come_52 rfl ?_
        cases h
        exact x_iret hZ dX12_come_53
    · replace h := x_in c8 h
      refine x_iconst (v := (-1 : Int32)) hz dX12_come_19 (by decide) ?_
      cases h
      exact x_iret hZ dX12_come_20
theorem M_X12_come {N : Nat} {a0 : (Option Nat)} {a1 : Int32} {H H1 : xH} {r1 : Int32} (h : F_X12_come N a0 a1 H = some (r1, H1)) : xM yX12_come cX12_come 3 (some .int) 4 [.inr (.inr a0), .inl a1] H (some (.int r1)) H1 :=
  xM_of (by decide +kernel) (xT_tb 1363 (by decide +kernel) (by decide +kernel)) (by simp [xargs, x2]) rfl (P_X12_come rfl a0 a1 H h)
/-! BettingBookModel.rows(I)I -/
noncomputable def F_X12_rows_J46 (N : Nat) (k14 : (Option Nat) → Int32 → Int32 → Int32 → xH → Option (Int32 × xH)) (x0 : (Option Nat)) (x1 : Int32) (x2 : Int32) (x3 : Int32) (H : xH) : Option (Int32 × xH) :=
  k14 x0 x1 x2 (x3 + 1) H
set_option maxRecDepth 20000 in
set_option maxHeartbeats 4000000 in
theorem P_X12_rows_J46 {N : Nat} {Z : xZ} {rv : Int32} {Hf : xH} (hZ : Z = xZm cX12_rows yX12_rows 4 4 (some .int) (some (.int rv)) Hf) {k14 : (Option Nat) → Int32 → Int32 → Int32 → xH → Option (Int32 × xH)} (hk14 : ∀ (x0 : (Option Nat)) (x1 : Int32) (x2 : Int32) (x3 : Int32) (H : xH), k14 x0 x1 x2 x3 H = some (rv, Hf) → xWq Z H 14 [xA x0, xI x1, xI x2, xI x3] []) : ∀ (x0 : (Option Nat)) (x1 : Int32) (x2 : Int32) (x3 : Int32) (H : xH), F_X12_rows_J46 N k14 x0 x1 x2 x3 H = some (rv, Hf) → xWq Z H 46 [xA x0, xI x1, xI x2, xI x3] [] := by
  have hz : Z.1 = (cX12_rows, yX12_rows, 4) := by rw [hZ]; rfl
  have hδ : Z.2.1 = 4 := by rw [hZ]; rfl
  intro x0 x1 x2 x3 H h
  unfold F_X12_rows_J46 at h
  refine x_iinc (w := (x3 + 1)) (pl' := [xA x0, xI x1, xI x2, xI (x3 + 1)]) hz dX12_rows_46 rfl rfl (by decide) rfl ?_
  refine x_goto (t := 14) hz dX12_rows_49 (by decide) ?_
  exact x_wk (xwk_c (xwk_c (xwk_c (xwk_c xwk_0)))) (hk14 x0 x1 x2 (x3 + 1) H h)
noncomputable def F_X12_rows_J14 (N : Nat) (k14 : (Option Nat) → Int32 → Int32 → Int32 → xH → Option (Int32 × xH)) (x0 : (Option Nat)) (x1 : Int32) (x2 : Int32) (x3 : Int32) (H : xH) : Option (Int32 × xH) :=
  (xgI H x0 11 41).bind fun v1 =>
  if v1 ≤ x3 then (some ((-1 : Int32), H)) else (if x1 < 0 then (some ((-1 : Int32), H)) else ((xob H x0 11).bind fun b5 =>
  x_bd2 (F_X12_isLeft N x0 x3 H) fun v6 H4 =>
  if v6 = 0 then ((F_X12_rows_J46 N k14) x0 x1 x2 x3 H4) else (if x2 = 0 then (some (x3, H4)) else ((F_X12_rows_J46 N k14) x0 x1 (x2 + (-1)) x3 H4))))
set_option maxRecDepth 20000 in
set_option maxHeartbeats 4000000 in
theorem P_X12_rows_J14 {N : Nat} {Z : xZ} {rv : Int32} {Hf : xH} (hZ : Z = xZm cX12_rows yX12_rows 4 4 (some .int) (some (.int rv)) Hf) {k14 : (Option Nat) → Int32 → Int32 → Int32 → xH → Option (Int32 × xH)} (hk14 : ∀ (x0 : (Option Nat)) (x1 : Int32) (x2 : Int32) (x3 : Int32) (H : xH), k14 x0 x1 x2 x3 H = some (rv, Hf) → xWq Z H 14 [xA x0, xI x1, xI x2, xI x3] []) : ∀ (x0 : (Option Nat)) (x1 : Int32) (x2 : Int32) (x3 : Int32) (H : xH), F_X12_rows_J14 N k14 x0 x1 x2 x3 H = some (rv, Hf) → xWq Z H 14 [xA x0, xI x1, xI x2, xI x3] [] := by
  have hz : Z.1 = (cX12_rows, yX12_rows, 4) := by rw [hZ]; rfl
  have hδ : Z.2.1 = 4 := by rw [hZ]; rfl
  intro x0 x1 x2 x3 H h
  unfold F_X12_rows_J14 at h
  refine x_iload_n hz dX12_rows_14 rfl ?_
  refine x_aload_n hz dX12_rows_15 rfl ?_
  obtain ⟨v1, e_v1, h⟩ := x_bnd h
  refine x_getI hz dX12_rows_16 fs_X12_329 e_v1 ?_
  refine x_icmp_ge (t := 52) hz dX12_rows_19 (by decide) (fun c2 => ?_) (fun c2 => ?_)
  · replace h := x_ip c2 h
    refine x_iconst (v := (-1 : Int32)) hz dX12_rows_52 (by decide) ?_
    cases h
    exact x_iret hZ dX12_rows_53
  · replace h := x_in c2 h
    refine x_iload_n hz dX12_rows_22 rfl ?_
    refine x_if_lt (t := 52) hz dX12_rows_23 (by decide) (fun c3 => ?_) (fun c3 => ?_)
    · replace h := x_ip c3 h
      refine x_iconst (v := (-1 : Int32)) hz dX12_rows_52 (by decide) ?_
      cases h
      exact x_iret hZ dX12_rows_53
    · replace h := x_in c3 h
      refine x_aload_n hz dX12_rows_26 rfl ?_
      refine x_iload_n hz dX12_rows_27 rfl ?_
      obtain ⟨b5, e_b5, h⟩ := x_bnd h
      obtain ⟨v6, H4, e_H4, h⟩ := x_b2 h
      refine x_callVi (as := [.inl x3]) (st := []) cs_X12_348 (ci := 11) ⟨rfl, rfl⟩ rfl rfl hz (by omega) (by decide) dX12_rows_28 e_b5 (M_X12_isLeft e_H4) ?_
      refine x_if_ne (t := 37) hz dX12_rows_31 (by decide) (fun c7 => ?_) (fun c7 => ?_)
      · replace h := x_in c7 h
        refine x_iload_n hz dX12_rows_37 rfl ?_
        refine x_if_ne (t := 43) hz dX12_rows_38 (by decide) (fun c8 => ?_) (fun c8 => ?_)
        · replace h := x_in c8 h
          refine x_iinc (w := (x2 + (-1))) (pl' := [xA x0, xI x1, xI (x2 + (-1)), xI x3]) hz dX12_rows_43 rfl rfl (by decide) rfl ?_
          exact x_wk (xwk_c (xwk_c (xwk_c (xwk_c xwk_0)))) ((P_X12_rows_J46 hZ hk14) x0 x1 (x2 + (-1)) x3 H4 h)
        · replace h := x_ip c8 h
          refine x_iload_n hz dX12_rows_41 rfl ?_
          cases h
          exact x_iret hZ dX12_rows_42
      · replace h := x_ip c7 h
        refine x_goto (t := 46) hz dX12_rows_34 (by decide) ?_
        exact x_wk (xwk_c (xwk_c (xwk_c (xwk_c xwk_0)))) ((P_X12_rows_J46 hZ hk14) x0 x1 x2 x3 H4 h)
noncomputable def F_X12_rows_L14 (N : Nat) : Nat → (Option Nat) → Int32 → Int32 → Int32 → xH → Option (Int32 × xH)
  | 0 => fun _ _ _ _ _ => none
  | n + 1 => F_X12_rows_J14 N (F_X12_rows_L14 N n)
theorem P_X12_rows_L14 {N : Nat} {Z : xZ} {rv : Int32} {Hf : xH} (hZ : Z = xZm cX12_rows yX12_rows 4 4 (some .int) (some (.int rv)) Hf) : ∀ (n : Nat) (x0 : (Option Nat)) (x1 : Int32) (x2 : Int32) (x3 : Int32) (H : xH), F_X12_rows_L14 N n x0 x1 x2 x3 H = some (rv, Hf) → xWq Z H 14 [xA x0, xI x1, xI x2, xI x3] [] := by
  intro n
  induction n with
  | zero => intro _ _ _ _ _ h; cases h
  | succ n ih => exact P_X12_rows_J14 hZ ih
noncomputable def F_X12_rows (N : Nat) (a0 : (Option Nat)) (a1 : Int32) (H : xH) : Option (Int32 × xH) :=
  if a1 = (-1 : Int32) then ((xob H a0 11).bind fun b3 =>
  x_bd2 (F_X12_leftMany N a0 H) fun v4 H2 =>
  some (v4, H2)) else ((F_X12_rows_L14 N N) a0 a1 a1 (0 : Int32) H)
set_option maxRecDepth 20000 in
set_option maxHeartbeats 4000000 in
theorem P_X12_rows {N : Nat} {Z : xZ} {rv : Int32} {Hf : xH} (hZ : Z = xZm cX12_rows yX12_rows 4 4 (some .int) (some (.int rv)) Hf) : ∀ (a0 : (Option Nat)) (a1 : Int32) (H : xH), F_X12_rows N a0 a1 H = some (rv, Hf) → xWq Z H 0 [xA a0, xI a1, xN, xN] [] := by
  have hz : Z.1 = (cX12_rows, yX12_rows, 4) := by rw [hZ]; rfl
  have hδ : Z.2.1 = 4 := by rw [hZ]; rfl
  intro a0 a1 H h
  unfold F_X12_rows at h
  refine x_iload_n hz dX12_rows_0 rfl ?_
  refine x_iconst (v := (-1 : Int32)) hz dX12_rows_1 (by decide) ?_
  refine x_icmp_ne (t := 10) hz dX12_rows_2 (by decide) (fun c1 => ?_) (fun c1 => ?_)
  · replace h := x_in c1 h
    refine x_iload_n hz dX12_rows_10 rfl ?_
    refine x_istore_n (pl' := [xA a0, xI a1, xI a1, xN]) hz dX12_rows_11 (by decide) rfl ?_
    refine x_iconst (v := (0 : Int32)) hz dX12_rows_12 (by decide) ?_
    refine x_istore_n (pl' := [xA a0, xI a1, xI a1, xI (0 : Int32)]) hz dX12_rows_13 (by decide) rfl ?_
    exact x_wk (xwk_c (xwk_c (xwk_c (xwk_c xwk_0)))) ((P_X12_rows_L14 hZ N) a0 a1 a1 (0 : Int32) H h)
  · replace h := x_ip c1 h
    refine x_aload_n hz dX12_rows_5 rfl ?_
    obtain ⟨b3, e_b3, h⟩ := x_bnd h
    obtain ⟨v4, H2, e_H2, h⟩ := x_b2 h
    refine x_callVi (as := []) (st := []) cs_X12_351 (ci := 11) ⟨rfl, rfl⟩ rfl rfl hz (by omega) (by decide) dX12_rows_6 e_b3 (M_X12_leftMany e_H2) ?_
    cases h
    exact x_iret hZ dX12_rows_9
theorem M_X12_rows {N : Nat} {a0 : (Option Nat)} {a1 : Int32} {H H1 : xH} {r1 : Int32} (h : F_X12_rows N a0 a1 H = some (r1, H1)) : xM yX12_rows cX12_rows 4 (some .int) 4 [.inr (.inr a0), .inl a1] H (some (.int r1)) H1 :=
  xM_of (by decide +kernel) (xT_tb 1371 (by decide +kernel) (by decide +kernel)) (by simp [xargs, x2]) rfl (P_X12_rows rfl a0 a1 H h)
/-! BettingBookModel.fits(I)I -/
noncomputable def F_X12_fits (N : Nat) (a0 : (Option Nat)) (a1 : Int32) (H : xH) : Option (Int32 × xH) :=
  (xob H a0 11).bind fun b2 =>
  x_bd2 (F_X12_isRow N a0 a1 H) fun v3 H1 =>
  if v3 = 0 then (some ((-1 : Int32), H1)) else ((xob H1 a0 11).bind fun b6 =>
  x_bd2 (F_X12_isLeft N a0 a1 H1) fun v7 H5 =>
  if v7 = 0 then ((xob H5 a0 11).bind fun b10 =>
  x_bd2 (F_X12_isPossible N a0 a1 H5) fun v11 H9 =>
  if v11 = 0 then (some ((0 : Int32), H9)) else (some ((1 : Int32), H9))) else (some ((2 : Int32), H5)))
set_option maxRecDepth 20000 in
set_option maxHeartbeats 4000000 in
theorem P_X12_fits {N : Nat} {Z : xZ} {rv : Int32} {Hf : xH} (hZ : Z = xZm cX12_fits yX12_fits 2 3 (some .int) (some (.int rv)) Hf) : ∀ (a0 : (Option Nat)) (a1 : Int32) (H : xH), F_X12_fits N a0 a1 H = some (rv, Hf) → xWq Z H 0 [xA a0, xI a1] [] := by
  have hz : Z.1 = (cX12_fits, yX12_fits, 2) := by rw [hZ]; rfl
  have hδ : Z.2.1 = 3 := by rw [hZ]; rfl
  intro a0 a1 H h
  unfold F_X12_fits at h
  refine x_aload_n hz dX12_fits_0 rfl ?_
  refine x_iload_n hz dX12_fits_1 rfl ?_
  obtain ⟨b2, e_b2, h⟩ := x_bnd h
  obtain ⟨v3, H1, e_H1, h⟩ := x_b2 h
  refine x_callVi (as := [.inl a1]) (st := []) cs_X12_358 (ci := 11) ⟨rfl, rfl⟩ rfl rfl hz (by omega) (by decide) dX12_fits_2 e_b2 (M_X12_isRow e_H1) ?_
  refine x_if_ne (t := 12) hz dX12_fits_5 (by decide) (fun c4 => ?_) (fun c4 => ?_)
  · replace h := x_in c4 h
    refine x_aload_n hz dX12_fits_12 rfl ?_
    refine x_iload_n hz dX12_fits_13 rfl ?_
    obtain ⟨b6, e_b6, h⟩ := x_bnd h
    obtain ⟨v7, H5, e_H5, h⟩ := x_b2 h
    refine x_callVi (as := [.inl a1]) (st := []) cs_X12_348 (ci := 11) ⟨rfl, rfl⟩ rfl rfl hz (by omega) (by decide) dX12_fits_14 e_b6 (M_X12_isLeft e_H5) ?_
    refine x_if_eq (t := 24) hz dX12_fits_17 (by decide) (fun c8 => ?_) (fun c8 => ?_)
    · replace h := x_ip c8 h
      refine x_aload_n hz dX12_fits_24 rfl ?_
      refine x_iload_n hz dX12_fits_25 rfl ?_
      obtain ⟨b10, e_b10, h⟩ := x_bnd h
      obtain ⟨v11, H9, e_H9, h⟩ := x_b2 h
      refine x_callVi (as := [.inl a1]) (st := []) cs_X12_342 (ci := 11) ⟨rfl, rfl⟩ rfl rfl hz (by omega) (by decide) dX12_fits_26 e_b10 (M_X12_isPossible e_H9) ?_
      refine x_if_eq (t := 36) hz dX12_fits_29 (by decide) (fun c12 => ?_) (fun c12 => ?_)
      · replace h := x_ip c12 h
        refine x_iconst (v := (0 : Int32)) hz dX12_fits_36 (by decide) ?_
        cases h
        exact x_iret hZ dX12_fits_37
      · replace h := x_in c12 h
        refine x_iconst (v := (1 : Int32)) hz dX12_fits_32 (by decide) ?_
        refine x_goto (t := 37) hz dX12_fits_33 (by decide) ?_
        cases h
        exact x_iret hZ dX12_fits_37
    · replace h := x_in c8 h
      refine x_iconst (v := (2 : Int32)) hz dX12_fits_20 (by decide) ?_
      refine x_goto (t := 37) hz dX12_fits_21 (by decide) ?_
      cases h
      exact x_iret hZ dX12_fits_37
  · replace h := x_ip c4 h
    refine x_iconst (v := (-1 : Int32)) hz dX12_fits_8 (by decide) ?_
    refine x_goto (t := 37) hz dX12_fits_9 (by decide) ?_
    cases h
    exact x_iret hZ dX12_fits_37
theorem M_X12_fits {N : Nat} {a0 : (Option Nat)} {a1 : Int32} {H H1 : xH} {r1 : Int32} (h : F_X12_fits N a0 a1 H = some (r1, H1)) : xM yX12_fits cX12_fits 2 (some .int) 3 [.inr (.inr a0), .inl a1] H (some (.int r1)) H1 :=
  xM_of (by decide +kernel) (xT_tb 1375 (by decide +kernel) (by decide +kernel)) (by simp [xargs, x2]) rfl (P_X12_fits rfl a0 a1 H h)
