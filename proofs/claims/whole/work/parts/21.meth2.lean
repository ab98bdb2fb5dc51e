/-! BettingBook$Odds.worthOf(LBettingBook$RowTable;LBettingBook$Gains;I)J -/
noncomputable def F_X5_worthOf_J106 (N : Nat) (k33 : (Option Nat) → (Option Nat) → (Option Nat) → Int32 → Int64 → Int64 → Int32 → xH → Option (Int64 × xH)) (x0 : (Option Nat)) (x1 : (Option Nat)) (x2 : (Option Nat)) (x3 : Int32) (x4 : Int64) (x6 : Int64) (x8 : Int32) (H : xH) : Option (Int64 × xH) :=
  k33 x0 x1 x2 x3 x4 x6 (x8 + 1) H
set_option maxRecDepth 20000 in
set_option maxHeartbeats 4000000 in
theorem P_X5_worthOf_J106 {N : Nat} {Z : xZ} {rv : Int64} {Hf : xH} (hZ : Z = xZm cX5_worthOf yX5_worthOf 13 4 (some .long) (some (.long rv)) Hf) {k33 : (Option Nat) → (Option Nat) → (Option Nat) → Int32 → Int64 → Int64 → Int32 → xH → Option (Int64 × xH)} (hk33 : ∀ (x0 : (Option Nat)) (x1 : (Option Nat)) (x2 : (Option Nat)) (x3 : Int32) (x4 : Int64) (x6 : Int64) (x8 : Int32) (H : xH), k33 x0 x1 x2 x3 x4 x6 x8 H = some (rv, Hf) → xWq Z H 33 [xA x0, xA x1, xA x2, xI x3, xJ x4, xN, xJ x6, xN, xI x8, xN, xN, xN, xN] []) : ∀ (x0 : (Option Nat)) (x1 : (Option Nat)) (x2 : (Option Nat)) (x3 : Int32) (x4 : Int64) (x6 : Int64) (x8 : Int32) (H : xH), F_X5_worthOf_J106 N k33 x0 x1 x2 x3 x4 x6 x8 H = some (rv, Hf) → xWq Z H 106 [xA x0, xA x1, xA x2, xI x3, xJ x4, xN, xJ x6, xN, xI x8, xN, xN, xN, xN] [] := by
  have hz : Z.1 = (cX5_worthOf, yX5_worthOf, 13) := by rw [hZ]; rfl
  have hδ : Z.2.1 = 4 := by rw [hZ]; rfl
  intro x0 x1 x2 x3 x4 x6 x8 H h
  unfold F_X5_worthOf_J106 at h
  refine x_iinc (w := (x8 + 1)) (pl' := [xA x0, xA x1, xA x2, xI x3, xJ x4, xN, xJ x6, xN, xI (x8 + 1), xN, xN, xN, xN]) hz dX5_worthOf_106 rfl rfl (by decide) rfl ?_
  refine x_goto (t := 33) hz dX5_worthOf_109 (by decide) ?_
  exact x_wk (xwk_c (xwk_c (xwk_c (xwk_c (xwk_c (xwk_n (xwk_c (xwk_n (xwk_c (xwk_n (xwk_n (xwk_n (xwk_n xwk_0))))))))))))) (hk33 x0 x1 x2 x3 x4 x6 (x8 + 1) H h)
noncomputable def F_X5_worthOf_J75 (N : Nat) (k33 : (Option Nat) → (Option Nat) → (Option Nat) → Int32 → Int64 → Int64 → Int32 → xH → Option (Int64 × xH)) (x0 : (Option Nat)) (x1 : (Option Nat)) (x2 : (Option Nat)) (x3 : Int32) (x4 : Int64) (x6 : Int64) (x8 : Int32) (x9 : Int64) (s0 : Int64) (H : xH) : Option (Int64 × xH) :=
  if (lg_cmp s0 (0 : Int64)) = 0 then ((F_X5_worthOf_J106 N k33) x0 x1 x2 x3 x4 x6 x8 H) else ((xob H x2 3).bind fun b3 =>
  x_bd2 (F_X3_sum N x2 x9 H) fun v4 H2 =>
  (F_X5_worthOf_J106 N k33) x0 x1 x2 x3 (x4 + (s0 * ((v4).toInt64))) (x6 + s0) x8 H2)
set_option maxRecDepth 20000 in
set_option maxHeartbeats 4000000 in
theorem P_X5_worthOf_J75 {N : Nat} {Z : xZ} {rv : Int64} {Hf : xH} (hZ : Z = xZm cX5_worthOf yX5_worthOf 13 4 (some .long) (some (.long rv)) Hf) {k33 : (Option Nat) → (Option Nat) → (Option Nat) → Int32 → Int64 → Int64 → Int32 → xH → Option (Int64 × xH)} (hk33 : ∀ (x0 : (Option Nat)) (x1 : (Option Nat)) (x2 : (Option Nat)) (x3 : Int32) (x4 : Int64) (x6 : Int64) (x8 : Int32) (H : xH), k33 x0 x1 x2 x3 x4 x6 x8 H = some (rv, Hf) → xWq Z H 33 [xA x0, xA x1, xA x2, xI x3, xJ x4, xN, xJ x6, xN, xI x8, xN, xN, xN, xN] []) : ∀ (x0 : (Option Nat)) (x1 : (Option Nat)) (x2 : (Option Nat)) (x3 : Int32) (x4 : Int64) (x6 : Int64) (x8 : Int32) (x9 : Int64) (s0 : Int64) (H : xH), F_X5_worthOf_J75 N k33 x0 x1 x2 x3 x4 x6 x8 x9 s0 H = some (rv, Hf) → xWq Z H 75 [xA x0, xA x1, xA x2, xI x3, xJ x4, xN, xJ x6, xN, xI x8, xJ x9, xN, xN, xN] [.long s0] := by
  have hz : Z.1 = (cX5_worthOf, yX5_worthOf, 13) := by rw [hZ]; rfl
  have hδ : Z.2.1 = 4 := by rw [hZ]; rfl
  intro x0 x1 x2 x3 x4 x6 x8 x9 s0 H h
  unfold F_X5_worthOf_J75 at h
  refine x_lstore (pl' := [xA x0, xA x1, xA x2, xI x3, xJ x4, xN, xJ x6, xN, xI x8, xJ x9, xN, xJ s0, xN]) hz dX5_worthOf_75 (by decide) rfl ?_
  refine x_lload hz dX5_worthOf_77 rfl ?_
  refine x_lconst (v := (0 : Int64)) hz dX5_worthOf_79 (by decide) ?_
  refine x_lcmp hz dX5_worthOf_80 ?_
  refine x_if_eq (t := 106) hz dX5_worthOf_81 (by decide) (fun c1 => ?_) (fun c1 => ?_)
  · replace h := x_ip c1 h
    exact x_wk (xwk_c (xwk_c (xwk_c (xwk_c (xwk_c (xwk_n (xwk_c (xwk_n (xwk_c (xwk_n (xwk_n (xwk_n (xwk_n xwk_0))))))))))))) ((P_X5_worthOf_J106 hZ hk33) x0 x1 x2 x3 x4 x6 x8 H h)
  · replace h := x_in c1 h
    refine x_lload hz dX5_worthOf_84 rfl ?_
    refine x_lload hz dX5_worthOf_86 rfl ?_
    refine x_aload_n hz dX5_worthOf_88 rfl ?_
    refine x_lload hz dX5_worthOf_89 rfl ?_
    obtain ⟨b3, e_b3, h⟩ := x_bnd h
    obtain ⟨v4, H2, e_H2, h⟩ := x_b2 h
    refine x_callVi (as := [.inr (.inl x9)]) (st := [.long s0, .long x4]) cs_X5_54 (ci := 3) ⟨rfl, rfl⟩ rfl rfl hz (by omega) (Nat.le_trans (x_sm2 rfl (x_sm2 rfl x_sm0)) (by decide)) dX5_worthOf_91 e_b3 (M_X3_sum e_H2) ?_
    refine x_i2l hz dX5_worthOf_94 ?_
    refine x_lmul hz dX5_worthOf_95 ?_
    refine x_ladd hz dX5_worthOf_96 ?_
    refine x_lstore (pl' := [xA x0, xA x1, xA x2, xI x3, xJ (x4 + (s0 * ((v4).toInt64))), xN, xJ x6, xN, xI x8, xJ x9, xN, xJ s0, xN]) hz dX5_worthOf_97 (by decide) rfl ?_
    refine x_lload hz dX5_worthOf_99 rfl ?_
    refine x_lload hz dX5_worthOf_101 rfl ?_
    refine x_ladd hz dX5_worthOf_103 ?_
    refine x_lstore (pl' := [xA x0, xA x1, xA x2, xI x3, xJ (x4 + (s0 * ((v4).toInt64))), xN, xJ (x6 + s0), xN, xI x8, xJ x9, xN, xJ s0, xN]) hz dX5_worthOf_104 (by decide) rfl ?_
    exact x_wk (xwk_c (xwk_c (xwk_c (xwk_c (xwk_c (xwk_n (xwk_c (xwk_n (xwk_c (xwk_n (xwk_n (xwk_n (xwk_n xwk_0))))))))))))) ((P_X5_worthOf_J106 hZ hk33) x0 x1 x2 x3 (x4 + (s0 * ((v4).toInt64))) (x6 + s0) x8 H2 h)
noncomputable def F_X5_worthOf_J33 (N : Nat) (k33 : (Option Nat) → (Option Nat) → (Option Nat) → Int32 → Int64 → Int64 → Int32 → xH → Option (Int64 × xH)) (k112 : Int32 → Int64 → Int64 → xH → Option (Int64 × xH)) (x0 : (Option Nat)) (x1 : (Option Nat)) (x2 : (Option Nat)) (x3 : Int32) (x4 : Int64) (x6 : Int64) (x8 : Int32) (H : xH) : Option (Int64 × xH) :=
  (xgI H x1 6 1).bind fun v1 =>
  if v1 ≤ x8 then (k112 x3 x4 x6 H) else ((xob H x1 6).bind fun b4 =>
  x_bd2 (F_X6_cellAt N x1 x8 H) fun v5 H3 =>
  if (lg_cmp (v5 &&& (4611686018427387904 : Int64)) (0 : Int64)) = 0 then ((F_X5_worthOf_J75 N k33) x0 x1 x2 x3 x4 x6 x8 v5 (0 : Int64) H3) else ((xgI H3 x1 6 0).bind fun v7 =>
  (xob H3 x0 5).bind fun b9 =>
  x_bd2 (F_X5_weightOf N x0 x8 v7 H3) fun v10 H8 =>
  (F_X5_worthOf_J75 N k33) x0 x1 x2 x3 x4 x6 x8 v5 v10 H8))
set_option maxRecDepth 20000 in
set_option maxHeartbeats 4000000 in
theorem P_X5_worthOf_J33 {N : Nat} {Z : xZ} {rv : Int64} {Hf : xH} (hZ : Z = xZm cX5_worthOf yX5_worthOf 13 4 (some .long) (some (.long rv)) Hf) {k33 : (Option Nat) → (Option Nat) → (Option Nat) → Int32 → Int64 → Int64 → Int32 → xH → Option (Int64 × xH)} (hk33 : ∀ (x0 : (Option Nat)) (x1 : (Option Nat)) (x2 : (Option Nat)) (x3 : Int32) (x4 : Int64) (x6 : Int64) (x8 : Int32) (H : xH), k33 x0 x1 x2 x3 x4 x6 x8 H = some (rv, Hf) → xWq Z H 33 [xA x0, xA x1, xA x2, xI x3, xJ x4, xN, xJ x6, xN, xI x8, xN, xN, xN, xN] []) {k112 : Int32 → Int64 → Int64 → xH → Option (Int64 × xH)} (hk112 : ∀ (x3 : Int32) (x4 : Int64) (x6 : Int64) (H : xH), k112 x3 x4 x6 H = some (rv, Hf) → xWq Z H 112 [xN, xN, xN, xI x3, xJ x4, xN, xJ x6, xN, xN, xN, xN, xN, xN] []) : ∀ (x0 : (Option Nat)) (x1 : (Option Nat)) (x2 : (Option Nat)) (x3 : Int32) (x4 : Int64) (x6 : Int64) (x8 : Int32) (H : xH), F_X5_worthOf_J33 N k33 k112 x0 x1 x2 x3 x4 x6 x8 H = some (rv, Hf) → xWq Z H 33 [xA x0, xA x1, xA x2, xI x3, xJ x4, xN, xJ x6, xN, xI x8, xN, xN, xN, xN] [] := by
  have hz : Z.1 = (cX5_worthOf, yX5_worthOf, 13) := by rw [hZ]; rfl
  have hδ : Z.2.1 = 4 := by rw [hZ]; rfl
  intro x0 x1 x2 x3 x4 x6 x8 H h
  unfold F_X5_worthOf_J33 at h
  refine x_iload hz dX5_worthOf_33 rfl ?_
  refine x_aload_n hz dX5_worthOf_35 rfl ?_
  obtain ⟨v1, e_v1, h⟩ := x_bnd h
  refine x_getI hz dX5_worthOf_36 fs_X5_41 e_v1 ?_
  refine x_icmp_ge (t := 112) hz dX5_worthOf_39 (by decide) (fun c2 => ?_) (fun c2 => ?_)
  · replace h := x_ip c2 h
    exact x_wk (xwk_n (xwk_n (xwk_n (xwk_c (xwk_c (xwk_n (xwk_c (xwk_n (xwk_n (xwk_n (xwk_n (xwk_n (xwk_n xwk_0))))))))))))) (hk112 x3 x4 x6 H h)
  · replace h := x_in c2 h
    refine x_aload_n hz dX5_worthOf_42 rfl ?_
    refine x_iload hz dX5_worthOf_43 rfl ?_
    obtain ⟨b4, e_b4, h⟩ := x_bnd h
    obtain ⟨v5, H3, e_H3, h⟩ := x_b2 h
    refine x_callVl (as := [.inl x8]) (st := []) cs_X5_44 (ci := 6) ⟨rfl, rfl⟩ rfl rfl hz (by omega) (by decide) dX5_worthOf_45 e_b4 (M_X6_cellAt e_H3) ?_
    refine x_lstore (pl' := [xA x0, xA x1, xA x2, xI x3, xJ x4, xN, xJ x6, xN, xI x8, xJ v5, xN, xN, xN]) hz dX5_worthOf_48 (by decide) rfl ?_
    refine x_lload hz dX5_worthOf_50 rfl ?_
    refine x_ldc2 (v := (4611686018427387904 : Int64)) hz dX5_worthOf_52 wc_X5_48 ?_
    refine x_land hz dX5_worthOf_55 ?_
    refine x_lconst (v := (0 : Int64)) hz dX5_worthOf_56 (by decide) ?_
    refine x_lcmp hz dX5_worthOf_57 ?_
    refine x_if_ne (t := 65) hz dX5_worthOf_58 (by decide) (fun c6 => ?_) (fun c6 => ?_)
    · replace h := x_in c6 h
      refine x_aload_n hz dX5_worthOf_65 rfl ?_
      refine x_iload hz dX5_worthOf_66 rfl ?_
      refine x_aload_n hz dX5_worthOf_68 rfl ?_
      obtain ⟨v7, e_v7, h⟩ := x_bnd h
      refine x_getI hz dX5_worthOf_69 fs_X5_29 e_v7 ?_
      obtain ⟨b9, e_b9, h⟩ := x_bnd h
      obtain ⟨v10, H8, e_H8, h⟩ := x_b2 h
      refine x_callVl (as := [.inl x8, .inl v7]) (st := []) cs_X5_50 (ci := 5) ⟨rfl, rfl⟩ rfl rfl hz (by omega) (by decide) dX5_worthOf_72 e_b9 (M_X5_weightOf e_H8) ?_
      exact x_wk (xwk_c (xwk_c (xwk_c (xwk_c (xwk_c (xwk_n (xwk_c (xwk_n (xwk_c (xwk_c (xwk_n (xwk_n (xwk_n xwk_0))))))))))))) ((P_X5_worthOf_J75 hZ hk33) x0 x1 x2 x3 x4 x6 x8 v5 v10 H8 h)
    · replace h := x_ip c6 h
      refine x_lconst (v := (0 : Int64)) hz dX5_worthOf_61 (by decide) ?_
      refine x_goto (t := 75) hz dX5_worthOf_62 (by decide) ?_
      exact x_wk (xwk_c (xwk_c (xwk_c (xwk_c (xwk_c (xwk_n (xwk_c (xwk_n (xwk_c (xwk_c (xwk_n (xwk_n (xwk_n xwk_0))))))))))))) ((P_X5_worthOf_J75 hZ hk33) x0 x1 x2 x3 x4 x6 x8 v5 (0 : Int64) H3 h)
noncomputable def F_X5_worthOf_L33 (N : Nat) (k112 : Int32 → Int64 → Int64 → xH → Option (Int64 × xH)) : Nat → (Option Nat) → (Option Nat) → (Option Nat) → Int32 → Int64 → Int64 → Int32 → xH → Option (Int64 × xH)
  | 0 => fun _ _ _ _ _ _ _ _ => none
  | n + 1 => F_X5_worthOf_J33 N (F_X5_worthOf_L33 N k112 n) k112
theorem P_X5_worthOf_L33 {N : Nat} {Z : xZ} {rv : Int64} {Hf : xH} (hZ : Z = xZm cX5_worthOf yX5_worthOf 13 4 (some .long) (some (.long rv)) Hf) {k112 : Int32 → Int64 → Int64 → xH → Option (Int64 × xH)} (hk112 : ∀ (x3 : Int32) (x4 : Int64) (x6 : Int64) (H : xH), k112 x3 x4 x6 H = some (rv, Hf) → xWq Z H 112 [xN, xN, xN, xI x3, xJ x4, xN, xJ x6, xN, xN, xN, xN, xN, xN] []) : ∀ (n : Nat) (x0 : (Option Nat)) (x1 : (Option Nat)) (x2 : (Option Nat)) (x3 : Int32) (x4 : Int64) (x6 : Int64) (x8 : Int32) (H : xH), F_X5_worthOf_L33 N k112 n x0 x1 x2 x3 x4 x6 x8 H = some (rv, Hf) → xWq Z H 33 [xA x0, xA x1, xA x2, xI x3, xJ x4, xN, xJ x6, xN, xI x8, xN, xN, xN, xN] [] := by
  intro n
  induction n with
  | zero => intro _ _ _ _ _ _ _ _ h; cases h
  | succ n ih => exact P_X5_worthOf_J33 hZ ih hk112
noncomputable def F_X5_worthOf_J150 (N : Nat) (x8 : Int64) (s0 : Int64) (H : xH) : Option (Int64 × xH) :=
  if x8 = 0 then none else some ((s0 / x8), H)
set_option maxRecDepth 20000 in
set_option maxHeartbeats 4000000 in
theorem P_X5_worthOf_J150 {N : Nat} {Z : xZ} {rv : Int64} {Hf : xH} (hZ : Z = xZm cX5_worthOf yX5_worthOf 13 4 (some .long) (some (.long rv)) Hf) : ∀ (x8 : Int64) (s0 : Int64) (H : xH), F_X5_worthOf_J150 N x8 s0 H = some (rv, Hf) → xWq Z H 150 [xN, xN, xN, xN, xN, xN, xN, xN, xJ x8, xN, xN, xN, xN] [.long s0] := by
  have hz : Z.1 = (cX5_worthOf, yX5_worthOf, 13) := by rw [hZ]; rfl
  have hδ : Z.2.1 = 4 := by rw [hZ]; rfl
  intro x8 s0 H h
  unfold F_X5_worthOf_J150 at h
  refine x_lload hz dX5_worthOf_150 rfl ?_
  obtain ⟨c1, h⟩ := x_inv0 h
  refine x_ldiv hz dX5_worthOf_152 c1 ?_
  cases h
  exact x_lret hZ dX5_worthOf_153
noncomputable def F_X5_worthOf_J112 (N : Nat) (x3 : Int32) (x4 : Int64) (x6 : Int64) (H : xH) : Option (Int64 × xH) :=
  x_bd2 (F_X5_commonDivisor N x4 x6 H) fun v2 H1 =>
  if (lg_cmp x6 (0 : Int64)) = 0 then (some ((-1000000000000000 : Int64), H1)) else (if (lg_cmp v2 (0 : Int64)) = 0 then (some ((-1000000000000000 : Int64), H1)) else (if x3 = 0 then ((F_X5_worthOf_J150 N) v2 x4 H1) else ((F_X5_worthOf_J150 N) v2 x6 H1)))
set_option maxRecDepth 20000 in
set_option maxHeartbeats 4000000 in
theorem P_X5_worthOf_J112 {N : Nat} {Z : xZ} {rv : Int64} {Hf : xH} (hZ : Z = xZm cX5_worthOf yX5_worthOf 13 4 (some .long) (some (.long rv)) Hf) : ∀ (x3 : Int32) (x4 : Int64) (x6 : Int64) (H : xH), F_X5_worthOf_J112 N x3 x4 x6 H = some (rv, Hf) → xWq Z H 112 [xN, xN, xN, xI x3, xJ x4, xN, xJ x6, xN, xN, xN, xN, xN, xN] [] := by
  have hz : Z.1 = (cX5_worthOf, yX5_worthOf, 13) := by rw [hZ]; rfl
  have hδ : Z.2.1 = 4 := by rw [hZ]; rfl
  intro x3 x4 x6 H h
  unfold F_X5_worthOf_J112 at h
  refine x_lload hz dX5_worthOf_112 rfl ?_
  refine x_lload hz dX5_worthOf_114 rfl ?_
  obtain ⟨v2, H1, e_H1, h⟩ := x_b2 h
  refine x_callSl (as := [.inr (.inl x4), .inr (.inl x6)]) (st := []) cs_X5_60 rfl rfl hz (by omega) (by decide) dX5_worthOf_116 (M_X5_commonDivisor e_H1) ?_
  refine x_lstore (pl' := [xN, xN, xN, xI x3, xJ x4, xN, xJ x6, xN, xJ v2, xN, xN, xN, xN]) hz dX5_worthOf_119 (by decide) rfl ?_
  refine x_lload hz dX5_worthOf_121 rfl ?_
  refine x_lconst (v := (0 : Int64)) hz dX5_worthOf_123 (by decide) ?_
  refine x_lcmp hz dX5_worthOf_124 ?_
  refine x_if_eq (t := 135) hz dX5_worthOf_125 (by decide) (fun c3 => ?_) (fun c3 => ?_)
  · replace h := x_ip c3 h
    refine x_ldc2 (v := (-1000000000000000 : Int64)) hz dX5_worthOf_135 wc_X5_39 ?_
    cases h
    exact x_lret hZ dX5_worthOf_138
  · replace h := x_in c3 h
    refine x_lload hz dX5_worthOf_128 rfl ?_
    refine x_lconst (v := (0 : Int64)) hz dX5_worthOf_130 (by decide) ?_
    refine x_lcmp hz dX5_worthOf_131 ?_
    refine x_if_ne (t := 139) hz dX5_worthOf_132 (by decide) (fun c4 => ?_) (fun c4 => ?_)
    · replace h := x_in c4 h
      refine x_iload_n hz dX5_worthOf_139 rfl ?_
      refine x_if_ne (t := 148) hz dX5_worthOf_140 (by decide) (fun c5 => ?_) (fun c5 => ?_)
      · replace h := x_in c5 h
        refine x_lload hz dX5_worthOf_148 rfl ?_
        exact x_wk (xwk_n (xwk_n (xwk_n (xwk_n (xwk_n (xwk_n (xwk_n (xwk_n (xwk_c (xwk_n (xwk_n (xwk_n (xwk_n xwk_0))))))))))))) ((P_X5_worthOf_J150 hZ) v2 x6 H1 h)
      · replace h := x_ip c5 h
        refine x_lload hz dX5_worthOf_143 rfl ?_
        refine x_goto (t := 150) hz dX5_worthOf_145 (by decide) ?_
        exact x_wk (xwk_n (xwk_n (xwk_n (xwk_n (xwk_n (xwk_n (xwk_n (xwk_n (xwk_c (xwk_n (xwk_n (xwk_n (xwk_n xwk_0))))))))))))) ((P_X5_worthOf_J150 hZ) v2 x4 H1 h)
    · replace h := x_ip c4 h
      refine x_ldc2 (v := (-1000000000000000 : Int64)) hz dX5_worthOf_135 wc_X5_39 ?_
      cases h
      exact x_lret hZ dX5_worthOf_138
noncomputable def F_X5_worthOf (N : Nat) (a0 : (Option Nat)) (a1 : (Option Nat)) (a2 : (Option Nat)) (a3 : Int32) (H : xH) : Option (Int64 × xH) :=
  if a3 < 0 then (some ((-1000000000000000 : Int64), H)) else (if (1 : Int32) < a3 then (some ((-1000000000000000 : Int64), H)) else ((xgI H a1 6 0).bind fun v3 =>
  (xob H a0 5).bind fun b5 =>
  x_bd2 (F_X5_areWhole N a0 v3 H) fun v6 H4 =>
  if v6 = 0 then (some ((-1000000000000000 : Int64), H4)) else ((F_X5_worthOf_L33 N (F_X5_worthOf_J112 N) N) a0 a1 a2 a3 (0 : Int64) (0 : Int64) (0 : Int32) H4)))
set_option maxRecDepth 20000 in
set_option maxHeartbeats 4000000 in
theorem P_X5_worthOf {N : Nat} {Z : xZ} {rv : Int64} {Hf : xH} (hZ : Z = xZm cX5_worthOf yX5_worthOf 13 4 (some .long) (some (.long rv)) Hf) : ∀ (a0 : (Option Nat)) (a1 : (Option Nat)) (a2 : (Option Nat)) (a3 : Int32) (H : xH), F_X5_worthOf N a0 a1 a2 a3 H = some (rv, Hf) → xWq Z H 0 [xA a0, xA a1, xA a2, xI a3, xN, xN, xN, xN, xN, xN, xN, xN, xN] [] := by
  have hz : Z.1 = (cX5_worthOf, yX5_worthOf, 13) := by rw [hZ]; rfl
  have hδ : Z.2.1 = 4 := by rw [hZ]; rfl
  intro a0 a1 a2 a3 H h
  unfold F_X5_worthOf at h
  refine x_iload_n hz dX5_worthOf_0 rfl ?_
  refine x_if_lt (t := 20) hz dX5_worthOf_1 (by decide) (fun c1 => ?_) (fun c1 => ?_)
  · replace h := x_ip c1 h
    refine x_ldc2 (v := (-1000000000000000 : Int64)) hz dX5_worthOf_20 wc_X5_39 ?_
    cases h
    exact x_lret hZ dX5_worthOf_23
  · replace h := x_in c1 h
    refine x_iload_n hz dX5_worthOf_4 rfl ?_
    refine x_iconst (v := (1 : Int32)) hz dX5_worthOf_5 (by decide) ?_
    refine x_icmp_gt (t := 20) hz dX5_worthOf_6 (by decide) (fun c2 => ?_) (fun c2 => ?_)
    · replace h := x_ip c2 h
      refine x_ldc2 (v := (-1000000000000000 : Int64)) hz dX5_worthOf_20 wc_X5_39 ?_
      cases h
      exact x_lret hZ dX5_worthOf_23
    · replace h := x_in c2 h
      refine x_aload_n hz dX5_worthOf_9 rfl ?_
      refine x_aload_n hz dX5_worthOf_10 rfl ?_
      obtain ⟨v3, e_v3, h⟩ := x_bnd h
      refine x_getI hz dX5_worthOf_11 fs_X5_29 e_v3 ?_
      obtain ⟨b5, e_b5, h⟩ := x_bnd h
      obtain ⟨v6, H4, e_H4, h⟩ := x_b2 h
      refine x_callVi (as := [.inl v3]) (st := []) cs_X5_35 (ci := 5) ⟨rfl, rfl⟩ rfl rfl hz (by omega) (by decide) dX5_worthOf_14 e_b5 (M_X5_areWhole e_H4) ?_
      refine x_if_ne (t := 24) hz dX5_worthOf_17 (by decide) (fun c7 => ?_) (fun c7 => ?_)
      · replace h := x_in c7 h
        refine x_lconst (v := (0 : Int64)) hz dX5_worthOf_24 (by decide) ?_
        refine x_lstore (pl' := [xA a0, xA a1, xA a2, xI a3, xJ (0 : Int64), xN, xN, xN, xN, xN, xN, xN, xN]) hz dX5_worthOf_25 (by decide) rfl ?_
        refine x_lconst (v := (0 : Int64)) hz dX5_worthOf_27 (by decide) ?_
        refine x_lstore (pl' := [xA a0, xA a1, xA a2, xI a3, xJ (0 : Int64), xN, xJ (0 : Int64), xN, xN, xN, xN, xN, xN]) hz dX5_worthOf_28 (by decide) rfl ?_
        refine x_iconst (v := (0 : Int32)) hz dX5_worthOf_30 (by decide) ?_
        refine x_istore (pl' := [xA a0, xA a1, xA a2, xI a3, xJ (0 : Int64), xN, xJ (0 : Int64), xN, xI (0 : Int32), xN, xN, xN, xN]) hz dX5_worthOf_31 (by decide) rfl ?_
        exact x_wk (xwk_c (xwk_c (xwk_c (xwk_c (xwk_c (xwk_n (xwk_c (xwk_n (xwk_c (xwk_n (xwk_n (xwk_n (xwk_n xwk_0))))))))))))) ((P_X5_worthOf_L33 hZ (P_X5_worthOf_J112 hZ) N) a0 a1 a2 a3 (0 : Int64) (0 : Int64) (0 : Int32) H4 h)
      · replace h := x_ip c7 h
        refine x_ldc2 (v := (-1000000000000000 : Int64)) hz dX5_worthOf_20 wc_X5_39 ?_
        cases h
        exact x_lret hZ dX5_worthOf_23
theorem M_X5_worthOf {N : Nat} {a0 : (Option Nat)} {a1 : (Option Nat)} {a2 : (Option Nat)} {a3 : Int32} {H H1 : xH} {r1 : Int64} (h : F_X5_worthOf N a0 a1 a2 a3 H = some (r1, H1)) : xM yX5_worthOf cX5_worthOf 13 (some .long) 4 [.inr (.inr a0), .inr (.inr a1), .inr (.inr a2), .inl a3] H (some (.long r1)) H1 :=
  xM_of (by decide +kernel) (xT_tb 922 (by decide +kernel) (by decide +kernel)) (by simp [xargs, x2]) rfl (P_X5_worthOf rfl a0 a1 a2 a3 H h)
/-! BettingBook$RowTable.init()V -/
noncomputable def F_X6_init (N : Nat) (a0 : (Option Nat)) (H : xH) : Option xH :=
  (a0).bind fun b1 =>
  (xnJ H (0 : Int32)).bind fun H2 =>
  (xpA H2 a0 6 5 (some H.2.1)).bind fun H3 =>
  (xnI .byte H3 (0 : Int32)).bind fun H4 =>
  (xpA H4 a0 6 6 (some H3.2.1)).bind fun H5 =>
  (xnI .int H5 (5 : Int32)).bind fun H6 =>
  (xpA H6 a0 6 7 (some H5.2.1)).bind fun H7 =>
  (xnI .int H7 (5 : Int32)).bind fun H8 =>
  (xpA H8 a0 6 8 (some H7.2.1)).bind fun H9 =>
  some H9
set_option maxRecDepth 20000 in
set_option maxHeartbeats 4000000 in
theorem P_X6_init {N : Nat} {Z : xZ} {Hf : xH} (hZ : Z = xZm cX6_init yX6_init 1 2 none none Hf) : ∀ (a0 : (Option Nat)) (H : xH), F_X6_init N a0 H = some Hf → xWq Z H 0 [xA a0] [] := by
  have hz : Z.1 = (cX6_init, yX6_init, 1) := by rw [hZ]; rfl
  have hδ : Z.2.1 = 2 := by rw [hZ]; rfl
  intro a0 H h
  unfold F_X6_init at h
  refine x_aload_n hz dX6_init_0 rfl ?_
  obtain ⟨b1, e_b1, h⟩ := x_bnd h
  refine x_objInit e_b1 hz (by omega) (by decide) ol_X6_3 oi_1 oi_2 dX6_init_1 ?_
  refine x_aload_n hz dX6_init_4 rfl ?_
  refine x_iconst (v := (0 : Int32)) hz dX6_init_5 (by decide) ?_
  obtain ⟨H2, e_H2, h⟩ := x_bnd h
  refine x_newJ aw_long hz dX6_init_6 e_H2 ?_
  obtain ⟨H3, e_H3, h⟩ := x_bnd h
  refine x_putV (v := va_rf (some H.2.1)) hz dX6_init_8 fs_X6_9 (x_nra _ _) (x_fta _ _) e_H3 ?_
  refine x_aload_n hz dX6_init_11 rfl ?_
  refine x_iconst (v := (0 : Int32)) hz dX6_init_12 (by decide) ?_
  obtain ⟨H4, e_H4, h⟩ := x_bnd h
  refine x_newB aw_byte hz dX6_init_13 e_H4 ?_
  obtain ⟨H5, e_H5, h⟩ := x_bnd h
  refine x_putV (v := va_rf (some H3.2.1)) hz dX6_init_15 fs_X6_15 (x_nra _ _) (x_fta _ _) e_H5 ?_
  refine x_aload_n hz dX6_init_18 rfl ?_
  refine x_iconst (v := (5 : Int32)) hz dX6_init_19 (by decide) ?_
  obtain ⟨H6, e_H6, h⟩ := x_bnd h
  refine x_newI aw_int hz dX6_init_20 e_H6 ?_
  obtain ⟨H7, e_H7, h⟩ := x_bnd h
  refine x_putF (v := va_rf (some H5.2.1)) hz rfl dX6_init_22 fs_X6_19F (x_nra _ _) (x_fta _ _) e_H7 ?_
  refine x_aload_n hz dX6_init_25 rfl ?_
  refine x_iconst (v := (5 : Int32)) hz dX6_init_26 (by decide) ?_
  obtain ⟨H8, e_H8, h⟩ := x_bnd h
  refine x_newI aw_int hz dX6_init_27 e_H8 ?_
  obtain ⟨H9, e_H9, h⟩ := x_bnd h
  refine x_putF (v := va_rf (some H7.2.1)) hz rfl dX6_init_29 fs_X6_23F (x_nra _ _) (x_fta _ _) e_H9 ?_
  cases h
  exact x_vret hZ dX6_init_32
theorem M_X6_init {N : Nat} {a0 : (Option Nat)} {H H1 : xH} (h : F_X6_init N a0 H = some H1) : xM yX6_init cX6_init 1 none 2 [.inr (.inr a0)] H none H1 :=
  xM_of (by decide +kernel) (xT_tb 117 (by decide +kernel) (by decide +kernel)) (by simp [xargs, x2]) rfl (P_X6_init rfl a0 H h)
/-! BettingBook.power(II)I -/
noncomputable def F_X11_power_J4 (N : Nat) (k4 : Int32 → Int32 → Int32 → Int32 → xH → Option (Int32 × xH)) (x0 : Int32) (x1 : Int32) (x2 : Int32) (x3 : Int32) (H : xH) : Option (Int32 × xH) :=
  if x1 ≤ x3 then (some (x2, H)) else (k4 x0 x1 (x2 * x0) (x3 + 1) H)
set_option maxRecDepth 20000 in
set_option maxHeartbeats 4000000 in
theorem P_X11_power_J4 {N : Nat} {Z : xZ} {rv : Int32} {Hf : xH} (hZ : Z = xZm cX11_power yX11_power 4 1 (some .int) (some (.int rv)) Hf) {k4 : Int32 → Int32 → Int32 → Int32 → xH → Option (Int32 × xH)} (hk4 : ∀ (x0 : Int32) (x1 : Int32) (x2 : Int32) (x3 : Int32) (H : xH), k4 x0 x1 x2 x3 H = some (rv, Hf) → xWq Z H 4 [xI x0, xI x1, xI x2, xI x3] []) : ∀ (x0 : Int32) (x1 : Int32) (x2 : Int32) (x3 : Int32) (H : xH), F_X11_power_J4 N k4 x0 x1 x2 x3 H = some (rv, Hf) → xWq Z H 4 [xI x0, xI x1, xI x2, xI x3] [] := by
  have hz : Z.1 = (cX11_power, yX11_power, 4) := by rw [hZ]; rfl
  have hδ : Z.2.1 = 1 := by rw [hZ]; rfl
  intro x0 x1 x2 x3 H h
  unfold F_X11_power_J4 at h
  refine x_iload_n hz dX11_power_4 rfl ?_
  refine x_iload_n hz dX11_power_5 rfl ?_
  refine x_icmp_ge (t := 19) hz dX11_power_6 (by decide) (fun c1 => ?_) (fun c1 => ?_)
  · replace h := x_ip c1 h
    refine x_iload_n hz dX11_power_19 rfl ?_
    cases h
    exact x_iret hZ dX11_power_20
  · replace h := x_in c1 h
    refine x_iload_n hz dX11_power_9 rfl ?_
    refine x_iload_n hz dX11_power_10 rfl ?_
    refine x_imul hz dX11_power_11 ?_
    refine x_istore_n (pl' := [xI x0, xI x1, xI (x2 * x0), xI x3]) hz dX11_power_12 (by decide) rfl ?_
    refine x_iinc (w := (x3 + 1)) (pl' := [xI x0, xI x1, xI (x2 * x0), xI (x3 + 1)]) hz dX11_power_13 rfl rfl (by decide) rfl ?_
    refine x_goto (t := 4) hz dX11_power_16 (by decide) ?_
    exact x_wk (xwk_c (xwk_c (xwk_c (xwk_c xwk_0)))) (hk4 x0 x1 (x2 * x0) (x3 + 1) H h)
noncomputable def F_X11_power_L4 (N : Nat) : Nat → Int32 → Int32 → Int32 → Int32 → xH → Option (Int32 × xH)
  | 0 => fun _ _ _ _ _ => none
  | n + 1 => F_X11_power_J4 N (F_X11_power_L4 N n)
theorem P_X11_power_L4 {N : Nat} {Z : xZ} {rv : Int32} {Hf : xH} (hZ : Z = xZm cX11_power yX11_power 4 1 (some .int) (some (.int rv)) Hf) : ∀ (n : Nat) (x0 : Int32) (x1 : Int32) (x2 : Int32) (x3 : Int32) (H : xH), F_X11_power_L4 N n x0 x1 x2 x3 H = some (rv, Hf) → xWq Z H 4 [xI x0, xI x1, xI x2, xI x3] [] := by
  intro n
  induction n with
  | zero => intro _ _ _ _ _ h; cases h
  | succ n ih => exact P_X11_power_J4 hZ ih
noncomputable def F_X11_power (N : Nat) (a0 : Int32) (a1 : Int32) (H : xH) : Option (Int32 × xH) :=
  (F_X11_power_L4 N N) a0 a1 (1 : Int32) (0 : Int32) H
set_option maxRecDepth 20000 in
set_option maxHeartbeats 4000000 in
theorem P_X11_power {N : Nat} {Z : xZ} {rv : Int32} {Hf : xH} (hZ : Z = xZm cX11_power yX11_power 4 1 (some .int) (some (.int rv)) Hf) : ∀ (a0 : Int32) (a1 : Int32) (H : xH), F_X11_power N a0 a1 H = some (rv, Hf) → xWq Z H 0 [xI a0, xI a1, xN, xN] [] := by
  have hz : Z.1 = (cX11_power, yX11_power, 4) := by rw [hZ]; rfl
  have hδ : Z.2.1 = 1 := by rw [hZ]; rfl
  intro a0 a1 H h
  unfold F_X11_power at h
  refine x_iconst (v := (1 : Int32)) hz dX11_power_0 (by decide) ?_
  refine x_istore_n (pl' := [xI a0, xI a1, xI (1 : Int32), xN]) hz dX11_power_1 (by decide) rfl ?_
  refine x_iconst (v := (0 : Int32)) hz dX11_power_2 (by decide) ?_
  refine x_istore_n (pl' := [xI a0, xI a1, xI (1 : Int32), xI (0 : Int32)]) hz dX11_power_3 (by decide) rfl ?_
  exact x_wk (xwk_c (xwk_c (xwk_c (xwk_c xwk_0)))) ((P_X11_power_L4 hZ N) a0 a1 (1 : Int32) (0 : Int32) H h)
theorem M_X11_power {N : Nat} {a0 : Int32} {a1 : Int32} {H H1 : xH} {r1 : Int32} (h : F_X11_power N a0 a1 H = some (r1, H1)) : xM yX11_power cX11_power 4 (some .int) 1 [.inl a0, .inl a1] H (some (.int r1)) H1 :=
  xM_of (by decide +kernel) (xT_tb 239 (by decide +kernel) (by decide +kernel)) (by simp [xargs, x2]) rfl (P_X11_power rfl a0 a1 H h)
/-! BettingBook$RowTable.stepDigits()V -/
noncomputable def F_X6_stepDigits_J2 (N : Nat) (k2 : (Option Nat) → Int32 → xH → Option xH) (x0 : (Option Nat)) (x1 : Int32) (H : xH) : Option xH :=
  (xgA H x0 6 7).bind fun v1 =>
  (xal .int H v1).bind fun v2 =>
  if v2 ≤ x1 then (some H) else ((xgA H x0 6 7).bind fun v4 =>
  (xlI .int H v4 x1).bind fun v5 =>
  (xsI .int H v4 x1 (v5 + (1 : Int32))).bind fun H6 =>
  (xgA H6 x0 6 7).bind fun v7 =>
  (xlI .int H6 v7 x1).bind fun v8 =>
  if (9 : Int32) ≤ v8 then ((xgA H6 x0 6 7).bind fun v10 =>
  (xsI .int H6 v10 x1 (0 : Int32)).bind fun H11 =>
  k2 x0 (x1 + 1) H11) else (some H6))
set_option maxRecDepth 20000 in
set_option maxHeartbeats 4000000 in
theorem P_X6_stepDigits_J2 {N : Nat} {Z : xZ} {Hf : xH} (hZ : Z = xZm cX6_stepDigits yX6_stepDigits 2 1 none none Hf) {k2 : (Option Nat) → Int32 → xH → Option xH} (hk2 : ∀ (x0 : (Option Nat)) (x1 : Int32) (H : xH), k2 x0 x1 H = some Hf → xWq Z H 2 [xA x0, xI x1] []) : ∀ (x0 : (Option Nat)) (x1 : Int32) (H : xH), F_X6_stepDigits_J2 N k2 x0 x1 H = some Hf → xWq Z H 2 [xA x0, xI x1] [] := by
  have hz : Z.1 = (cX6_stepDigits, yX6_stepDigits, 2) := by rw [hZ]; rfl
  have hδ : Z.2.1 = 1 := by rw [hZ]; rfl
  intro x0 x1 H h
  unfold F_X6_stepDigits_J2 at h
  refine x_iload_n hz dX6_stepDigits_2 rfl ?_
  refine x_aload_n hz dX6_stepDigits_3 rfl ?_
  obtain ⟨v1, e_v1, h⟩ := x_bnd h
  refine x_getA hz dX6_stepDigits_4 fs_X6_19 e_v1 ?_
  obtain ⟨v2, e_v2, h⟩ := x_bnd h
  refine x_alen (t0 := 0) (fun _ => rfl) hz dX6_stepDigits_7 e_v2 ?_
  refine x_icmp_ge (t := 46) hz dX6_stepDigits_8 (by decide) (fun c3 => ?_) (fun c3 => ?_)
  · replace h := x_ip c3 h
    cases h
    exact x_vret hZ dX6_stepDigits_46
  · replace h := x_in c3 h
    refine x_aload_n hz dX6_stepDigits_11 rfl ?_
    obtain ⟨v4, e_v4, h⟩ := x_bnd h
    refine x_getA hz dX6_stepDigits_12 fs_X6_19 e_v4 ?_
    refine x_iload_n hz dX6_stepDigits_15 rfl ?_
    refine x_dup2 hz dX6_stepDigits_16 rfl (x_rfc _) ?_
    obtain ⟨v5, e_v5, h⟩ := x_bnd h
    refine x_iald hz dX6_stepDigits_17 e_v5 ?_
    refine x_iconst (v := (1 : Int32)) hz dX6_stepDigits_18 (by decide) ?_
    refine x_iadd hz dX6_stepDigits_19 ?_
    obtain ⟨H6, e_H6, h⟩ := x_bnd h
    refine x_iast hz dX6_stepDigits_20 e_H6 ?_
    refine x_aload_n hz dX6_stepDigits_21 rfl ?_
    obtain ⟨v7, e_v7, h⟩ := x_bnd h
    refine x_getA hz dX6_stepDigits_22 fs_X6_19 e_v7 ?_
    refine x_iload_n hz dX6_stepDigits_25 rfl ?_
    obtain ⟨v8, e_v8, h⟩ := x_bnd h
    refine x_iald hz dX6_stepDigits_26 e_v8 ?_
    refine x_bipush (v := (9 : Int32)) hz dX6_stepDigits_27 (by decide) ?_
    refine x_icmp_ge (t := 33) hz dX6_stepDigits_29 (by decide) (fun c9 => ?_) (fun c9 => ?_)
    · replace h := x_ip c9 h
      refine x_aload_n hz dX6_stepDigits_33 rfl ?_
      obtain ⟨v10, e_v10, h⟩ := x_bnd h
      refine x_getA hz dX6_stepDigits_34 fs_X6_19 e_v10 ?_
      refine x_iload_n hz dX6_stepDigits_37 rfl ?_
      refine x_iconst (v := (0 : Int32)) hz dX6_stepDigits_38 (by decide) ?_
      obtain ⟨H11, e_H11, h⟩ := x_bnd h
      refine x_iast hz dX6_stepDigits_39 e_H11 ?_
      refine x_iinc (w := (x1 + 1)) (pl' := [xA x0, xI (x1 + 1)]) hz dX6_stepDigits_40 rfl rfl (by decide) rfl ?_
      refine x_goto (t := 2) hz dX6_stepDigits_43 (by decide) ?_
      exact x_wk (xwk_c (xwk_c xwk_0)) (hk2 x0 (x1 + 1) H11 h)
    · replace h := x_in c9 h
      cases h
      exact x_vret hZ dX6_stepDigits_32
noncomputable def F_X6_stepDigits_L2 (N : Nat) : Nat → (Option Nat) → Int32 → xH → Option xH
  | 0 => fun _ _ _ => none
  | n + 1 => F_X6_stepDigits_J2 N (F_X6_stepDigits_L2 N n)
theorem P_X6_stepDigits_L2 {N : Nat} {Z : xZ} {Hf : xH} (hZ : Z = xZm cX6_stepDigits yX6_stepDigits 2 1 none none Hf) : ∀ (n : Nat) (x0 : (Option Nat)) (x1 : Int32) (H : xH), F_X6_stepDigits_L2 N n x0 x1 H = some Hf → xWq Z H 2 [xA x0, xI x1] [] := by
  intro n
  induction n with
  | zero => intro _ _ _ h; cases h
  | succ n ih => exact P_X6_stepDigits_J2 hZ ih
noncomputable def F_X6_stepDigits (N : Nat) (a0 : (Option Nat)) (H : xH) : Option xH :=
  (F_X6_stepDigits_L2 N N) a0 (0 : Int32) H
set_option maxRecDepth 20000 in
set_option maxHeartbeats 4000000 in
theorem P_X6_stepDigits {N : Nat} {Z : xZ} {Hf : xH} (hZ : Z = xZm cX6_stepDigits yX6_stepDigits 2 1 none none Hf) : ∀ (a0 : (Option Nat)) (H : xH), F_X6_stepDigits N a0 H = some Hf → xWq Z H 0 [xA a0, xN] [] := by
  have hz : Z.1 = (cX6_stepDigits, yX6_stepDigits, 2) := by rw [hZ]; rfl
  have hδ : Z.2.1 = 1 := by rw [hZ]; rfl
  intro a0 H h
  unfold F_X6_stepDigits at h
  refine x_iconst (v := (0 : Int32)) hz dX6_stepDigits_0 (by decide) ?_
  refine x_istore_n (pl' := [xA a0, xI (0 : Int32)]) hz dX6_stepDigits_1 (by decide) rfl ?_
  exact x_wk (xwk_c (xwk_c xwk_0)) ((P_X6_stepDigits_L2 hZ N) a0 (0 : Int32) H h)
theorem M_X6_stepDigits {N : Nat} {a0 : (Option Nat)} {H H1 : xH} (h : F_X6_stepDigits N a0 H = some H1) : xM yX6_stepDigits cX6_stepDigits 2 none 1 [.inr (.inr a0)] H none H1 :=
  xM_of (by decide +kernel) (xT_tb 285 (by decide +kernel) (by decide +kernel)) (by simp [xargs, x2]) rfl (P_X6_stepDigits rfl a0 H h)
/-! BettingBook$RowTable.fill(LBettingBook$Club;)V -/
noncomputable def F_X6_fill_J134 (N : Nat) (k78 : (Option Nat) → (Option Nat) → Int32 → xH → Option xH) (x0 : (Option Nat)) (x1 : (Option Nat)) (x2 : Int32) (H : xH) : Option xH :=
  (xob H x0 6).bind fun b2 =>
  (F_X6_stepDigits N x0 H).bind fun H1 =>
  k78 x0 x1 (x2 + 1) H1
set_option maxRecDepth 20000 in
set_option maxHeartbeats 4000000 in
theorem P_X6_fill_J134 {N : Nat} {Z : xZ} {Hf : xH} (hZ : Z = xZm cX6_fill yX6_fill 3 50 none none Hf) {k78 : (Option Nat) → (Option Nat) → Int32 → xH → Option xH} (hk78 : ∀ (x0 : (Option Nat)) (x1 : (Option Nat)) (x2 : Int32) (H : xH), k78 x0 x1 x2 H = some Hf → xWq Z H 78 [xA x0, xA x1, xI x2] []) : ∀ (x0 : (Option Nat)) (x1 : (Option Nat)) (x2 : Int32) (H : xH), F_X6_fill_J134 N k78 x0 x1 x2 H = some Hf → xWq Z H 134 [xA x0, xA x1, xI x2] [] := by
  have hz : Z.1 = (cX6_fill, yX6_fill, 3) := by rw [hZ]; rfl
  have hδ : Z.2.1 = 50 := by rw [hZ]; rfl
  intro x0 x1 x2 H h
  unfold F_X6_fill_J134 at h
  refine x_aload_n hz dX6_fill_134 rfl ?_
  obtain ⟨b2, e_b2, h⟩ := x_bnd h
  obtain ⟨H1, e_H1, h⟩ := x_bnd h
  refine x_callVv (as := []) (st := []) cs_X6_55 (ci := 6) ⟨rfl, rfl⟩ rfl rfl hz (by omega) (by decide) dX6_fill_135 e_b2 (M_X6_stepDigits e_H1) ?_
  refine x_iinc (w := (x2 + 1)) (pl' := [xA x0, xA x1, xI (x2 + 1)]) hz dX6_fill_138 rfl rfl (by decide) rfl ?_
  refine x_goto (t := 78) hz dX6_fill_141 (by decide) ?_
  exact x_wk (xwk_c (xwk_c (xwk_c xwk_0))) (hk78 x0 x1 (x2 + 1) H1 h)
noncomputable def F_X6_fill_J78 (N : Nat) (k78 : (Option Nat) → (Option Nat) → Int32 → xH → Option xH) (x0 : (Option Nat)) (x1 : (Option Nat)) (x2 : Int32) (H : xH) : Option xH :=
  (xgI H x0 6 1).bind fun v1 =>
  if v1 ≤ x2 then (some H) else ((xgA H x0 6 5).bind fun v3 =>
  (xal .long H v3).bind fun v4 =>
  if v4 ≤ x2 then (some H) else ((xgA H x0 6 5).bind fun v6 =>
  (xgA H x0 6 7).bind fun v7 =>
  (xob H x1 2).bind fun b9 =>
  x_bd2 (F_X2_cellOf N x1 v7 H) fun v10 H8 =>
  (xsJ H8 v6 x2 v10).bind fun H11 =>
  (xgA H11 x0 6 5).bind fun v12 =>
  (xlJ H11 v12 x2).bind fun v13 =>
  if (lg_cmp (v13 &&& (2305843009213693952 : Int64)) (0 : Int64)) = 0 then ((F_X6_fill_J134 N k78) x0 x1 x2 H11) else ((xgI H11 x0 6 2).bind fun v15 =>
  (xpI H11 x0 6 2 (v15 + (1 : Int32))).bind fun H16 =>
  (F_X6_fill_J134 N k78) x0 x1 x2 H16)))
set_option maxRecDepth 20000 in
set_option maxHeartbeats 4000000 in
theorem P_X6_fill_J78 {N : Nat} {Z : xZ} {Hf : xH} (hZ : Z = xZm cX6_fill yX6_fill 3 50 none none Hf) {k78 : (Option Nat) → (Option Nat) → Int32 → xH → Option xH} (hk78 : ∀ (x0 : (Option Nat)) (x1 : (Option Nat)) (x2 : Int32) (H : xH), k78 x0 x1 x2 H = some Hf → xWq Z H 78 [xA x0, xA x1, xI x2] []) : ∀ (x0 : (Option Nat)) (x1 : (Option Nat)) (x2 : Int32) (H : xH), F_X6_fill_J78 N k78 x0 x1 x2 H = some Hf → xWq Z H 78 [xA x0, xA x1, xI x2] [] := by
  have hz : Z.1 = (cX6_fill, yX6_fill, 3) := by rw [hZ]; rfl
  have hδ : Z.2.1 = 50 := by rw [hZ]; rfl
  intro x0 x1 x2 H h
  unfold F_X6_fill_J78 at h
  refine x_iload_n hz dX6_fill_78 rfl ?_
  refine x_aload_n hz dX6_fill_79 rfl ?_
  obtain ⟨v1, e_v1, h⟩ := x_bnd h
  refine x_getI hz dX6_fill_80 fs_X6_37 e_v1 ?_
  refine x_icmp_ge (t := 144) hz dX6_fill_83 (by decide) (fun c2 => ?_) (fun c2 => ?_)
  · replace h := x_ip c2 h
    cases h
    exact x_vret hZ dX6_fill_144
  · replace h := x_in c2 h
    refine x_iload_n hz dX6_fill_86 rfl ?_
    refine x_aload_n hz dX6_fill_87 rfl ?_
    obtain ⟨v3, e_v3, h⟩ := x_bnd h
    refine x_getA hz dX6_fill_88 fs_X6_9 e_v3 ?_
    obtain ⟨v4, e_v4, h⟩ := x_bnd h
    refine x_alen (t0 := 1) (fun _ => rfl) hz dX6_fill_91 e_v4 ?_
    refine x_icmp_ge (t := 144) hz dX6_fill_92 (by decide) (fun c5 => ?_) (fun c5 => ?_)
    · replace h := x_ip c5 h
      cases h
      exact x_vret hZ dX6_fill_144
    · replace h := x_in c5 h
      refine x_aload_n hz dX6_fill_95 rfl ?_
      obtain ⟨v6, e_v6, h⟩ := x_bnd h
      refine x_getA hz dX6_fill_96 fs_X6_9 e_v6 ?_
      refine x_iload_n hz dX6_fill_99 rfl ?_
      refine x_aload_n hz dX6_fill_100 rfl ?_
      refine x_aload_n hz dX6_fill_101 rfl ?_
      obtain ⟨v7, e_v7, h⟩ := x_bnd h
      refine x_getA hz dX6_fill_102 fs_X6_19 e_v7 ?_
      obtain ⟨b9, e_b9, h⟩ := x_bnd h
      obtain ⟨v10, H8, e_H8, h⟩ := x_b2 h
      refine x_callVl (as := [.inr (.inr v7)]) (st := [.int x2, va_rf v6]) cs_X6_49 (ci := 2) ⟨rfl, rfl⟩ rfl rfl hz (by omega) (Nat.le_trans (x_sm1 rfl (x_sm1 (x_rfc _) x_sm0)) (by decide)) dX6_fill_105 e_b9 (M_X2_cellOf e_H8) ?_
      obtain ⟨H11, e_H11, h⟩ := x_bnd h
      refine x_last hz dX6_fill_108 e_H11 ?_
      refine x_aload_n hz dX6_fill_109 rfl ?_
      obtain ⟨v12, e_v12, h⟩ := x_bnd h
      refine x_getA hz dX6_fill_110 fs_X6_9 e_v12 ?_
      refine x_iload_n hz dX6_fill_113 rfl ?_
      obtain ⟨v13, e_v13, h⟩ := x_bnd h
      refine x_lald hz dX6_fill_114 e_v13 ?_
      refine x_ldc2 (v := (2305843009213693952 : Int64)) hz dX6_fill_115 wc_X6_53 ?_
      refine x_land hz dX6_fill_118 ?_
      refine x_lconst (v := (0 : Int64)) hz dX6_fill_119 (by decide) ?_
      refine x_lcmp hz dX6_fill_120 ?_
      refine x_if_eq (t := 134) hz dX6_fill_121 (by decide) (fun c14 => ?_) (fun c14 => ?_)
      · replace h := x_ip c14 h
        exact x_wk (xwk_c (xwk_c (xwk_c xwk_0))) ((P_X6_fill_J134 hZ hk78) x0 x1 x2 H11 h)
      · replace h := x_in c14 h
        refine x_aload_n hz dX6_fill_124 rfl ?_
        refine x_dup hz dX6_fill_125 (x_rfc _) ?_
        obtain ⟨v15, e_v15, h⟩ := x_bnd h
        refine x_getI hz dX6_fill_126 fs_X6_40 e_v15 ?_
        refine x_iconst (v := (1 : Int32)) hz dX6_fill_129 (by decide) ?_
        refine x_iadd hz dX6_fill_130 ?_
        obtain ⟨H16, e_H16, h⟩ := x_bnd h
        refine x_putV (v := .int (v15 + (1 : Int32))) hz dX6_fill_131 fs_X6_40 rfl rfl e_H16 ?_
        exact x_wk (xwk_c (xwk_c (xwk_c xwk_0))) ((P_X6_fill_J134 hZ hk78) x0 x1 x2 H16 h)
noncomputable def F_X6_fill_L78 (N : Nat) : Nat → (Option Nat) → (Option Nat) → Int32 → xH → Option xH
  | 0 => fun _ _ _ _ => none
  | n + 1 => F_X6_fill_J78 N (F_X6_fill_L78 N n)
theorem P_X6_fill_L78 {N : Nat} {Z : xZ} {Hf : xH} (hZ : Z = xZm cX6_fill yX6_fill 3 50 none none Hf) : ∀ (n : Nat) (x0 : (Option Nat)) (x1 : (Option Nat)) (x2 : Int32) (H : xH), F_X6_fill_L78 N n x0 x1 x2 H = some Hf → xWq Z H 78 [xA x0, xA x1, xI x2] [] := by
  intro n
  induction n with
  | zero => intro _ _ _ _ h; cases h
  | succ n ih => exact P_X6_fill_J78 hZ ih
noncomputable def F_X6_fill_J63 (N : Nat) (x0 : (Option Nat)) (x1 : (Option Nat)) (H : xH) : Option xH :=
  (xpI H x0 6 2 (0 : Int32)).bind fun H1 =>
  (xgA H1 x0 6 7).bind fun v2 =>
  (F_J7_fill_53178 N v2 (0 : Int32) H1).bind fun H3 =>
  (F_X6_fill_L78 N N) x0 x1 (0 : Int32) H3
set_option maxRecDepth 20000 in
set_option maxHeartbeats 4000000 in
theorem P_X6_fill_J63 {N : Nat} {Z : xZ} {Hf : xH} (hZ : Z = xZm cX6_fill yX6_fill 3 50 none none Hf) : ∀ (x0 : (Option Nat)) (x1 : (Option Nat)) (H : xH), F_X6_fill_J63 N x0 x1 H = some Hf → xWq Z H 63 [xA x0, xA x1, xN] [] := by
  have hz : Z.1 = (cX6_fill, yX6_fill, 3) := by rw [hZ]; rfl
  have hδ : Z.2.1 = 50 := by rw [hZ]; rfl
  intro x0 x1 H h
  unfold F_X6_fill_J63 at h
  refine x_aload_n hz dX6_fill_63 rfl ?_
  refine x_iconst (v := (0 : Int32)) hz dX6_fill_64 (by decide) ?_
  obtain ⟨H1, e_H1, h⟩ := x_bnd h
  refine x_putV (v := .int (0 : Int32)) hz dX6_fill_65 fs_X6_40 rfl rfl e_H1 ?_
  refine x_aload_n hz dX6_fill_68 rfl ?_
  obtain ⟨v2, e_v2, h⟩ := x_bnd h
  refine x_getA hz dX6_fill_69 fs_X6_19 e_v2 ?_
  refine x_iconst (v := (0 : Int32)) hz dX6_fill_72 (by decide) ?_
  obtain ⟨H3, e_H3, h⟩ := x_bnd h
  refine x_callSv (as := [.inr (.inr v2), .inl (0 : Int32)]) (st := []) cs_X6_43 rfl rfl hz (by omega) (by decide) dX6_fill_73 (M_J7_fill_53178 e_H3) ?_
  refine x_iconst (v := (0 : Int32)) hz dX6_fill_76 (by decide) ?_
  refine x_istore_n (pl' := [xA x0, xA x1, xI (0 : Int32)]) hz dX6_fill_77 (by decide) rfl ?_
  exact x_wk (xwk_c (xwk_c (xwk_c xwk_0))) ((P_X6_fill_L78 hZ N) x0 x1 (0 : Int32) H3 h)
noncomputable def F_X6_fill (N : Nat) (a0 : (Option Nat)) (a1 : (Option Nat)) (H : xH) : Option xH :=
  (xgI H a1 2 0).bind fun v1 =>
  (xpI H a0 6 0 v1).bind fun H2 =>
  (xgI H2 a0 6 0).bind fun v3 =>
  x_bd2 (F_X11_power N (9 : Int32) v3 H2) fun v5 H4 =>
  (xpI H4 a0 6 1 v5).bind fun H6 =>
  (xgA H6 a0 6 5).bind fun v7 =>
  (xal .long H6 v7).bind fun v8 =>
  (xgI H6 a0 6 1).bind fun v9 =>
  if v9 ≤ v8 then ((F_X6_fill_J63 N) a0 a1 H6) else ((xgI H6 a0 6 1).bind fun v11 =>
  (xnJ H6 v11).bind fun H12 =>
  (xpA H12 a0 6 5 (some H6.2.1)).bind fun H13 =>
  (xgI H13 a0 6 1).bind fun v14 =>
  (xgI H13 a0 6 1).bind fun v15 =>
  (xnI .byte H13 ((v14 + (v15 / (8 : Int32))) + (1 : Int32))).bind fun H16 =>
  (xpA H16 a0 6 6 (some H13.2.1)).bind fun H17 =>
  (F_X6_fill_J63 N) a0 a1 H17)
set_option maxRecDepth 20000 in
set_option maxHeartbeats 4000000 in
theorem P_X6_fill {N : Nat} {Z : xZ} {Hf : xH} (hZ : Z = xZm cX6_fill yX6_fill 3 50 none none Hf) : ∀ (a0 : (Option Nat)) (a1 : (Option Nat)) (H : xH), F_X6_fill N a0 a1 H = some Hf → xWq Z H 0 [xA a0, xA a1, xN] [] := by
  have hz : Z.1 = (cX6_fill, yX6_fill, 3) := by rw [hZ]; rfl
  have hδ : Z.2.1 = 50 := by rw [hZ]; rfl
  intro a0 a1 H h
  unfold F_X6_fill at h
  refine x_aload_n hz dX6_fill_0 rfl ?_
  refine x_aload_n hz dX6_fill_1 rfl ?_
  obtain ⟨v1, e_v1, h⟩ := x_bnd h
  refine x_getI hz dX6_fill_2 fs_X6_26 e_v1 ?_
  obtain ⟨H2, e_H2, h⟩ := x_bnd h
  refine x_putV (v := .int v1) hz dX6_fill_5 fs_X6_32 rfl rfl e_H2 ?_
  refine x_aload_n hz dX6_fill_8 rfl ?_
  refine x_bipush (v := (9 : Int32)) hz dX6_fill_9 (by decide) ?_
  refine x_aload_n hz dX6_fill_11 rfl ?_
  obtain ⟨v3, e_v3, h⟩ := x_bnd h
  refine x_getI hz dX6_fill_12 fs_X6_32 e_v3 ?_
  obtain ⟨v5, H4, e_H4, h⟩ := x_b2 h
  refine x_callSi (as := [.inl (9 : Int32), .inl v3]) (st := [va_rf a0]) cs_X6_33 rfl rfl hz (by omega) (Nat.le_trans (x_sm1 (x_rfc _) x_sm0) (by decide)) dX6_fill_15 (M_X11_power e_H4) ?_
  obtain ⟨H6, e_H6, h⟩ := x_bnd h
  refine x_putV (v := .int v5) hz dX6_fill_18 fs_X6_37 rfl rfl e_H6 ?_
  refine x_aload_n hz dX6_fill_21 rfl ?_
  obtain ⟨v7, e_v7, h⟩ := x_bnd h
  refine x_getA hz dX6_fill_22 fs_X6_9 e_v7 ?_
  obtain ⟨v8, e_v8, h⟩ := x_bnd h
  refine x_alen (t0 := 1) (fun _ => rfl) hz dX6_fill_25 e_v8 ?_
  refine x_aload_n hz dX6_fill_26 rfl ?_
  obtain ⟨v9, e_v9, h⟩ := x_bnd h
  refine x_getI hz dX6_fill_27 fs_X6_37 e_v9 ?_
  refine x_icmp_ge (t := 63) hz dX6_fill_30 (by decide) (fun c10 => ?_) (fun c10 => ?_)
  · replace h := x_ip c10 h
    exact x_wk (xwk_c (xwk_c (xwk_n xwk_0))) ((P_X6_fill_J63 hZ) a0 a1 H6 h)
  · replace h := x_in c10 h
    refine x_aload_n hz dX6_fill_33 rfl ?_
    refine x_aload_n hz dX6_fill_34 rfl ?_
    obtain ⟨v11, e_v11, h⟩ := x_bnd h
    refine x_getI hz dX6_fill_35 fs_X6_37 e_v11 ?_
    obtain ⟨H12, e_H12, h⟩ := x_bnd h
    refine x_newJ aw_long hz dX6_fill_38 e_H12 ?_
    obtain ⟨H13, e_H13, h⟩ := x_bnd h
    refine x_putV (v := va_rf (some H6.2.1)) hz dX6_fill_40 fs_X6_9 (x_nra _ _) (x_fta _ _) e_H13 ?_
    refine x_aload_n hz dX6_fill_43 rfl ?_
    refine x_aload_n hz dX6_fill_44 rfl ?_
    obtain ⟨v14, e_v14, h⟩ := x_bnd h
    refine x_getI hz dX6_fill_45 fs_X6_37 e_v14 ?_
    refine x_aload_n hz dX6_fill_48 rfl ?_
    obtain ⟨v15, e_v15, h⟩ := x_bnd h
    refine x_getI hz dX6_fill_49 fs_X6_37 e_v15 ?_
    refine x_bipush (v := (8 : Int32)) hz dX6_fill_52 (by decide) ?_
    refine x_idiv hz dX6_fill_54 (by decide) ?_
    refine x_iadd hz dX6_fill_55 ?_
    refine x_iconst (v := (1 : Int32)) hz dX6_fill_56 (by decide) ?_
    refine x_iadd hz dX6_fill_57 ?_
    obtain ⟨H16, e_H16, h⟩ := x_bnd h
    refine x_newB aw_byte hz dX6_fill_58 e_H16 ?_
    obtain ⟨H17, e_H17, h⟩ := x_bnd h
    refine x_putV (v := va_rf (some H13.2.1)) hz dX6_fill_60 fs_X6_15 (x_nra _ _) (x_fta _ _) e_H17 ?_
    exact x_wk (xwk_c (xwk_c (xwk_n xwk_0))) ((P_X6_fill_J63 hZ) a0 a1 H17 h)
theorem M_X6_fill {N : Nat} {a0 : (Option Nat)} {a1 : (Option Nat)} {H H1 : xH} (h : F_X6_fill N a0 a1 H = some H1) : xM yX6_fill cX6_fill 3 none 50 [.inr (.inr a0), .inr (.inr a1)] H none H1 :=
  xM_of (by decide +kernel) (xT_tb 236 (by decide +kernel) (by decide +kernel)) (by simp [xargs, x2]) rfl (P_X6_fill rfl a0 a1 H h)
/-! BettingBook$RowTable.areAllowed()Z -/
noncomputable def F_X6_areAllowed_J2 (N : Nat) (k2 : (Option Nat) → Int32 → xH → Option (Int32 × xH)) (x0 : (Option Nat)) (x1 : Int32) (H : xH) : Option (Int32 × xH) :=
  (xgI H x0 6 0).bind fun v1 =>
  if v1 ≤ x1 then (some ((1 : Int32), H)) else ((xgA H x0 6 8).bind fun v3 =>
  x_bd2 (F_X11_at N v3 x1 H) fun v5 H4 =>
  (xgA H4 x0 6 7).bind fun v6 =>
  x_bd2 (F_X11_at N v6 x1 H4) fun v8 H7 =>
  if ((v5 >>> (v8 &&& 31)) &&& (1 : Int32)) = 0 then (some ((0 : Int32), H7)) else (k2 x0 (x1 + 1) H7))
set_option maxRecDepth 20000 in
set_option maxHeartbeats 4000000 in
theorem P_X6_areAllowed_J2 {N : Nat} {Z : xZ} {rv : Int32} {Hf : xH} (hZ : Z = xZm cX6_areAllowed yX6_areAllowed 2 2 (some .boolean) (some (.int rv)) Hf) {k2 : (Option Nat) → Int32 → xH → Option (Int32 × xH)} (hk2 : ∀ (x0 : (Option Nat)) (x1 : Int32) (H : xH), k2 x0 x1 H = some (rv, Hf) → xWq Z H 2 [xA x0, xI x1] []) : ∀ (x0 : (Option Nat)) (x1 : Int32) (H : xH), F_X6_areAllowed_J2 N k2 x0 x1 H = some (rv, Hf) → xWq Z H 2 [xA x0, xI x1] [] := by
  have hz : Z.1 = (cX6_areAllowed, yX6_areAllowed, 2) := by rw [hZ]; rfl
  have hδ : Z.2.1 = 2 := by rw [hZ]; rfl
  intro x0 x1 H h
  unfold F_X6_areAllowed_J2 at h
  refine x_iload_n hz dX6_areAllowed_2 rfl ?_
  refine x_aload_n hz dX6_areAllowed_3 rfl ?_
  obtain ⟨v1, e_v1, h⟩ := x_bnd h
  refine x_getI hz dX6_areAllowed_4 fs_X6_32 e_v1 ?_
  refine x_icmp_ge (t := 40) hz dX6_areAllowed_7 (by decide) (fun c2 => ?_) (fun c2 => ?_)
  · replace h := x_ip c2 h
    refine x_iconst (v := (1 : Int32)) hz dX6_areAllowed_40 (by decide) ?_
    cases h
    exact x_zret01 hZ (Or.inr rfl) dX6_areAllowed_41
  · replace h := x_in c2 h
    refine x_aload_n hz dX6_areAllowed_10 rfl ?_
    obtain ⟨v3, e_v3, h⟩ := x_bnd h
    refine x_getA hz dX6_areAllowed_11 fs_X6_23 e_v3 ?_
    refine x_iload_n hz dX6_areAllowed_14 rfl ?_
    obtain ⟨v5, H4, e_H4, h⟩ := x_b2 h
    refine x_callSi (as := [.inr (.inr v3), .inl x1]) (st := []) cs_X6_142 rfl rfl hz (by omega) (by decide) dX6_areAllowed_15 (M_X11_at e_H4) ?_
    refine x_aload_n hz dX6_areAllowed_18 rfl ?_
    obtain ⟨v6, e_v6, h⟩ := x_bnd h
    refine x_getA hz dX6_areAllowed_19 fs_X6_19 e_v6 ?_
    refine x_iload_n hz dX6_areAllowed_22 rfl ?_
    obtain ⟨v8, H7, e_H7, h⟩ := x_b2 h
    refine x_callSi (as := [.inr (.inr v6), .inl x1]) (st := [.int v5]) cs_X6_142 rfl rfl hz (by omega) (Nat.le_trans (x_sm1 rfl x_sm0) (by decide)) dX6_areAllowed_23 (M_X11_at e_H7) ?_
    refine x_ishr hz dX6_areAllowed_26 ?_
    refine x_iconst (v := (1 : Int32)) hz dX6_areAllowed_27 (by decide) ?_
    refine x_iand hz dX6_areAllowed_28 ?_
    refine x_if_ne (t := 34) hz dX6_areAllowed_29 (by decide) (fun c9 => ?_) (fun c9 => ?_)
    · replace h := x_in c9 h
      refine x_iinc (w := (x1 + 1)) (pl' := [xA x0, xI (x1 + 1)]) hz dX6_areAllowed_34 rfl rfl (by decide) rfl ?_
      refine x_goto (t := 2) hz dX6_areAllowed_37 (by decide) ?_
      exact x_wk (xwk_c (xwk_c xwk_0)) (hk2 x0 (x1 + 1) H7 h)
    · replace h := x_ip c9 h
      refine x_iconst (v := (0 : Int32)) hz dX6_areAllowed_32 (by decide) ?_
      cases h
      exact x_zret01 hZ (Or.inl rfl) dX6_areAllowed_33
noncomputable def F_X6_areAllowed_L2 (N : Nat) : Nat → (Option Nat) → Int32 → xH → Option (Int32 × xH)
  | 0 => fun _ _ _ => none
  | n + 1 => F_X6_areAllowed_J2 N (F_X6_areAllowed_L2 N n)
theorem P_X6_areAllowed_L2 {N : Nat} {Z : xZ} {rv : Int32} {Hf : xH} (hZ : Z = xZm cX6_areAllowed yX6_areAllowed 2 2 (some .boolean) (some (.int rv)) Hf) : ∀ (n : Nat) (x0 : (Option Nat)) (x1 : Int32) (H : xH), F_X6_areAllowed_L2 N n x0 x1 H = some (rv, Hf) → xWq Z H 2 [xA x0, xI x1] [] := by
  intro n
  induction n with
  | zero => intro _ _ _ h; cases h
  | succ n ih => exact P_X6_areAllowed_J2 hZ ih
noncomputable def F_X6_areAllowed (N : Nat) (a0 : (Option Nat)) (H : xH) : Option (Int32 × xH) :=
  (F_X6_areAllowed_L2 N N) a0 (0 : Int32) H
set_option maxRecDepth 20000 in
set_option maxHeartbeats 4000000 in
theorem P_X6_areAllowed {N : Nat} {Z : xZ} {rv : Int32} {Hf : xH} (hZ : Z = xZm cX6_areAllowed yX6_areAllowed 2 2 (some .boolean) (some (.int rv)) Hf) : ∀ (a0 : (Option Nat)) (H : xH), F_X6_areAllowed N a0 H = some (rv, Hf) → xWq Z H 0 [xA a0, xN] [] := by
  have hz : Z.1 = (cX6_areAllowed, yX6_areAllowed, 2) := by rw [hZ]; rfl
  have hδ : Z.2.1 = 2 := by rw [hZ]; rfl
  intro a0 H h
  unfold F_X6_areAllowed at h
  refine x_iconst (v := (0 : Int32)) hz dX6_areAllowed_0 (by decide) ?_
  refine x_istore_n (pl' := [xA a0, xI (0 : Int32)]) hz dX6_areAllowed_1 (by decide) rfl ?_
  exact x_wk (xwk_c (xwk_c xwk_0)) ((P_X6_areAllowed_L2 hZ N) a0 (0 : Int32) H h)
theorem M_X6_areAllowed {N : Nat} {a0 : (Option Nat)} {H H1 : xH} {r1 : Int32} (h : F_X6_areAllowed N a0 H = some (r1, H1)) : xM yX6_areAllowed cX6_areAllowed 2 (some .boolean) 2 [.inr (.inr a0)] H (some (.int r1)) H1 :=
  xM_of (by decide +kernel) (xT_tb 302 (by decide +kernel) (by decide +kernel)) (by simp [xargs, x2]) rfl (P_X6_areAllowed rfl a0 H h)
/-! BettingBook.outcomeBits(JI)I -/
noncomputable def F_X11_outcomeBits (N : Nat) (a0 : Int64) (a2 : Int32) (H : xH) : Option (Int32 × xH) :=
  some ((((((a0.toUInt64 >>> (((5 : Int32) * a2).toInt64.toUInt64 &&& Int64.toUInt64 63)).toInt64)).toInt32) &&& (31 : Int32)), H)
set_option maxRecDepth 20000 in
set_option maxHeartbeats 4000000 in
theorem P_X11_outcomeBits {N : Nat} {Z : xZ} {rv : Int32} {Hf : xH} (hZ : Z = xZm cX11_outcomeBits yX11_outcomeBits 3 1 (some .int) (some (.int rv)) Hf) : ∀ (a0 : Int64) (a2 : Int32) (H : xH), F_X11_outcomeBits N a0 a2 H = some (rv, Hf) → xWq Z H 0 [xJ a0, xN, xI a2] [] := by
  have hz : Z.1 = (cX11_outcomeBits, yX11_outcomeBits, 3) := by rw [hZ]; rfl
  have hδ : Z.2.1 = 1 := by rw [hZ]; rfl
  intro a0 a2 H h
  unfold F_X11_outcomeBits at h
  refine x_lload_n hz dX11_outcomeBits_0 rfl ?_
  refine x_iconst (v := (5 : Int32)) hz dX11_outcomeBits_1 (by decide) ?_
  refine x_iload_n hz dX11_outcomeBits_2 rfl ?_
  refine x_imul hz dX11_outcomeBits_3 ?_
  refine x_lushr hz dX11_outcomeBits_4 ?_
  refine x_l2i hz dX11_outcomeBits_5 ?_
  refine x_bipush (v := (31 : Int32)) hz dX11_outcomeBits_6 (by decide) ?_
  refine x_iand hz dX11_outcomeBits_8 ?_
  cases h
  exact x_iret hZ dX11_outcomeBits_9
theorem M_X11_outcomeBits {N : Nat} {a0 : Int64} {a2 : Int32} {H H1 : xH} {r1 : Int32} (h : F_X11_outcomeBits N a0 a2 H = some (r1, H1)) : xM yX11_outcomeBits cX11_outcomeBits 3 (some .int) 1 [.inr (.inl a0), .inl a2] H (some (.int r1)) H1 :=
  xM_of (by decide +kernel) (xT_tb 310 (by decide +kernel) (by decide +kernel)) (by simp [xargs, x2]) rfl (P_X11_outcomeBits rfl a0 a2 H h)
/-! BettingBook$RowTable.isMixed(I)Z -/
noncomputable def F_X6_isMixed (N : Nat) (a0 : Int32) (H : xH) : Option (Int32 × xH) :=
  if (a0 &&& (a0 - (1 : Int32))) = 0 then (some ((0 : Int32), H)) else (some ((1 : Int32), H))
set_option maxRecDepth 20000 in
set_option maxHeartbeats 4000000 in
theorem P_X6_isMixed {N : Nat} {Z : xZ} {rv : Int32} {Hf : xH} (hZ : Z = xZm cX6_isMixed yX6_isMixed 1 1 (some .boolean) (some (.int rv)) Hf) : ∀ (a0 : Int32) (H : xH), F_X6_isMixed N a0 H = some (rv, Hf) → xWq Z H 0 [xI a0] [] := by
  have hz : Z.1 = (cX6_isMixed, yX6_isMixed, 1) := by rw [hZ]; rfl
  have hδ : Z.2.1 = 1 := by rw [hZ]; rfl
  intro a0 H h
  unfold F_X6_isMixed at h
  refine x_iload_n hz dX6_isMixed_0 rfl ?_
  refine x_iload_n hz dX6_isMixed_1 rfl ?_
  refine x_iconst (v := (1 : Int32)) hz dX6_isMixed_2 (by decide) ?_
  refine x_isub hz dX6_isMixed_3 ?_
  refine x_iand hz dX6_isMixed_4 ?_
  refine x_if_eq (t := 12) hz dX6_isMixed_5 (by decide) (fun c1 => ?_) (fun c1 => ?_)
  · replace h := x_ip c1 h
    refine x_iconst (v := (0 : Int32)) hz dX6_isMixed_12 (by decide) ?_
    cases h
    exact x_zret01 hZ (Or.inl rfl) dX6_isMixed_13
  · replace h := x_in c1 h
    refine x_iconst (v := (1 : Int32)) hz dX6_isMixed_8 (by decide) ?_
    refine x_goto (t := 13) hz dX6_isMixed_9 (by decide) ?_
    cases h
    exact x_zret01 hZ (Or.inr rfl) dX6_isMixed_13
theorem M_X6_isMixed {N : Nat} {a0 : Int32} {H H1 : xH} {r1 : Int32} (h : F_X6_isMixed N a0 H = some (r1, H1)) : xM yX6_isMixed cX6_isMixed 1 (some .boolean) 1 [.inl a0] H (some (.int r1)) H1 :=
  xM_of (by decide +kernel) (xT_tb 313 (by decide +kernel) (by decide +kernel)) (by simp [xargs, x2]) rfl (P_X6_isMixed rfl a0 H h)
/-! BettingBook$RowTable.singleOutcomes(J)J -/
noncomputable def F_X6_singleOutcomes_J39 (N : Nat) (k5 : Int64 → Int64 → Int32 → xH → Option (Int64 × xH)) (x0 : Int64) (x2 : Int64) (x4 : Int32) (H : xH) : Option (Int64 × xH) :=
  k5 x0 x2 (x4 + 1) H
set_option maxRecDepth 20000 in
set_option maxHeartbeats 4000000 in
theorem P_X6_singleOutcomes_J39 {N : Nat} {Z : xZ} {rv : Int64} {Hf : xH} (hZ : Z = xZm cX6_singleOutcomes yX6_singleOutcomes 6 2 (some .long) (some (.long rv)) Hf) {k5 : Int64 → Int64 → Int32 → xH → Option (Int64 × xH)} (hk5 : ∀ (x0 : Int64) (x2 : Int64) (x4 : Int32) (H : xH), k5 x0 x2 x4 H = some (rv, Hf) → xWq Z H 5 [xJ x0, xN, xJ x2, xN, xI x4, xN] []) : ∀ (x0 : Int64) (x2 : Int64) (x4 : Int32) (H : xH), F_X6_singleOutcomes_J39 N k5 x0 x2 x4 H = some (rv, Hf) → xWq Z H 39 [xJ x0, xN, xJ x2, xN, xI x4, xN] [] := by
  have hz : Z.1 = (cX6_singleOutcomes, yX6_singleOutcomes, 6) := by rw [hZ]; rfl
  have hδ : Z.2.1 = 2 := by rw [hZ]; rfl
  intro x0 x2 x4 H h
  unfold F_X6_singleOutcomes_J39 at h
  refine x_iinc (w := (x4 + 1)) (pl' := [xJ x0, xN, xJ x2, xN, xI (x4 + 1), xN]) hz dX6_singleOutcomes_39 rfl rfl (by decide) rfl ?_
  refine x_goto (t := 5) hz dX6_singleOutcomes_42 (by decide) ?_
  exact x_wk (xwk_c (xwk_n (xwk_c (xwk_n (xwk_c (xwk_n xwk_0)))))) (hk5 x0 x2 (x4 + 1) H h)
noncomputable def F_X6_singleOutcomes_J5 (N : Nat) (k5 : Int64 → Int64 → Int32 → xH → Option (Int64 × xH)) (x0 : Int64) (x2 : Int64) (x4 : Int32) (H : xH) : Option (Int64 × xH) :=
  if (12 : Int32) ≤ x4 then (some (x2, H)) else (x_bd2 (F_X11_outcomeBits N x0 x4 H) fun v3 H2 =>
  x_bd2 (F_X6_isMixed N v3 H2) fun v5 H4 =>
  if v5 = 0 then ((F_X6_singleOutcomes_J39 N k5) x0 (x2 ||| (((v3).toInt64) <<< (((5 : Int32) * x4).toInt64 &&& 63))) x4 H4) else ((F_X6_singleOutcomes_J39 N k5) x0 x2 x4 H4))
set_option maxRecDepth 20000 in
set_option maxHeartbeats 4000000 in
theorem P_X6_singleOutcomes_J5 {N : Nat} {Z : xZ} {rv : Int64} {Hf : xH} (hZ : Z = xZm cX6_singleOutcomes yX6_singleOutcomes 6 2 (some .long) (some (.long rv)) Hf) {k5 : Int64 → Int64 → Int32 → xH → Option (Int64 × xH)} (hk5 : ∀ (x0 : Int64) (x2 : Int64) (x4 : Int32) (H : xH), k5 x0 x2 x4 H = some (rv, Hf) → xWq Z H 5 [xJ x0, xN, xJ x2, xN, xI x4, xN] []) : ∀ (x0 : Int64) (x2 : Int64) (x4 : Int32) (H : xH), F_X6_singleOutcomes_J5 N k5 x0 x2 x4 H = some (rv, Hf) → xWq Z H 5 [xJ x0, xN, xJ x2, xN, xI x4, xN] [] := by
  have hz : Z.1 = (cX6_singleOutcomes, yX6_singleOutcomes, 6) := by rw [hZ]; rfl
  have hδ : Z.2.1 = 2 := by rw [hZ]; rfl
  intro x0 x2 x4 H h
  unfold F_X6_singleOutcomes_J5 at h
  refine x_iload hz dX6_singleOutcomes_5 rfl ?_
  refine x_bipush (v := (12 : Int32)) hz dX6_singleOutcomes_7 (by decide) ?_
  refine x_icmp_ge (t := 45) hz dX6_singleOutcomes_9 (by decide) (fun c1 => ?_) (fun c1 => ?_)
  · replace h := x_ip c1 h
    refine x_lload_n hz dX6_singleOutcomes_45 rfl ?_
    cases h
    exact x_lret hZ dX6_singleOutcomes_46
  · replace h := x_in c1 h
    refine x_lload_n hz dX6_singleOutcomes_12 rfl ?_
    refine x_iload hz dX6_singleOutcomes_13 rfl ?_
    obtain ⟨v3, H2, e_H2, h⟩ := x_b2 h
    refine x_callSi (as := [.inr (.inl x0), .inl x4]) (st := []) cs_X6_87 rfl rfl hz (by omega) (by decide) dX6_singleOutcomes_15 (M_X11_outcomeBits e_H2) ?_
    refine x_istore (pl' := [xJ x0, xN, xJ x2, xN, xI x4, xI v3]) hz dX6_singleOutcomes_18 (by decide) rfl ?_
    refine x_iload hz dX6_singleOutcomes_20 rfl ?_
    obtain ⟨v5, H4, e_H4, h⟩ := x_b2 h
    refine x_callSi (as := [.inl v3]) (st := []) cs_X6_136 rfl rfl hz (by omega) (by decide) dX6_singleOutcomes_22 (M_X6_isMixed e_H4) ?_
    refine x_if_ne (t := 39) hz dX6_singleOutcomes_25 (by decide) (fun c6 => ?_) (fun c6 => ?_)
    · replace h := x_in c6 h
      exact x_wk (xwk_c (xwk_n (xwk_c (xwk_n (xwk_c (xwk_n xwk_0)))))) ((P_X6_singleOutcomes_J39 hZ hk5) x0 x2 x4 H4 h)
    · replace h := x_ip c6 h
      refine x_lload_n hz dX6_singleOutcomes_28 rfl ?_
      refine x_iload hz dX6_singleOutcomes_29 rfl ?_
      refine x_i2l hz dX6_singleOutcomes_31 ?_
      refine x_iconst (v := (5 : Int32)) hz dX6_singleOutcomes_32 (by decide) ?_
      refine x_iload hz dX6_singleOutcomes_33 rfl ?_
      refine x_imul hz dX6_singleOutcomes_35 ?_
      refine x_lshl hz dX6_singleOutcomes_36 ?_
      refine x_lor hz dX6_singleOutcomes_37 ?_
      refine x_lstore_n (pl' := [xJ x0, xN, xJ (x2 ||| (((v3).toInt64) <<< (((5 : Int32) * x4).toInt64 &&& 63))), xN, xI x4, xI v3]) hz dX6_singleOutcomes_38 (by decide) rfl ?_
      exact x_wk (xwk_c (xwk_n (xwk_c (xwk_n (xwk_c (xwk_n xwk_0)))))) ((P_X6_singleOutcomes_J39 hZ hk5) x0 (x2 ||| (((v3).toInt64) <<< (((5 : Int32) * x4).toInt64 &&& 63))) x4 H4 h)
noncomputable def F_X6_singleOutcomes_L5 (N : Nat) : Nat → Int64 → Int64 → Int32 → xH → Option (Int64 × xH)
  | 0 => fun _ _ _ _ => none
  | n + 1 => F_X6_singleOutcomes_J5 N (F_X6_singleOutcomes_L5 N n)
theorem P_X6_singleOutcomes_L5 {N : Nat} {Z : xZ} {rv : Int64} {Hf : xH} (hZ : Z = xZm cX6_singleOutcomes yX6_singleOutcomes 6 2 (some .long) (some (.long rv)) Hf) : ∀ (n : Nat) (x0 : Int64) (x2 : Int64) (x4 : Int32) (H : xH), F_X6_singleOutcomes_L5 N n x0 x2 x4 H = some (rv, Hf) → xWq Z H 5 [xJ x0, xN, xJ x2, xN, xI x4, xN] [] := by
  intro n
  induction n with
  | zero => intro _ _ _ _ h; cases h
  | succ n ih => exact P_X6_singleOutcomes_J5 hZ ih
noncomputable def F_X6_singleOutcomes (N : Nat) (a0 : Int64) (H : xH) : Option (Int64 × xH) :=
  (F_X6_singleOutcomes_L5 N N) a0 (0 : Int64) (0 : Int32) H
set_option maxRecDepth 20000 in
set_option maxHeartbeats 4000000 in
theorem P_X6_singleOutcomes {N : Nat} {Z : xZ} {rv : Int64} {Hf : xH} (hZ : Z = xZm cX6_singleOutcomes yX6_singleOutcomes 6 2 (some .long) (some (.long rv)) Hf) : ∀ (a0 : Int64) (H : xH), F_X6_singleOutcomes N a0 H = some (rv, Hf) → xWq Z H 0 [xJ a0, xN, xN, xN, xN, xN] [] := by
  have hz : Z.1 = (cX6_singleOutcomes, yX6_singleOutcomes, 6) := by rw [hZ]; rfl
  have hδ : Z.2.1 = 2 := by rw [hZ]; rfl
  intro a0 H h
  unfold F_X6_singleOutcomes at h
  refine x_lconst (v := (0 : Int64)) hz dX6_singleOutcomes_0 (by decide) ?_
  refine x_lstore_n (pl' := [xJ a0, xN, xJ (0 : Int64), xN, xN, xN]) hz dX6_singleOutcomes_1 (by decide) rfl ?_
  refine x_iconst (v := (0 : Int32)) hz dX6_singleOutcomes_2 (by decide) ?_
  refine x_istore (pl' := [xJ a0, xN, xJ (0 : Int64), xN, xI (0 : Int32), xN]) hz dX6_singleOutcomes_3 (by decide) rfl ?_
  exact x_wk (xwk_c (xwk_n (xwk_c (xwk_n (xwk_c (xwk_n xwk_0)))))) ((P_X6_singleOutcomes_L5 hZ N) a0 (0 : Int64) (0 : Int32) H h)
theorem M_X6_singleOutcomes {N : Nat} {a0 : Int64} {H H1 : xH} {r1 : Int64} (h : F_X6_singleOutcomes N a0 H = some (r1, H1)) : xM yX6_singleOutcomes cX6_singleOutcomes 6 (some .long) 2 [.inr (.inl a0)] H (some (.long r1)) H1 :=
  xM_of (by decide +kernel) (xT_tb 307 (by decide +kernel) (by decide +kernel)) (by simp [xargs, x2]) rfl (P_X6_singleOutcomes rfl a0 H h)
/-! BettingBook$RowTable.mark(LBettingBook$Ledger;)I -/
noncomputable def F_X6_mark_J2 (N : Nat) (k2 : (Option Nat) → (Option Nat) → Int32 → xH → Option (Int32 × xH)) (k29 : (Option Nat) → xH → Option (Int32 × xH)) (x0 : (Option Nat)) (x1 : (Option Nat)) (x2 : Int32) (H : xH) : Option (Int32 × xH) :=
  (xgI H x0 6 0).bind fun v1 =>
  if v1 ≤ x2 then (k29 x0 H) else ((xgA H x0 6 8).bind fun v3 =>
  (xob H x1 4).bind fun b5 =>
  x_bd2 (F_X4_allowedDigits N x1 x2 H) fun v6 H4 =>
  (F_X11_set N v3 x2 v6 H4).bind fun H7 =>
  k2 x0 x1 (x2 + 1) H7)
set_option maxRecDepth 20000 in
set_option maxHeartbeats 4000000 in
theorem P_X6_mark_J2 {N : Nat} {Z : xZ} {rv : Int32} {Hf : xH} (hZ : Z = xZm cX6_mark yX6_mark 7 3 (some .int) (some (.int rv)) Hf) {k2 : (Option Nat) → (Option Nat) → Int32 → xH → Option (Int32 × xH)} (hk2 : ∀ (x0 : (Option Nat)) (x1 : (Option Nat)) (x2 : Int32) (H : xH), k2 x0 x1 x2 H = some (rv, Hf) → xWq Z H 2 [xA x0, xA x1, xI x2, xN, xN, xN, xN] []) {k29 : (Option Nat) → xH → Option (Int32 × xH)} (hk29 : ∀ (x0 : (Option Nat)) (H : xH), k29 x0 H = some (rv, Hf) → xWq Z H 29 [xA x0, xN, xN, xN, xN, xN, xN] []) : ∀ (x0 : (Option Nat)) (x1 : (Option Nat)) (x2 : Int32) (H : xH), F_X6_mark_J2 N k2 k29 x0 x1 x2 H = some (rv, Hf) → xWq Z H 2 [xA x0, xA x1, xI x2, xN, xN, xN, xN] [] := by
  have hz : Z.1 = (cX6_mark, yX6_mark, 7) := by rw [hZ]; rfl
  have hδ : Z.2.1 = 3 := by rw [hZ]; rfl
  intro x0 x1 x2 H h
  unfold F_X6_mark_J2 at h
  refine x_iload_n hz dX6_mark_2 rfl ?_
  refine x_aload_n hz dX6_mark_3 rfl ?_
  obtain ⟨v1, e_v1, h⟩ := x_bnd h
  refine x_getI hz dX6_mark_4 fs_X6_32 e_v1 ?_
  refine x_icmp_ge (t := 29) hz dX6_mark_7 (by decide) (fun c2 => ?_) (fun c2 => ?_)
  · replace h := x_ip c2 h
    exact x_wk (xwk_c (xwk_n (xwk_n (xwk_n (xwk_n (xwk_n (xwk_n xwk_0))))))) (hk29 x0 H h)
  · replace h := x_in c2 h
    refine x_aload_n hz dX6_mark_10 rfl ?_
    obtain ⟨v3, e_v3, h⟩ := x_bnd h
    refine x_getA hz dX6_mark_11 fs_X6_23 e_v3 ?_
    refine x_iload_n hz dX6_mark_14 rfl ?_
    refine x_aload_n hz dX6_mark_15 rfl ?_
    refine x_iload_n hz dX6_mark_16 rfl ?_
    obtain ⟨b5, e_b5, h⟩ := x_bnd h
    obtain ⟨v6, H4, e_H4, h⟩ := x_b2 h
    refine x_callVi (as := [.inl x2]) (st := [.int x2, va_rf v3]) cs_X6_58 (ci := 4) ⟨rfl, rfl⟩ rfl rfl hz (by omega) (Nat.le_trans (x_sm1 rfl (x_sm1 (x_rfc _) x_sm0)) (by decide)) dX6_mark_17 e_b5 (M_X4_allowedDigits e_H4) ?_
    obtain ⟨H7, e_H7, h⟩ := x_bnd h
    refine x_callSv (as := [.inr (.inr v3), .inl x2, .inl v6]) (st := []) cs_X6_64 rfl rfl hz (by omega) (by decide) dX6_mark_20 (M_X11_set e_H7) ?_
    refine x_iinc (w := (x2 + 1)) (pl' := [xA x0, xA x1, xI (x2 + 1), xN, xN, xN, xN]) hz dX6_mark_23 rfl rfl (by decide) rfl ?_
    refine x_goto (t := 2) hz dX6_mark_26 (by decide) ?_
    exact x_wk (xwk_c (xwk_c (xwk_c (xwk_n (xwk_n (xwk_n (xwk_n xwk_0))))))) (hk2 x0 x1 (x2 + 1) H7 h)
noncomputable def F_X6_mark_L2 (N : Nat) (k29 : (Option Nat) → xH → Option (Int32 × xH)) : Nat → (Option Nat) → (Option Nat) → Int32 → xH → Option (Int32 × xH)
  | 0 => fun _ _ _ _ => none
  | n + 1 => F_X6_mark_J2 N (F_X6_mark_L2 N k29 n) k29
theorem P_X6_mark_L2 {N : Nat} {Z : xZ} {rv : Int32} {Hf : xH} (hZ : Z = xZm cX6_mark yX6_mark 7 3 (some .int) (some (.int rv)) Hf) {k29 : (Option Nat) → xH → Option (Int32 × xH)} (hk29 : ∀ (x0 : (Option Nat)) (H : xH), k29 x0 H = some (rv, Hf) → xWq Z H 29 [xA x0, xN, xN, xN, xN, xN, xN] []) : ∀ (n : Nat) (x0 : (Option Nat)) (x1 : (Option Nat)) (x2 : Int32) (H : xH), F_X6_mark_L2 N k29 n x0 x1 x2 H = some (rv, Hf) → xWq Z H 2 [xA x0, xA x1, xI x2, xN, xN, xN, xN] [] := by
  intro n
  induction n with
  | zero => intro _ _ _ _ h; cases h
  | succ n ih => exact P_X6_mark_J2 hZ ih hk29
noncomputable def F_X6_mark_J120 (N : Nat) (k47 : (Option Nat) → Int64 → Int32 → xH → Option (Int32 × xH)) (x0 : (Option Nat)) (x2 : Int64) (x4 : Int32) (x5 : Int64) (H : xH) : Option (Int32 × xH) :=
  (xgA H x0 6 5).bind fun v1 =>
  (xsJ H v1 x4 x5).bind fun H2 =>
  (xob H2 x0 6).bind fun b4 =>
  (F_X6_stepDigits N x0 H2).bind fun H3 =>
  k47 x0 x2 (x4 + 1) H3
set_option maxRecDepth 20000 in
set_option maxHeartbeats 4000000 in
theorem P_X6_mark_J120 {N : Nat} {Z : xZ} {rv : Int32} {Hf : xH} (hZ : Z = xZm cX6_mark yX6_mark 7 3 (some .int) (some (.int rv)) Hf) {k47 : (Option Nat) → Int64 → Int32 → xH → Option (Int32 × xH)} (hk47 : ∀ (x0 : (Option Nat)) (x2 : Int64) (x4 : Int32) (H : xH), k47 x0 x2 x4 H = some (rv, Hf) → xWq Z H 47 [xA x0, xN, xJ x2, xN, xI x4, xN, xN] []) : ∀ (x0 : (Option Nat)) (x2 : Int64) (x4 : Int32) (x5 : Int64) (H : xH), F_X6_mark_J120 N k47 x0 x2 x4 x5 H = some (rv, Hf) → xWq Z H 120 [xA x0, xN, xJ x2, xN, xI x4, xJ x5, xN] [] := by
  have hz : Z.1 = (cX6_mark, yX6_mark, 7) := by rw [hZ]; rfl
  have hδ : Z.2.1 = 3 := by rw [hZ]; rfl
  intro x0 x2 x4 x5 H h
  unfold F_X6_mark_J120 at h
  refine x_aload_n hz dX6_mark_120 rfl ?_
  obtain ⟨v1, e_v1, h⟩ := x_bnd h
  refine x_getA hz dX6_mark_121 fs_X6_9 e_v1 ?_
  refine x_iload hz dX6_mark_124 rfl ?_
  refine x_lload hz dX6_mark_126 rfl ?_
  obtain ⟨H2, e_H2, h⟩ := x_bnd h
  refine x_last hz dX6_mark_128 e_H2 ?_
  refine x_aload_n hz dX6_mark_129 rfl ?_
  obtain ⟨b4, e_b4, h⟩ := x_bnd h
  obtain ⟨H3, e_H3, h⟩ := x_bnd h
  refine x_callVv (as := []) (st := []) cs_X6_55 (ci := 6) ⟨rfl, rfl⟩ rfl rfl hz (by omega) (by decide) dX6_mark_130 e_b4 (M_X6_stepDigits e_H3) ?_
  refine x_iinc (w := (x4 + 1)) (pl' := [xA x0, xN, xJ x2, xN, xI (x4 + 1), xJ x5, xN]) hz dX6_mark_133 rfl rfl (by decide) rfl ?_
  refine x_goto (t := 47) hz dX6_mark_136 (by decide) ?_
  exact x_wk (xwk_c (xwk_n (xwk_c (xwk_n (xwk_c (xwk_n (xwk_n xwk_0))))))) (hk47 x0 x2 (x4 + 1) H3 h)
noncomputable def F_X6_mark_J47 (N : Nat) (k47 : (Option Nat) → Int64 → Int32 → xH → Option (Int32 × xH)) (k139 : (Option Nat) → Int64 → xH → Option (Int32 × xH)) (x0 : (Option Nat)) (x2 : Int64) (x4 : Int32) (H : xH) : Option (Int32 × xH) :=
  (xgI H x0 6 1).bind fun v1 =>
  if v1 ≤ x4 then (k139 x0 x2 H) else ((xgA H x0 6 5).bind fun v3 =>
  (xal .long H v3).bind fun v4 =>
  if v4 ≤ x4 then (k139 x0 x2 H) else ((xgA H x0 6 5).bind fun v6 =>
  (xlJ H v6 x4).bind fun v7 =>
  if (lg_cmp ((v7 &&& (-4611686018427387905 : Int64)) &&& (2305843009213693952 : Int64)) (0 : Int64)) = 0 then ((F_X6_mark_J120 N k47) x0 x2 x4 (v7 &&& (-4611686018427387905 : Int64)) H) else ((xob H x0 6).bind fun b10 =>
  x_bd2 (F_X6_areAllowed N x0 H) fun v11 H9 =>
  if v11 = 0 then ((F_X6_mark_J120 N k47) x0 x2 x4 (v7 &&& (-4611686018427387905 : Int64)) H9) else ((xgI H9 x0 6 3).bind fun v13 =>
  (xpI H9 x0 6 3 (v13 + (1 : Int32))).bind fun H14 =>
  (F_X6_mark_J120 N k47) x0 (x2 ||| ((v7 &&& (-4611686018427387905 : Int64)) ||| (4611686018427387904 : Int64))) x4 ((v7 &&& (-4611686018427387905 : Int64)) ||| (4611686018427387904 : Int64)) H14))))
set_option maxRecDepth 20000 in
set_option maxHeartbeats 4000000 in
theorem P_X6_mark_J47 {N : Nat} {Z : xZ} {rv : Int32} {Hf : xH} (hZ : Z = xZm cX6_mark yX6_mark 7 3 (some .int) (some (.int rv)) Hf) {k47 : (Option Nat) → Int64 → Int32 → xH → Option (Int32 × xH)} (hk47 : ∀ (x0 : (Option Nat)) (x2 : Int64) (x4 : Int32) (H : xH), k47 x0 x2 x4 H = some (rv, Hf) → xWq Z H 47 [xA x0, xN, xJ x2, xN, xI x4, xN, xN] []) {k139 : (Option Nat) → Int64 → xH → Option (Int32 × xH)} (hk139 : ∀ (x0 : (Option Nat)) (x2 : Int64) (H : xH), k139 x0 x2 H = some (rv, Hf) → xWq Z H 139 [xA x0, xN, xJ x2, xN, xN, xN, xN] []) : ∀ (x0 : (Option Nat)) (x2 : Int64) (x4 : Int32) (H : xH), F_X6_mark_J47 N k47 k139 x0 x2 x4 H = some (rv, Hf) → xWq Z H 47 [xA x0, xN, xJ x2, xN, xI x4, xN, xN] [] := by
  have hz : Z.1 = (cX6_mark, yX6_mark, 7) := by rw [hZ]; rfl
  have hδ : Z.2.1 = 3 := by rw [hZ]; rfl
  intro x0 x2 x4 H h
  unfold F_X6_mark_J47 at h
  refine x_iload hz dX6_mark_47 rfl ?_
  refine x_aload_n hz dX6_mark_49 rfl ?_
  obtain ⟨v1, e_v1, h⟩ := x_bnd h
  refine x_getI hz dX6_mark_50 fs_X6_37 e_v1 ?_
  refine x_icmp_ge (t := 139) hz dX6_mark_53 (by decide) (fun c2 => ?_) (fun c2 => ?_)
  · replace h := x_ip c2 h
    exact x_wk (xwk_c (xwk_n (xwk_c (xwk_n (xwk_n (xwk_n (xwk_n xwk_0))))))) (hk139 x0 x2 H h)
  · replace h := x_in c2 h
    refine x_iload hz dX6_mark_56 rfl ?_
    refine x_aload_n hz dX6_mark_58 rfl ?_
    obtain ⟨v3, e_v3, h⟩ := x_bnd h
    refine x_getA hz dX6_mark_59 fs_X6_9 e_v3 ?_
    obtain ⟨v4, e_v4, h⟩ := x_bnd h
    refine x_alen (t0 := 1) (fun _ => rfl) hz dX6_mark_62 e_v4 ?_
    refine x_icmp_ge (t := 139) hz dX6_mark_63 (by decide) (fun c5 => ?_) (fun c5 => ?_)
    · replace h := x_ip c5 h
      exact x_wk (xwk_c (xwk_n (xwk_c (xwk_n (xwk_n (xwk_n (xwk_n xwk_0))))))) (hk139 x0 x2 H h)
    · replace h := x_in c5 h
      refine x_aload_n hz dX6_mark_66 rfl ?_
      obtain ⟨v6, e_v6, h⟩ := x_bnd h
      refine x_getA hz dX6_mark_67 fs_X6_9 e_v6 ?_
      refine x_iload hz dX6_mark_70 rfl ?_
      obtain ⟨v7, e_v7, h⟩ := x_bnd h
      refine x_lald hz dX6_mark_72 e_v7 ?_
      refine x_ldc2 (v := (-4611686018427387905 : Int64)) hz dX6_mark_73 wc_X6_71 ?_
      refine x_land hz dX6_mark_76 ?_
      refine x_lstore (pl' := [xA x0, xN, xJ x2, xN, xI x4, xJ (v7 &&& (-4611686018427387905 : Int64)), xN]) hz dX6_mark_77 (by decide) rfl ?_
      refine x_lload hz dX6_mark_79 rfl ?_
      refine x_ldc2 (v := (2305843009213693952 : Int64)) hz dX6_mark_81 wc_X6_53 ?_
      refine x_land hz dX6_mark_84 ?_
      refine x_lconst (v := (0 : Int64)) hz dX6_mark_85 (by decide) ?_
      refine x_lcmp hz dX6_mark_86 ?_
      refine x_if_eq (t := 120) hz dX6_mark_87 (by decide) (fun c8 => ?_) (fun c8 => ?_)
      · replace h := x_ip c8 h
        exact x_wk (xwk_c (xwk_n (xwk_c (xwk_n (xwk_c (xwk_c (xwk_n xwk_0))))))) ((P_X6_mark_J120 hZ hk47) x0 x2 x4 (v7 &&& (-4611686018427387905 : Int64)) H h)
      · replace h := x_in c8 h
        refine x_aload_n hz dX6_mark_90 rfl ?_
        obtain ⟨b10, e_b10, h⟩ := x_bnd h
        obtain ⟨v11, H9, e_H9, h⟩ := x_b2 h
        refine x_callVi (as := []) (st := []) cs_X6_73 (ci := 6) ⟨rfl, rfl⟩ rfl rfl hz (by omega) (by decide) dX6_mark_91 e_b10 (M_X6_areAllowed e_H9) ?_
        refine x_if_eq (t := 120) hz dX6_mark_94 (by decide) (fun c12 => ?_) (fun c12 => ?_)
        · replace h := x_ip c12 h
          exact x_wk (xwk_c (xwk_n (xwk_c (xwk_n (xwk_c (xwk_c (xwk_n xwk_0))))))) ((P_X6_mark_J120 hZ hk47) x0 x2 x4 (v7 &&& (-4611686018427387905 : Int64)) H9 h)
        · replace h := x_in c12 h
          refine x_lload hz dX6_mark_97 rfl ?_
          refine x_ldc2 (v := (4611686018427387904 : Int64)) hz dX6_mark_99 wc_X6_77 ?_
          refine x_lor hz dX6_mark_102 ?_
          refine x_lstore (pl' := [xA x0, xN, xJ x2, xN, xI x4, xJ ((v7 &&& (-4611686018427387905 : Int64)) ||| (4611686018427387904 : Int64)), xN]) hz dX6_mark_103 (by decide) rfl ?_
          refine x_lload_n hz dX6_mark_105 rfl ?_
          refine x_lload hz dX6_mark_106 rfl ?_
          refine x_lor hz dX6_mark_108 ?_
          refine x_lstore_n (pl' := [xA x0, xN, xJ (x2 ||| ((v7 &&& (-4611686018427387905 : Int64)) ||| (4611686018427387904 : Int64))), xN, xI x4, xJ ((v7 &&& (-4611686018427387905 : Int64)) ||| (4611686018427387904 : Int64)), xN]) hz dX6_mark_109 (by decide) rfl ?_
          refine x_aload_n hz dX6_mark_110 rfl ?_
          refine x_dup hz dX6_mark_111 (x_rfc _) ?_
          obtain ⟨v13, e_v13, h⟩ := x_bnd h
          refine x_getI hz dX6_mark_112 fs_X6_68 e_v13 ?_
          refine x_iconst (v := (1 : Int32)) hz dX6_mark_115 (by decide) ?_
          refine x_iadd hz dX6_mark_116 ?_
          obtain ⟨H14, e_H14, h⟩ := x_bnd h
          refine x_putV (v := .int (v13 + (1 : Int32))) hz dX6_mark_117 fs_X6_68 rfl rfl e_H14 ?_
          exact x_wk (xwk_c (xwk_n (xwk_c (xwk_n (xwk_c (xwk_c (xwk_n xwk_0))))))) ((P_X6_mark_J120 hZ hk47) x0 (x2 ||| ((v7 &&& (-4611686018427387905 : Int64)) ||| (4611686018427387904 : Int64))) x4 ((v7 &&& (-4611686018427387905 : Int64)) ||| (4611686018427387904 : Int64)) H14 h)
noncomputable def F_X6_mark_L47 (N : Nat) (k139 : (Option Nat) → Int64 → xH → Option (Int32 × xH)) : Nat → (Option Nat) → Int64 → Int32 → xH → Option (Int32 × xH)
  | 0 => fun _ _ _ _ => none
  | n + 1 => F_X6_mark_J47 N (F_X6_mark_L47 N k139 n) k139
theorem P_X6_mark_L47 {N : Nat} {Z : xZ} {rv : Int32} {Hf : xH} (hZ : Z = xZm cX6_mark yX6_mark 7 3 (some .int) (some (.int rv)) Hf) {k139 : (Option Nat) → Int64 → xH → Option (Int32 × xH)} (hk139 : ∀ (x0 : (Option Nat)) (x2 : Int64) (H : xH), k139 x0 x2 H = some (rv, Hf) → xWq Z H 139 [xA x0, xN, xJ x2, xN, xN, xN, xN] []) : ∀ (n : Nat) (x0 : (Option Nat)) (x2 : Int64) (x4 : Int32) (H : xH), F_X6_mark_L47 N k139 n x0 x2 x4 H = some (rv, Hf) → xWq Z H 47 [xA x0, xN, xJ x2, xN, xI x4, xN, xN] [] := by
  intro n
  induction n with
  | zero => intro _ _ _ _ h; cases h
  | succ n ih => exact P_X6_mark_J47 hZ ih hk139
noncomputable def F_X6_mark_J139 (N : Nat) (x0 : (Option Nat)) (x2 : Int64) (H : xH) : Option (Int32 × xH) :=
  x_bd2 (F_X6_singleOutcomes N x2 H) fun v2 H1 =>
  (xpJ H1 x0 6 4 v2).bind fun H3 =>
  (xgI H3 x0 6 3).bind fun v4 =>
  some (v4, H3)
set_option maxRecDepth 20000 in
set_option maxHeartbeats 4000000 in
theorem P_X6_mark_J139 {N : Nat} {Z : xZ} {rv : Int32} {Hf : xH} (hZ : Z = xZm cX6_mark yX6_mark 7 3 (some .int) (some (.int rv)) Hf) : ∀ (x0 : (Option Nat)) (x2 : Int64) (H : xH), F_X6_mark_J139 N x0 x2 H = some (rv, Hf) → xWq Z H 139 [xA x0, xN, xJ x2, xN, xN, xN, xN] [] := by
  have hz : Z.1 = (cX6_mark, yX6_mark, 7) := by rw [hZ]; rfl
  have hδ : Z.2.1 = 3 := by rw [hZ]; rfl
  intro x0 x2 H h
  unfold F_X6_mark_J139 at h
  refine x_aload_n hz dX6_mark_139 rfl ?_
  refine x_lload_n hz dX6_mark_140 rfl ?_
  obtain ⟨v2, H1, e_H1, h⟩ := x_b2 h
  refine x_callSl (as := [.inr (.inl x2)]) (st := [va_rf x0]) cs_X6_79 rfl rfl hz (by omega) (Nat.le_trans (x_sm1 (x_rfc _) x_sm0) (by decide)) dX6_mark_141 (M_X6_singleOutcomes e_H1) ?_
  obtain ⟨H3, e_H3, h⟩ := x_bnd h
  refine x_putV (v := .long v2) hz dX6_mark_144 fs_X6_83 rfl rfl e_H3 ?_
  refine x_aload_n hz dX6_mark_147 rfl ?_
  obtain ⟨v4, e_v4, h⟩ := x_bnd h
  refine x_getI hz dX6_mark_148 fs_X6_68 e_v4 ?_
  cases h
  exact x_iret hZ dX6_mark_151
noncomputable def F_X6_mark_J29 (N : Nat) (x0 : (Option Nat)) (H : xH) : Option (Int32 × xH) :=
  (xpI H x0 6 3 (0 : Int32)).bind fun H1 =>
  (xgA H1 x0 6 7).bind fun v2 =>
  (F_J7_fill_53178 N v2 (0 : Int32) H1).bind fun H3 =>
  (F_X6_mark_L47 N (F_X6_mark_J139 N) N) x0 (0 : Int64) (0 : Int32) H3
set_option maxRecDepth 20000 in
set_option maxHeartbeats 4000000 in
theorem P_X6_mark_J29 {N : Nat} {Z : xZ} {rv : Int32} {Hf : xH} (hZ : Z = xZm cX6_mark yX6_mark 7 3 (some .int) (some (.int rv)) Hf) : ∀ (x0 : (Option Nat)) (H : xH), F_X6_mark_J29 N x0 H = some (rv, Hf) → xWq Z H 29 [xA x0, xN, xN, xN, xN, xN, xN] [] := by
  have hz : Z.1 = (cX6_mark, yX6_mark, 7) := by rw [hZ]; rfl
  have hδ : Z.2.1 = 3 := by rw [hZ]; rfl
  intro x0 H h
  unfold F_X6_mark_J29 at h
  refine x_aload_n hz dX6_mark_29 rfl ?_
  refine x_iconst (v := (0 : Int32)) hz dX6_mark_30 (by decide) ?_
  obtain ⟨H1, e_H1, h⟩ := x_bnd h
  refine x_putV (v := .int (0 : Int32)) hz dX6_mark_31 fs_X6_68 rfl rfl e_H1 ?_
  refine x_lconst (v := (0 : Int64)) hz dX6_mark_34 (by decide) ?_
  refine x_lstore_n (pl' := [xA x0, xN, xJ (0 : Int64), xN, xN, xN, xN]) hz dX6_mark_35 (by decide) rfl ?_
  refine x_aload_n hz dX6_mark_36 rfl ?_
  obtain ⟨v2, e_v2, h⟩ := x_bnd h
  refine x_getA hz dX6_mark_37 fs_X6_19 e_v2 ?_
  refine x_iconst (v := (0 : Int32)) hz dX6_mark_40 (by decide) ?_
  obtain ⟨H3, e_H3, h⟩ := x_bnd h
  refine x_callSv (as := [.inr (.inr v2), .inl (0 : Int32)]) (st := []) cs_X6_43 rfl rfl hz (by omega) (by decide) dX6_mark_41 (M_J7_fill_53178 e_H3) ?_
  refine x_iconst (v := (0 : Int32)) hz dX6_mark_44 (by decide) ?_
  refine x_istore (pl' := [xA x0, xN, xJ (0 : Int64), xN, xI (0 : Int32), xN, xN]) hz dX6_mark_45 (by decide) rfl ?_
  exact x_wk (xwk_c (xwk_n (xwk_c (xwk_n (xwk_c (xwk_n (xwk_n xwk_0))))))) ((P_X6_mark_L47 hZ (P_X6_mark_J139 hZ) N) x0 (0 : Int64) (0 : Int32) H3 h)
noncomputable def F_X6_mark (N : Nat) (a0 : (Option Nat)) (a1 : (Option Nat)) (H : xH) : Option (Int32 × xH) :=
  (F_X6_mark_L2 N (F_X6_mark_J29 N) N) a0 a1 (0 : Int32) H
set_option maxRecDepth 20000 in
set_option maxHeartbeats 4000000 in
theorem P_X6_mark {N : Nat} {Z : xZ} {rv : Int32} {Hf : xH} (hZ : Z = xZm cX6_mark yX6_mark 7 3 (some .int) (some (.int rv)) Hf) : ∀ (a0 : (Option Nat)) (a1 : (Option Nat)) (H : xH), F_X6_mark N a0 a1 H = some (rv, Hf) → xWq Z H 0 [xA a0, xA a1, xN, xN, xN, xN, xN] [] := by
  have hz : Z.1 = (cX6_mark, yX6_mark, 7) := by rw [hZ]; rfl
  have hδ : Z.2.1 = 3 := by rw [hZ]; rfl
  intro a0 a1 H h
  unfold F_X6_mark at h
  refine x_iconst (v := (0 : Int32)) hz dX6_mark_0 (by decide) ?_
  refine x_istore_n (pl' := [xA a0, xA a1, xI (0 : Int32), xN, xN, xN, xN]) hz dX6_mark_1 (by decide) rfl ?_
  exact x_wk (xwk_c (xwk_c (xwk_c (xwk_n (xwk_n (xwk_n (xwk_n xwk_0))))))) ((P_X6_mark_L2 hZ (P_X6_mark_J29 hZ) N) a0 a1 (0 : Int32) H h)
theorem M_X6_mark {N : Nat} {a0 : (Option Nat)} {a1 : (Option Nat)} {H H1 : xH} {r1 : Int32} (h : F_X6_mark N a0 a1 H = some (r1, H1)) : xM yX6_mark cX6_mark 7 (some .int) 3 [.inr (.inr a0), .inr (.inr a1)] H (some (.int r1)) H1 :=
  xM_of (by decide +kernel) (xT_tb 289 (by decide +kernel) (by decide +kernel)) (by simp [xargs, x2]) rfl (P_X6_mark rfl a0 a1 H h)
/-! BettingBook$RowTable.isSure(I)Z -/
noncomputable def F_X6_isSure (N : Nat) (a0 : (Option Nat)) (a1 : Int32) (H : xH) : Option (Int32 × xH) :=
  (xgJ H a0 6 4).bind fun v1 =>
  x_bd2 (F_X11_outcomeBits N v1 a1 H) fun v3 H2 =>
  if v3 = 0 then (some ((0 : Int32), H2)) else (some ((1 : Int32), H2))
set_option maxRecDepth 20000 in
set_option maxHeartbeats 4000000 in
theorem P_X6_isSure {N : Nat} {Z : xZ} {rv : Int32} {Hf : xH} (hZ : Z = xZm cX6_isSure yX6_isSure 2 2 (some .boolean) (some (.int rv)) Hf) : ∀ (a0 : (Option Nat)) (a1 : Int32) (H : xH), F_X6_isSure N a0 a1 H = some (rv, Hf) → xWq Z H 0 [xA a0, xI a1] [] := by
  have hz : Z.1 = (cX6_isSure, yX6_isSure, 2) := by rw [hZ]; rfl
  have hδ : Z.2.1 = 2 := by rw [hZ]; rfl
  intro a0 a1 H h
  unfold F_X6_isSure at h
  refine x_aload_n hz dX6_isSure_0 rfl ?_
  obtain ⟨v1, e_v1, h⟩ := x_bnd h
  refine x_getJ hz dX6_isSure_1 fs_X6_83 e_v1 ?_
  refine x_iload_n hz dX6_isSure_4 rfl ?_
  obtain ⟨v3, H2, e_H2, h⟩ := x_b2 h
  refine x_callSi (as := [.inr (.inl v1), .inl a1]) (st := []) cs_X6_87 rfl rfl hz (by omega) (by decide) dX6_isSure_5 (M_X11_outcomeBits e_H2) ?_
  refine x_if_eq (t := 15) hz dX6_isSure_8 (by decide) (fun c4 => ?_) (fun c4 => ?_)
  · replace h := x_ip c4 h
    refine x_iconst (v := (0 : Int32)) hz dX6_isSure_15 (by decide) ?_
    cases h
    exact x_zret01 hZ (Or.inl rfl) dX6_isSure_16
  · replace h := x_in c4 h
    refine x_iconst (v := (1 : Int32)) hz dX6_isSure_11 (by decide) ?_
    refine x_goto (t := 16) hz dX6_isSure_12 (by decide) ?_
    cases h
    exact x_zret01 hZ (Or.inr rfl) dX6_isSure_16
theorem M_X6_isSure {N : Nat} {a0 : (Option Nat)} {a1 : Int32} {H H1 : xH} {r1 : Int32} (h : F_X6_isSure N a0 a1 H = some (r1, H1)) : xM yX6_isSure cX6_isSure 2 (some .boolean) 2 [.inr (.inr a0), .inl a1] H (some (.int r1)) H1 :=
  xM_of (by decide +kernel) (xT_tb 679 (by decide +kernel) (by decide +kernel)) (by simp [xargs, x2]) rfl (P_X6_isSure rfl a0 a1 H h)
/-! BettingBook$RowTable.leftCode(I)I -/
noncomputable def F_X6_leftCode_J36 (N : Nat) (k4 : (Option Nat) → Int32 → Int32 → Int32 → xH → Option (Int32 × xH)) (x0 : (Option Nat)) (x1 : Int32) (x2 : Int32) (x3 : Int32) (H : xH) : Option (Int32 × xH) :=
  k4 x0 x1 x2 (x3 + 1) H
set_option maxRecDepth 20000 in
set_option maxHeartbeats 4000000 in
theorem P_X6_leftCode_J36 {N : Nat} {Z : xZ} {rv : Int32} {Hf : xH} (hZ : Z = xZm cX6_leftCode yX6_leftCode 4 2 (some .int) (some (.int rv)) Hf) {k4 : (Option Nat) → Int32 → Int32 → Int32 → xH → Option (Int32 × xH)} (hk4 : ∀ (x0 : (Option Nat)) (x1 : Int32) (x2 : Int32) (x3 : Int32) (H : xH), k4 x0 x1 x2 x3 H = some (rv, Hf) → xWq Z H 4 [xA x0, xI x1, xI x2, xI x3] []) : ∀ (x0 : (Option Nat)) (x1 : Int32) (x2 : Int32) (x3 : Int32) (H : xH), F_X6_leftCode_J36 N k4 x0 x1 x2 x3 H = some (rv, Hf) → xWq Z H 36 [xA x0, xI x1, xI x2, xI x3] [] := by
  have hz : Z.1 = (cX6_leftCode, yX6_leftCode, 4) := by rw [hZ]; rfl
  have hδ : Z.2.1 = 2 := by rw [hZ]; rfl
  intro x0 x1 x2 x3 H h
  unfold F_X6_leftCode_J36 at h
  refine x_iinc (w := (x3 + 1)) (pl' := [xA x0, xI x1, xI x2, xI (x3 + 1)]) hz dX6_leftCode_36 rfl rfl (by decide) rfl ?_
  refine x_goto (t := 4) hz dX6_leftCode_39 (by decide) ?_
  exact x_wk (xwk_c (xwk_c (xwk_c (xwk_c xwk_0)))) (hk4 x0 x1 x2 (x3 + 1) H h)
noncomputable def F_X6_leftCode_J4 (N : Nat) (k4 : (Option Nat) → Int32 → Int32 → Int32 → xH → Option (Int32 × xH)) (x0 : (Option Nat)) (x1 : Int32) (x2 : Int32) (x3 : Int32) (H : xH) : Option (Int32 × xH) :=
  (xgI H x0 6 1).bind fun v1 =>
  if v1 ≤ x3 then (some ((-1 : Int32), H)) else ((xob H x0 6).bind fun b4 =>
  x_bd2 (F_X6_cellAt N x0 x3 H) fun v5 H3 =>
  if (lg_cmp (v5 &&& (4611686018427387904 : Int64)) (0 : Int64)) = 0 then ((F_X6_leftCode_J36 N k4) x0 x1 x2 x3 H3) else (if x2 = x1 then (some (x3, H3)) else ((F_X6_leftCode_J36 N k4) x0 x1 (x2 + 1) x3 H3)))
set_option maxRecDepth 20000 in
set_option maxHeartbeats 4000000 in
theorem P_X6_leftCode_J4 {N : Nat} {Z : xZ} {rv : Int32} {Hf : xH} (hZ : Z = xZm cX6_leftCode yX6_leftCode 4 2 (some .int) (some (.int rv)) Hf) {k4 : (Option Nat) → Int32 → Int32 → Int32 → xH → Option (Int32 × xH)} (hk4 : ∀ (x0 : (Option Nat)) (x1 : Int32) (x2 : Int32) (x3 : Int32) (H : xH), k4 x0 x1 x2 x3 H = some (rv, Hf) → xWq Z H 4 [xA x0, xI x1, xI x2, xI x3] []) : ∀ (x0 : (Option Nat)) (x1 : Int32) (x2 : Int32) (x3 : Int32) (H : xH), F_X6_leftCode_J4 N k4 x0 x1 x2 x3 H = some (rv, Hf) → xWq Z H 4 [xA x0, xI x1, xI x2, xI x3] [] := by
  have hz : Z.1 = (cX6_leftCode, yX6_leftCode, 4) := by rw [hZ]; rfl
  have hδ : Z.2.1 = 2 := by rw [hZ]; rfl
  intro x0 x1 x2 x3 H h
  unfold F_X6_leftCode_J4 at h
  refine x_iload_n hz dX6_leftCode_4 rfl ?_
  refine x_aload_n hz dX6_leftCode_5 rfl ?_
  obtain ⟨v1, e_v1, h⟩ := x_bnd h
  refine x_getI hz dX6_leftCode_6 fs_X6_37 e_v1 ?_
  refine x_icmp_ge (t := 42) hz dX6_leftCode_9 (by decide) (fun c2 => ?_) (fun c2 => ?_)
  · replace h := x_ip c2 h
    refine x_iconst (v := (-1 : Int32)) hz dX6_leftCode_42 (by decide) ?_
    cases h
    exact x_iret hZ dX6_leftCode_43
  · replace h := x_in c2 h
    refine x_aload_n hz dX6_leftCode_12 rfl ?_
    refine x_iload_n hz dX6_leftCode_13 rfl ?_
    obtain ⟨b4, e_b4, h⟩ := x_bnd h
    obtain ⟨v5, H3, e_H3, h⟩ := x_b2 h
    refine x_callVl (as := [.inl x3]) (st := []) cs_X6_91 (ci := 6) ⟨rfl, rfl⟩ rfl rfl hz (by omega) (by decide) dX6_leftCode_14 e_b4 (M_X6_cellAt e_H3) ?_
    refine x_ldc2 (v := (4611686018427387904 : Int64)) hz dX6_leftCode_17 wc_X6_77 ?_
    refine x_land hz dX6_leftCode_20 ?_
    refine x_lconst (v := (0 : Int64)) hz dX6_leftCode_21 (by decide) ?_
    refine x_lcmp hz dX6_leftCode_22 ?_
    refine x_if_eq (t := 36) hz dX6_leftCode_23 (by decide) (fun c6 => ?_) (fun c6 => ?_)
    · replace h := x_ip c6 h
      exact x_wk (xwk_c (xwk_c (xwk_c (xwk_c xwk_0)))) ((P_X6_leftCode_J36 hZ hk4) x0 x1 x2 x3 H3 h)
    · replace h := x_in c6 h
      refine x_iload_n hz dX6_leftCode_26 rfl ?_
      refine x_iload_n hz dX6_leftCode_27 rfl ?_
      refine x_icmp_ne (t := 33) hz dX6_leftCode_28 (by decide) (fun c7 => ?_) (fun c7 => ?_)
      · replace h := x_in c7 h
        refine x_iinc (w := (x2 + 1)) (pl' := [xA x0, xI x1, xI (x2 + 1), xI x3]) hz dX6_leftCode_33 rfl rfl (by decide) rfl ?_
        exact x_wk (xwk_c (xwk_c (xwk_c (xwk_c xwk_0)))) ((P_X6_leftCode_J36 hZ hk4) x0 x1 (x2 + 1) x3 H3 h)
      · replace h := x_ip c7 h
        refine x_iload_n hz dX6_leftCode_31 rfl ?_
        cases h
        exact x_iret hZ dX6_leftCode_32
noncomputable def F_X6_leftCode_L4 (N : Nat) : Nat → (Option Nat) → Int32 → Int32 → Int32 → xH → Option (Int32 × xH)
  | 0 => fun _ _ _ _ _ => none
  | n + 1 => F_X6_leftCode_J4 N (F_X6_leftCode_L4 N n)
theorem P_X6_leftCode_L4 {N : Nat} {Z : xZ} {rv : Int32} {Hf : xH} (hZ : Z = xZm cX6_leftCode yX6_leftCode 4 2 (some .int) (some (.int rv)) Hf) : ∀ (n : Nat) (x0 : (Option Nat)) (x1 : Int32) (x2 : Int32) (x3 : Int32) (H : xH), F_X6_leftCode_L4 N n x0 x1 x2 x3 H = some (rv, Hf) → xWq Z H 4 [xA x0, xI x1, xI x2, xI x3] [] := by
  intro n
  induction n with
  | zero => intro _ _ _ _ _ h; cases h
  | succ n ih => exact P_X6_leftCode_J4 hZ ih
noncomputable def F_X6_leftCode (N : Nat) (a0 : (Option Nat)) (a1 : Int32) (H : xH) : Option (Int32 × xH) :=
  (F_X6_leftCode_L4 N N) a0 a1 (0 : Int32) (0 : Int32) H
set_option maxRecDepth 20000 in
set_option maxHeartbeats 4000000 in
theorem P_X6_leftCode {N : Nat} {Z : xZ} {rv : Int32} {Hf : xH} (hZ : Z = xZm cX6_leftCode yX6_leftCode 4 2 (some .int) (some (.int rv)) Hf) : ∀ (a0 : (Option Nat)) (a1 : Int32) (H : xH), F_X6_leftCode N a0 a1 H = some (rv, Hf) → xWq Z H 0 [xA a0, xI a1, xN, xN] [] := by
  have hz : Z.1 = (cX6_leftCode, yX6_leftCode, 4) := by rw [hZ]; rfl
  have hδ : Z.2.1 = 2 := by rw [hZ]; rfl
  intro a0 a1 H h
  unfold F_X6_leftCode at h
  refine x_iconst (v := (0 : Int32)) hz dX6_leftCode_0 (by decide) ?_
  refine x_istore_n (pl' := [xA a0, xI a1, xI (0 : Int32), xN]) hz dX6_leftCode_1 (by decide) rfl ?_
  refine x_iconst (v := (0 : Int32)) hz dX6_leftCode_2 (by decide) ?_
  refine x_istore_n (pl' := [xA a0, xI a1, xI (0 : Int32), xI (0 : Int32)]) hz dX6_leftCode_3 (by decide) rfl ?_
  exact x_wk (xwk_c (xwk_c (xwk_c (xwk_c xwk_0)))) ((P_X6_leftCode_L4 hZ N) a0 a1 (0 : Int32) (0 : Int32) H h)
theorem M_X6_leftCode {N : Nat} {a0 : (Option Nat)} {a1 : Int32} {H H1 : xH} {r1 : Int32} (h : F_X6_leftCode N a0 a1 H = some (r1, H1)) : xM yX6_leftCode cX6_leftCode 4 (some .int) 2 [.inr (.inr a0), .inl a1] H (some (.int r1)) H1 :=
  xM_of (by decide +kernel) (xT_tb 701 (by decide +kernel) (by decide +kernel)) (by simp [xargs, x2]) rfl (P_X6_leftCode rfl a0 a1 H h)
/-! BettingBook$RowTable.countLeft(II)I -/
noncomputable def F_X6_countLeft_J47 (N : Nat) (k5 : (Option Nat) → Int32 → Int32 → Int32 → Int32 → xH → Option (Int32 × xH)) (x0 : (Option Nat)) (x1 : Int32) (x2 : Int32) (x3 : Int32) (x4 : Int32) (H : xH) : Option (Int32 × xH) :=
  k5 x0 x1 x2 x3 (x4 + 1) H
set_option maxRecDepth 20000 in
set_option maxHeartbeats 4000000 in
theorem P_X6_countLeft_J47 {N : Nat} {Z : xZ} {rv : Int32} {Hf : xH} (hZ : Z = xZm cX6_countLeft yX6_countLeft 7 2 (some .int) (some (.int rv)) Hf) {k5 : (Option Nat) → Int32 → Int32 → Int32 → Int32 → xH → Option (Int32 × xH)} (hk5 : ∀ (x0 : (Option Nat)) (x1 : Int32) (x2 : Int32) (x3 : Int32) (x4 : Int32) (H : xH), k5 x0 x1 x2 x3 x4 H = some (rv, Hf) → xWq Z H 5 [xA x0, xI x1, xI x2, xI x3, xI x4, xN, xN] []) : ∀ (x0 : (Option Nat)) (x1 : Int32) (x2 : Int32) (x3 : Int32) (x4 : Int32) (H : xH), F_X6_countLeft_J47 N k5 x0 x1 x2 x3 x4 H = some (rv, Hf) → xWq Z H 47 [xA x0, xI x1, xI x2, xI x3, xI x4, xN, xN] [] := by
  have hz : Z.1 = (cX6_countLeft, yX6_countLeft, 7) := by rw [hZ]; rfl
  have hδ : Z.2.1 = 2 := by rw [hZ]; rfl
  intro x0 x1 x2 x3 x4 H h
  unfold F_X6_countLeft_J47 at h
  refine x_iinc (w := (x4 + 1)) (pl' := [xA x0, xI x1, xI x2, xI x3, xI (x4 + 1), xN, xN]) hz dX6_countLeft_47 rfl rfl (by decide) rfl ?_
  refine x_goto (t := 5) hz dX6_countLeft_50 (by decide) ?_
  exact x_wk (xwk_c (xwk_c (xwk_c (xwk_c (xwk_c (xwk_n (xwk_n xwk_0))))))) (hk5 x0 x1 x2 x3 (x4 + 1) H h)
noncomputable def F_X6_countLeft_J5 (N : Nat) (k5 : (Option Nat) → Int32 → Int32 → Int32 → Int32 → xH → Option (Int32 × xH)) (x0 : (Option Nat)) (x1 : Int32) (x2 : Int32) (x3 : Int32) (x4 : Int32) (H : xH) : Option (Int32 × xH) :=
  (xgI H x0 6 1).bind fun v1 =>
  if v1 ≤ x4 then (some (x3, H)) else ((xob H x0 6).bind fun b4 =>
  x_bd2 (F_X6_cellAt N x0 x4 H) fun v5 H3 =>
  if (lg_cmp (v5 &&& (4611686018427387904 : Int64)) (0 : Int64)) = 0 then ((F_X6_countLeft_J47 N k5) x0 x1 x2 x3 x4 H3) else (x_bd2 (F_X11_outcomeBits N v5 x1 H3) fun v8 H7 =>
  if (v8 &&& x2) = 0 then ((F_X6_countLeft_J47 N k5) x0 x1 x2 x3 x4 H7) else ((F_X6_countLeft_J47 N k5) x0 x1 x2 (x3 + 1) x4 H7)))
set_option maxRecDepth 20000 in
set_option maxHeartbeats 4000000 in
theorem P_X6_countLeft_J5 {N : Nat} {Z : xZ} {rv : Int32} {Hf : xH} (hZ : Z = xZm cX6_countLeft yX6_countLeft 7 2 (some .int) (some (.int rv)) Hf) {k5 : (Option Nat) → Int32 → Int32 → Int32 → Int32 → xH → Option (Int32 × xH)} (hk5 : ∀ (x0 : (Option Nat)) (x1 : Int32) (x2 : Int32) (x3 : Int32) (x4 : Int32) (H : xH), k5 x0 x1 x2 x3 x4 H = some (rv, Hf) → xWq Z H 5 [xA x0, xI x1, xI x2, xI x3, xI x4, xN, xN] []) : ∀ (x0 : (Option Nat)) (x1 : Int32) (x2 : Int32) (x3 : Int32) (x4 : Int32) (H : xH), F_X6_countLeft_J5 N k5 x0 x1 x2 x3 x4 H = some (rv, Hf) → xWq Z H 5 [xA x0, xI x1, xI x2, xI x3, xI x4, xN, xN] [] := by
  have hz : Z.1 = (cX6_countLeft, yX6_countLeft, 7) := by rw [hZ]; rfl
  have hδ : Z.2.1 = 2 := by rw [hZ]; rfl
  intro x0 x1 x2 x3 x4 H h
  unfold F_X6_countLeft_J5 at h
  refine x_iload hz dX6_countLeft_5 rfl ?_
  refine x_aload_n hz dX6_countLeft_7 rfl ?_
  obtain ⟨v1, e_v1, h⟩ := x_bnd h
  refine x_getI hz dX6_countLeft_8 fs_X6_37 e_v1 ?_
  refine x_icmp_ge (t := 53) hz dX6_countLeft_11 (by decide) (fun c2 => ?_) (fun c2 => ?_)
  · replace h := x_ip c2 h
    refine x_iload_n hz dX6_countLeft_53 rfl ?_
    cases h
    exact x_iret hZ dX6_countLeft_54
  · replace h := x_in c2 h
    refine x_aload_n hz dX6_countLeft_14 rfl ?_
    refine x_iload hz dX6_countLeft_15 rfl ?_
    obtain ⟨b4, e_b4, h⟩ := x_bnd h
    obtain ⟨v5, H3, e_H3, h⟩ := x_b2 h
    refine x_callVl (as := [.inl x4]) (st := []) cs_X6_91 (ci := 6) ⟨rfl, rfl⟩ rfl rfl hz (by omega) (by decide) dX6_countLeft_17 e_b4 (M_X6_cellAt e_H3) ?_
    refine x_lstore (pl' := [xA x0, xI x1, xI x2, xI x3, xI x4, xJ v5, xN]) hz dX6_countLeft_20 (by decide) rfl ?_
    refine x_lload hz dX6_countLeft_22 rfl ?_
    refine x_ldc2 (v := (4611686018427387904 : Int64)) hz dX6_countLeft_24 wc_X6_77 ?_
    refine x_land hz dX6_countLeft_27 ?_
    refine x_lconst (v := (0 : Int64)) hz dX6_countLeft_28 (by decide) ?_
    refine x_lcmp hz dX6_countLeft_29 ?_
    refine x_if_eq (t := 47) hz dX6_countLeft_30 (by decide) (fun c6 => ?_) (fun c6 => ?_)
    · replace h := x_ip c6 h
      exact x_wk (xwk_c (xwk_c (xwk_c (xwk_c (xwk_c (xwk_n (xwk_n xwk_0))))))) ((P_X6_countLeft_J47 hZ hk5) x0 x1 x2 x3 x4 H3 h)
    · replace h := x_in c6 h
      refine x_lload hz dX6_countLeft_33 rfl ?_
      refine x_iload_n hz dX6_countLeft_35 rfl ?_
      obtain ⟨v8, H7, e_H7, h⟩ := x_b2 h
      refine x_callSi (as := [.inr (.inl v5), .inl x1]) (st := []) cs_X6_87 rfl rfl hz (by omega) (by decide) dX6_countLeft_36 (M_X11_outcomeBits e_H7) ?_
      refine x_iload_n hz dX6_countLeft_39 rfl ?_
      refine x_iand hz dX6_countLeft_40 ?_
      refine x_if_eq (t := 47) hz dX6_countLeft_41 (by decide) (fun c9 => ?_) (fun c9 => ?_)
      · replace h := x_ip c9 h
        exact x_wk (xwk_c (xwk_c (xwk_c (xwk_c (xwk_c (xwk_n (xwk_n xwk_0))))))) ((P_X6_countLeft_J47 hZ hk5) x0 x1 x2 x3 x4 H7 h)
      · replace h := x_in c9 h
        refine x_iinc (w := (x3 + 1)) (pl' := [xA x0, xI x1, xI x2, xI (x3 + 1), xI x4, xJ v5, xN]) hz dX6_countLeft_44 rfl rfl (by decide) rfl ?_
        exact x_wk (xwk_c (xwk_c (xwk_c (xwk_c (xwk_c (xwk_n (xwk_n xwk_0))))))) ((P_X6_countLeft_J47 hZ hk5) x0 x1 x2 (x3 + 1) x4 H7 h)
noncomputable def F_X6_countLeft_L5 (N : Nat) : Nat → (Option Nat) → Int32 → Int32 → Int32 → Int32 → xH → Option (Int32 × xH)
  | 0 => fun _ _ _ _ _ _ => none
  | n + 1 => F_X6_countLeft_J5 N (F_X6_countLeft_L5 N n)
theorem P_X6_countLeft_L5 {N : Nat} {Z : xZ} {rv : Int32} {Hf : xH} (hZ : Z = xZm cX6_countLeft yX6_countLeft 7 2 (some .int) (some (.int rv)) Hf) : ∀ (n : Nat) (x0 : (Option Nat)) (x1 : Int32) (x2 : Int32) (x3 : Int32) (x4 : Int32) (H : xH), F_X6_countLeft_L5 N n x0 x1 x2 x3 x4 H = some (rv, Hf) → xWq Z H 5 [xA x0, xI x1, xI x2, xI x3, xI x4, xN, xN] [] := by
  intro n
  induction n with
  | zero => intro _ _ _ _ _ _ h; cases h
  | succ n ih => exact P_X6_countLeft_J5 hZ ih
noncomputable def F_X6_countLeft (N : Nat) (a0 : (Option Nat)) (a1 : Int32) (a2 : Int32) (H : xH) : Option (Int32 × xH) :=
  (F_X6_countLeft_L5 N N) a0 a1 a2 (0 : Int32) (0 : Int32) H
set_option maxRecDepth 20000 in
set_option maxHeartbeats 4000000 in
theorem P_X6_countLeft {N : Nat} {Z : xZ} {rv : Int32} {Hf : xH} (hZ : Z = xZm cX6_countLeft yX6_countLeft 7 2 (some .int) (some (.int rv)) Hf) : ∀ (a0 : (Option Nat)) (a1 : Int32) (a2 : Int32) (H : xH), F_X6_countLeft N a0 a1 a2 H = some (rv, Hf) → xWq Z H 0 [xA a0, xI a1, xI a2, xN, xN, xN, xN] [] := by
  have hz : Z.1 = (cX6_countLeft, yX6_countLeft, 7) := by rw [hZ]; rfl
  have hδ : Z.2.1 = 2 := by rw [hZ]; rfl
  intro a0 a1 a2 H h
  unfold F_X6_countLeft at h
  refine x_iconst (v := (0 : Int32)) hz dX6_countLeft_0 (by decide) ?_
  refine x_istore_n (pl' := [xA a0, xI a1, xI a2, xI (0 : Int32), xN, xN, xN]) hz dX6_countLeft_1 (by decide) rfl ?_
  refine x_iconst (v := (0 : Int32)) hz dX6_countLeft_2 (by decide) ?_
  refine x_istore (pl' := [xA a0, xI a1, xI a2, xI (0 : Int32), xI (0 : Int32), xN, xN]) hz dX6_countLeft_3 (by decide) rfl ?_
  exact x_wk (xwk_c (xwk_c (xwk_c (xwk_c (xwk_c (xwk_n (xwk_n xwk_0))))))) ((P_X6_countLeft_L5 hZ N) a0 a1 a2 (0 : Int32) (0 : Int32) H h)
theorem M_X6_countLeft {N : Nat} {a0 : (Option Nat)} {a1 : Int32} {a2 : Int32} {H H1 : xH} {r1 : Int32} (h : F_X6_countLeft N a0 a1 a2 H = some (r1, H1)) : xM yX6_countLeft cX6_countLeft 7 (some .int) 2 [.inr (.inr a0), .inl a1, .inl a2] H (some (.int r1)) H1 :=
  xM_of (by decide +kernel) (xT_tb 741 (by decide +kernel) (by decide +kernel)) (by simp [xargs, x2]) rfl (P_X6_countLeft rfl a0 a1 a2 H h)
/-! BettingBook$RowTable.partingDay(II)I -/
noncomputable def F_X6_partingDay_J76 (N : Nat) (k12 : (Option Nat) → Int32 → Int32 → Int32 → Int32 → xH → Option (Int32 × xH)) (x0 : (Option Nat)) (x3 : Int32) (x4 : Int32) (x5 : Int32) (x6 : Int32) (H : xH) : Option (Int32 × xH) :=
  k12 x0 x3 (x4 / (9 : Int32)) (x5 / (9 : Int32)) (x6 + 1) H
set_option maxRecDepth 20000 in
set_option maxHeartbeats 4000000 in
theorem P_X6_partingDay_J76 {N : Nat} {Z : xZ} {rv : Int32} {Hf : xH} (hZ : Z = xZm cX6_partingDay yX6_partingDay 9 1 (some .int) (some (.int rv)) Hf) {k12 : (Option Nat) → Int32 → Int32 → Int32 → Int32 → xH → Option (Int32 × xH)} (hk12 : ∀ (x0 : (Option Nat)) (x3 : Int32) (x4 : Int32) (x5 : Int32) (x6 : Int32) (H : xH), k12 x0 x3 x4 x5 x6 H = some (rv, Hf) → xWq Z H 12 [xA x0, xN, xN, xI x3, xI x4, xI x5, xI x6, xN, xN] []) : ∀ (x0 : (Option Nat)) (x3 : Int32) (x4 : Int32) (x5 : Int32) (x6 : Int32) (H : xH), F_X6_partingDay_J76 N k12 x0 x3 x4 x5 x6 H = some (rv, Hf) → xWq Z H 76 [xA x0, xN, xN, xI x3, xI x4, xI x5, xI x6, xN, xN] [] := by
  have hz : Z.1 = (cX6_partingDay, yX6_partingDay, 9) := by rw [hZ]; rfl
  have hδ : Z.2.1 = 1 := by rw [hZ]; rfl
  intro x0 x3 x4 x5 x6 H h
  unfold F_X6_partingDay_J76 at h
  refine x_iload hz dX6_partingDay_76 rfl ?_
  refine x_bipush (v := (9 : Int32)) hz dX6_partingDay_78 (by decide) ?_
  refine x_idiv hz dX6_partingDay_80 (by decide) ?_
  refine x_istore (pl' := [xA x0, xN, xN, xI x3, xI (x4 / (9 : Int32)), xI x5, xI x6, xN, xN]) hz dX6_partingDay_81 (by decide) rfl ?_
  refine x_iload hz dX6_partingDay_83 rfl ?_
  refine x_bipush (v := (9 : Int32)) hz dX6_partingDay_85 (by decide) ?_
  refine x_idiv hz dX6_partingDay_87 (by decide) ?_
  refine x_istore (pl' := [xA x0, xN, xN, xI x3, xI (x4 / (9 : Int32)), xI (x5 / (9 : Int32)), xI x6, xN, xN]) hz dX6_partingDay_88 (by decide) rfl ?_
  refine x_iinc (w := (x6 + 1)) (pl' := [xA x0, xN, xN, xI x3, xI (x4 / (9 : Int32)), xI (x5 / (9 : Int32)), xI (x6 + 1), xN, xN]) hz dX6_partingDay_90 rfl rfl (by decide) rfl ?_
  refine x_goto (t := 12) hz dX6_partingDay_93 (by decide) ?_
  exact x_wk (xwk_c (xwk_n (xwk_n (xwk_c (xwk_c (xwk_c (xwk_c (xwk_n (xwk_n xwk_0))))))))) (hk12 x0 x3 (x4 / (9 : Int32)) (x5 / (9 : Int32)) (x6 + 1) H h)
noncomputable def F_X6_partingDay_J72 (N : Nat) (k12 : (Option Nat) → Int32 → Int32 → Int32 → Int32 → xH → Option (Int32 × xH)) (x0 : (Option Nat)) (x4 : Int32) (x5 : Int32) (x6 : Int32) (s0 : Int32) (s1 : Int32) (H : xH) : Option (Int32 × xH) :=
  (F_X6_partingDay_J76 N k12) x0 (xmin s0 s1) x4 x5 x6 H
set_option maxRecDepth 20000 in
set_option maxHeartbeats 4000000 in
theorem P_X6_partingDay_J72 {N : Nat} {Z : xZ} {rv : Int32} {Hf : xH} (hZ : Z = xZm cX6_partingDay yX6_partingDay 9 1 (some .int) (some (.int rv)) Hf) {k12 : (Option Nat) → Int32 → Int32 → Int32 → Int32 → xH → Option (Int32 × xH)} (hk12 : ∀ (x0 : (Option Nat)) (x3 : Int32) (x4 : Int32) (x5 : Int32) (x6 : Int32) (H : xH), k12 x0 x3 x4 x5 x6 H = some (rv, Hf) → xWq Z H 12 [xA x0, xN, xN, xI x3, xI x4, xI x5, xI x6, xN, xN] []) : ∀ (x0 : (Option Nat)) (x4 : Int32) (x5 : Int32) (x6 : Int32) (s0 : Int32) (s1 : Int32) (H : xH), F_X6_partingDay_J72 N k12 x0 x4 x5 x6 s0 s1 H = some (rv, Hf) → xWq Z H 72 [xA x0, xN, xN, xN, xI x4, xI x5, xI x6, xN, xN] [.int s1, .int s0] := by
  have hz : Z.1 = (cX6_partingDay, yX6_partingDay, 9) := by rw [hZ]; rfl
  have hδ : Z.2.1 = 1 := by rw [hZ]; rfl
  intro x0 x4 x5 x6 s0 s1 H h
  unfold F_X6_partingDay_J72 at h
  refine x_mmin (st := []) jm_min_X6_130 hz (by omega) (by decide) dX6_partingDay_72 ?_
  refine x_istore_n (pl' := [xA x0, xN, xN, xI (xmin s0 s1), xI x4, xI x5, xI x6, xN, xN]) hz dX6_partingDay_75 (by decide) rfl ?_
  exact x_wk (xwk_c (xwk_n (xwk_n (xwk_c (xwk_c (xwk_c (xwk_c (xwk_n (xwk_n xwk_0))))))))) ((P_X6_partingDay_J76 hZ hk12) x0 (xmin s0 s1) x4 x5 x6 H h)
noncomputable def F_X6_partingDay_J55 (N : Nat) (k12 : (Option Nat) → Int32 → Int32 → Int32 → Int32 → xH → Option (Int32 × xH)) (x0 : (Option Nat)) (x4 : Int32) (x5 : Int32) (x6 : Int32) (x7 : Int32) (x8 : Int32) (s0 : Int32) (s1 : Int32) (H : xH) : Option (Int32 × xH) :=
  if x8 = 0 then ((F_X6_partingDay_J72 N k12) x0 x4 x5 x6 (xmin s0 s1) x7 H) else ((F_X6_partingDay_J72 N k12) x0 x4 x5 x6 (xmin s0 s1) x8 H)
set_option maxRecDepth 20000 in
set_option maxHeartbeats 4000000 in
theorem P_X6_partingDay_J55 {N : Nat} {Z : xZ} {rv : Int32} {Hf : xH} (hZ : Z = xZm cX6_partingDay yX6_partingDay 9 1 (some .int) (some (.int rv)) Hf) {k12 : (Option Nat) → Int32 → Int32 → Int32 → Int32 → xH → Option (Int32 × xH)} (hk12 : ∀ (x0 : (Option Nat)) (x3 : Int32) (x4 : Int32) (x5 : Int32) (x6 : Int32) (H : xH), k12 x0 x3 x4 x5 x6 H = some (rv, Hf) → xWq Z H 12 [xA x0, xN, xN, xI x3, xI x4, xI x5, xI x6, xN, xN] []) : ∀ (x0 : (Option Nat)) (x4 : Int32) (x5 : Int32) (x6 : Int32) (x7 : Int32) (x8 : Int32) (s0 : Int32) (s1 : Int32) (H : xH), F_X6_partingDay_J55 N k12 x0 x4 x5 x6 x7 x8 s0 s1 H = some (rv, Hf) → xWq Z H 55 [xA x0, xN, xN, xN, xI x4, xI x5, xI x6, xI x7, xI x8] [.int s1, .int s0] := by
  have hz : Z.1 = (cX6_partingDay, yX6_partingDay, 9) := by rw [hZ]; rfl
  have hδ : Z.2.1 = 1 := by rw [hZ]; rfl
  intro x0 x4 x5 x6 x7 x8 s0 s1 H h
  unfold F_X6_partingDay_J55 at h
  refine x_mmin (st := []) jm_min_X6_130 hz (by omega) (by decide) dX6_partingDay_55 ?_
  refine x_istore_n (pl' := [xA x0, xN, xN, xI (xmin s0 s1), xI x4, xI x5, xI x6, xI x7, xI x8]) hz dX6_partingDay_58 (by decide) rfl ?_
  refine x_iload_n hz dX6_partingDay_59 rfl ?_
  refine x_iload hz dX6_partingDay_60 rfl ?_
  refine x_if_ne (t := 70) hz dX6_partingDay_62 (by decide) (fun c1 => ?_) (fun c1 => ?_)
  · replace h := x_in c1 h
    refine x_iload hz dX6_partingDay_70 rfl ?_
    exact x_wk (xwk_c (xwk_n (xwk_n (xwk_n (xwk_c (xwk_c (xwk_c (xwk_n (xwk_n xwk_0))))))))) ((P_X6_partingDay_J72 hZ hk12) x0 x4 x5 x6 (xmin s0 s1) x8 H h)
  · replace h := x_ip c1 h
    refine x_iload hz dX6_partingDay_65 rfl ?_
    refine x_goto (t := 72) hz dX6_partingDay_67 (by decide) ?_
    exact x_wk (xwk_c (xwk_n (xwk_n (xwk_n (xwk_c (xwk_c (xwk_c (xwk_n (xwk_n xwk_0))))))))) ((P_X6_partingDay_J72 hZ hk12) x0 x4 x5 x6 (xmin s0 s1) x7 H h)
noncomputable def F_X6_partingDay_J12 (N : Nat) (k12 : (Option Nat) → Int32 → Int32 → Int32 → Int32 → xH → Option (Int32 × xH)) (k96 : Int32 → xH → Option (Int32 × xH)) (x0 : (Option Nat)) (x3 : Int32) (x4 : Int32) (x5 : Int32) (x6 : Int32) (H : xH) : Option (Int32 × xH) :=
  (xgI H x0 6 0).bind fun v1 =>
  if v1 ≤ x6 then (k96 x3 H) else (if (x4 - x4 / (9 : Int32) * (9 : Int32)) = (x5 - x5 / (9 : Int32) * (9 : Int32)) then ((F_X6_partingDay_J76 N k12) x0 x3 x4 x5 x6 H) else (if (x4 - x4 / (9 : Int32) * (9 : Int32)) = 0 then ((F_X6_partingDay_J55 N k12) x0 x4 x5 x6 (x4 - x4 / (9 : Int32) * (9 : Int32)) (x5 - x5 / (9 : Int32) * (9 : Int32)) x3 (x5 - x5 / (9 : Int32) * (9 : Int32)) H) else ((F_X6_partingDay_J55 N k12) x0 x4 x5 x6 (x4 - x4 / (9 : Int32) * (9 : Int32)) (x5 - x5 / (9 : Int32) * (9 : Int32)) x3 (x4 - x4 / (9 : Int32) * (9 : Int32)) H)))
set_option maxRecDepth 20000 in
set_option maxHeartbeats 4000000 in
theorem P_X6_partingDay_J12 {N : Nat} {Z : xZ} {rv : Int32} {Hf : xH} (hZ : Z = xZm cX6_partingDay yX6_partingDay 9 1 (some .int) (some (.int rv)) Hf) {k12 : (Option Nat) → Int32 → Int32 → Int32 → Int32 → xH → Option (Int32 × xH)} (hk12 : ∀ (x0 : (Option Nat)) (x3 : Int32) (x4 : Int32) (x5 : Int32) (x6 : Int32) (H : xH), k12 x0 x3 x4 x5 x6 H = some (rv, Hf) → xWq Z H 12 [xA x0, xN, xN, xI x3, xI x4, xI x5, xI x6, xN, xN] []) {k96 : Int32 → xH → Option (Int32 × xH)} (hk96 : ∀ (x3 : Int32) (H : xH), k96 x3 H = some (rv, Hf) → xWq Z H 96 [xN, xN, xN, xI x3, xN, xN, xN, xN, xN] []) : ∀ (x0 : (Option Nat)) (x3 : Int32) (x4 : Int32) (x5 : Int32) (x6 : Int32) (H : xH), F_X6_partingDay_J12 N k12 k96 x0 x3 x4 x5 x6 H = some (rv, Hf) → xWq Z H 12 [xA x0, xN, xN, xI x3, xI x4, xI x5, xI x6, xN, xN] [] := by
  have hz : Z.1 = (cX6_partingDay, yX6_partingDay, 9) := by rw [hZ]; rfl
  have hδ : Z.2.1 = 1 := by rw [hZ]; rfl
  intro x0 x3 x4 x5 x6 H h
  unfold F_X6_partingDay_J12 at h
  refine x_iload hz dX6_partingDay_12 rfl ?_
  refine x_aload_n hz dX6_partingDay_14 rfl ?_
  obtain ⟨v1, e_v1, h⟩ := x_bnd h
  refine x_getI hz dX6_partingDay_15 fs_X6_32 e_v1 ?_
  refine x_icmp_ge (t := 96) hz dX6_partingDay_18 (by decide) (fun c2 => ?_) (fun c2 => ?_)
  · replace h := x_ip c2 h
    exact x_wk (xwk_n (xwk_n (xwk_n (xwk_c (xwk_n (xwk_n (xwk_n (xwk_n (xwk_n xwk_0))))))))) (hk96 x3 H h)
  · replace h := x_in c2 h
    refine x_iload hz dX6_partingDay_21 rfl ?_
    refine x_bipush (v := (9 : Int32)) hz dX6_partingDay_23 (by decide) ?_
    refine x_irem hz dX6_partingDay_25 (by decide) ?_
    refine x_istore (pl' := [xA x0, xN, xN, xI x3, xI x4, xI x5, xI x6, xI (x4 - x4 / (9 : Int32) * (9 : Int32)), xN]) hz dX6_partingDay_26 (by decide) rfl ?_
    refine x_iload hz dX6_partingDay_28 rfl ?_
    refine x_bipush (v := (9 : Int32)) hz dX6_partingDay_30 (by decide) ?_
    refine x_irem hz dX6_partingDay_32 (by decide) ?_
    refine x_istore (pl' := [xA x0, xN, xN, xI x3, xI x4, xI x5, xI x6, xI (x4 - x4 / (9 : Int32) * (9 : Int32)), xI (x5 - x5 / (9 : Int32) * (9 : Int32))]) hz dX6_partingDay_33 (by decide) rfl ?_
    refine x_iload hz dX6_partingDay_35 rfl ?_
    refine x_iload hz dX6_partingDay_37 rfl ?_
    refine x_icmp_eq (t := 76) hz dX6_partingDay_39 (by decide) (fun c3 => ?_) (fun c3 => ?_)
    · replace h := x_ip c3 h
      exact x_wk (xwk_c (xwk_n (xwk_n (xwk_c (xwk_c (xwk_c (xwk_c (xwk_n (xwk_n xwk_0))))))))) ((P_X6_partingDay_J76 hZ hk12) x0 x3 x4 x5 x6 H h)
    · replace h := x_in c3 h
      refine x_iload_n hz dX6_partingDay_42 rfl ?_
      refine x_iload hz dX6_partingDay_43 rfl ?_
      refine x_if_ne (t := 53) hz dX6_partingDay_45 (by decide) (fun c4 => ?_) (fun c4 => ?_)
      · replace h := x_in c4 h
        refine x_iload hz dX6_partingDay_53 rfl ?_
        exact x_wk (xwk_c (xwk_n (xwk_n (xwk_n (xwk_c (xwk_c (xwk_c (xwk_c (xwk_c xwk_0))))))))) ((P_X6_partingDay_J55 hZ hk12) x0 x4 x5 x6 (x4 - x4 / (9 : Int32) * (9 : Int32)) (x5 - x5 / (9 : Int32) * (9 : Int32)) x3 (x4 - x4 / (9 : Int32) * (9 : Int32)) H h)
      · replace h := x_ip c4 h
        refine x_iload hz dX6_partingDay_48 rfl ?_
        refine x_goto (t := 55) hz dX6_partingDay_50 (by decide) ?_
        exact x_wk (xwk_c (xwk_n (xwk_n (xwk_n (xwk_c (xwk_c (xwk_c (xwk_c (xwk_c xwk_0))))))))) ((P_X6_partingDay_J55 hZ hk12) x0 x4 x5 x6 (x4 - x4 / (9 : Int32) * (9 : Int32)) (x5 - x5 / (9 : Int32) * (9 : Int32)) x3 (x5 - x5 / (9 : Int32) * (9 : Int32)) H h)
noncomputable def F_X6_partingDay_L12 (N : Nat) (k96 : Int32 → xH → Option (Int32 × xH)) : Nat → (Option Nat) → Int32 → Int32 → Int32 → Int32 → xH → Option (Int32 × xH)
  | 0 => fun _ _ _ _ _ _ => none
  | n + 1 => F_X6_partingDay_J12 N (F_X6_partingDay_L12 N k96 n) k96
theorem P_X6_partingDay_L12 {N : Nat} {Z : xZ} {rv : Int32} {Hf : xH} (hZ : Z = xZm cX6_partingDay yX6_partingDay 9 1 (some .int) (some (.int rv)) Hf) {k96 : Int32 → xH → Option (Int32 × xH)} (hk96 : ∀ (x3 : Int32) (H : xH), k96 x3 H = some (rv, Hf) → xWq Z H 96 [xN, xN, xN, xI x3, xN, xN, xN, xN, xN] []) : ∀ (n : Nat) (x0 : (Option Nat)) (x3 : Int32) (x4 : Int32) (x5 : Int32) (x6 : Int32) (H : xH), F_X6_partingDay_L12 N k96 n x0 x3 x4 x5 x6 H = some (rv, Hf) → xWq Z H 12 [xA x0, xN, xN, xI x3, xI x4, xI x5, xI x6, xN, xN] [] := by
  intro n
  induction n with
  | zero => intro _ _ _ _ _ _ h; cases h
  | succ n ih => exact P_X6_partingDay_J12 hZ ih hk96
noncomputable def F_X6_partingDay_J96 (N : Nat) (x3 : Int32) (H : xH) : Option (Int32 × xH) :=
  some ((x3 - (1 : Int32)), H)
set_option maxRecDepth 20000 in
set_option maxHeartbeats 4000000 in
theorem P_X6_partingDay_J96 {N : Nat} {Z : xZ} {rv : Int32} {Hf : xH} (hZ : Z = xZm cX6_partingDay yX6_partingDay 9 1 (some .int) (some (.int rv)) Hf) : ∀ (x3 : Int32) (H : xH), F_X6_partingDay_J96 N x3 H = some (rv, Hf) → xWq Z H 96 [xN, xN, xN, xI x3, xN, xN, xN, xN, xN] [] := by
  have hz : Z.1 = (cX6_partingDay, yX6_partingDay, 9) := by rw [hZ]; rfl
  have hδ : Z.2.1 = 1 := by rw [hZ]; rfl
  intro x3 H h
  unfold F_X6_partingDay_J96 at h
  refine x_iload_n hz dX6_partingDay_96 rfl ?_
  refine x_iconst (v := (1 : Int32)) hz dX6_partingDay_97 (by decide) ?_
  refine x_isub hz dX6_partingDay_98 ?_
  cases h
  exact x_iret hZ dX6_partingDay_99
noncomputable def F_X6_partingDay (N : Nat) (a0 : (Option Nat)) (a1 : Int32) (a2 : Int32) (H : xH) : Option (Int32 × xH) :=
  (F_X6_partingDay_L12 N (F_X6_partingDay_J96 N) N) a0 (9 : Int32) a1 a2 (0 : Int32) H
set_option maxRecDepth 20000 in
set_option maxHeartbeats 4000000 in
theorem P_X6_partingDay {N : Nat} {Z : xZ} {rv : Int32} {Hf : xH} (hZ : Z = xZm cX6_partingDay yX6_partingDay 9 1 (some .int) (some (.int rv)) Hf) : ∀ (a0 : (Option Nat)) (a1 : Int32) (a2 : Int32) (H : xH), F_X6_partingDay N a0 a1 a2 H = some (rv, Hf) → xWq Z H 0 [xA a0, xI a1, xI a2, xN, xN, xN, xN, xN, xN] [] := by
  have hz : Z.1 = (cX6_partingDay, yX6_partingDay, 9) := by rw [hZ]; rfl
  have hδ : Z.2.1 = 1 := by rw [hZ]; rfl
  intro a0 a1 a2 H h
  unfold F_X6_partingDay at h
  refine x_bipush (v := (9 : Int32)) hz dX6_partingDay_0 (by decide) ?_
  refine x_istore_n (pl' := [xA a0, xI a1, xI a2, xI (9 : Int32), xN, xN, xN, xN, xN]) hz dX6_partingDay_2 (by decide) rfl ?_
  refine x_iload_n hz dX6_partingDay_3 rfl ?_
  refine x_istore (pl' := [xA a0, xI a1, xI a2, xI (9 : Int32), xI a1, xN, xN, xN, xN]) hz dX6_partingDay_4 (by decide) rfl ?_
  refine x_iload_n hz dX6_partingDay_6 rfl ?_
  refine x_istore (pl' := [xA a0, xI a1, xI a2, xI (9 : Int32), xI a1, xI a2, xN, xN, xN]) hz dX6_partingDay_7 (by decide) rfl ?_
  refine x_iconst (v := (0 : Int32)) hz dX6_partingDay_9 (by decide) ?_
  refine x_istore (pl' := [xA a0, xI a1, xI a2, xI (9 : Int32), xI a1, xI a2, xI (0 : Int32), xN, xN]) hz dX6_partingDay_10 (by decide) rfl ?_
  exact x_wk (xwk_c (xwk_n (xwk_n (xwk_c (xwk_c (xwk_c (xwk_c (xwk_n (xwk_n xwk_0))))))))) ((P_X6_partingDay_L12 hZ (P_X6_partingDay_J96 hZ) N) a0 (9 : Int32) a1 a2 (0 : Int32) H h)
theorem M_X6_partingDay {N : Nat} {a0 : (Option Nat)} {a1 : Int32} {a2 : Int32} {H H1 : xH} {r1 : Int32} (h : F_X6_partingDay N a0 a1 a2 H = some (r1, H1)) : xM yX6_partingDay cX6_partingDay 9 (some .int) 1 [.inr (.inr a0), .inl a1, .inl a2] H (some (.int r1)) H1 :=
  xM_of (by decide +kernel) (xT_tb 753 (by decide +kernel) (by decide +kernel)) (by simp [xargs, x2]) rfl (P_X6_partingDay rfl a0 a1 a2 H h)
/-! BettingBook$RowTable.decidedOn(II)I -/
noncomputable def F_X6_decidedOn_J68 (N : Nat) (k16 : (Option Nat) → Int32 → Int32 → Int32 → Int32 → Int32 → xH → Option (Int32 × xH)) (x0 : (Option Nat)) (x1 : Int32) (x2 : Int32) (x3 : Int32) (x4 : Int32) (x5 : Int32) (H : xH) : Option (Int32 × xH) :=
  k16 x0 x1 x2 x3 x4 (x5 + 1) H
set_option maxRecDepth 20000 in
set_option maxHeartbeats 4000000 in
theorem P_X6_decidedOn_J68 {N : Nat} {Z : xZ} {rv : Int32} {Hf : xH} (hZ : Z = xZm cX6_decidedOn yX6_decidedOn 8 2 (some .int) (some (.int rv)) Hf) {k16 : (Option Nat) → Int32 → Int32 → Int32 → Int32 → Int32 → xH → Option (Int32 × xH)} (hk16 : ∀ (x0 : (Option Nat)) (x1 : Int32) (x2 : Int32) (x3 : Int32) (x4 : Int32) (x5 : Int32) (H : xH), k16 x0 x1 x2 x3 x4 x5 H = some (rv, Hf) → xWq Z H 16 [xA x0, xI x1, xI x2, xI x3, xI x4, xI x5, xN, xN] []) : ∀ (x0 : (Option Nat)) (x1 : Int32) (x2 : Int32) (x3 : Int32) (x4 : Int32) (x5 : Int32) (H : xH), F_X6_decidedOn_J68 N k16 x0 x1 x2 x3 x4 x5 H = some (rv, Hf) → xWq Z H 68 [xA x0, xI x1, xI x2, xI x3, xI x4, xI x5, xN, xN] [] := by
  have hz : Z.1 = (cX6_decidedOn, yX6_decidedOn, 8) := by rw [hZ]; rfl
  have hδ : Z.2.1 = 2 := by rw [hZ]; rfl
  intro x0 x1 x2 x3 x4 x5 H h
  unfold F_X6_decidedOn_J68 at h
  refine x_iinc (w := (x5 + 1)) (pl' := [xA x0, xI x1, xI x2, xI x3, xI x4, xI (x5 + 1), xN, xN]) hz dX6_decidedOn_68 rfl rfl (by decide) rfl ?_
  refine x_goto (t := 16) hz dX6_decidedOn_71 (by decide) ?_
  exact x_wk (xwk_c (xwk_c (xwk_c (xwk_c (xwk_c (xwk_c (xwk_n (xwk_n xwk_0)))))))) (hk16 x0 x1 x2 x3 x4 (x5 + 1) H h)
noncomputable def F_X6_decidedOn_J16 (N : Nat) (k16 : (Option Nat) → Int32 → Int32 → Int32 → Int32 → Int32 → xH → Option (Int32 × xH)) (x0 : (Option Nat)) (x1 : Int32) (x2 : Int32) (x3 : Int32) (x4 : Int32) (x5 : Int32) (H : xH) : Option (Int32 × xH) :=
  (xgI H x0 6 1).bind fun v1 =>
  if v1 ≤ x5 then (some (x4, H)) else ((xob H x0 6).bind fun b4 =>
  x_bd2 (F_X6_cellAt N x0 x5 H) fun v5 H3 =>
  if (lg_cmp (v5 &&& (2305843009213693952 : Int64)) (0 : Int64)) = 0 then ((F_X6_decidedOn_J68 N k16) x0 x1 x2 x3 x4 x5 H3) else (x_bd2 (F_X11_outcomeBits N v5 x1 H3) fun v8 H7 =>
  if v8 = x3 then ((F_X6_decidedOn_J68 N k16) x0 x1 x2 x3 x4 x5 H7) else ((xob H7 x0 6).bind fun b11 =>
  x_bd2 (F_X6_partingDay N x0 x2 x5 H7) fun v12 H10 =>
  (F_X6_decidedOn_J68 N k16) x0 x1 x2 x3 (xmax x4 v12) x5 H10)))
set_option maxRecDepth 20000 in
set_option maxHeartbeats 4000000 in
theorem P_X6_decidedOn_J16 {N : Nat} {Z : xZ} {rv : Int32} {Hf : xH} (hZ : Z = xZm cX6_decidedOn yX6_decidedOn 8 2 (some .int) (some (.int rv)) Hf) {k16 : (Option Nat) → Int32 → Int32 → Int32 → Int32 → Int32 → xH → Option (Int32 × xH)} (hk16 : ∀ (x0 : (Option Nat)) (x1 : Int32) (x2 : Int32) (x3 : Int32) (x4 : Int32) (x5 : Int32) (H : xH), k16 x0 x1 x2 x3 x4 x5 H = some (rv, Hf) → xWq Z H 16 [xA x0, xI x1, xI x2, xI x3, xI x4, xI x5, xN, xN] []) : ∀ (x0 : (Option Nat)) (x1 : Int32) (x2 : Int32) (x3 : Int32) (x4 : Int32) (x5 : Int32) (H : xH), F_X6_decidedOn_J16 N k16 x0 x1 x2 x3 x4 x5 H = some (rv, Hf) → xWq Z H 16 [xA x0, xI x1, xI x2, xI x3, xI x4, xI x5, xN, xN] [] := by
  have hz : Z.1 = (cX6_decidedOn, yX6_decidedOn, 8) := by rw [hZ]; rfl
  have hδ : Z.2.1 = 2 := by rw [hZ]; rfl
  intro x0 x1 x2 x3 x4 x5 H h
  unfold F_X6_decidedOn_J16 at h
  refine x_iload hz dX6_decidedOn_16 rfl ?_
  refine x_aload_n hz dX6_decidedOn_18 rfl ?_
  obtain ⟨v1, e_v1, h⟩ := x_bnd h
  refine x_getI hz dX6_decidedOn_19 fs_X6_37 e_v1 ?_
  refine x_icmp_ge (t := 74) hz dX6_decidedOn_22 (by decide) (fun c2 => ?_) (fun c2 => ?_)
  · replace h := x_ip c2 h
    refine x_iload hz dX6_decidedOn_74 rfl ?_
    cases h
    exact x_iret hZ dX6_decidedOn_76
  · replace h := x_in c2 h
    refine x_aload_n hz dX6_decidedOn_25 rfl ?_
    refine x_iload hz dX6_decidedOn_26 rfl ?_
    obtain ⟨b4, e_b4, h⟩ := x_bnd h
    obtain ⟨v5, H3, e_H3, h⟩ := x_b2 h
    refine x_callVl (as := [.inl x5]) (st := []) cs_X6_91 (ci := 6) ⟨rfl, rfl⟩ rfl rfl hz (by omega) (by decide) dX6_decidedOn_28 e_b4 (M_X6_cellAt e_H3) ?_
    refine x_lstore (pl' := [xA x0, xI x1, xI x2, xI x3, xI x4, xI x5, xJ v5, xN]) hz dX6_decidedOn_31 (by decide) rfl ?_
    refine x_lload hz dX6_decidedOn_33 rfl ?_
    refine x_ldc2 (v := (2305843009213693952 : Int64)) hz dX6_decidedOn_35 wc_X6_53 ?_
    refine x_land hz dX6_decidedOn_38 ?_
    refine x_lconst (v := (0 : Int64)) hz dX6_decidedOn_39 (by decide) ?_
    refine x_lcmp hz dX6_decidedOn_40 ?_
    refine x_if_eq (t := 68) hz dX6_decidedOn_41 (by decide) (fun c6 => ?_) (fun c6 => ?_)
    · replace h := x_ip c6 h
      exact x_wk (xwk_c (xwk_c (xwk_c (xwk_c (xwk_c (xwk_c (xwk_n (xwk_n xwk_0)))))))) ((P_X6_decidedOn_J68 hZ hk16) x0 x1 x2 x3 x4 x5 H3 h)
    · replace h := x_in c6 h
      refine x_lload hz dX6_decidedOn_44 rfl ?_
      refine x_iload_n hz dX6_decidedOn_46 rfl ?_
      obtain ⟨v8, H7, e_H7, h⟩ := x_b2 h
      refine x_callSi (as := [.inr (.inl v5), .inl x1]) (st := []) cs_X6_87 rfl rfl hz (by omega) (by decide) dX6_decidedOn_47 (M_X11_outcomeBits e_H7) ?_
      refine x_iload_n hz dX6_decidedOn_50 rfl ?_
      refine x_icmp_eq (t := 68) hz dX6_decidedOn_51 (by decide) (fun c9 => ?_) (fun c9 => ?_)
      · replace h := x_ip c9 h
        exact x_wk (xwk_c (xwk_c (xwk_c (xwk_c (xwk_c (xwk_c (xwk_n (xwk_n xwk_0)))))))) ((P_X6_decidedOn_J68 hZ hk16) x0 x1 x2 x3 x4 x5 H7 h)
      · replace h := x_in c9 h
        refine x_iload hz dX6_decidedOn_54 rfl ?_
        refine x_aload_n hz dX6_decidedOn_56 rfl ?_
        refine x_iload_n hz dX6_decidedOn_57 rfl ?_
        refine x_iload hz dX6_decidedOn_58 rfl ?_
        obtain ⟨b11, e_b11, h⟩ := x_bnd h
        obtain ⟨v12, H10, e_H10, h⟩ := x_b2 h
        refine x_callVi (as := [.inl x2, .inl x5]) (st := [.int x4]) cs_X6_95 (ci := 6) ⟨rfl, rfl⟩ rfl rfl hz (by omega) (Nat.le_trans (x_sm1 rfl x_sm0) (by decide)) dX6_decidedOn_60 e_b11 (M_X6_partingDay e_H10) ?_
        refine x_mmax (st := []) jm_max_X6_98 hz (by omega) (by decide) dX6_decidedOn_63 ?_
        refine x_istore (pl' := [xA x0, xI x1, xI x2, xI x3, xI (xmax x4 v12), xI x5, xJ v5, xN]) hz dX6_decidedOn_66 (by decide) rfl ?_
        exact x_wk (xwk_c (xwk_c (xwk_c (xwk_c (xwk_c (xwk_c (xwk_n (xwk_n xwk_0)))))))) ((P_X6_decidedOn_J68 hZ hk16) x0 x1 x2 x3 (xmax x4 v12) x5 H10 h)
noncomputable def F_X6_decidedOn_L16 (N : Nat) : Nat → (Option Nat) → Int32 → Int32 → Int32 → Int32 → Int32 → xH → Option (Int32 × xH)
  | 0 => fun _ _ _ _ _ _ _ => none
  | n + 1 => F_X6_decidedOn_J16 N (F_X6_decidedOn_L16 N n)
theorem P_X6_decidedOn_L16 {N : Nat} {Z : xZ} {rv : Int32} {Hf : xH} (hZ : Z = xZm cX6_decidedOn yX6_decidedOn 8 2 (some .int) (some (.int rv)) Hf) : ∀ (n : Nat) (x0 : (Option Nat)) (x1 : Int32) (x2 : Int32) (x3 : Int32) (x4 : Int32) (x5 : Int32) (H : xH), F_X6_decidedOn_L16 N n x0 x1 x2 x3 x4 x5 H = some (rv, Hf) → xWq Z H 16 [xA x0, xI x1, xI x2, xI x3, xI x4, xI x5, xN, xN] [] := by
  intro n
  induction n with
  | zero => intro _ _ _ _ _ _ _ h; cases h
  | succ n ih => exact P_X6_decidedOn_J16 hZ ih
noncomputable def F_X6_decidedOn (N : Nat) (a0 : (Option Nat)) (a1 : Int32) (a2 : Int32) (H : xH) : Option (Int32 × xH) :=
  (xob H a0 6).bind fun b2 =>
  x_bd2 (F_X6_cellAt N a0 a2 H) fun v3 H1 =>
  x_bd2 (F_X11_outcomeBits N v3 a1 H1) fun v5 H4 =>
  (F_X6_decidedOn_L16 N N) a0 a1 a2 v5 (0 : Int32) (0 : Int32) H4
set_option maxRecDepth 20000 in
set_option maxHeartbeats 4000000 in
theorem P_X6_decidedOn {N : Nat} {Z : xZ} {rv : Int32} {Hf : xH} (hZ : Z = xZm cX6_decidedOn yX6_decidedOn 8 2 (some .int) (some (.int rv)) Hf) : ∀ (a0 : (Option Nat)) (a1 : Int32) (a2 : Int32) (H : xH), F_X6_decidedOn N a0 a1 a2 H = some (rv, Hf) → xWq Z H 0 [xA a0, xI a1, xI a2, xN, xN, xN, xN, xN] [] := by
  have hz : Z.1 = (cX6_decidedOn, yX6_decidedOn, 8) := by rw [hZ]; rfl
  have hδ : Z.2.1 = 2 := by rw [hZ]; rfl
  intro a0 a1 a2 H h
  unfold F_X6_decidedOn at h
  refine x_aload_n hz dX6_decidedOn_0 rfl ?_
  refine x_iload_n hz dX6_decidedOn_1 rfl ?_
  obtain ⟨b2, e_b2, h⟩ := x_bnd h
  obtain ⟨v3, H1, e_H1, h⟩ := x_b2 h
  refine x_callVl (as := [.inl a2]) (st := []) cs_X6_91 (ci := 6) ⟨rfl, rfl⟩ rfl rfl hz (by omega) (by decide) dX6_decidedOn_2 e_b2 (M_X6_cellAt e_H1) ?_
  refine x_iload_n hz dX6_decidedOn_5 rfl ?_
  obtain ⟨v5, H4, e_H4, h⟩ := x_b2 h
  refine x_callSi (as := [.inr (.inl v3), .inl a1]) (st := []) cs_X6_87 rfl rfl hz (by omega) (by decide) dX6_decidedOn_6 (M_X11_outcomeBits e_H4) ?_
  refine x_istore_n (pl' := [xA a0, xI a1, xI a2, xI v5, xN, xN, xN, xN]) hz dX6_decidedOn_9 (by decide) rfl ?_
  refine x_iconst (v := (0 : Int32)) hz dX6_decidedOn_10 (by decide) ?_
  refine x_istore (pl' := [xA a0, xI a1, xI a2, xI v5, xI (0 : Int32), xN, xN, xN]) hz dX6_decidedOn_11 (by decide) rfl ?_
  refine x_iconst (v := (0 : Int32)) hz dX6_decidedOn_13 (by decide) ?_
  refine x_istore (pl' := [xA a0, xI a1, xI a2, xI v5, xI (0 : Int32), xI (0 : Int32), xN, xN]) hz dX6_decidedOn_14 (by decide) rfl ?_
  exact x_wk (xwk_c (xwk_c (xwk_c (xwk_c (xwk_c (xwk_c (xwk_n (xwk_n xwk_0)))))))) ((P_X6_decidedOn_L16 hZ N) a0 a1 a2 v5 (0 : Int32) (0 : Int32) H4 h)
theorem M_X6_decidedOn {N : Nat} {a0 : (Option Nat)} {a1 : Int32} {a2 : Int32} {H H1 : xH} {r1 : Int32} (h : F_X6_decidedOn N a0 a1 a2 H = some (r1, H1)) : xM yX6_decidedOn cX6_decidedOn 8 (some .int) 2 [.inr (.inr a0), .inl a1, .inl a2] H (some (.int r1)) H1 :=
  xM_of (by decide +kernel) (xT_tb 749 (by decide +kernel) (by decide +kernel)) (by simp [xargs, x2]) rfl (P_X6_decidedOn rfl a0 a1 a2 H h)
/-! BettingBook$RowTable.setClass(II)V -/
noncomputable def F_X6_setClass (N : Nat) (a0 : (Option Nat)) (a1 : Int32) (a2 : Int32) (H : xH) : Option xH :=
  if a1 < 0 then (some H) else ((xgA H a0 6 6).bind fun v2 =>
  (xal .byte H v2).bind fun v3 =>
  if v3 ≤ a1 then (some H) else ((xgA H a0 6 6).bind fun v5 =>
  (xsI .byte H v5 a1 ((a2).toInt8.toInt32)).bind fun H6 =>
  some H6))
set_option maxRecDepth 20000 in
set_option maxHeartbeats 4000000 in
theorem P_X6_setClass {N : Nat} {Z : xZ} {Hf : xH} (hZ : Z = xZm cX6_setClass yX6_setClass 3 1 none none Hf) : ∀ (a0 : (Option Nat)) (a1 : Int32) (a2 : Int32) (H : xH), F_X6_setClass N a0 a1 a2 H = some Hf → xWq Z H 0 [xA a0, xI a1, xI a2] [] := by
  have hz : Z.1 = (cX6_setClass, yX6_setClass, 3) := by rw [hZ]; rfl
  have hδ : Z.2.1 = 1 := by rw [hZ]; rfl
  intro a0 a1 a2 H h
  unfold F_X6_setClass at h
  refine x_iload_n hz dX6_setClass_0 rfl ?_
  refine x_if_lt (t := 21) hz dX6_setClass_1 (by decide) (fun c1 => ?_) (fun c1 => ?_)
  · replace h := x_ip c1 h
    cases h
    exact x_vret hZ dX6_setClass_21
  · replace h := x_in c1 h
    refine x_iload_n hz dX6_setClass_4 rfl ?_
    refine x_aload_n hz dX6_setClass_5 rfl ?_
    obtain ⟨v2, e_v2, h⟩ := x_bnd h
    refine x_getA hz dX6_setClass_6 fs_X6_15 e_v2 ?_
    obtain ⟨v3, e_v3, h⟩ := x_bnd h
    refine x_alen (t0 := 2) (fun _ => rfl) hz dX6_setClass_9 e_v3 ?_
    refine x_icmp_ge (t := 21) hz dX6_setClass_10 (by decide) (fun c4 => ?_) (fun c4 => ?_)
    · replace h := x_ip c4 h
      cases h
      exact x_vret hZ dX6_setClass_21
    · replace h := x_in c4 h
      refine x_aload_n hz dX6_setClass_13 rfl ?_
      obtain ⟨v5, e_v5, h⟩ := x_bnd h
      refine x_getA hz dX6_setClass_14 fs_X6_15 e_v5 ?_
      refine x_iload_n hz dX6_setClass_17 rfl ?_
      refine x_iload_n hz dX6_setClass_18 rfl ?_
      refine x_i2b hz dX6_setClass_19 ?_
      obtain ⟨H6, e_H6, h⟩ := x_bnd h
      refine x_bast hz dX6_setClass_20 e_H6 ?_
      cases h
      exact x_vret hZ dX6_setClass_21
theorem M_X6_setClass {N : Nat} {a0 : (Option Nat)} {a1 : Int32} {a2 : Int32} {H H1 : xH} (h : F_X6_setClass N a0 a1 a2 H = some H1) : xM yX6_setClass cX6_setClass 3 none 1 [.inr (.inr a0), .inl a1, .inl a2] H none H1 :=
  xM_of (by decide +kernel) (xT_tb 771 (by decide +kernel) (by decide +kernel)) (by simp [xargs, x2]) rfl (P_X6_setClass rfl a0 a1 a2 H h)
/-! BettingBook$RowTable.classAt(I)I -/
noncomputable def F_X6_classAt (N : Nat) (a0 : (Option Nat)) (a1 : Int32) (H : xH) : Option (Int32 × xH) :=
  if a1 < 0 then (some ((0 : Int32), H)) else ((xgA H a0 6 6).bind fun v2 =>
  (xal .byte H v2).bind fun v3 =>
  if v3 ≤ a1 then (some ((0 : Int32), H)) else ((xgA H a0 6 6).bind fun v5 =>
  (xlI .byte H v5 a1).bind fun v6 =>
  some (v6, H)))
set_option maxRecDepth 20000 in
set_option maxHeartbeats 4000000 in
theorem P_X6_classAt {N : Nat} {Z : xZ} {rv : Int32} {Hf : xH} (hZ : Z = xZm cX6_classAt yX6_classAt 2 1 (some .int) (some (.int rv)) Hf) : ∀ (a0 : (Option Nat)) (a1 : Int32) (H : xH), F_X6_classAt N a0 a1 H = some (rv, Hf) → xWq Z H 0 [xA a0, xI a1] [] := by
  have hz : Z.1 = (cX6_classAt, yX6_classAt, 2) := by rw [hZ]; rfl
  have hδ : Z.2.1 = 1 := by rw [hZ]; rfl
  intro a0 a1 H h
  unfold F_X6_classAt at h
  refine x_iload_n hz dX6_classAt_0 rfl ?_
  refine x_if_lt (t := 22) hz dX6_classAt_1 (by decide) (fun c1 => ?_) (fun c1 => ?_)
  · replace h := x_ip c1 h
    refine x_iconst (v := (0 : Int32)) hz dX6_classAt_22 (by decide) ?_
    cases h
    exact x_iret hZ dX6_classAt_23
  · replace h := x_in c1 h
    refine x_iload_n hz dX6_classAt_4 rfl ?_
    refine x_aload_n hz dX6_classAt_5 rfl ?_
    obtain ⟨v2, e_v2, h⟩ := x_bnd h
    refine x_getA hz dX6_classAt_6 fs_X6_15 e_v2 ?_
    obtain ⟨v3, e_v3, h⟩ := x_bnd h
    refine x_alen (t0 := 2) (fun _ => rfl) hz dX6_classAt_9 e_v3 ?_
    refine x_icmp_ge (t := 22) hz dX6_classAt_10 (by decide) (fun c4 => ?_) (fun c4 => ?_)
    · replace h := x_ip c4 h
      refine x_iconst (v := (0 : Int32)) hz dX6_classAt_22 (by decide) ?_
      cases h
      exact x_iret hZ dX6_classAt_23
    · replace h := x_in c4 h
      refine x_aload_n hz dX6_classAt_13 rfl ?_
      obtain ⟨v5, e_v5, h⟩ := x_bnd h
      refine x_getA hz dX6_classAt_14 fs_X6_15 e_v5 ?_
      refine x_iload_n hz dX6_classAt_17 rfl ?_
      obtain ⟨v6, e_v6, h⟩ := x_bnd h
      refine x_bald hz dX6_classAt_18 e_v6 ?_
      refine x_goto (t := 23) hz dX6_classAt_19 (by decide) ?_
      cases h
      exact x_iret hZ dX6_classAt_23
theorem M_X6_classAt {N : Nat} {a0 : (Option Nat)} {a1 : Int32} {H H1 : xH} {r1 : Int32} (h : F_X6_classAt N a0 a1 H = some (r1, H1)) : xM yX6_classAt cX6_classAt 2 (some .int) 1 [.inr (.inr a0), .inl a1] H (some (.int r1)) H1 :=
  xM_of (by decide +kernel) (xT_tb 783 (by decide +kernel) (by decide +kernel)) (by simp [xargs, x2]) rfl (P_X6_classAt rfl a0 a1 H h)
/-! BettingBook$RowTable.joinDay(III)Z -/
noncomputable def F_X6_joinDay_J53 (N : Nat) (k3 : (Option Nat) → Int32 → Int32 → Int32 → Int32 → xH → Option (Int32 × xH)) (x0 : (Option Nat)) (x1 : Int32) (x2 : Int32) (x3 : Int32) (x4 : Int32) (x5 : Int32) (H : xH) : Option (Int32 × xH) :=
  (xob H x0 6).bind fun b2 =>
  (F_X6_setClass N x0 x4 x5 H).bind fun H1 =>
  k3 x0 x1 x2 x3 (x4 + 1) H1
set_option maxRecDepth 20000 in
set_option maxHeartbeats 4000000 in
theorem P_X6_joinDay_J53 {N : Nat} {Z : xZ} {rv : Int32} {Hf : xH} (hZ : Z = xZm cX6_joinDay yX6_joinDay 6 2 (some .boolean) (some (.int rv)) Hf) {k3 : (Option Nat) → Int32 → Int32 → Int32 → Int32 → xH → Option (Int32 × xH)} (hk3 : ∀ (x0 : (Option Nat)) (x1 : Int32) (x2 : Int32) (x3 : Int32) (x4 : Int32) (H : xH), k3 x0 x1 x2 x3 x4 H = some (rv, Hf) → xWq Z H 3 [xA x0, xI x1, xI x2, xI x3, xI x4, xN] []) : ∀ (x0 : (Option Nat)) (x1 : Int32) (x2 : Int32) (x3 : Int32) (x4 : Int32) (x5 : Int32) (H : xH), F_X6_joinDay_J53 N k3 x0 x1 x2 x3 x4 x5 H = some (rv, Hf) → xWq Z H 53 [xA x0, xI x1, xI x2, xI x3, xI x4, xI x5] [] := by
  have hz : Z.1 = (cX6_joinDay, yX6_joinDay, 6) := by rw [hZ]; rfl
  have hδ : Z.2.1 = 2 := by rw [hZ]; rfl
  intro x0 x1 x2 x3 x4 x5 H h
  unfold F_X6_joinDay_J53 at h
  refine x_aload_n hz dX6_joinDay_53 rfl ?_
  refine x_iload hz dX6_joinDay_54 rfl ?_
  refine x_iload hz dX6_joinDay_56 rfl ?_
  obtain ⟨b2, e_b2, h⟩ := x_bnd h
  obtain ⟨H1, e_H1, h⟩ := x_bnd h
  refine x_callVv (as := [.inl x4, .inl x5]) (st := []) cs_X6_103 (ci := 6) ⟨rfl, rfl⟩ rfl rfl hz (by omega) (by decide) dX6_joinDay_58 e_b2 (M_X6_setClass e_H1) ?_
  refine x_iinc (w := (x4 + 1)) (pl' := [xA x0, xI x1, xI x2, xI x3, xI (x4 + 1), xI x5]) hz dX6_joinDay_61 rfl rfl (by decide) rfl ?_
  refine x_goto (t := 3) hz dX6_joinDay_64 (by decide) ?_
  exact x_wk (xwk_c (xwk_c (xwk_c (xwk_c (xwk_c (xwk_n xwk_0)))))) (hk3 x0 x1 x2 x3 (x4 + 1) H1 h)
noncomputable def F_X6_joinDay_J3 (N : Nat) (k3 : (Option Nat) → Int32 → Int32 → Int32 → Int32 → xH → Option (Int32 × xH)) (x0 : (Option Nat)) (x1 : Int32) (x2 : Int32) (x3 : Int32) (x4 : Int32) (H : xH) : Option (Int32 × xH) :=
  if (x1 + x2) ≤ x4 then (some ((1 : Int32), H)) else ((xob H x0 6).bind fun b3 =>
  x_bd2 (F_X6_classAt N x0 x4 H) fun v4 H2 =>
  (xob H2 x0 6).bind fun b6 =>
  x_bd2 (F_X6_classAt N x0 (x4 + ((x3 + (1 : Int32)) * x2)) H2) fun v7 H5 =>
  if ((v4 ||| v7) &&& (32 : Int32)) = 0 then ((F_X6_joinDay_J53 N k3) x0 x1 x2 x3 x4 (v4 ||| v7) H5) else (x_bd2 (F_X6_isMixed N ((v4 ||| v7) &&& (31 : Int32)) H5) fun v10 H9 =>
  if v10 = 0 then ((F_X6_joinDay_J53 N k3) x0 x1 x2 x3 x4 (v4 ||| v7) H9) else (some ((0 : Int32), H9))))
set_option maxRecDepth 20000 in
set_option maxHeartbeats 4000000 in
theorem P_X6_joinDay_J3 {N : Nat} {Z : xZ} {rv : Int32} {Hf : xH} (hZ : Z = xZm cX6_joinDay yX6_joinDay 6 2 (some .boolean) (some (.int rv)) Hf) {k3 : (Option Nat) → Int32 → Int32 → Int32 → Int32 → xH → Option (Int32 × xH)} (hk3 : ∀ (x0 : (Option Nat)) (x1 : Int32) (x2 : Int32) (x3 : Int32) (x4 : Int32) (H : xH), k3 x0 x1 x2 x3 x4 H = some (rv, Hf) → xWq Z H 3 [xA x0, xI x1, xI x2, xI x3, xI x4, xN] []) : ∀ (x0 : (Option Nat)) (x1 : Int32) (x2 : Int32) (x3 : Int32) (x4 : Int32) (H : xH), F_X6_joinDay_J3 N k3 x0 x1 x2 x3 x4 H = some (rv, Hf) → xWq Z H 3 [xA x0, xI x1, xI x2, xI x3, xI x4, xN] [] := by
  have hz : Z.1 = (cX6_joinDay, yX6_joinDay, 6) := by rw [hZ]; rfl
  have hδ : Z.2.1 = 2 := by rw [hZ]; rfl
  intro x0 x1 x2 x3 x4 H h
  unfold F_X6_joinDay_J3 at h
  refine x_iload hz dX6_joinDay_3 rfl ?_
  refine x_iload_n hz dX6_joinDay_5 rfl ?_
  refine x_iload_n hz dX6_joinDay_6 rfl ?_
  refine x_iadd hz dX6_joinDay_7 ?_
  refine x_icmp_ge (t := 67) hz dX6_joinDay_8 (by decide) (fun c1 => ?_) (fun c1 => ?_)
  · replace h := x_ip c1 h
    refine x_iconst (v := (1 : Int32)) hz dX6_joinDay_67 (by decide) ?_
    cases h
    exact x_zret01 hZ (Or.inr rfl) dX6_joinDay_68
  · replace h := x_in c1 h
    refine x_aload_n hz dX6_joinDay_11 rfl ?_
    refine x_iload hz dX6_joinDay_12 rfl ?_
    obtain ⟨b3, e_b3, h⟩ := x_bnd h
    obtain ⟨v4, H2, e_H2, h⟩ := x_b2 h
    refine x_callVi (as := [.inl x4]) (st := []) cs_X6_133 (ci := 6) ⟨rfl, rfl⟩ rfl rfl hz (by omega) (by decide) dX6_joinDay_14 e_b3 (M_X6_classAt e_H2) ?_
    refine x_aload_n hz dX6_joinDay_17 rfl ?_
    refine x_iload hz dX6_joinDay_18 rfl ?_
    refine x_iload_n hz dX6_joinDay_20 rfl ?_
    refine x_iconst (v := (1 : Int32)) hz dX6_joinDay_21 (by decide) ?_
    refine x_iadd hz dX6_joinDay_22 ?_
    refine x_iload_n hz dX6_joinDay_23 rfl ?_
    refine x_imul hz dX6_joinDay_24 ?_
    refine x_iadd hz dX6_joinDay_25 ?_
    obtain ⟨b6, e_b6, h⟩ := x_bnd h
    obtain ⟨v7, H5, e_H5, h⟩ := x_b2 h
    refine x_callVi (as := [.inl (x4 + ((x3 + (1 : Int32)) * x2))]) (st := [.int v4]) cs_X6_133 (ci := 6) ⟨rfl, rfl⟩ rfl rfl hz (by omega) (Nat.le_trans (x_sm1 rfl x_sm0) (by decide)) dX6_joinDay_26 e_b6 (M_X6_classAt e_H5) ?_
    refine x_ior hz dX6_joinDay_29 ?_
    refine x_istore (pl' := [xA x0, xI x1, xI x2, xI x3, xI x4, xI (v4 ||| v7)]) hz dX6_joinDay_30 (by decide) rfl ?_
    refine x_iload hz dX6_joinDay_32 rfl ?_
    refine x_bipush (v := (32 : Int32)) hz dX6_joinDay_34 (by decide) ?_
    refine x_iand hz dX6_joinDay_36 ?_
    refine x_if_eq (t := 53) hz dX6_joinDay_37 (by decide) (fun c8 => ?_) (fun c8 => ?_)
    · replace h := x_ip c8 h
      exact x_wk (xwk_c (xwk_c (xwk_c (xwk_c (xwk_c (xwk_c xwk_0)))))) ((P_X6_joinDay_J53 hZ hk3) x0 x1 x2 x3 x4 (v4 ||| v7) H5 h)
    · replace h := x_in c8 h
      refine x_iload hz dX6_joinDay_40 rfl ?_
      refine x_bipush (v := (31 : Int32)) hz dX6_joinDay_42 (by decide) ?_
      refine x_iand hz dX6_joinDay_44 ?_
      obtain ⟨v10, H9, e_H9, h⟩ := x_b2 h
      refine x_callSi (as := [.inl ((v4 ||| v7) &&& (31 : Int32))]) (st := []) cs_X6_136 rfl rfl hz (by omega) (by decide) dX6_joinDay_45 (M_X6_isMixed e_H9) ?_
      refine x_if_eq (t := 53) hz dX6_joinDay_48 (by decide) (fun c11 => ?_) (fun c11 => ?_)
      · replace h := x_ip c11 h
        exact x_wk (xwk_c (xwk_c (xwk_c (xwk_c (xwk_c (xwk_c xwk_0)))))) ((P_X6_joinDay_J53 hZ hk3) x0 x1 x2 x3 x4 (v4 ||| v7) H9 h)
      · replace h := x_in c11 h
        refine x_iconst (v := (0 : Int32)) hz dX6_joinDay_51 (by decide) ?_
        cases h
        exact x_zret01 hZ (Or.inl rfl) dX6_joinDay_52
noncomputable def F_X6_joinDay_L3 (N : Nat) : Nat → (Option Nat) → Int32 → Int32 → Int32 → Int32 → xH → Option (Int32 × xH)
  | 0 => fun _ _ _ _ _ _ => none
  | n + 1 => F_X6_joinDay_J3 N (F_X6_joinDay_L3 N n)
theorem P_X6_joinDay_L3 {N : Nat} {Z : xZ} {rv : Int32} {Hf : xH} (hZ : Z = xZm cX6_joinDay yX6_joinDay 6 2 (some .boolean) (some (.int rv)) Hf) : ∀ (n : Nat) (x0 : (Option Nat)) (x1 : Int32) (x2 : Int32) (x3 : Int32) (x4 : Int32) (H : xH), F_X6_joinDay_L3 N n x0 x1 x2 x3 x4 H = some (rv, Hf) → xWq Z H 3 [xA x0, xI x1, xI x2, xI x3, xI x4, xN] [] := by
  intro n
  induction n with
  | zero => intro _ _ _ _ _ _ h; cases h
  | succ n ih => exact P_X6_joinDay_J3 hZ ih
noncomputable def F_X6_joinDay (N : Nat) (a0 : (Option Nat)) (a1 : Int32) (a2 : Int32) (a3 : Int32) (H : xH) : Option (Int32 × xH) :=
  (F_X6_joinDay_L3 N N) a0 a1 a2 a3 a1 H
set_option maxRecDepth 20000 in
set_option maxHeartbeats 4000000 in
theorem P_X6_joinDay {N : Nat} {Z : xZ} {rv : Int32} {Hf : xH} (hZ : Z = xZm cX6_joinDay yX6_joinDay 6 2 (some .boolean) (some (.int rv)) Hf) : ∀ (a0 : (Option Nat)) (a1 : Int32) (a2 : Int32) (a3 : Int32) (H : xH), F_X6_joinDay N a0 a1 a2 a3 H = some (rv, Hf) → xWq Z H 0 [xA a0, xI a1, xI a2, xI a3, xN, xN] [] := by
  have hz : Z.1 = (cX6_joinDay, yX6_joinDay, 6) := by rw [hZ]; rfl
  have hδ : Z.2.1 = 2 := by rw [hZ]; rfl
  intro a0 a1 a2 a3 H h
  unfold F_X6_joinDay at h
  refine x_iload_n hz dX6_joinDay_0 rfl ?_
  refine x_istore (pl' := [xA a0, xI a1, xI a2, xI a3, xI a1, xN]) hz dX6_joinDay_1 (by decide) rfl ?_
  exact x_wk (xwk_c (xwk_c (xwk_c (xwk_c (xwk_c (xwk_n xwk_0)))))) ((P_X6_joinDay_L3 hZ N) a0 a1 a2 a3 a1 H h)
theorem M_X6_joinDay {N : Nat} {a0 : (Option Nat)} {a1 : Int32} {a2 : Int32} {a3 : Int32} {H H1 : xH} {r1 : Int32} (h : F_X6_joinDay N a0 a1 a2 a3 H = some (r1, H1)) : xM yX6_joinDay cX6_joinDay 6 (some .boolean) 2 [.inr (.inr a0), .inl a1, .inl a2, .inl a3] H (some (.int r1)) H1 :=
  xM_of (by decide +kernel) (xT_tb 779 (by decide +kernel) (by decide +kernel)) (by simp [xargs, x2]) rfl (P_X6_joinDay rfl a0 a1 a2 a3 H h)
/-! BettingBook$RowTable.forgetDay(I)Z -/
noncomputable def F_X6_forgetDay_J15 (N : Nat) (k15 : (Option Nat) → Int32 → Int32 → Int32 → Int32 → xH → Option (Int32 × xH)) (k49 : (Option Nat) → Int32 → Int32 → Int32 → xH → Option (Int32 × xH)) (x0 : (Option Nat)) (x1 : Int32) (x2 : Int32) (x3 : Int32) (x4 : Int32) (H : xH) : Option (Int32 × xH) :=
  (xgI H x0 6 1).bind fun v1 =>
  if v1 ≤ x4 then (k49 x0 x1 x2 x3 H) else ((xob H x0 6).bind fun b4 =>
  x_bd2 (F_X6_joinDay N x0 x4 x2 x1 H) fun v5 H3 =>
  if v5 = 0 then (some ((0 : Int32), H3)) else (k15 x0 x1 x2 x3 (x4 + ((9 : Int32) * x2)) H3))
set_option maxRecDepth 20000 in
set_option maxHeartbeats 4000000 in
theorem P_X6_forgetDay_J15 {N : Nat} {Z : xZ} {rv : Int32} {Hf : xH} (hZ : Z = xZm cX6_forgetDay yX6_forgetDay 5 3 (some .boolean) (some (.int rv)) Hf) {k15 : (Option Nat) → Int32 → Int32 → Int32 → Int32 → xH → Option (Int32 × xH)} (hk15 : ∀ (x0 : (Option Nat)) (x1 : Int32) (x2 : Int32) (x3 : Int32) (x4 : Int32) (H : xH), k15 x0 x1 x2 x3 x4 H = some (rv, Hf) → xWq Z H 15 [xA x0, xI x1, xI x2, xI x3, xI x4] []) {k49 : (Option Nat) → Int32 → Int32 → Int32 → xH → Option (Int32 × xH)} (hk49 : ∀ (x0 : (Option Nat)) (x1 : Int32) (x2 : Int32) (x3 : Int32) (H : xH), k49 x0 x1 x2 x3 H = some (rv, Hf) → xWq Z H 49 [xA x0, xI x1, xI x2, xI x3, xN] []) : ∀ (x0 : (Option Nat)) (x1 : Int32) (x2 : Int32) (x3 : Int32) (x4 : Int32) (H : xH), F_X6_forgetDay_J15 N k15 k49 x0 x1 x2 x3 x4 H = some (rv, Hf) → xWq Z H 15 [xA x0, xI x1, xI x2, xI x3, xI x4] [] := by
  have hz : Z.1 = (cX6_forgetDay, yX6_forgetDay, 5) := by rw [hZ]; rfl
  have hδ : Z.2.1 = 3 := by rw [hZ]; rfl
  intro x0 x1 x2 x3 x4 H h
  unfold F_X6_forgetDay_J15 at h
  refine x_iload hz dX6_forgetDay_15 rfl ?_
  refine x_aload_n hz dX6_forgetDay_17 rfl ?_
  obtain ⟨v1, e_v1, h⟩ := x_bnd h
  refine x_getI hz dX6_forgetDay_18 fs_X6_37 e_v1 ?_
  refine x_icmp_ge (t := 49) hz dX6_forgetDay_21 (by decide) (fun c2 => ?_) (fun c2 => ?_)
  · replace h := x_ip c2 h
    exact x_wk (xwk_c (xwk_c (xwk_c (xwk_c (xwk_n xwk_0))))) (hk49 x0 x1 x2 x3 H h)
  · replace h := x_in c2 h
    refine x_aload_n hz dX6_forgetDay_24 rfl ?_
    refine x_iload hz dX6_forgetDay_25 rfl ?_
    refine x_iload_n hz dX6_forgetDay_27 rfl ?_
    refine x_iload_n hz dX6_forgetDay_28 rfl ?_
    obtain ⟨b4, e_b4, h⟩ := x_bnd h
    obtain ⟨v5, H3, e_H3, h⟩ := x_b2 h
    refine x_callVi (as := [.inl x4, .inl x2, .inl x1]) (st := []) cs_X6_139 (ci := 6) ⟨rfl, rfl⟩ rfl rfl hz (by omega) (by decide) dX6_forgetDay_29 e_b4 (M_X6_joinDay e_H3) ?_
    refine x_if_ne (t := 37) hz dX6_forgetDay_32 (by decide) (fun c6 => ?_) (fun c6 => ?_)
    · replace h := x_in c6 h
      refine x_iload hz dX6_forgetDay_37 rfl ?_
      refine x_bipush (v := (9 : Int32)) hz dX6_forgetDay_39 (by decide) ?_
      refine x_iload_n hz dX6_forgetDay_41 rfl ?_
      refine x_imul hz dX6_forgetDay_42 ?_
      refine x_iadd hz dX6_forgetDay_43 ?_
      refine x_istore (pl' := [xA x0, xI x1, xI x2, xI x3, xI (x4 + ((9 : Int32) * x2))]) hz dX6_forgetDay_44 (by decide) rfl ?_
      refine x_goto (t := 15) hz dX6_forgetDay_46 (by decide) ?_
      exact x_wk (xwk_c (xwk_c (xwk_c (xwk_c (xwk_c xwk_0))))) (hk15 x0 x1 x2 x3 (x4 + ((9 : Int32) * x2)) H3 h)
    · replace h := x_ip c6 h
      refine x_iconst (v := (0 : Int32)) hz dX6_forgetDay_35 (by decide) ?_
      cases h
      exact x_zret01 hZ (Or.inl rfl) dX6_forgetDay_36
noncomputable def F_X6_forgetDay_L15 (N : Nat) (k49 : (Option Nat) → Int32 → Int32 → Int32 → xH → Option (Int32 × xH)) : Nat → (Option Nat) → Int32 → Int32 → Int32 → Int32 → xH → Option (Int32 × xH)
  | 0 => fun _ _ _ _ _ _ => none
  | n + 1 => F_X6_forgetDay_J15 N (F_X6_forgetDay_L15 N k49 n) k49
theorem P_X6_forgetDay_L15 {N : Nat} {Z : xZ} {rv : Int32} {Hf : xH} (hZ : Z = xZm cX6_forgetDay yX6_forgetDay 5 3 (some .boolean) (some (.int rv)) Hf) {k49 : (Option Nat) → Int32 → Int32 → Int32 → xH → Option (Int32 × xH)} (hk49 : ∀ (x0 : (Option Nat)) (x1 : Int32) (x2 : Int32) (x3 : Int32) (H : xH), k49 x0 x1 x2 x3 H = some (rv, Hf) → xWq Z H 49 [xA x0, xI x1, xI x2, xI x3, xN] []) : ∀ (n : Nat) (x0 : (Option Nat)) (x1 : Int32) (x2 : Int32) (x3 : Int32) (x4 : Int32) (H : xH), F_X6_forgetDay_L15 N k49 n x0 x1 x2 x3 x4 H = some (rv, Hf) → xWq Z H 15 [xA x0, xI x1, xI x2, xI x3, xI x4] [] := by
  intro n
  induction n with
  | zero => intro _ _ _ _ _ _ h; cases h
  | succ n ih => exact P_X6_forgetDay_J15 hZ ih hk49
noncomputable def F_X6_forgetDay_J49 (N : Nat) (k4 : (Option Nat) → Int32 → Int32 → Int32 → xH → Option (Int32 × xH)) (x0 : (Option Nat)) (x1 : Int32) (x2 : Int32) (x3 : Int32) (H : xH) : Option (Int32 × xH) :=
  k4 x0 x1 (x2 * (9 : Int32)) (x3 + 1) H
set_option maxRecDepth 20000 in
set_option maxHeartbeats 4000000 in
theorem P_X6_forgetDay_J49 {N : Nat} {Z : xZ} {rv : Int32} {Hf : xH} (hZ : Z = xZm cX6_forgetDay yX6_forgetDay 5 3 (some .boolean) (some (.int rv)) Hf) {k4 : (Option Nat) → Int32 → Int32 → Int32 → xH → Option (Int32 × xH)} (hk4 : ∀ (x0 : (Option Nat)) (x1 : Int32) (x2 : Int32) (x3 : Int32) (H : xH), k4 x0 x1 x2 x3 H = some (rv, Hf) → xWq Z H 4 [xA x0, xI x1, xI x2, xI x3, xN] []) : ∀ (x0 : (Option Nat)) (x1 : Int32) (x2 : Int32) (x3 : Int32) (H : xH), F_X6_forgetDay_J49 N k4 x0 x1 x2 x3 H = some (rv, Hf) → xWq Z H 49 [xA x0, xI x1, xI x2, xI x3, xN] [] := by
  have hz : Z.1 = (cX6_forgetDay, yX6_forgetDay, 5) := by rw [hZ]; rfl
  have hδ : Z.2.1 = 3 := by rw [hZ]; rfl
  intro x0 x1 x2 x3 H h
  unfold F_X6_forgetDay_J49 at h
  refine x_iload_n hz dX6_forgetDay_49 rfl ?_
  refine x_bipush (v := (9 : Int32)) hz dX6_forgetDay_50 (by decide) ?_
  refine x_imul hz dX6_forgetDay_52 ?_
  refine x_istore_n (pl' := [xA x0, xI x1, xI (x2 * (9 : Int32)), xI x3, xN]) hz dX6_forgetDay_53 (by decide) rfl ?_
  refine x_iinc (w := (x3 + 1)) (pl' := [xA x0, xI x1, xI (x2 * (9 : Int32)), xI (x3 + 1), xN]) hz dX6_forgetDay_54 rfl rfl (by decide) rfl ?_
  refine x_goto (t := 4) hz dX6_forgetDay_57 (by decide) ?_
  exact x_wk (xwk_c (xwk_c (xwk_c (xwk_c (xwk_n xwk_0))))) (hk4 x0 x1 (x2 * (9 : Int32)) (x3 + 1) H h)
noncomputable def F_X6_forgetDay_J4 (N : Nat) (k4 : (Option Nat) → Int32 → Int32 → Int32 → xH → Option (Int32 × xH)) (x0 : (Option Nat)) (x1 : Int32) (x2 : Int32) (x3 : Int32) (H : xH) : Option (Int32 × xH) :=
  (xgI H x0 6 0).bind fun v1 =>
  if v1 ≤ x3 then (some ((1 : Int32), H)) else ((F_X6_forgetDay_L15 N (F_X6_forgetDay_J49 N k4) N) x0 x1 x2 x3 (0 : Int32) H)
set_option maxRecDepth 20000 in
set_option maxHeartbeats 4000000 in
theorem P_X6_forgetDay_J4 {N : Nat} {Z : xZ} {rv : Int32} {Hf : xH} (hZ : Z = xZm cX6_forgetDay yX6_forgetDay 5 3 (some .boolean) (some (.int rv)) Hf) {k4 : (Option Nat) → Int32 → Int32 → Int32 → xH → Option (Int32 × xH)} (hk4 : ∀ (x0 : (Option Nat)) (x1 : Int32) (x2 : Int32) (x3 : Int32) (H : xH), k4 x0 x1 x2 x3 H = some (rv, Hf) → xWq Z H 4 [xA x0, xI x1, xI x2, xI x3, xN] []) : ∀ (x0 : (Option Nat)) (x1 : Int32) (x2 : Int32) (x3 : Int32) (H : xH), F_X6_forgetDay_J4 N k4 x0 x1 x2 x3 H = some (rv, Hf) → xWq Z H 4 [xA x0, xI x1, xI x2, xI x3, xN] [] := by
  have hz : Z.1 = (cX6_forgetDay, yX6_forgetDay, 5) := by rw [hZ]; rfl
  have hδ : Z.2.1 = 3 := by rw [hZ]; rfl
  intro x0 x1 x2 x3 H h
  unfold F_X6_forgetDay_J4 at h
  refine x_iload_n hz dX6_forgetDay_4 rfl ?_
  refine x_aload_n hz dX6_forgetDay_5 rfl ?_
  obtain ⟨v1, e_v1, h⟩ := x_bnd h
  refine x_getI hz dX6_forgetDay_6 fs_X6_32 e_v1 ?_
  refine x_icmp_ge (t := 60) hz dX6_forgetDay_9 (by decide) (fun c2 => ?_) (fun c2 => ?_)
  · replace h := x_ip c2 h
    refine x_iconst (v := (1 : Int32)) hz dX6_forgetDay_60 (by decide) ?_
    cases h
    exact x_zret01 hZ (Or.inr rfl) dX6_forgetDay_61
  · replace h := x_in c2 h
    refine x_iconst (v := (0 : Int32)) hz dX6_forgetDay_12 (by decide) ?_
    refine x_istore (pl' := [xA x0, xI x1, xI x2, xI x3, xI (0 : Int32)]) hz dX6_forgetDay_13 (by decide) rfl ?_
    exact x_wk (xwk_c (xwk_c (xwk_c (xwk_c (xwk_c xwk_0))))) ((P_X6_forgetDay_L15 hZ (P_X6_forgetDay_J49 hZ hk4) N) x0 x1 x2 x3 (0 : Int32) H h)
noncomputable def F_X6_forgetDay_L4 (N : Nat) : Nat → (Option Nat) → Int32 → Int32 → Int32 → xH → Option (Int32 × xH)
  | 0 => fun _ _ _ _ _ => none
  | n + 1 => F_X6_forgetDay_J4 N (F_X6_forgetDay_L4 N n)
theorem P_X6_forgetDay_L4 {N : Nat} {Z : xZ} {rv : Int32} {Hf : xH} (hZ : Z = xZm cX6_forgetDay yX6_forgetDay 5 3 (some .boolean) (some (.int rv)) Hf) : ∀ (n : Nat) (x0 : (Option Nat)) (x1 : Int32) (x2 : Int32) (x3 : Int32) (H : xH), F_X6_forgetDay_L4 N n x0 x1 x2 x3 H = some (rv, Hf) → xWq Z H 4 [xA x0, xI x1, xI x2, xI x3, xN] [] := by
  intro n
  induction n with
  | zero => intro _ _ _ _ _ h; cases h
  | succ n ih => exact P_X6_forgetDay_J4 hZ ih
noncomputable def F_X6_forgetDay (N : Nat) (a0 : (Option Nat)) (a1 : Int32) (H : xH) : Option (Int32 × xH) :=
  (F_X6_forgetDay_L4 N N) a0 a1 (1 : Int32) (0 : Int32) H
set_option maxRecDepth 20000 in
set_option maxHeartbeats 4000000 in
theorem P_X6_forgetDay {N : Nat} {Z : xZ} {rv : Int32} {Hf : xH} (hZ : Z = xZm cX6_forgetDay yX6_forgetDay 5 3 (some .boolean) (some (.int rv)) Hf) : ∀ (a0 : (Option Nat)) (a1 : Int32) (H : xH), F_X6_forgetDay N a0 a1 H = some (rv, Hf) → xWq Z H 0 [xA a0, xI a1, xN, xN, xN] [] := by
  have hz : Z.1 = (cX6_forgetDay, yX6_forgetDay, 5) := by rw [hZ]; rfl
  have hδ : Z.2.1 = 3 := by rw [hZ]; rfl
  intro a0 a1 H h
  unfold F_X6_forgetDay at h
  refine x_iconst (v := (1 : Int32)) hz dX6_forgetDay_0 (by decide) ?_
  refine x_istore_n (pl' := [xA a0, xI a1, xI (1 : Int32), xN, xN]) hz dX6_forgetDay_1 (by decide) rfl ?_
  refine x_iconst (v := (0 : Int32)) hz dX6_forgetDay_2 (by decide) ?_
  refine x_istore_n (pl' := [xA a0, xI a1, xI (1 : Int32), xI (0 : Int32), xN]) hz dX6_forgetDay_3 (by decide) rfl ?_
  exact x_wk (xwk_c (xwk_c (xwk_c (xwk_c (xwk_n xwk_0))))) ((P_X6_forgetDay_L4 hZ N) a0 a1 (1 : Int32) (0 : Int32) H h)
theorem M_X6_forgetDay {N : Nat} {a0 : (Option Nat)} {a1 : Int32} {H H1 : xH} {r1 : Int32} (h : F_X6_forgetDay N a0 a1 H = some (r1, H1)) : xM yX6_forgetDay cX6_forgetDay 5 (some .boolean) 3 [.inr (.inr a0), .inl a1] H (some (.int r1)) H1 :=
  xM_of (by decide +kernel) (xT_tb 775 (by decide +kernel) (by decide +kernel)) (by simp [xargs, x2]) rfl (P_X6_forgetDay rfl a0 a1 H h)
/-! BettingBook$RowTable.lastDecided(I)I -/
noncomputable def F_X6_lastDecided_J59 (N : Nat) (k2 : (Option Nat) → Int32 → Int32 → xH → Option (Int32 × xH)) (x0 : (Option Nat)) (x1 : Int32) (x2 : Int32) (s0 : (Option Nat)) (s1 : Int32) (s2 : Int32) (H : xH) : Option (Int32 × xH) :=
  (xob H s0 6).bind fun b2 =>
  (F_X6_setClass N s0 s1 s2 H).bind fun H1 =>
  k2 x0 x1 (x2 + 1) H1
set_option maxRecDepth 20000 in
set_option maxHeartbeats 4000000 in
theorem P_X6_lastDecided_J59 {N : Nat} {Z : xZ} {rv : Int32} {Hf : xH} (hZ : Z = xZm cX6_lastDecided yX6_lastDecided 6 4 (some .int) (some (.int rv)) Hf) {k2 : (Option Nat) → Int32 → Int32 → xH → Option (Int32 × xH)} (hk2 : ∀ (x0 : (Option Nat)) (x1 : Int32) (x2 : Int32) (H : xH), k2 x0 x1 x2 H = some (rv, Hf) → xWq Z H 2 [xA x0, xI x1, xI x2, xN, xN, xN] []) : ∀ (x0 : (Option Nat)) (x1 : Int32) (x2 : Int32) (s0 : (Option Nat)) (s1 : Int32) (s2 : Int32) (H : xH), F_X6_lastDecided_J59 N k2 x0 x1 x2 s0 s1 s2 H = some (rv, Hf) → xWq Z H 59 [xA x0, xI x1, xI x2, xN, xN, xN] [.int s2, .int s1, va_rf s0] := by
  have hz : Z.1 = (cX6_lastDecided, yX6_lastDecided, 6) := by rw [hZ]; rfl
  have hδ : Z.2.1 = 4 := by rw [hZ]; rfl
  intro x0 x1 x2 s0 s1 s2 H h
  unfold F_X6_lastDecided_J59 at h
  obtain ⟨b2, e_b2, h⟩ := x_bnd h
  obtain ⟨H1, e_H1, h⟩ := x_bnd h
  refine x_callVv (as := [.inl s1, .inl s2]) (st := []) cs_X6_103 (ci := 6) ⟨rfl, rfl⟩ rfl rfl hz (by omega) (by decide) dX6_lastDecided_59 e_b2 (M_X6_setClass e_H1) ?_
  refine x_iinc (w := (x2 + 1)) (pl' := [xA x0, xI x1, xI (x2 + 1), xN, xN, xN]) hz dX6_lastDecided_62 rfl rfl (by decide) rfl ?_
  refine x_goto (t := 2) hz dX6_lastDecided_65 (by decide) ?_
  exact x_wk (xwk_c (xwk_c (xwk_c (xwk_n (xwk_n (xwk_n xwk_0)))))) (hk2 x0 x1 (x2 + 1) H1 h)
noncomputable def F_X6_lastDecided_J35 (N : Nat) (k2 : (Option Nat) → Int32 → Int32 → xH → Option (Int32 × xH)) (x0 : (Option Nat)) (x1 : Int32) (x2 : Int32) (x3 : Int64) (s0 : Int32) (H : xH) : Option (Int32 × xH) :=
  if (lg_cmp (x3 &&& (4611686018427387904 : Int64)) (0 : Int64)) = 0 then ((F_X6_lastDecided_J59 N k2) x0 x1 x2 x0 x2 s0 H) else ((F_X6_lastDecided_J59 N k2) x0 x1 x2 x0 x2 (s0 ||| (32 : Int32)) H)
set_option maxRecDepth 20000 in
set_option maxHeartbeats 4000000 in
theorem P_X6_lastDecided_J35 {N : Nat} {Z : xZ} {rv : Int32} {Hf : xH} (hZ : Z = xZm cX6_lastDecided yX6_lastDecided 6 4 (some .int) (some (.int rv)) Hf) {k2 : (Option Nat) → Int32 → Int32 → xH → Option (Int32 × xH)} (hk2 : ∀ (x0 : (Option Nat)) (x1 : Int32) (x2 : Int32) (H : xH), k2 x0 x1 x2 H = some (rv, Hf) → xWq Z H 2 [xA x0, xI x1, xI x2, xN, xN, xN] []) : ∀ (x0 : (Option Nat)) (x1 : Int32) (x2 : Int32) (x3 : Int64) (s0 : Int32) (H : xH), F_X6_lastDecided_J35 N k2 x0 x1 x2 x3 s0 H = some (rv, Hf) → xWq Z H 35 [xA x0, xI x1, xI x2, xJ x3, xN, xN] [.int s0] := by
  have hz : Z.1 = (cX6_lastDecided, yX6_lastDecided, 6) := by rw [hZ]; rfl
  have hδ : Z.2.1 = 4 := by rw [hZ]; rfl
  intro x0 x1 x2 x3 s0 H h
  unfold F_X6_lastDecided_J35 at h
  refine x_istore (pl' := [xA x0, xI x1, xI x2, xJ x3, xN, xI s0]) hz dX6_lastDecided_35 (by decide) rfl ?_
  refine x_aload_n hz dX6_lastDecided_37 rfl ?_
  refine x_iload_n hz dX6_lastDecided_38 rfl ?_
  refine x_lload_n hz dX6_lastDecided_39 rfl ?_
  refine x_ldc2 (v := (4611686018427387904 : Int64)) hz dX6_lastDecided_40 wc_X6_77 ?_
  refine x_land hz dX6_lastDecided_43 ?_
  refine x_lconst (v := (0 : Int64)) hz dX6_lastDecided_44 (by decide) ?_
  refine x_lcmp hz dX6_lastDecided_45 ?_
  refine x_if_ne (t := 54) hz dX6_lastDecided_46 (by decide) (fun c1 => ?_) (fun c1 => ?_)
  · replace h := x_in c1 h
    refine x_iload hz dX6_lastDecided_54 rfl ?_
    refine x_bipush (v := (32 : Int32)) hz dX6_lastDecided_56 (by decide) ?_
    refine x_ior hz dX6_lastDecided_58 ?_
    exact x_wk (xwk_c (xwk_c (xwk_c (xwk_n (xwk_n (xwk_n xwk_0)))))) ((P_X6_lastDecided_J59 hZ hk2) x0 x1 x2 x0 x2 (s0 ||| (32 : Int32)) H h)
  · replace h := x_ip c1 h
    refine x_iload hz dX6_lastDecided_49 rfl ?_
    refine x_goto (t := 59) hz dX6_lastDecided_51 (by decide) ?_
    exact x_wk (xwk_c (xwk_c (xwk_c (xwk_n (xwk_n (xwk_n xwk_0)))))) ((P_X6_lastDecided_J59 hZ hk2) x0 x1 x2 x0 x2 s0 H h)
noncomputable def F_X6_lastDecided_J2 (N : Nat) (k2 : (Option Nat) → Int32 → Int32 → xH → Option (Int32 × xH)) (k68 : (Option Nat) → xH → Option (Int32 × xH)) (x0 : (Option Nat)) (x1 : Int32) (x2 : Int32) (H : xH) : Option (Int32 × xH) :=
  (xgI H x0 6 1).bind fun v1 =>
  if v1 ≤ x2 then (k68 x0 H) else ((xob H x0 6).bind fun b4 =>
  x_bd2 (F_X6_cellAt N x0 x2 H) fun v5 H3 =>
  if (lg_cmp (v5 &&& (2305843009213693952 : Int64)) (0 : Int64)) = 0 then ((F_X6_lastDecided_J35 N k2) x0 x1 x2 v5 (0 : Int32) H3) else (x_bd2 (F_X11_outcomeBits N v5 x1 H3) fun v8 H7 =>
  (F_X6_lastDecided_J35 N k2) x0 x1 x2 v5 v8 H7))
set_option maxRecDepth 20000 in
set_option maxHeartbeats 4000000 in
theorem P_X6_lastDecided_J2 {N : Nat} {Z : xZ} {rv : Int32} {Hf : xH} (hZ : Z = xZm cX6_lastDecided yX6_lastDecided 6 4 (some .int) (some (.int rv)) Hf) {k2 : (Option Nat) → Int32 → Int32 → xH → Option (Int32 × xH)} (hk2 : ∀ (x0 : (Option Nat)) (x1 : Int32) (x2 : Int32) (H : xH), k2 x0 x1 x2 H = some (rv, Hf) → xWq Z H 2 [xA x0, xI x1, xI x2, xN, xN, xN] []) {k68 : (Option Nat) → xH → Option (Int32 × xH)} (hk68 : ∀ (x0 : (Option Nat)) (H : xH), k68 x0 H = some (rv, Hf) → xWq Z H 68 [xA x0, xN, xN, xN, xN, xN] []) : ∀ (x0 : (Option Nat)) (x1 : Int32) (x2 : Int32) (H : xH), F_X6_lastDecided_J2 N k2 k68 x0 x1 x2 H = some (rv, Hf) → xWq Z H 2 [xA x0, xI x1, xI x2, xN, xN, xN] [] := by
  have hz : Z.1 = (cX6_lastDecided, yX6_lastDecided, 6) := by rw [hZ]; rfl
  have hδ : Z.2.1 = 4 := by rw [hZ]; rfl
  intro x0 x1 x2 H h
  unfold F_X6_lastDecided_J2 at h
  refine x_iload_n hz dX6_lastDecided_2 rfl ?_
  refine x_aload_n hz dX6_lastDecided_3 rfl ?_
  obtain ⟨v1, e_v1, h⟩ := x_bnd h
  refine x_getI hz dX6_lastDecided_4 fs_X6_37 e_v1 ?_
  refine x_icmp_ge (t := 68) hz dX6_lastDecided_7 (by decide) (fun c2 => ?_) (fun c2 => ?_)
  · replace h := x_ip c2 h
    exact x_wk (xwk_c (xwk_n (xwk_n (xwk_n (xwk_n (xwk_n xwk_0)))))) (hk68 x0 H h)
  · replace h := x_in c2 h
    refine x_aload_n hz dX6_lastDecided_10 rfl ?_
    refine x_iload_n hz dX6_lastDecided_11 rfl ?_
    obtain ⟨b4, e_b4, h⟩ := x_bnd h
    obtain ⟨v5, H3, e_H3, h⟩ := x_b2 h
    refine x_callVl (as := [.inl x2]) (st := []) cs_X6_91 (ci := 6) ⟨rfl, rfl⟩ rfl rfl hz (by omega) (by decide) dX6_lastDecided_12 e_b4 (M_X6_cellAt e_H3) ?_
    refine x_lstore_n (pl' := [xA x0, xI x1, xI x2, xJ v5, xN, xN]) hz dX6_lastDecided_15 (by decide) rfl ?_
    refine x_lload_n hz dX6_lastDecided_16 rfl ?_
    refine x_ldc2 (v := (2305843009213693952 : Int64)) hz dX6_lastDecided_17 wc_X6_53 ?_
    refine x_land hz dX6_lastDecided_20 ?_
    refine x_lconst (v := (0 : Int64)) hz dX6_lastDecided_21 (by decide) ?_
    refine x_lcmp hz dX6_lastDecided_22 ?_
    refine x_if_ne (t := 30) hz dX6_lastDecided_23 (by decide) (fun c6 => ?_) (fun c6 => ?_)
    · replace h := x_in c6 h
      refine x_lload_n hz dX6_lastDecided_30 rfl ?_
      refine x_iload_n hz dX6_lastDecided_31 rfl ?_
      obtain ⟨v8, H7, e_H7, h⟩ := x_b2 h
      refine x_callSi (as := [.inr (.inl v5), .inl x1]) (st := []) cs_X6_87 rfl rfl hz (by omega) (by decide) dX6_lastDecided_32 (M_X11_outcomeBits e_H7) ?_
      exact x_wk (xwk_c (xwk_c (xwk_c (xwk_c (xwk_n (xwk_n xwk_0)))))) ((P_X6_lastDecided_J35 hZ hk2) x0 x1 x2 v5 v8 H7 h)
    · replace h := x_ip c6 h
      refine x_iconst (v := (0 : Int32)) hz dX6_lastDecided_26 (by decide) ?_
      refine x_goto (t := 35) hz dX6_lastDecided_27 (by decide) ?_
      exact x_wk (xwk_c (xwk_c (xwk_c (xwk_c (xwk_n (xwk_n xwk_0)))))) ((P_X6_lastDecided_J35 hZ hk2) x0 x1 x2 v5 (0 : Int32) H3 h)
noncomputable def F_X6_lastDecided_L2 (N : Nat) (k68 : (Option Nat) → xH → Option (Int32 × xH)) : Nat → (Option Nat) → Int32 → Int32 → xH → Option (Int32 × xH)
  | 0 => fun _ _ _ _ => none
  | n + 1 => F_X6_lastDecided_J2 N (F_X6_lastDecided_L2 N k68 n) k68
theorem P_X6_lastDecided_L2 {N : Nat} {Z : xZ} {rv : Int32} {Hf : xH} (hZ : Z = xZm cX6_lastDecided yX6_lastDecided 6 4 (some .int) (some (.int rv)) Hf) {k68 : (Option Nat) → xH → Option (Int32 × xH)} (hk68 : ∀ (x0 : (Option Nat)) (H : xH), k68 x0 H = some (rv, Hf) → xWq Z H 68 [xA x0, xN, xN, xN, xN, xN] []) : ∀ (n : Nat) (x0 : (Option Nat)) (x1 : Int32) (x2 : Int32) (H : xH), F_X6_lastDecided_L2 N k68 n x0 x1 x2 H = some (rv, Hf) → xWq Z H 2 [xA x0, xI x1, xI x2, xN, xN, xN] [] := by
  intro n
  induction n with
  | zero => intro _ _ _ _ h; cases h
  | succ n ih => exact P_X6_lastDecided_J2 hZ ih hk68
noncomputable def F_X6_lastDecided_J71 (N : Nat) (k71 : (Option Nat) → Int32 → xH → Option (Int32 × xH)) (x0 : (Option Nat)) (x2 : Int32) (H : xH) : Option (Int32 × xH) :=
  if x2 ≤ 0 then (some ((0 : Int32), H)) else ((xob H x0 6).bind fun b3 =>
  x_bd2 (F_X6_forgetDay N x0 x2 H) fun v4 H2 =>
  if v4 = 0 then (some (x2, H2)) else (k71 x0 (x2 + (-1)) H2))
set_option maxRecDepth 20000 in
set_option maxHeartbeats 4000000 in
theorem P_X6_lastDecided_J71 {N : Nat} {Z : xZ} {rv : Int32} {Hf : xH} (hZ : Z = xZm cX6_lastDecided yX6_lastDecided 6 4 (some .int) (some (.int rv)) Hf) {k71 : (Option Nat) → Int32 → xH → Option (Int32 × xH)} (hk71 : ∀ (x0 : (Option Nat)) (x2 : Int32) (H : xH), k71 x0 x2 H = some (rv, Hf) → xWq Z H 71 [xA x0, xN, xI x2, xN, xN, xN] []) : ∀ (x0 : (Option Nat)) (x2 : Int32) (H : xH), F_X6_lastDecided_J71 N k71 x0 x2 H = some (rv, Hf) → xWq Z H 71 [xA x0, xN, xI x2, xN, xN, xN] [] := by
  have hz : Z.1 = (cX6_lastDecided, yX6_lastDecided, 6) := by rw [hZ]; rfl
  have hδ : Z.2.1 = 4 := by rw [hZ]; rfl
  intro x0 x2 H h
  unfold F_X6_lastDecided_J71 at h
  refine x_iload_n hz dX6_lastDecided_71 rfl ?_
  refine x_if_le (t := 91) hz dX6_lastDecided_72 (by decide) (fun c1 => ?_) (fun c1 => ?_)
  · replace h := x_ip c1 h
    refine x_iconst (v := (0 : Int32)) hz dX6_lastDecided_91 (by decide) ?_
    cases h
    exact x_iret hZ dX6_lastDecided_92
  · replace h := x_in c1 h
    refine x_aload_n hz dX6_lastDecided_75 rfl ?_
    refine x_iload_n hz dX6_lastDecided_76 rfl ?_
    obtain ⟨b3, e_b3, h⟩ := x_bnd h
    obtain ⟨v4, H2, e_H2, h⟩ := x_b2 h
    refine x_callVi (as := [.inl x2]) (st := []) cs_X6_107 (ci := 6) ⟨rfl, rfl⟩ rfl rfl hz (by omega) (by decide) dX6_lastDecided_77 e_b3 (M_X6_forgetDay e_H2) ?_
    refine x_if_ne (t := 85) hz dX6_lastDecided_80 (by decide) (fun c5 => ?_) (fun c5 => ?_)
    · replace h := x_in c5 h
      refine x_iinc (w := (x2 + (-1))) (pl' := [xA x0, xN, xI (x2 + (-1)), xN, xN, xN]) hz dX6_lastDecided_85 rfl rfl (by decide) rfl ?_
      refine x_goto (t := 71) hz dX6_lastDecided_88 (by decide) ?_
      exact x_wk (xwk_c (xwk_n (xwk_c (xwk_n (xwk_n (xwk_n xwk_0)))))) (hk71 x0 (x2 + (-1)) H2 h)
    · replace h := x_ip c5 h
      refine x_iload_n hz dX6_lastDecided_83 rfl ?_
      cases h
      exact x_iret hZ dX6_lastDecided_84
noncomputable def F_X6_lastDecided_L71 (N : Nat) : Nat → (Option Nat) → Int32 → xH → Option (Int32 × xH)
  | 0 => fun _ _ _ => none
  | n + 1 => F_X6_lastDecided_J71 N (F_X6_lastDecided_L71 N n)
theorem P_X6_lastDecided_L71 {N : Nat} {Z : xZ} {rv : Int32} {Hf : xH} (hZ : Z = xZm cX6_lastDecided yX6_lastDecided 6 4 (some .int) (some (.int rv)) Hf) : ∀ (n : Nat) (x0 : (Option Nat)) (x2 : Int32) (H : xH), F_X6_lastDecided_L71 N n x0 x2 H = some (rv, Hf) → xWq Z H 71 [xA x0, xN, xI x2, xN, xN, xN] [] := by
  intro n
  induction n with
  | zero => intro _ _ _ h; cases h
  | succ n ih => exact P_X6_lastDecided_J71 hZ ih
noncomputable def F_X6_lastDecided_J68 (N : Nat) (x0 : (Option Nat)) (H : xH) : Option (Int32 × xH) :=
  (F_X6_lastDecided_L71 N N) x0 (7 : Int32) H
set_option maxRecDepth 20000 in
set_option maxHeartbeats 4000000 in
theorem P_X6_lastDecided_J68 {N : Nat} {Z : xZ} {rv : Int32} {Hf : xH} (hZ : Z = xZm cX6_lastDecided yX6_lastDecided 6 4 (some .int) (some (.int rv)) Hf) : ∀ (x0 : (Option Nat)) (H : xH), F_X6_lastDecided_J68 N x0 H = some (rv, Hf) → xWq Z H 68 [xA x0, xN, xN, xN, xN, xN] [] := by
  have hz : Z.1 = (cX6_lastDecided, yX6_lastDecided, 6) := by rw [hZ]; rfl
  have hδ : Z.2.1 = 4 := by rw [hZ]; rfl
  intro x0 H h
  unfold F_X6_lastDecided_J68 at h
  refine x_bipush (v := (7 : Int32)) hz dX6_lastDecided_68 (by decide) ?_
  refine x_istore_n (pl' := [xA x0, xN, xI (7 : Int32), xN, xN, xN]) hz dX6_lastDecided_70 (by decide) rfl ?_
  exact x_wk (xwk_c (xwk_n (xwk_c (xwk_n (xwk_n (xwk_n xwk_0)))))) ((P_X6_lastDecided_L71 hZ N) x0 (7 : Int32) H h)
noncomputable def F_X6_lastDecided (N : Nat) (a0 : (Option Nat)) (a1 : Int32) (H : xH) : Option (Int32 × xH) :=
  (F_X6_lastDecided_L2 N (F_X6_lastDecided_J68 N) N) a0 a1 (0 : Int32) H
set_option maxRecDepth 20000 in
set_option maxHeartbeats 4000000 in
theorem P_X6_lastDecided {N : Nat} {Z : xZ} {rv : Int32} {Hf : xH} (hZ : Z = xZm cX6_lastDecided yX6_lastDecided 6 4 (some .int) (some (.int rv)) Hf) : ∀ (a0 : (Option Nat)) (a1 : Int32) (H : xH), F_X6_lastDecided N a0 a1 H = some (rv, Hf) → xWq Z H 0 [xA a0, xI a1, xN, xN, xN, xN] [] := by
  have hz : Z.1 = (cX6_lastDecided, yX6_lastDecided, 6) := by rw [hZ]; rfl
  have hδ : Z.2.1 = 4 := by rw [hZ]; rfl
  intro a0 a1 H h
  unfold F_X6_lastDecided at h
  refine x_iconst (v := (0 : Int32)) hz dX6_lastDecided_0 (by decide) ?_
  refine x_istore_n (pl' := [xA a0, xI a1, xI (0 : Int32), xN, xN, xN]) hz dX6_lastDecided_1 (by decide) rfl ?_
  exact x_wk (xwk_c (xwk_c (xwk_c (xwk_n (xwk_n (xwk_n xwk_0)))))) ((P_X6_lastDecided_L2 hZ (P_X6_lastDecided_J68 hZ) N) a0 a1 (0 : Int32) H h)
theorem M_X6_lastDecided {N : Nat} {a0 : (Option Nat)} {a1 : Int32} {H H1 : xH} {r1 : Int32} (h : F_X6_lastDecided N a0 a1 H = some (r1, H1)) : xM yX6_lastDecided cX6_lastDecided 6 (some .int) 4 [.inr (.inr a0), .inl a1] H (some (.int r1)) H1 :=
  xM_of (by decide +kernel) (xT_tb 767 (by decide +kernel) (by decide +kernel)) (by simp [xargs, x2]) rfl (P_X6_lastDecided rfl a0 a1 H h)
/-! java/lang/Integer.bitCount(I)I -/
noncomputable def F_J6_bitCount_0f7a4 (N : Nat) (a0 : Int32) (H : xH) : Option (Int32 × xH) :=
  some (((((((((a0 - (((a0.toUInt32 >>> ((1 : Int32).toUInt32 &&& Int32.toUInt32 31)).toInt32) &&& (1431655765 : Int32))) &&& (858993459 : Int32)) + ((((a0 - (((a0.toUInt32 >>> ((1 : Int32).toUInt32 &&& Int32.toUInt32 31)).toInt32) &&& (1431655765 : Int32))).toUInt32 >>> ((2 : Int32).toUInt32 &&& Int32.toUInt32 31)).toInt32) &&& (858993459 : Int32))) + (((((a0 - (((a0.toUInt32 >>> ((1 : Int32).toUInt32 &&& Int32.toUInt32 31)).toInt32) &&& (1431655765 : Int32))) &&& (858993459 : Int32)) + ((((a0 - (((a0.toUInt32 >>> ((1 : Int32).toUInt32 &&& Int32.toUInt32 31)).toInt32) &&& (1431655765 : Int32))).toUInt32 >>> ((2 : Int32).toUInt32 &&& Int32.toUInt32 31)).toInt32) &&& (858993459 : Int32))).toUInt32 >>> ((4 : Int32).toUInt32 &&& Int32.toUInt32 31)).toInt32)) &&& (252645135 : Int32)) + (((((((a0 - (((a0.toUInt32 >>> ((1 : Int32).toUInt32 &&& Int32.toUInt32 31)).toInt32) &&& (1431655765 : Int32))) &&& (858993459 : Int32)) + ((((a0 - (((a0.toUInt32 >>> ((1 : Int32).toUInt32 &&& Int32.toUInt32 31)).toInt32) &&& (1431655765 : Int32))).toUInt32 >>> ((2 : Int32).toUInt32 &&& Int32.toUInt32 31)).toInt32) &&& (858993459 : Int32))) + (((((a0 - (((a0.toUInt32 >>> ((1 : Int32).toUInt32 &&& Int32.toUInt32 31)).toInt32) &&& (1431655765 : Int32))) &&& (858993459 : Int32)) + ((((a0 - (((a0.toUInt32 >>> ((1 : Int32).toUInt32 &&& Int32.toUInt32 31)).toInt32) &&& (1431655765 : Int32))).toUInt32 >>> ((2 : Int32).toUInt32 &&& Int32.toUInt32 31)).toInt32) &&& (858993459 : Int32))).toUInt32 >>> ((4 : Int32).toUInt32 &&& Int32.toUInt32 31)).toInt32)) &&& (252645135 : Int32)).toUInt32 >>> ((8 : Int32).toUInt32 &&& Int32.toUInt32 31)).toInt32)) + ((((((((a0 - (((a0.toUInt32 >>> ((1 : Int32).toUInt32 &&& Int32.toUInt32 31)).toInt32) &&& (1431655765 : Int32))) &&& (858993459 : Int32)) + ((((a0 - (((a0.toUInt32 >>> ((1 : Int32).toUInt32 &&& Int32.toUInt32 31)).toInt32) &&& (1431655765 : Int32))).toUInt32 >>> ((2 : Int32).toUInt32 &&& Int32.toUInt32 31)).toInt32) &&& (858993459 : Int32))) + (((((a0 - (((a0.toUInt32 >>> ((1 : Int32).toUInt32 &&& Int32.toUInt32 31)).toInt32) &&& (1431655765 : Int32))) &&& (858993459 : Int32)) + ((((a0 - (((a0.toUInt32 >>> ((1 : Int32).toUInt32 &&& Int32.toUInt32 31)).toInt32) &&& (1431655765 : Int32))).toUInt32 >>> ((2 : Int32).toUInt32 &&& Int32.toUInt32 31)).toInt32) &&& (858993459 : Int32))).toUInt32 >>> ((4 : Int32).toUInt32 &&& Int32.toUInt32 31)).toInt32)) &&& (252645135 : Int32)) + (((((((a0 - (((a0.toUInt32 >>> ((1 : Int32).toUInt32 &&& Int32.toUInt32 31)).toInt32) &&& (1431655765 : Int32))) &&& (858993459 : Int32)) + ((((a0 - (((a0.toUInt32 >>> ((1 : Int32).toUInt32 &&& Int32.toUInt32 31)).toInt32) &&& (1431655765 : Int32))).toUInt32 >>> ((2 : Int32).toUInt32 &&& Int32.toUInt32 31)).toInt32) &&& (858993459 : Int32))) + (((((a0 - (((a0.toUInt32 >>> ((1 : Int32).toUInt32 &&& Int32.toUInt32 31)).toInt32) &&& (1431655765 : Int32))) &&& (858993459 : Int32)) + ((((a0 - (((a0.toUInt32 >>> ((1 : Int32).toUInt32 &&& Int32.toUInt32 31)).toInt32) &&& (1431655765 : Int32))).toUInt32 >>> ((2 : Int32).toUInt32 &&& Int32.toUInt32 31)).toInt32) &&& (858993459 : Int32))).toUInt32 >>> ((4 : Int32).toUInt32 &&& Int32.toUInt32 31)).toInt32)) &&& (252645135 : Int32)).toUInt32 >>> ((8 : Int32).toUInt32 &&& Int32.toUInt32 31)).toInt32)).toUInt32 >>> ((16 : Int32).toUInt32 &&& Int32.toUInt32 31)).toInt32)) &&& (63 : Int32)), H)
set_option maxRecDepth 20000 in
set_option maxHeartbeats 4000000 in
theorem P_J6_bitCount_0f7a4 {N : Nat} {Z : xZ} {rv : Int32} {Hf : xH} (hZ : Z = xZm cJ6_bitCount_0f7a4 yJ6_bitCount_0f7a4 1 1 (some .int) (some (.int rv)) Hf) : ∀ (a0 : Int32) (H : xH), F_J6_bitCount_0f7a4 N a0 H = some (rv, Hf) → xWq Z H 0 [xI a0] [] := by
  have hz : Z.1 = (cJ6_bitCount_0f7a4, yJ6_bitCount_0f7a4, 1) := by rw [hZ]; rfl
  have hδ : Z.2.1 = 1 := by rw [hZ]; rfl
  intro a0 H h
  unfold F_J6_bitCount_0f7a4 at h
  refine x_iload_n hz dJ6_bitCount_0f7a4_0 rfl ?_
  refine x_iload_n hz dJ6_bitCount_0f7a4_1 rfl ?_
  refine x_iconst (v := (1 : Int32)) hz dJ6_bitCount_0f7a4_2 (by decide) ?_
  refine x_iushr hz dJ6_bitCount_0f7a4_3 ?_
  refine x_ldcw (v := (1431655765 : Int32)) hz dJ6_bitCount_0f7a4_4 wc_J6_265 ?_
  refine x_iand hz dJ6_bitCount_0f7a4_7 ?_
  refine x_isub hz dJ6_bitCount_0f7a4_8 ?_
  refine x_istore_n (pl' := [xI (a0 - (((a0.toUInt32 >>> ((1 : Int32).toUInt32 &&& Int32.toUInt32 31)).toInt32) &&& (1431655765 : Int32)))]) hz dJ6_bitCount_0f7a4_9 (by decide) rfl ?_
  refine x_iload_n hz dJ6_bitCount_0f7a4_10 rfl ?_
  refine x_ldcw (v := (858993459 : Int32)) hz dJ6_bitCount_0f7a4_11 wc_J6_266 ?_
  refine x_iand hz dJ6_bitCount_0f7a4_14 ?_
  refine x_iload_n hz dJ6_bitCount_0f7a4_15 rfl ?_
  refine x_iconst (v := (2 : Int32)) hz dJ6_bitCount_0f7a4_16 (by decide) ?_
  refine x_iushr hz dJ6_bitCount_0f7a4_17 ?_
  refine x_ldcw (v := (858993459 : Int32)) hz dJ6_bitCount_0f7a4_18 wc_J6_266 ?_
  refine x_iand hz dJ6_bitCount_0f7a4_21 ?_
  refine x_iadd hz dJ6_bitCount_0f7a4_22 ?_
  refine x_istore_n (pl' := [xI (((a0 - (((a0.toUInt32 >>> ((1 : Int32).toUInt32 &&& Int32.toUInt32 31)).toInt32) &&& (1431655765 : Int32))) &&& (858993459 : Int32)) + ((((a0 - (((a0.toUInt32 >>> ((1 : Int32).toUInt32 &&& Int32.toUInt32 31)).toInt32) &&& (1431655765 : Int32))).toUInt32 >>> ((2 : Int32).toUInt32 &&& Int32.toUInt32 31)).toInt32) &&& (858993459 : Int32)))]) hz dJ6_bitCount_0f7a4_23 (by decide) rfl ?_
  refine x_iload_n hz dJ6_bitCount_0f7a4_24 rfl ?_
  refine x_iload_n hz dJ6_bitCount_0f7a4_25 rfl ?_
  refine x_iconst (v := (4 : Int32)) hz dJ6_bitCount_0f7a4_26 (by decide) ?_
  refine x_iushr hz dJ6_bitCount_0f7a4_27 ?_
  refine x_iadd hz dJ6_bitCount_0f7a4_28 ?_
  refine x_ldcw (v := (252645135 : Int32)) hz dJ6_bitCount_0f7a4_29 wc_J6_267 ?_
  refine x_iand hz dJ6_bitCount_0f7a4_32 ?_
  refine x_istore_n (pl' := [xI (((((a0 - (((a0.toUInt32 >>> ((1 : Int32).toUInt32 &&& Int32.toUInt32 31)).toInt32) &&& (1431655765 : Int32))) &&& (858993459 : Int32)) + ((((a0 - (((a0.toUInt32 >>> ((1 : Int32).toUInt32 &&& Int32.toUInt32 31)).toInt32) &&& (1431655765 : Int32))).toUInt32 >>> ((2 : Int32).toUInt32 &&& Int32.toUInt32 31)).toInt32) &&& (858993459 : Int32))) + (((((a0 - (((a0.toUInt32 >>> ((1 : Int32).toUInt32 &&& Int32.toUInt32 31)).toInt32) &&& (1431655765 : Int32))) &&& (858993459 : Int32)) + ((((a0 - (((a0.toUInt32 >>> ((1 : Int32).toUInt32 &&& Int32.toUInt32 31)).toInt32) &&& (1431655765 : Int32))).toUInt32 >>> ((2 : Int32).toUInt32 &&& Int32.toUInt32 31)).toInt32) &&& (858993459 : Int32))).toUInt32 >>> ((4 : Int32).toUInt32 &&& Int32.toUInt32 31)).toInt32)) &&& (252645135 : Int32))]) hz dJ6_bitCount_0f7a4_33 (by decide) rfl ?_
  refine x_iload_n hz dJ6_bitCount_0f7a4_34 rfl ?_
  refine x_iload_n hz dJ6_bitCount_0f7a4_35 rfl ?_
  refine x_bipush (v := (8 : Int32)) hz dJ6_bitCount_0f7a4_36 (by decide) ?_
  refine x_iushr hz dJ6_bitCount_0f7a4_38 ?_
  refine x_iadd hz dJ6_bitCount_0f7a4_39 ?_
  refine x_istore_n (pl' := [xI ((((((a0 - (((a0.toUInt32 >>> ((1 : Int32).toUInt32 &&& Int32.toUInt32 31)).toInt32) &&& (1431655765 : Int32))) &&& (858993459 : Int32)) + ((((a0 - (((a0.toUInt32 >>> ((1 : Int32).toUInt32 &&& Int32.toUInt32 31)).toInt32) &&& (1431655765 : Int32))).toUInt32 >>> ((2 : Int32).toUInt32 &&& Int32.toUInt32 31)).toInt32) &&& (858993459 : Int32))) + (((((a0 - (((a0.toUInt32 >>> ((1 : Int32).toUInt32 &&& Int32.toUInt32 31)).toInt32) &&& (1431655765 : Int32))) &&& (858993459 : Int32)) + ((((a0 - (((a0.toUInt32 >>> ((1 : Int32).toUInt32 &&& Int32.toUInt32 31)).toInt32) &&& (1431655765 : Int32))).toUInt32 >>> ((2 : Int32).toUInt32 &&& Int32.toUInt32 31)).toInt32) &&& (858993459 : Int32))).toUInt32 >>> ((4 : Int32).toUInt32 &&& Int32.toUInt32 31)).toInt32)) &&& (252645135 : Int32)) + (((((((a0 - (((a0.toUInt32 >>> ((1 : Int32).toUInt32 &&& Int32.toUInt32 31)).toInt32) &&& (1431655765 : Int32))) &&& (858993459 : Int32)) + ((((a0 - (((a0.toUInt32 >>> ((1 : Int32).toUInt32 &&& Int32.toUInt32 31)).toInt32) &&& (1431655765 : Int32))).toUInt32 >>> ((2 : Int32).toUInt32 &&& Int32.toUInt32 31)).toInt32) &&& (858993459 : Int32))) + (((((a0 - (((a0.toUInt32 >>> ((1 : Int32).toUInt32 &&& Int32.toUInt32 31)).toInt32) &&& (1431655765 : Int32))) &&& (858993459 : Int32)) + ((((a0 - (((a0.toUInt32 >>> ((1 : Int32).toUInt32 &&& Int32.toUInt32 31)).toInt32) &&& (1431655765 : Int32))).toUInt32 >>> ((2 : Int32).toUInt32 &&& Int32.toUInt32 31)).toInt32) &&& (858993459 : Int32))).toUInt32 >>> ((4 : Int32).toUInt32 &&& Int32.toUInt32 31)).toInt32)) &&& (252645135 : Int32)).toUInt32 >>> ((8 : Int32).toUInt32 &&& Int32.toUInt32 31)).toInt32))]) hz dJ6_bitCount_0f7a4_40 (by decide) rfl ?_
  refine x_iload_n hz dJ6_bitCount_0f7a4_41 rfl ?_
  refine x_iload_n hz dJ6_bitCount_0f7a4_42 rfl ?_
  refine x_bipush (v := (16 : Int32)) hz dJ6_bitCount_0f7a4_43 (by decide) ?_
  refine x_iushr hz dJ6_bitCount_0f7a4_45 ?_
  refine x_iadd hz dJ6_bitCount_0f7a4_46 ?_
  refine x_istore_n (pl' := [xI (((((((a0 - (((a0.toUInt32 >>> ((1 : Int32).toUInt32 &&& Int32.toUInt32 31)).toInt32) &&& (1431655765 : Int32))) &&& (858993459 : Int32)) + ((((a0 - (((a0.toUInt32 >>> ((1 : Int32).toUInt32 &&& Int32.toUInt32 31)).toInt32) &&& (1431655765 : Int32))).toUInt32 >>> ((2 : Int32).toUInt32 &&& Int32.toUInt32 31)).toInt32) &&& (858993459 : Int32))) + (((((a0 - (((a0.toUInt32 >>> ((1 : Int32).toUInt32 &&& Int32.toUInt32 31)).toInt32) &&& (1431655765 : Int32))) &&& (858993459 : Int32)) + ((((a0 - (((a0.toUInt32 >>> ((1 : Int32).toUInt32 &&& Int32.toUInt32 31)).toInt32) &&& (1431655765 : Int32))).toUInt32 >>> ((2 : Int32).toUInt32 &&& Int32.toUInt32 31)).toInt32) &&& (858993459 : Int32))).toUInt32 >>> ((4 : Int32).toUInt32 &&& Int32.toUInt32 31)).toInt32)) &&& (252645135 : Int32)) + (((((((a0 - (((a0.toUInt32 >>> ((1 : Int32).toUInt32 &&& Int32.toUInt32 31)).toInt32) &&& (1431655765 : Int32))) &&& (858993459 : Int32)) + ((((a0 - (((a0.toUInt32 >>> ((1 : Int32).toUInt32 &&& Int32.toUInt32 31)).toInt32) &&& (1431655765 : Int32))).toUInt32 >>> ((2 : Int32).toUInt32 &&& Int32.toUInt32 31)).toInt32) &&& (858993459 : Int32))) + (((((a0 - (((a0.toUInt32 >>> ((1 : Int32).toUInt32 &&& Int32.toUInt32 31)).toInt32) &&& (1431655765 : Int32))) &&& (858993459 : Int32)) + ((((a0 - (((a0.toUInt32 >>> ((1 : Int32).toUInt32 &&& Int32.toUInt32 31)).toInt32) &&& (1431655765 : Int32))).toUInt32 >>> ((2 : Int32).toUInt32 &&& Int32.toUInt32 31)).toInt32) &&& (858993459 : Int32))).toUInt32 >>> ((4 : Int32).toUInt32 &&& Int32.toUInt32 31)).toInt32)) &&& (252645135 : Int32)).toUInt32 >>> ((8 : Int32).toUInt32 &&& Int32.toUInt32 31)).toInt32)) + ((((((((a0 - (((a0.toUInt32 >>> ((1 : Int32).toUInt32 &&& Int32.toUInt32 31)).toInt32) &&& (1431655765 : Int32))) &&& (858993459 : Int32)) + ((((a0 - (((a0.toUInt32 >>> ((1 : Int32).toUInt32 &&& Int32.toUInt32 31)).toInt32) &&& (1431655765 : Int32))).toUInt32 >>> ((2 : Int32).toUInt32 &&& Int32.toUInt32 31)).toInt32) &&& (858993459 : Int32))) + (((((a0 - (((a0.toUInt32 >>> ((1 : Int32).toUInt32 &&& Int32.toUInt32 31)).toInt32) &&& (1431655765 : Int32))) &&& (858993459 : Int32)) + ((((a0 - (((a0.toUInt32 >>> ((1 : Int32).toUInt32 &&& Int32.toUInt32 31)).toInt32) &&& (1431655765 : Int32))).toUInt32 >>> ((2 : Int32).toUInt32 &&& Int32.toUInt32 31)).toInt32) &&& (858993459 : Int32))).toUInt32 >>> ((4 : Int32).toUInt32 &&& Int32.toUInt32 31)).toInt32)) &&& (252645135 : Int32)) + (((((((a0 - (((a0.toUInt32 >>> ((1 : Int32).toUInt32 &&& Int32.toUInt32 31)).toInt32) &&& (1431655765 : Int32))) &&& (858993459 : Int32)) + ((((a0 - (((a0.toUInt32 >>> ((1 : Int32).toUInt32 &&& Int32.toUInt32 31)).toInt32) &&& (1431655765 : Int32))).toUInt32 >>> ((2 : Int32).toUInt32 &&& Int32.toUInt32 31)).toInt32) &&& (858993459 : Int32))) + (((((a0 - (((a0.toUInt32 >>> ((1 : Int32).toUInt32 &&& Int32.toUInt32 31)).toInt32) &&& (1431655765 : Int32))) &&& (858993459 : Int32)) + ((((a0 - (((a0.toUInt32 >>> ((1 : Int32).toUInt32 &&& Int32.toUInt32 31)).toInt32) &&& (1431655765 : Int32))).toUInt32 >>> ((2 : Int32).toUInt32 &&& Int32.toUInt32 31)).toInt32) &&& (858993459 : Int32))).toUInt32 >>> ((4 : Int32).toUInt32 &&& Int32.toUInt32 31)).toInt32)) &&& (252645135 : Int32)).toUInt32 >>> ((8 : Int32).toUInt32 &&& Int32.toUInt32 31)).toInt32)).toUInt32 >>> ((16 : Int32).toUInt32 &&& Int32.toUInt32 31)).toInt32))]) hz dJ6_bitCount_0f7a4_47 (by decide) rfl ?_
  refine x_iload_n hz dJ6_bitCount_0f7a4_48 rfl ?_
  refine x_bipush (v := (63 : Int32)) hz dJ6_bitCount_0f7a4_49 (by decide) ?_
  refine x_iand hz dJ6_bitCount_0f7a4_51 ?_
  cases h
  exact x_iret hZ dJ6_bitCount_0f7a4_52
theorem M_J6_bitCount_0f7a4 {N : Nat} {a0 : Int32} {H H1 : xH} {r1 : Int32} (h : F_J6_bitCount_0f7a4 N a0 H = some (r1, H1)) : xM yJ6_bitCount_0f7a4 cJ6_bitCount_0f7a4 1 (some .int) 1 [.inl a0] H (some (.int r1)) H1 :=
  xM_of (by decide +kernel) (xT_tb 797 (by decide +kernel) (by decide +kernel)) (by simp [xargs, x2]) rfl (P_J6_bitCount_0f7a4 rfl a0 H h)
/-! BettingBook$RowTable.dropThing(III)Z -/
noncomputable def F_X6_dropThing_J41 (N : Nat) (k41 : (Option Nat) → Int32 → Int32 → Int32 → Int32 → Int32 → Int32 → Int32 → Int32 → xH → Option (Int32 × xH)) (k78 : (Option Nat) → Int32 → Int32 → Int32 → Int32 → Int32 → Int32 → Int32 → xH → Option (Int32 × xH)) (x0 : (Option Nat)) (x1 : Int32) (x2 : Int32) (x3 : Int32) (x4 : Int32) (x5 : Int32) (x6 : Int32) (x7 : Int32) (x8 : Int32) (H : xH) : Option (Int32 × xH) :=
  if (9 : Int32) ≤ x8 then (k78 x0 x1 x2 x3 x4 x5 x6 x7 H) else ((xob H x0 6).bind fun b3 =>
  x_bd2 (F_X6_classAt N x0 ((x1 + (((x5 * (9 : Int32)) + x8) * x3)) + x6) H) fun v4 H2 =>
  k41 x0 x1 x2 x3 x4 x5 x6 (x7 ||| v4) (x8 + 1) H2)
set_option maxRecDepth 20000 in
set_option maxHeartbeats 4000000 in
theorem P_X6_dropThing_J41 {N : Nat} {Z : xZ} {rv : Int32} {Hf : xH} (hZ : Z = xZm cX6_dropThing yX6_dropThing 9 2 (some .boolean) (some (.int rv)) Hf) {k41 : (Option Nat) → Int32 → Int32 → Int32 → Int32 → Int32 → Int32 → Int32 → Int32 → xH → Option (Int32 × xH)} (hk41 : ∀ (x0 : (Option Nat)) (x1 : Int32) (x2 : Int32) (x3 : Int32) (x4 : Int32) (x5 : Int32) (x6 : Int32) (x7 : Int32) (x8 : Int32) (H : xH), k41 x0 x1 x2 x3 x4 x5 x6 x7 x8 H = some (rv, Hf) → xWq Z H 41 [xA x0, xI x1, xI x2, xI x3, xI x4, xI x5, xI x6, xI x7, xI x8] []) {k78 : (Option Nat) → Int32 → Int32 → Int32 → Int32 → Int32 → Int32 → Int32 → xH → Option (Int32 × xH)} (hk78 : ∀ (x0 : (Option Nat)) (x1 : Int32) (x2 : Int32) (x3 : Int32) (x4 : Int32) (x5 : Int32) (x6 : Int32) (x7 : Int32) (H : xH), k78 x0 x1 x2 x3 x4 x5 x6 x7 H = some (rv, Hf) → xWq Z H 78 [xA x0, xI x1, xI x2, xI x3, xI x4, xI x5, xI x6, xI x7, xN] []) : ∀ (x0 : (Option Nat)) (x1 : Int32) (x2 : Int32) (x3 : Int32) (x4 : Int32) (x5 : Int32) (x6 : Int32) (x7 : Int32) (x8 : Int32) (H : xH), F_X6_dropThing_J41 N k41 k78 x0 x1 x2 x3 x4 x5 x6 x7 x8 H = some (rv, Hf) → xWq Z H 41 [xA x0, xI x1, xI x2, xI x3, xI x4, xI x5, xI x6, xI x7, xI x8] [] := by
  have hz : Z.1 = (cX6_dropThing, yX6_dropThing, 9) := by rw [hZ]; rfl
  have hδ : Z.2.1 = 2 := by rw [hZ]; rfl
  intro x0 x1 x2 x3 x4 x5 x6 x7 x8 H h
  unfold F_X6_dropThing_J41 at h
  refine x_iload hz dX6_dropThing_41 rfl ?_
  refine x_bipush (v := (9 : Int32)) hz dX6_dropThing_43 (by decide) ?_
  refine x_icmp_ge (t := 78) hz dX6_dropThing_45 (by decide) (fun c1 => ?_) (fun c1 => ?_)
  · replace h := x_ip c1 h
    exact x_wk (xwk_c (xwk_c (xwk_c (xwk_c (xwk_c (xwk_c (xwk_c (xwk_c (xwk_n xwk_0))))))))) (hk78 x0 x1 x2 x3 x4 x5 x6 x7 H h)
  · replace h := x_in c1 h
    refine x_iload hz dX6_dropThing_48 rfl ?_
    refine x_aload_n hz dX6_dropThing_50 rfl ?_
    refine x_iload_n hz dX6_dropThing_51 rfl ?_
    refine x_iload hz dX6_dropThing_52 rfl ?_
    refine x_bipush (v := (9 : Int32)) hz dX6_dropThing_54 (by decide) ?_
    refine x_imul hz dX6_dropThing_56 ?_
    refine x_iload hz dX6_dropThing_57 rfl ?_
    refine x_iadd hz dX6_dropThing_59 ?_
    refine x_iload_n hz dX6_dropThing_60 rfl ?_
    refine x_imul hz dX6_dropThing_61 ?_
    refine x_iadd hz dX6_dropThing_62 ?_
    refine x_iload hz dX6_dropThing_63 rfl ?_
    refine x_iadd hz dX6_dropThing_65 ?_
    obtain ⟨b3, e_b3, h⟩ := x_bnd h
    obtain ⟨v4, H2, e_H2, h⟩ := x_b2 h
    refine x_callVi (as := [.inl ((x1 + (((x5 * (9 : Int32)) + x8) * x3)) + x6)]) (st := [.int x7]) cs_X6_133 (ci := 6) ⟨rfl, rfl⟩ rfl rfl hz (by omega) (Nat.le_trans (x_sm1 rfl x_sm0) (by decide)) dX6_dropThing_66 e_b3 (M_X6_classAt e_H2) ?_
    refine x_ior hz dX6_dropThing_69 ?_
    refine x_istore (pl' := [xA x0, xI x1, xI x2, xI x3, xI x4, xI x5, xI x6, xI (x7 ||| v4), xI x8]) hz dX6_dropThing_70 (by decide) rfl ?_
    refine x_iinc (w := (x8 + 1)) (pl' := [xA x0, xI x1, xI x2, xI x3, xI x4, xI x5, xI x6, xI (x7 ||| v4), xI (x8 + 1)]) hz dX6_dropThing_72 rfl rfl (by decide) rfl ?_
    refine x_goto (t := 41) hz dX6_dropThing_75 (by decide) ?_
    exact x_wk (xwk_c (xwk_c (xwk_c (xwk_c (xwk_c (xwk_c (xwk_c (xwk_c (xwk_c xwk_0))))))))) (hk41 x0 x1 x2 x3 x4 x5 x6 (x7 ||| v4) (x8 + 1) H2 h)
noncomputable def F_X6_dropThing_L41 (N : Nat) (k78 : (Option Nat) → Int32 → Int32 → Int32 → Int32 → Int32 → Int32 → Int32 → xH → Option (Int32 × xH)) : Nat → (Option Nat) → Int32 → Int32 → Int32 → Int32 → Int32 → Int32 → Int32 → Int32 → xH → Option (Int32 × xH)
  | 0 => fun _ _ _ _ _ _ _ _ _ _ => none
  | n + 1 => F_X6_dropThing_J41 N (F_X6_dropThing_L41 N k78 n) k78
theorem P_X6_dropThing_L41 {N : Nat} {Z : xZ} {rv : Int32} {Hf : xH} (hZ : Z = xZm cX6_dropThing yX6_dropThing 9 2 (some .boolean) (some (.int rv)) Hf) {k78 : (Option Nat) → Int32 → Int32 → Int32 → Int32 → Int32 → Int32 → Int32 → xH → Option (Int32 × xH)} (hk78 : ∀ (x0 : (Option Nat)) (x1 : Int32) (x2 : Int32) (x3 : Int32) (x4 : Int32) (x5 : Int32) (x6 : Int32) (x7 : Int32) (H : xH), k78 x0 x1 x2 x3 x4 x5 x6 x7 H = some (rv, Hf) → xWq Z H 78 [xA x0, xI x1, xI x2, xI x3, xI x4, xI x5, xI x6, xI x7, xN] []) : ∀ (n : Nat) (x0 : (Option Nat)) (x1 : Int32) (x2 : Int32) (x3 : Int32) (x4 : Int32) (x5 : Int32) (x6 : Int32) (x7 : Int32) (x8 : Int32) (H : xH), F_X6_dropThing_L41 N k78 n x0 x1 x2 x3 x4 x5 x6 x7 x8 H = some (rv, Hf) → xWq Z H 41 [xA x0, xI x1, xI x2, xI x3, xI x4, xI x5, xI x6, xI x7, xI x8] [] := by
  intro n
  induction n with
  | zero => intro _ _ _ _ _ _ _ _ _ _ h; cases h
  | succ n ih => exact P_X6_dropThing_J41 hZ ih hk78
noncomputable def F_X6_dropThing_J78 (N : Nat) (k29 : (Option Nat) → Int32 → Int32 → Int32 → Int32 → Int32 → Int32 → xH → Option (Int32 × xH)) (x0 : (Option Nat)) (x1 : Int32) (x2 : Int32) (x3 : Int32) (x4 : Int32) (x5 : Int32) (x6 : Int32) (x7 : Int32) (H : xH) : Option (Int32 × xH) :=
  x_bd2 (F_X6_isMixed N x7 H) fun v2 H1 =>
  if v2 = 0 then ((xob H1 x0 6).bind fun b5 =>
  (F_X6_setClass N x0 (((x1 + x2) + (x5 * x3)) + x6) x7 H1).bind fun H4 =>
  k29 x0 x1 x2 x3 x4 x5 (x6 + 1) H4) else (some ((0 : Int32), H1))
set_option maxRecDepth 20000 in
set_option maxHeartbeats 4000000 in
theorem P_X6_dropThing_J78 {N : Nat} {Z : xZ} {rv : Int32} {Hf : xH} (hZ : Z = xZm cX6_dropThing yX6_dropThing 9 2 (some .boolean) (some (.int rv)) Hf) {k29 : (Option Nat) → Int32 → Int32 → Int32 → Int32 → Int32 → Int32 → xH → Option (Int32 × xH)} (hk29 : ∀ (x0 : (Option Nat)) (x1 : Int32) (x2 : Int32) (x3 : Int32) (x4 : Int32) (x5 : Int32) (x6 : Int32) (H : xH), k29 x0 x1 x2 x3 x4 x5 x6 H = some (rv, Hf) → xWq Z H 29 [xA x0, xI x1, xI x2, xI x3, xI x4, xI x5, xI x6, xN, xN] []) : ∀ (x0 : (Option Nat)) (x1 : Int32) (x2 : Int32) (x3 : Int32) (x4 : Int32) (x5 : Int32) (x6 : Int32) (x7 : Int32) (H : xH), F_X6_dropThing_J78 N k29 x0 x1 x2 x3 x4 x5 x6 x7 H = some (rv, Hf) → xWq Z H 78 [xA x0, xI x1, xI x2, xI x3, xI x4, xI x5, xI x6, xI x7, xN] [] := by
  have hz : Z.1 = (cX6_dropThing, yX6_dropThing, 9) := by rw [hZ]; rfl
  have hδ : Z.2.1 = 2 := by rw [hZ]; rfl
  intro x0 x1 x2 x3 x4 x5 x6 x7 H h
  unfold F_X6_dropThing_J78 at h
  refine x_iload hz dX6_dropThing_78 rfl ?_
  obtain ⟨v2, H1, e_H1, h⟩ := x_b2 h
  refine x_callSi (as := [.inl x7]) (st := []) cs_X6_136 rfl rfl hz (by omega) (by decide) dX6_dropThing_80 (M_X6_isMixed e_H1) ?_
  refine x_if_eq (t := 88) hz dX6_dropThing_83 (by decide) (fun c3 => ?_) (fun c3 => ?_)
  · replace h := x_ip c3 h
    refine x_aload_n hz dX6_dropThing_88 rfl ?_
    refine x_iload_n hz dX6_dropThing_89 rfl ?_
    refine x_iload_n hz dX6_dropThing_90 rfl ?_
    refine x_iadd hz dX6_dropThing_91 ?_
    refine x_iload hz dX6_dropThing_92 rfl ?_
    refine x_iload_n hz dX6_dropThing_94 rfl ?_
    refine x_imul hz dX6_dropThing_95 ?_
    refine x_iadd hz dX6_dropThing_96 ?_
    refine x_iload hz dX6_dropThing_97 rfl ?_
    refine x_iadd hz dX6_dropThing_99 ?_
    refine x_iload hz dX6_dropThing_100 rfl ?_
    obtain ⟨b5, e_b5, h⟩ := x_bnd h
    obtain ⟨H4, e_H4, h⟩ := x_bnd h
    refine x_callVv (as := [.inl (((x1 + x2) + (x5 * x3)) + x6), .inl x7]) (st := []) cs_X6_103 (ci := 6) ⟨rfl, rfl⟩ rfl rfl hz (by omega) (by decide) dX6_dropThing_102 e_b5 (M_X6_setClass e_H4) ?_
    refine x_iinc (w := (x6 + 1)) (pl' := [xA x0, xI x1, xI x2, xI x3, xI x4, xI x5, xI (x6 + 1), xI x7, xN]) hz dX6_dropThing_105 rfl rfl (by decide) rfl ?_
    refine x_goto (t := 29) hz dX6_dropThing_108 (by decide) ?_
    exact x_wk (xwk_c (xwk_c (xwk_c (xwk_c (xwk_c (xwk_c (xwk_c (xwk_n (xwk_n xwk_0))))))))) (hk29 x0 x1 x2 x3 x4 x5 (x6 + 1) H4 h)
  · replace h := x_in c3 h
    refine x_iconst (v := (0 : Int32)) hz dX6_dropThing_86 (by decide) ?_
    cases h
    exact x_zret01 hZ (Or.inl rfl) dX6_dropThing_87
noncomputable def F_X6_dropThing_J29 (N : Nat) (k29 : (Option Nat) → Int32 → Int32 → Int32 → Int32 → Int32 → Int32 → xH → Option (Int32 × xH)) (k111 : (Option Nat) → Int32 → Int32 → Int32 → Int32 → Int32 → xH → Option (Int32 × xH)) (x0 : (Option Nat)) (x1 : Int32) (x2 : Int32) (x3 : Int32) (x4 : Int32) (x5 : Int32) (x6 : Int32) (H : xH) : Option (Int32 × xH) :=
  if x3 ≤ x6 then (k111 x0 x1 x2 x3 x4 x5 H) else ((F_X6_dropThing_L41 N (F_X6_dropThing_J78 N k29) N) x0 x1 x2 x3 x4 x5 x6 (0 : Int32) (0 : Int32) H)
set_option maxRecDepth 20000 in
set_option maxHeartbeats 4000000 in
theorem P_X6_dropThing_J29 {N : Nat} {Z : xZ} {rv : Int32} {Hf : xH} (hZ : Z = xZm cX6_dropThing yX6_dropThing 9 2 (some .boolean) (some (.int rv)) Hf) {k29 : (Option Nat) → Int32 → Int32 → Int32 → Int32 → Int32 → Int32 → xH → Option (Int32 × xH)} (hk29 : ∀ (x0 : (Option Nat)) (x1 : Int32) (x2 : Int32) (x3 : Int32) (x4 : Int32) (x5 : Int32) (x6 : Int32) (H : xH), k29 x0 x1 x2 x3 x4 x5 x6 H = some (rv, Hf) → xWq Z H 29 [xA x0, xI x1, xI x2, xI x3, xI x4, xI x5, xI x6, xN, xN] []) {k111 : (Option Nat) → Int32 → Int32 → Int32 → Int32 → Int32 → xH → Option (Int32 × xH)} (hk111 : ∀ (x0 : (Option Nat)) (x1 : Int32) (x2 : Int32) (x3 : Int32) (x4 : Int32) (x5 : Int32) (H : xH), k111 x0 x1 x2 x3 x4 x5 H = some (rv, Hf) → xWq Z H 111 [xA x0, xI x1, xI x2, xI x3, xI x4, xI x5, xN, xN, xN] []) : ∀ (x0 : (Option Nat)) (x1 : Int32) (x2 : Int32) (x3 : Int32) (x4 : Int32) (x5 : Int32) (x6 : Int32) (H : xH), F_X6_dropThing_J29 N k29 k111 x0 x1 x2 x3 x4 x5 x6 H = some (rv, Hf) → xWq Z H 29 [xA x0, xI x1, xI x2, xI x3, xI x4, xI x5, xI x6, xN, xN] [] := by
  have hz : Z.1 = (cX6_dropThing, yX6_dropThing, 9) := by rw [hZ]; rfl
  have hδ : Z.2.1 = 2 := by rw [hZ]; rfl
  intro x0 x1 x2 x3 x4 x5 x6 H h
  unfold F_X6_dropThing_J29 at h
  refine x_iload hz dX6_dropThing_29 rfl ?_
  refine x_iload_n hz dX6_dropThing_31 rfl ?_
  refine x_icmp_ge (t := 111) hz dX6_dropThing_32 (by decide) (fun c1 => ?_) (fun c1 => ?_)
  · replace h := x_ip c1 h
    exact x_wk (xwk_c (xwk_c (xwk_c (xwk_c (xwk_c (xwk_c (xwk_n (xwk_n (xwk_n xwk_0))))))))) (hk111 x0 x1 x2 x3 x4 x5 H h)
  · replace h := x_in c1 h
    refine x_iconst (v := (0 : Int32)) hz dX6_dropThing_35 (by decide) ?_
    refine x_istore (pl' := [xA x0, xI x1, xI x2, xI x3, xI x4, xI x5, xI x6, xI (0 : Int32), xN]) hz dX6_dropThing_36 (by decide) rfl ?_
    refine x_iconst (v := (0 : Int32)) hz dX6_dropThing_38 (by decide) ?_
    refine x_istore (pl' := [xA x0, xI x1, xI x2, xI x3, xI x4, xI x5, xI x6, xI (0 : Int32), xI (0 : Int32)]) hz dX6_dropThing_39 (by decide) rfl ?_
    exact x_wk (xwk_c (xwk_c (xwk_c (xwk_c (xwk_c (xwk_c (xwk_c (xwk_c (xwk_c xwk_0))))))))) ((P_X6_dropThing_L41 hZ (P_X6_dropThing_J78 hZ hk29) N) x0 x1 x2 x3 x4 x5 x6 (0 : Int32) (0 : Int32) H h)
noncomputable def F_X6_dropThing_L29 (N : Nat) (k111 : (Option Nat) → Int32 → Int32 → Int32 → Int32 → Int32 → xH → Option (Int32 × xH)) : Nat → (Option Nat) → Int32 → Int32 → Int32 → Int32 → Int32 → Int32 → xH → Option (Int32 × xH)
  | 0 => fun _ _ _ _ _ _ _ _ => none
  | n + 1 => F_X6_dropThing_J29 N (F_X6_dropThing_L29 N k111 n) k111
theorem P_X6_dropThing_L29 {N : Nat} {Z : xZ} {rv : Int32} {Hf : xH} (hZ : Z = xZm cX6_dropThing yX6_dropThing 9 2 (some .boolean) (some (.int rv)) Hf) {k111 : (Option Nat) → Int32 → Int32 → Int32 → Int32 → Int32 → xH → Option (Int32 × xH)} (hk111 : ∀ (x0 : (Option Nat)) (x1 : Int32) (x2 : Int32) (x3 : Int32) (x4 : Int32) (x5 : Int32) (H : xH), k111 x0 x1 x2 x3 x4 x5 H = some (rv, Hf) → xWq Z H 111 [xA x0, xI x1, xI x2, xI x3, xI x4, xI x5, xN, xN, xN] []) : ∀ (n : Nat) (x0 : (Option Nat)) (x1 : Int32) (x2 : Int32) (x3 : Int32) (x4 : Int32) (x5 : Int32) (x6 : Int32) (H : xH), F_X6_dropThing_L29 N k111 n x0 x1 x2 x3 x4 x5 x6 H = some (rv, Hf) → xWq Z H 29 [xA x0, xI x1, xI x2, xI x3, xI x4, xI x5, xI x6, xN, xN] [] := by
  intro n
  induction n with
  | zero => intro _ _ _ _ _ _ _ _ h; cases h
  | succ n ih => exact P_X6_dropThing_J29 hZ ih hk111
noncomputable def F_X6_dropThing_J111 (N : Nat) (k19 : (Option Nat) → Int32 → Int32 → Int32 → Int32 → Int32 → xH → Option (Int32 × xH)) (x0 : (Option Nat)) (x1 : Int32) (x2 : Int32) (x3 : Int32) (x4 : Int32) (x5 : Int32) (H : xH) : Option (Int32 × xH) :=
  k19 x0 x1 x2 x3 x4 (x5 + 1) H
set_option maxRecDepth 20000 in
set_option maxHeartbeats 4000000 in
theorem P_X6_dropThing_J111 {N : Nat} {Z : xZ} {rv : Int32} {Hf : xH} (hZ : Z = xZm cX6_dropThing yX6_dropThing 9 2 (some .boolean) (some (.int rv)) Hf) {k19 : (Option Nat) → Int32 → Int32 → Int32 → Int32 → Int32 → xH → Option (Int32 × xH)} (hk19 : ∀ (x0 : (Option Nat)) (x1 : Int32) (x2 : Int32) (x3 : Int32) (x4 : Int32) (x5 : Int32) (H : xH), k19 x0 x1 x2 x3 x4 x5 H = some (rv, Hf) → xWq Z H 19 [xA x0, xI x1, xI x2, xI x3, xI x4, xI x5, xN, xN, xN] []) : ∀ (x0 : (Option Nat)) (x1 : Int32) (x2 : Int32) (x3 : Int32) (x4 : Int32) (x5 : Int32) (H : xH), F_X6_dropThing_J111 N k19 x0 x1 x2 x3 x4 x5 H = some (rv, Hf) → xWq Z H 111 [xA x0, xI x1, xI x2, xI x3, xI x4, xI x5, xN, xN, xN] [] := by
  have hz : Z.1 = (cX6_dropThing, yX6_dropThing, 9) := by rw [hZ]; rfl
  have hδ : Z.2.1 = 2 := by rw [hZ]; rfl
  intro x0 x1 x2 x3 x4 x5 H h
  unfold F_X6_dropThing_J111 at h
  refine x_iinc (w := (x5 + 1)) (pl' := [xA x0, xI x1, xI x2, xI x3, xI x4, xI (x5 + 1), xN, xN, xN]) hz dX6_dropThing_111 rfl rfl (by decide) rfl ?_
  refine x_goto (t := 19) hz dX6_dropThing_114 (by decide) ?_
  exact x_wk (xwk_c (xwk_c (xwk_c (xwk_c (xwk_c (xwk_c (xwk_n (xwk_n (xwk_n xwk_0))))))))) (hk19 x0 x1 x2 x3 x4 (x5 + 1) H h)
noncomputable def F_X6_dropThing_J19 (N : Nat) (k19 : (Option Nat) → Int32 → Int32 → Int32 → Int32 → Int32 → xH → Option (Int32 × xH)) (x0 : (Option Nat)) (x1 : Int32) (x2 : Int32) (x3 : Int32) (x4 : Int32) (x5 : Int32) (H : xH) : Option (Int32 × xH) :=
  if x4 ≤ x5 then (some ((1 : Int32), H)) else ((F_X6_dropThing_L29 N (F_X6_dropThing_J111 N k19) N) x0 x1 x2 x3 x4 x5 (0 : Int32) H)
set_option maxRecDepth 20000 in
set_option maxHeartbeats 4000000 in
theorem P_X6_dropThing_J19 {N : Nat} {Z : xZ} {rv : Int32} {Hf : xH} (hZ : Z = xZm cX6_dropThing yX6_dropThing 9 2 (some .boolean) (some (.int rv)) Hf) {k19 : (Option Nat) → Int32 → Int32 → Int32 → Int32 → Int32 → xH → Option (Int32 × xH)} (hk19 : ∀ (x0 : (Option Nat)) (x1 : Int32) (x2 : Int32) (x3 : Int32) (x4 : Int32) (x5 : Int32) (H : xH), k19 x0 x1 x2 x3 x4 x5 H = some (rv, Hf) → xWq Z H 19 [xA x0, xI x1, xI x2, xI x3, xI x4, xI x5, xN, xN, xN] []) : ∀ (x0 : (Option Nat)) (x1 : Int32) (x2 : Int32) (x3 : Int32) (x4 : Int32) (x5 : Int32) (H : xH), F_X6_dropThing_J19 N k19 x0 x1 x2 x3 x4 x5 H = some (rv, Hf) → xWq Z H 19 [xA x0, xI x1, xI x2, xI x3, xI x4, xI x5, xN, xN, xN] [] := by
  have hz : Z.1 = (cX6_dropThing, yX6_dropThing, 9) := by rw [hZ]; rfl
  have hδ : Z.2.1 = 2 := by rw [hZ]; rfl
  intro x0 x1 x2 x3 x4 x5 H h
  unfold F_X6_dropThing_J19 at h
  refine x_iload hz dX6_dropThing_19 rfl ?_
  refine x_iload hz dX6_dropThing_21 rfl ?_
  refine x_icmp_ge (t := 117) hz dX6_dropThing_23 (by decide) (fun c1 => ?_) (fun c1 => ?_)
  · replace h := x_ip c1 h
    refine x_iconst (v := (1 : Int32)) hz dX6_dropThing_117 (by decide) ?_
    cases h
    exact x_zret01 hZ (Or.inr rfl) dX6_dropThing_118
  · replace h := x_in c1 h
    refine x_iconst (v := (0 : Int32)) hz dX6_dropThing_26 (by decide) ?_
    refine x_istore (pl' := [xA x0, xI x1, xI x2, xI x3, xI x4, xI x5, xI (0 : Int32), xN, xN]) hz dX6_dropThing_27 (by decide) rfl ?_
    exact x_wk (xwk_c (xwk_c (xwk_c (xwk_c (xwk_c (xwk_c (xwk_c (xwk_n (xwk_n xwk_0))))))))) ((P_X6_dropThing_L29 hZ (P_X6_dropThing_J111 hZ hk19) N) x0 x1 x2 x3 x4 x5 (0 : Int32) H h)
noncomputable def F_X6_dropThing_L19 (N : Nat) : Nat → (Option Nat) → Int32 → Int32 → Int32 → Int32 → Int32 → xH → Option (Int32 × xH)
  | 0 => fun _ _ _ _ _ _ _ => none
  | n + 1 => F_X6_dropThing_J19 N (F_X6_dropThing_L19 N n)
theorem P_X6_dropThing_L19 {N : Nat} {Z : xZ} {rv : Int32} {Hf : xH} (hZ : Z = xZm cX6_dropThing yX6_dropThing 9 2 (some .boolean) (some (.int rv)) Hf) : ∀ (n : Nat) (x0 : (Option Nat)) (x1 : Int32) (x2 : Int32) (x3 : Int32) (x4 : Int32) (x5 : Int32) (H : xH), F_X6_dropThing_L19 N n x0 x1 x2 x3 x4 x5 H = some (rv, Hf) → xWq Z H 19 [xA x0, xI x1, xI x2, xI x3, xI x4, xI x5, xN, xN, xN] [] := by
  intro n
  induction n with
  | zero => intro _ _ _ _ _ _ _ h; cases h
  | succ n ih => exact P_X6_dropThing_J19 hZ ih
noncomputable def F_X6_dropThing_J14 (N : Nat) (x0 : (Option Nat)) (x1 : Int32) (x2 : Int32) (x3 : Int32) (s0 : Int32) (H : xH) : Option (Int32 × xH) :=
  (F_X6_dropThing_L19 N N) x0 x1 x2 x3 s0 (0 : Int32) H
set_option maxRecDepth 20000 in
set_option maxHeartbeats 4000000 in
theorem P_X6_dropThing_J14 {N : Nat} {Z : xZ} {rv : Int32} {Hf : xH} (hZ : Z = xZm cX6_dropThing yX6_dropThing 9 2 (some .boolean) (some (.int rv)) Hf) : ∀ (x0 : (Option Nat)) (x1 : Int32) (x2 : Int32) (x3 : Int32) (s0 : Int32) (H : xH), F_X6_dropThing_J14 N x0 x1 x2 x3 s0 H = some (rv, Hf) → xWq Z H 14 [xA x0, xI x1, xI x2, xI x3, xN, xN, xN, xN, xN] [.int s0] := by
  have hz : Z.1 = (cX6_dropThing, yX6_dropThing, 9) := by rw [hZ]; rfl
  have hδ : Z.2.1 = 2 := by rw [hZ]; rfl
  intro x0 x1 x2 x3 s0 H h
  unfold F_X6_dropThing_J14 at h
  refine x_istore (pl' := [xA x0, xI x1, xI x2, xI x3, xI s0, xN, xN, xN, xN]) hz dX6_dropThing_14 (by decide) rfl ?_
  refine x_iconst (v := (0 : Int32)) hz dX6_dropThing_16 (by decide) ?_
  refine x_istore (pl' := [xA x0, xI x1, xI x2, xI x3, xI s0, xI (0 : Int32), xN, xN, xN]) hz dX6_dropThing_17 (by decide) rfl ?_
  exact x_wk (xwk_c (xwk_c (xwk_c (xwk_c (xwk_c (xwk_c (xwk_n (xwk_n (xwk_n xwk_0))))))))) ((P_X6_dropThing_L19 hZ N) x0 x1 x2 x3 s0 (0 : Int32) H h)
noncomputable def F_X6_dropThing (N : Nat) (a0 : (Option Nat)) (a1 : Int32) (a2 : Int32) (a3 : Int32) (H : xH) : Option (Int32 × xH) :=
  if a3 ≤ 0 then ((F_X6_dropThing_J14 N) a0 a1 a2 a3 (0 : Int32) H) else (if ((9 : Int32) * a3) = 0 then none else (F_X6_dropThing_J14 N) a0 a1 a2 a3 (a2 / ((9 : Int32) * a3)) H)
set_option maxRecDepth 20000 in
set_option maxHeartbeats 4000000 in
theorem P_X6_dropThing {N : Nat} {Z : xZ} {rv : Int32} {Hf : xH} (hZ : Z = xZm cX6_dropThing yX6_dropThing 9 2 (some .boolean) (some (.int rv)) Hf) : ∀ (a0 : (Option Nat)) (a1 : Int32) (a2 : Int32) (a3 : Int32) (H : xH), F_X6_dropThing N a0 a1 a2 a3 H = some (rv, Hf) → xWq Z H 0 [xA a0, xI a1, xI a2, xI a3, xN, xN, xN, xN, xN] [] := by
  have hz : Z.1 = (cX6_dropThing, yX6_dropThing, 9) := by rw [hZ]; rfl
  have hδ : Z.2.1 = 2 := by rw [hZ]; rfl
  intro a0 a1 a2 a3 H h
  unfold F_X6_dropThing at h
  refine x_iload_n hz dX6_dropThing_0 rfl ?_
  refine x_if_le (t := 13) hz dX6_dropThing_1 (by decide) (fun c1 => ?_) (fun c1 => ?_)
  · replace h := x_ip c1 h
    refine x_iconst (v := (0 : Int32)) hz dX6_dropThing_13 (by decide) ?_
    exact x_wk (xwk_c (xwk_c (xwk_c (xwk_c (xwk_n (xwk_n (xwk_n (xwk_n (xwk_n xwk_0))))))))) ((P_X6_dropThing_J14 hZ) a0 a1 a2 a3 (0 : Int32) H h)
  · replace h := x_in c1 h
    refine x_iload_n hz dX6_dropThing_4 rfl ?_
    refine x_bipush (v := (9 : Int32)) hz dX6_dropThing_5 (by decide) ?_
    refine x_iload_n hz dX6_dropThing_7 rfl ?_
    refine x_imul hz dX6_dropThing_8 ?_
    obtain ⟨c2, h⟩ := x_inv0 h
    refine x_idiv hz dX6_dropThing_9 c2 ?_
    refine x_goto (t := 14) hz dX6_dropThing_10 (by decide) ?_
    exact x_wk (xwk_c (xwk_c (xwk_c (xwk_c (xwk_n (xwk_n (xwk_n (xwk_n (xwk_n xwk_0))))))))) ((P_X6_dropThing_J14 hZ) a0 a1 a2 a3 (a2 / ((9 : Int32) * a3)) H h)
theorem M_X6_dropThing {N : Nat} {a0 : (Option Nat)} {a1 : Int32} {a2 : Int32} {a3 : Int32} {H H1 : xH} {r1 : Int32} (h : F_X6_dropThing N a0 a1 a2 a3 H = some (r1, H1)) : xM yX6_dropThing cX6_dropThing 9 (some .boolean) 2 [.inr (.inr a0), .inl a1, .inl a2, .inl a3] H (some (.int r1)) H1 :=
  xM_of (by decide +kernel) (xT_tb 804 (by decide +kernel) (by decide +kernel)) (by simp [xargs, x2]) rfl (P_X6_dropThing rfl a0 a1 a2 a3 H h)
/-! java/lang/Integer.compare(II)I -/
noncomputable def F_J6_compare_7cf53 (N : Nat) (a0 : Int32) (a1 : Int32) (H : xH) : Option (Int32 × xH) :=
  if a1 ≤ a0 then (if a0 = a1 then (some ((0 : Int32), H)) else (some ((1 : Int32), H))) else (some ((-1 : Int32), H))
set_option maxRecDepth 20000 in
set_option maxHeartbeats 4000000 in
theorem P_J6_compare_7cf53 {N : Nat} {Z : xZ} {rv : Int32} {Hf : xH} (hZ : Z = xZm cJ6_compare_7cf53 yJ6_compare_7cf53 2 1 (some .int) (some (.int rv)) Hf) : ∀ (a0 : Int32) (a1 : Int32) (H : xH), F_J6_compare_7cf53 N a0 a1 H = some (rv, Hf) → xWq Z H 0 [xI a0, xI a1] [] := by
  have hz : Z.1 = (cJ6_compare_7cf53, yJ6_compare_7cf53, 2) := by rw [hZ]; rfl
  have hδ : Z.2.1 = 1 := by rw [hZ]; rfl
  intro a0 a1 H h
  unfold F_J6_compare_7cf53 at h
  refine x_iload_n hz dJ6_compare_7cf53_0 rfl ?_
  refine x_iload_n hz dJ6_compare_7cf53_1 rfl ?_
  refine x_icmp_ge (t := 9) hz dJ6_compare_7cf53_2 (by decide) (fun c1 => ?_) (fun c1 => ?_)
  · replace h := x_ip c1 h
    refine x_iload_n hz dJ6_compare_7cf53_9 rfl ?_
    refine x_iload_n hz dJ6_compare_7cf53_10 rfl ?_
    refine x_icmp_ne (t := 18) hz dJ6_compare_7cf53_11 (by decide) (fun c2 => ?_) (fun c2 => ?_)
    · replace h := x_in c2 h
      refine x_iconst (v := (1 : Int32)) hz dJ6_compare_7cf53_18 (by decide) ?_
      cases h
      exact x_iret hZ dJ6_compare_7cf53_19
    · replace h := x_ip c2 h
      refine x_iconst (v := (0 : Int32)) hz dJ6_compare_7cf53_14 (by decide) ?_
      refine x_goto (t := 19) hz dJ6_compare_7cf53_15 (by decide) ?_
      cases h
      exact x_iret hZ dJ6_compare_7cf53_19
  · replace h := x_in c1 h
    refine x_iconst (v := (-1 : Int32)) hz dJ6_compare_7cf53_5 (by decide) ?_
    refine x_goto (t := 19) hz dJ6_compare_7cf53_6 (by decide) ?_
    cases h
    exact x_iret hZ dJ6_compare_7cf53_19
theorem M_J6_compare_7cf53 {N : Nat} {a0 : Int32} {a1 : Int32} {H H1 : xH} {r1 : Int32} (h : F_J6_compare_7cf53 N a0 a1 H = some (r1, H1)) : xM yJ6_compare_7cf53 cJ6_compare_7cf53 2 (some .int) 1 [.inl a0, .inl a1] H (some (.int r1)) H1 :=
  xM_of (by decide +kernel) (xT_tb 810 (by decide +kernel) (by decide +kernel)) (by simp [xargs, x2]) rfl (P_J6_compare_7cf53 rfl a0 a1 H h)
/-! BettingBook$RowTable.fewer(II)I -/
noncomputable def F_X6_fewer (N : Nat) (a0 : Int32) (a1 : Int32) (H : xH) : Option (Int32 × xH) :=
  x_bd2 (F_J6_bitCount_0f7a4 N a0 H) fun v2 H1 =>
  x_bd2 (F_J6_bitCount_0f7a4 N a1 H1) fun v4 H3 =>
  x_bd2 (F_J6_compare_7cf53 N v2 v4 H3) fun v6 H5 =>
  if v6 = 0 then (some ((xmin a0 a1), H5)) else (if 0 ≤ v6 then (some (a1, H5)) else (some (a0, H5)))
set_option maxRecDepth 20000 in
set_option maxHeartbeats 4000000 in
theorem P_X6_fewer {N : Nat} {Z : xZ} {rv : Int32} {Hf : xH} (hZ : Z = xZm cX6_fewer yX6_fewer 3 2 (some .int) (some (.int rv)) Hf) : ∀ (a0 : Int32) (a1 : Int32) (H : xH), F_X6_fewer N a0 a1 H = some (rv, Hf) → xWq Z H 0 [xI a0, xI a1, xN] [] := by
  have hz : Z.1 = (cX6_fewer, yX6_fewer, 3) := by rw [hZ]; rfl
  have hδ : Z.2.1 = 2 := by rw [hZ]; rfl
  intro a0 a1 H h
  unfold F_X6_fewer at h
  refine x_iload_n hz dX6_fewer_0 rfl ?_
  obtain ⟨v2, H1, e_H1, h⟩ := x_b2 h
  refine x_callSi (as := [.inl a0]) (st := []) cs_X6_115 rfl rfl hz (by omega) (by decide) dX6_fewer_1 (M_J6_bitCount_0f7a4 e_H1) ?_
  refine x_iload_n hz dX6_fewer_4 rfl ?_
  obtain ⟨v4, H3, e_H3, h⟩ := x_b2 h
  refine x_callSi (as := [.inl a1]) (st := [.int v2]) cs_X6_115 rfl rfl hz (by omega) (Nat.le_trans (x_sm1 rfl x_sm0) (by decide)) dX6_fewer_5 (M_J6_bitCount_0f7a4 e_H3) ?_
  obtain ⟨v6, H5, e_H5, h⟩ := x_b2 h
  refine x_callSi (as := [.inl v2, .inl v4]) (st := []) cs_X6_127 rfl rfl hz (by omega) (by decide) dX6_fewer_8 (M_J6_compare_7cf53 e_H5) ?_
  refine x_istore_n (pl' := [xI a0, xI a1, xI v6]) hz dX6_fewer_11 (by decide) rfl ?_
  refine x_iload_n hz dX6_fewer_12 rfl ?_
  refine x_if_ne (t := 22) hz dX6_fewer_13 (by decide) (fun c7 => ?_) (fun c7 => ?_)
  · replace h := x_in c7 h
    refine x_iload_n hz dX6_fewer_22 rfl ?_
    refine x_if_ge (t := 30) hz dX6_fewer_23 (by decide) (fun c8 => ?_) (fun c8 => ?_)
    · replace h := x_ip c8 h
      refine x_iload_n hz dX6_fewer_30 rfl ?_
      cases h
      exact x_iret hZ dX6_fewer_31
    · replace h := x_in c8 h
      refine x_iload_n hz dX6_fewer_26 rfl ?_
      refine x_goto (t := 31) hz dX6_fewer_27 (by decide) ?_
      cases h
      exact x_iret hZ dX6_fewer_31
  · replace h := x_ip c7 h
    refine x_iload_n hz dX6_fewer_16 rfl ?_
    refine x_iload_n hz dX6_fewer_17 rfl ?_
    refine x_mmin (st := []) jm_min_X6_130 hz (by omega) (by decide) dX6_fewer_18 ?_
    cases h
    exact x_iret hZ dX6_fewer_21
theorem M_X6_fewer {N : Nat} {a0 : Int32} {a1 : Int32} {H H1 : xH} {r1 : Int32} (h : F_X6_fewer N a0 a1 H = some (r1, H1)) : xM yX6_fewer cX6_fewer 3 (some .int) 2 [.inl a0, .inl a1] H (some (.int r1)) H1 :=
  xM_of (by decide +kernel) (xT_tb 807 (by decide +kernel) (by decide +kernel)) (by simp [xargs, x2]) rfl (P_X6_fewer rfl a0 a1 H h)
/-! BettingBook$RowTable.fewestThings(LBettingBook$RowTable;IIII)I -/
noncomputable def F_X6_fewestThings_J88 (N : Nat) (c_X6_fewestThings : (Option Nat) → Int32 → Int32 → Int32 → Int32 → xH → Option (Int32 × xH)) (k19 : (Option Nat) → Int32 → Int32 → Int32 → Int32 → Int32 → Int32 → xH → Option (Int32 × xH)) (x0 : (Option Nat)) (x1 : Int32) (x2 : Int32) (x4 : Int32) (x5 : Int32) (x6 : Int32) (x7 : Int32) (H : xH) : Option (Int32 × xH) :=
  k19 x0 x1 x2 x4 x5 x6 (x7 + 1) H
set_option maxRecDepth 20000 in
set_option maxHeartbeats 4000000 in
theorem P_X6_fewestThings_J88 {N : Nat} {Z : xZ} {rv : Int32} {Hf : xH} {δ : Nat} (hZ : Z = xZm cX6_fewestThings yX6_fewestThings 9 (δ + 1) (some .int) (some (.int rv)) Hf) (hb : 2 ≤ δ) {c_X6_fewestThings : (Option Nat) → Int32 → Int32 → Int32 → Int32 → xH → Option (Int32 × xH)} (hc_X6_fewestThings : ∀ {a0 : (Option Nat)} {a1 : Int32} {a2 : Int32} {a3 : Int32} {a4 : Int32} {H H1 : xH} {r1 : Int32}, c_X6_fewestThings a0 a1 a2 a3 a4 H = some (r1, H1) → xM yX6_fewestThings cX6_fewestThings 9 (some .int) δ [.inr (.inr a0), .inl a1, .inl a2, .inl a3, .inl a4] H (some (.int r1)) H1) {k19 : (Option Nat) → Int32 → Int32 → Int32 → Int32 → Int32 → Int32 → xH → Option (Int32 × xH)} (hk19 : ∀ (x0 : (Option Nat)) (x1 : Int32) (x2 : Int32) (x4 : Int32) (x5 : Int32) (x6 : Int32) (x7 : Int32) (H : xH), k19 x0 x1 x2 x4 x5 x6 x7 H = some (rv, Hf) → xWq Z H 19 [xA x0, xI x1, xI x2, xN, xI x4, xI x5, xI x6, xI x7, xN] []) : ∀ (x0 : (Option Nat)) (x1 : Int32) (x2 : Int32) (x4 : Int32) (x5 : Int32) (x6 : Int32) (x7 : Int32) (H : xH), F_X6_fewestThings_J88 N c_X6_fewestThings k19 x0 x1 x2 x4 x5 x6 x7 H = some (rv, Hf) → xWq Z H 88 [xA x0, xI x1, xI x2, xN, xI x4, xI x5, xI x6, xI x7, xN] [] := by
  have hz : Z.1 = (cX6_fewestThings, yX6_fewestThings, 9) := by rw [hZ]; rfl
  have hδ : Z.2.1 = (δ + 1) := by rw [hZ]; rfl
  intro x0 x1 x2 x4 x5 x6 x7 H h
  unfold F_X6_fewestThings_J88 at h
  refine x_iinc (w := (x7 + 1)) (pl' := [xA x0, xI x1, xI x2, xN, xI x4, xI x5, xI x6, xI (x7 + 1), xN]) hz dX6_fewestThings_88 rfl rfl (by decide) rfl ?_
  refine x_goto (t := 19) hz dX6_fewestThings_91 (by decide) ?_
  exact x_wk (xwk_c (xwk_c (xwk_c (xwk_n (xwk_c (xwk_c (xwk_c (xwk_c (xwk_n xwk_0))))))))) (hk19 x0 x1 x2 x4 x5 x6 (x7 + 1) H h)
noncomputable def F_X6_fewestThings_J19 (N : Nat) (c_X6_fewestThings : (Option Nat) → Int32 → Int32 → Int32 → Int32 → xH → Option (Int32 × xH)) (k19 : (Option Nat) → Int32 → Int32 → Int32 → Int32 → Int32 → Int32 → xH → Option (Int32 × xH)) (x0 : (Option Nat)) (x1 : Int32) (x2 : Int32) (x4 : Int32) (x5 : Int32) (x6 : Int32) (x7 : Int32) (H : xH) : Option (Int32 × xH) :=
  (xgI H x0 6 0).bind fun v1 =>
  if v1 ≤ x7 then (some (x5, H)) else (if (5 : Int32) ≤ x7 then (some (x5, H)) else (x_bd2 (F_X11_power N (9 : Int32) (x7 - x6) H) fun v5 H4 =>
  (xob H4 x0 6).bind fun b7 =>
  x_bd2 (F_X6_dropThing N x0 x1 x2 v5 H4) fun v8 H6 =>
  if v8 = 0 then ((F_X6_fewestThings_J88 N c_X6_fewestThings k19) x0 x1 x2 x4 x5 x6 x7 H6) else (x_bd2 (c_X6_fewestThings x0 (x1 + x2) (x2 / (9 : Int32)) (x7 + (1 : Int32)) (x4 &&& (((1 : Int32) <<< (x7 &&& 31)) ^^^ (-1 : Int32))) H6) fun v11 H10 =>
  x_bd2 (F_X6_fewer N x5 v11 H10) fun v13 H12 =>
  (F_X6_fewestThings_J88 N c_X6_fewestThings k19) x0 x1 x2 x4 v13 x6 x7 H12)))
set_option maxRecDepth 20000 in
set_option maxHeartbeats 4000000 in
theorem P_X6_fewestThings_J19 {N : Nat} {Z : xZ} {rv : Int32} {Hf : xH} {δ : Nat} (hZ : Z = xZm cX6_fewestThings yX6_fewestThings 9 (δ + 1) (some .int) (some (.int rv)) Hf) (hb : 2 ≤ δ) {c_X6_fewestThings : (Option Nat) → Int32 → Int32 → Int32 → Int32 → xH → Option (Int32 × xH)} (hc_X6_fewestThings : ∀ {a0 : (Option Nat)} {a1 : Int32} {a2 : Int32} {a3 : Int32} {a4 : Int32} {H H1 : xH} {r1 : Int32}, c_X6_fewestThings a0 a1 a2 a3 a4 H = some (r1, H1) → xM yX6_fewestThings cX6_fewestThings 9 (some .int) δ [.inr (.inr a0), .inl a1, .inl a2, .inl a3, .inl a4] H (some (.int r1)) H1) {k19 : (Option Nat) → Int32 → Int32 → Int32 → Int32 → Int32 → Int32 → xH → Option (Int32 × xH)} (hk19 : ∀ (x0 : (Option Nat)) (x1 : Int32) (x2 : Int32) (x4 : Int32) (x5 : Int32) (x6 : Int32) (x7 : Int32) (H : xH), k19 x0 x1 x2 x4 x5 x6 x7 H = some (rv, Hf) → xWq Z H 19 [xA x0, xI x1, xI x2, xN, xI x4, xI x5, xI x6, xI x7, xN] []) : ∀ (x0 : (Option Nat)) (x1 : Int32) (x2 : Int32) (x4 : Int32) (x5 : Int32) (x6 : Int32) (x7 : Int32) (H : xH), F_X6_fewestThings_J19 N c_X6_fewestThings k19 x0 x1 x2 x4 x5 x6 x7 H = some (rv, Hf) → xWq Z H 19 [xA x0, xI x1, xI x2, xN, xI x4, xI x5, xI x6, xI x7, xN] [] := by
  have hz : Z.1 = (cX6_fewestThings, yX6_fewestThings, 9) := by rw [hZ]; rfl
  have hδ : Z.2.1 = (δ + 1) := by rw [hZ]; rfl
  intro x0 x1 x2 x4 x5 x6 x7 H h
  unfold F_X6_fewestThings_J19 at h
  refine x_iload hz dX6_fewestThings_19 rfl ?_
  refine x_aload_n hz dX6_fewestThings_21 rfl ?_
  obtain ⟨v1, e_v1, h⟩ := x_bnd h
  refine x_getI hz dX6_fewestThings_22 fs_X6_32 e_v1 ?_
  refine x_icmp_ge (t := 94) hz dX6_fewestThings_25 (by decide) (fun c2 => ?_) (fun c2 => ?_)
  · replace h := x_ip c2 h
    refine x_iload hz dX6_fewestThings_94 rfl ?_
    cases h
    exact x_iret hZ dX6_fewestThings_96
  · replace h := x_in c2 h
    refine x_iload hz dX6_fewestThings_28 rfl ?_
    refine x_iconst (v := (5 : Int32)) hz dX6_fewestThings_30 (by decide) ?_
    refine x_icmp_ge (t := 94) hz dX6_fewestThings_31 (by decide) (fun c3 => ?_) (fun c3 => ?_)
    · replace h := x_ip c3 h
      refine x_iload hz dX6_fewestThings_94 rfl ?_
      cases h
      exact x_iret hZ dX6_fewestThings_96
    · replace h := x_in c3 h
      refine x_aload_n hz dX6_fewestThings_34 rfl ?_
      refine x_iload_n hz dX6_fewestThings_35 rfl ?_
      refine x_iload_n hz dX6_fewestThings_36 rfl ?_
      refine x_bipush (v := (9 : Int32)) hz dX6_fewestThings_37 (by decide) ?_
      refine x_iload hz dX6_fewestThings_39 rfl ?_
      refine x_iload hz dX6_fewestThings_41 rfl ?_
      refine x_isub hz dX6_fewestThings_43 ?_
      obtain ⟨v5, H4, e_H4, h⟩ := x_b2 h
      refine x_callSi (as := [.inl (9 : Int32), .inl (x7 - x6)]) (st := [.int x2, .int x1, va_rf x0]) cs_X6_33 rfl rfl hz (by omega) (Nat.le_trans (x_sm1 rfl (x_sm1 rfl (x_sm1 (x_rfc _) x_sm0))) (by decide)) dX6_fewestThings_44 (M_X11_power e_H4) ?_
      obtain ⟨b7, e_b7, h⟩ := x_bnd h
      obtain ⟨v8, H6, e_H6, h⟩ := x_b2 h
      refine x_callVi (as := [.inl x1, .inl x2, .inl v5]) (st := []) cs_X6_120 (ci := 6) ⟨rfl, rfl⟩ rfl rfl hz (by omega) (by decide) dX6_fewestThings_47 e_b7 (M_X6_dropThing e_H6) ?_
      refine x_if_eq (t := 88) hz dX6_fewestThings_50 (by decide) (fun c9 => ?_) (fun c9 => ?_)
      · replace h := x_ip c9 h
        exact x_wk (xwk_c (xwk_c (xwk_c (xwk_n (xwk_c (xwk_c (xwk_c (xwk_c (xwk_n xwk_0))))))))) ((P_X6_fewestThings_J88 hZ hb hc_X6_fewestThings hk19) x0 x1 x2 x4 x5 x6 x7 H6 h)
      · replace h := x_in c9 h
        refine x_iload hz dX6_fewestThings_53 rfl ?_
        refine x_iconst (v := (1 : Int32)) hz dX6_fewestThings_55 (by decide) ?_
        refine x_iload hz dX6_fewestThings_56 rfl ?_
        refine x_ishl hz dX6_fewestThings_58 ?_
        refine x_iconst (v := (-1 : Int32)) hz dX6_fewestThings_59 (by decide) ?_
        refine x_ixor hz dX6_fewestThings_60 ?_
        refine x_iand hz dX6_fewestThings_61 ?_
        refine x_istore (pl' := [xA x0, xI x1, xI x2, xN, xI x4, xI x5, xI x6, xI x7, xI (x4 &&& (((1 : Int32) <<< (x7 &&& 31)) ^^^ (-1 : Int32)))]) hz dX6_fewestThings_62 (by decide) rfl ?_
        refine x_iload hz dX6_fewestThings_64 rfl ?_
        refine x_aload_n hz dX6_fewestThings_66 rfl ?_
        refine x_iload_n hz dX6_fewestThings_67 rfl ?_
        refine x_iload_n hz dX6_fewestThings_68 rfl ?_
        refine x_iadd hz dX6_fewestThings_69 ?_
        refine x_iload_n hz dX6_fewestThings_70 rfl ?_
        refine x_bipush (v := (9 : Int32)) hz dX6_fewestThings_71 (by decide) ?_
        refine x_idiv hz dX6_fewestThings_73 (by decide) ?_
        refine x_iload hz dX6_fewestThings_74 rfl ?_
        refine x_iconst (v := (1 : Int32)) hz dX6_fewestThings_76 (by decide) ?_
        refine x_iadd hz dX6_fewestThings_77 ?_
        refine x_iload hz dX6_fewestThings_78 rfl ?_
        obtain ⟨v11, H10, e_H10, h⟩ := x_b2 h
        refine x_callSi (as := [.inr (.inr x0), .inl (x1 + x2), .inl (x2 / (9 : Int32)), .inl (x7 + (1 : Int32)), .inl (x4 &&& (((1 : Int32) <<< (x7 &&& 31)) ^^^ (-1 : Int32)))]) (st := [.int x5]) cs_X6_111 rfl rfl hz (by omega) (Nat.le_trans (x_sm1 rfl x_sm0) (by decide)) dX6_fewestThings_80 (hc_X6_fewestThings e_H10) ?_
        obtain ⟨v13, H12, e_H12, h⟩ := x_b2 h
        refine x_callSi (as := [.inl x5, .inl v11]) (st := []) cs_X6_124 rfl rfl hz (by omega) (by decide) dX6_fewestThings_83 (M_X6_fewer e_H12) ?_
        refine x_istore (pl' := [xA x0, xI x1, xI x2, xN, xI x4, xI v13, xI x6, xI x7, xI (x4 &&& (((1 : Int32) <<< (x7 &&& 31)) ^^^ (-1 : Int32)))]) hz dX6_fewestThings_86 (by decide) rfl ?_
        exact x_wk (xwk_c (xwk_c (xwk_c (xwk_n (xwk_c (xwk_c (xwk_c (xwk_c (xwk_n xwk_0))))))))) ((P_X6_fewestThings_J88 hZ hb hc_X6_fewestThings hk19) x0 x1 x2 x4 v13 x6 x7 H12 h)
noncomputable def F_X6_fewestThings_L19 (N : Nat) (c_X6_fewestThings : (Option Nat) → Int32 → Int32 → Int32 → Int32 → xH → Option (Int32 × xH)) : Nat → (Option Nat) → Int32 → Int32 → Int32 → Int32 → Int32 → Int32 → xH → Option (Int32 × xH)
  | 0 => fun _ _ _ _ _ _ _ _ => none
  | n + 1 => F_X6_fewestThings_J19 N c_X6_fewestThings (F_X6_fewestThings_L19 N c_X6_fewestThings n)
theorem P_X6_fewestThings_L19 {N : Nat} {Z : xZ} {rv : Int32} {Hf : xH} {δ : Nat} (hZ : Z = xZm cX6_fewestThings yX6_fewestThings 9 (δ + 1) (some .int) (some (.int rv)) Hf) (hb : 2 ≤ δ) {c_X6_fewestThings : (Option Nat) → Int32 → Int32 → Int32 → Int32 → xH → Option (Int32 × xH)} (hc_X6_fewestThings : ∀ {a0 : (Option Nat)} {a1 : Int32} {a2 : Int32} {a3 : Int32} {a4 : Int32} {H H1 : xH} {r1 : Int32}, c_X6_fewestThings a0 a1 a2 a3 a4 H = some (r1, H1) → xM yX6_fewestThings cX6_fewestThings 9 (some .int) δ [.inr (.inr a0), .inl a1, .inl a2, .inl a3, .inl a4] H (some (.int r1)) H1) : ∀ (n : Nat) (x0 : (Option Nat)) (x1 : Int32) (x2 : Int32) (x4 : Int32) (x5 : Int32) (x6 : Int32) (x7 : Int32) (H : xH), F_X6_fewestThings_L19 N c_X6_fewestThings n x0 x1 x2 x4 x5 x6 x7 H = some (rv, Hf) → xWq Z H 19 [xA x0, xI x1, xI x2, xN, xI x4, xI x5, xI x6, xI x7, xN] [] := by
  intro n
  induction n with
  | zero => intro _ _ _ _ _ _ _ _ h; cases h
  | succ n ih => exact P_X6_fewestThings_J19 hZ hb hc_X6_fewestThings ih
noncomputable def B_X6_fewestThings (N : Nat) (c_X6_fewestThings : (Option Nat) → Int32 → Int32 → Int32 → Int32 → xH → Option (Int32 × xH)) (a0 : (Option Nat)) (a1 : Int32) (a2 : Int32) (a3 : Int32) (a4 : Int32) (H : xH) : Option (Int32 × xH) :=
  (xgI H a0 6 0).bind fun v1 =>
  x_bd2 (F_J6_bitCount_0f7a4 N a4 H) fun v3 H2 =>
  (F_X6_fewestThings_L19 N c_X6_fewestThings N) a0 a1 a2 a4 a4 (v1 - v3) a3 H2
set_option maxRecDepth 20000 in
set_option maxHeartbeats 4000000 in
theorem P_X6_fewestThings {N : Nat} {Z : xZ} {rv : Int32} {Hf : xH} {δ : Nat} (hZ : Z = xZm cX6_fewestThings yX6_fewestThings 9 (δ + 1) (some .int) (some (.int rv)) Hf) (hb : 2 ≤ δ) {c_X6_fewestThings : (Option Nat) → Int32 → Int32 → Int32 → Int32 → xH → Option (Int32 × xH)} (hc_X6_fewestThings : ∀ {a0 : (Option Nat)} {a1 : Int32} {a2 : Int32} {a3 : Int32} {a4 : Int32} {H H1 : xH} {r1 : Int32}, c_X6_fewestThings a0 a1 a2 a3 a4 H = some (r1, H1) → xM yX6_fewestThings cX6_fewestThings 9 (some .int) δ [.inr (.inr a0), .inl a1, .inl a2, .inl a3, .inl a4] H (some (.int r1)) H1) : ∀ (a0 : (Option Nat)) (a1 : Int32) (a2 : Int32) (a3 : Int32) (a4 : Int32) (H : xH), B_X6_fewestThings N c_X6_fewestThings a0 a1 a2 a3 a4 H = some (rv, Hf) → xWq Z H 0 [xA a0, xI a1, xI a2, xI a3, xI a4, xN, xN, xN, xN] [] := by
  have hz : Z.1 = (cX6_fewestThings, yX6_fewestThings, 9) := by rw [hZ]; rfl
  have hδ : Z.2.1 = (δ + 1) := by rw [hZ]; rfl
  intro a0 a1 a2 a3 a4 H h
  unfold B_X6_fewestThings at h
  refine x_iload hz dX6_fewestThings_0 rfl ?_
  refine x_istore (pl' := [xA a0, xI a1, xI a2, xI a3, xI a4, xI a4, xN, xN, xN]) hz dX6_fewestThings_2 (by decide) rfl ?_
  refine x_aload_n hz dX6_fewestThings_4 rfl ?_
  obtain ⟨v1, e_v1, h⟩ := x_bnd h
  refine x_getI hz dX6_fewestThings_5 fs_X6_32 e_v1 ?_
  refine x_iload hz dX6_fewestThings_8 rfl ?_
  obtain ⟨v3, H2, e_H2, h⟩ := x_b2 h
  refine x_callSi (as := [.inl a4]) (st := [.int v1]) cs_X6_115 rfl rfl hz (by omega) (Nat.le_trans (x_sm1 rfl x_sm0) (by decide)) dX6_fewestThings_10 (M_J6_bitCount_0f7a4 e_H2) ?_
  refine x_isub hz dX6_fewestThings_13 ?_
  refine x_istore (pl' := [xA a0, xI a1, xI a2, xI a3, xI a4, xI a4, xI (v1 - v3), xN, xN]) hz dX6_fewestThings_14 (by decide) rfl ?_
  refine x_iload_n hz dX6_fewestThings_16 rfl ?_
  refine x_istore (pl' := [xA a0, xI a1, xI a2, xI a3, xI a4, xI a4, xI (v1 - v3), xI a3, xN]) hz dX6_fewestThings_17 (by decide) rfl ?_
  exact x_wk (xwk_c (xwk_c (xwk_c (xwk_n (xwk_c (xwk_c (xwk_c (xwk_c (xwk_n xwk_0))))))))) ((P_X6_fewestThings_L19 hZ hb hc_X6_fewestThings N) a0 a1 a2 a4 a4 (v1 - v3) a3 H2 h)
theorem MB_X6_fewestThings {N : Nat} {δ : Nat} (hb : 2 ≤ δ) {c_X6_fewestThings : (Option Nat) → Int32 → Int32 → Int32 → Int32 → xH → Option (Int32 × xH)} (hc_X6_fewestThings : ∀ {a0 : (Option Nat)} {a1 : Int32} {a2 : Int32} {a3 : Int32} {a4 : Int32} {H H1 : xH} {r1 : Int32}, c_X6_fewestThings a0 a1 a2 a3 a4 H = some (r1, H1) → xM yX6_fewestThings cX6_fewestThings 9 (some .int) δ [.inr (.inr a0), .inl a1, .inl a2, .inl a3, .inl a4] H (some (.int r1)) H1) {a0 : (Option Nat)} {a1 : Int32} {a2 : Int32} {a3 : Int32} {a4 : Int32} {H H1 : xH} {r1 : Int32} (h : B_X6_fewestThings N c_X6_fewestThings a0 a1 a2 a3 a4 H = some (r1, H1)) : xM yX6_fewestThings cX6_fewestThings 9 (some .int) (δ + 1) [.inr (.inr a0), .inl a1, .inl a2, .inl a3, .inl a4] H (some (.int r1)) H1 :=
  xM_of (by decide +kernel) (xT_tb 794 (by decide +kernel) (by decide +kernel)) (by simp [xargs, x2]) rfl (P_X6_fewestThings rfl hb hc_X6_fewestThings a0 a1 a2 a3 a4 H h)
noncomputable def R_X6_fewestThings (N : Nat) : Nat → ((Option Nat) → Int32 → Int32 → Int32 → Int32 → xH → Option (Int32 × xH))
  | 0 => (fun _ _ _ _ _ _ => none)
  | n + 1 => (B_X6_fewestThings N ((R_X6_fewestThings N n)))
theorem MR_X6_fewestThings (N : Nat) : ∀ n : Nat, (∀ {a0 : (Option Nat)} {a1 : Int32} {a2 : Int32} {a3 : Int32} {a4 : Int32} {H H1 : xH} {r1 : Int32}, ((R_X6_fewestThings N n)) a0 a1 a2 a3 a4 H = some (r1, H1) → xM yX6_fewestThings cX6_fewestThings 9 (some .int) (2 + n) [.inr (.inr a0), .inl a1, .inl a2, .inl a3, .inl a4] H (some (.int r1)) H1) := by
  intro n
  induction n with
  | zero => exact fun h => by cases h
  | succ n ih => exact fun h => MB_X6_fewestThings (by omega) (ih) h
noncomputable def F_X6_fewestThings (N : Nat) : (Option Nat) → Int32 → Int32 → Int32 → Int32 → xH → Option (Int32 × xH) := (R_X6_fewestThings N 45)
theorem M_X6_fewestThings {N : Nat} {a0 : (Option Nat)} {a1 : Int32} {a2 : Int32} {a3 : Int32} {a4 : Int32} {H H1 : xH} {r1 : Int32} (h : F_X6_fewestThings N a0 a1 a2 a3 a4 H = some (r1, H1)) : xM yX6_fewestThings cX6_fewestThings 9 (some .int) 47 [.inr (.inr a0), .inl a1, .inl a2, .inl a3, .inl a4] H (some (.int r1)) H1 := (MR_X6_fewestThings N 45) h
/-! BettingBook$RowTable.hangingOn(I)I -/
noncomputable def F_X6_hangingOn_J37 (N : Nat) (k2 : (Option Nat) → Int32 → Int32 → xH → Option (Int32 × xH)) (x0 : (Option Nat)) (x1 : Int32) (x2 : Int32) (s0 : (Option Nat)) (s1 : Int32) (s2 : Int32) (H : xH) : Option (Int32 × xH) :=
  (xob H s0 6).bind fun b2 =>
  (F_X6_setClass N s0 s1 s2 H).bind fun H1 =>
  k2 x0 x1 (x2 + 1) H1
set_option maxRecDepth 20000 in
set_option maxHeartbeats 4000000 in
theorem P_X6_hangingOn_J37 {N : Nat} {Z : xZ} {rv : Int32} {Hf : xH} (hZ : Z = xZm cX6_hangingOn yX6_hangingOn 5 48 (some .int) (some (.int rv)) Hf) {k2 : (Option Nat) → Int32 → Int32 → xH → Option (Int32 × xH)} (hk2 : ∀ (x0 : (Option Nat)) (x1 : Int32) (x2 : Int32) (H : xH), k2 x0 x1 x2 H = some (rv, Hf) → xWq Z H 2 [xA x0, xI x1, xI x2, xN, xN] []) : ∀ (x0 : (Option Nat)) (x1 : Int32) (x2 : Int32) (s0 : (Option Nat)) (s1 : Int32) (s2 : Int32) (H : xH), F_X6_hangingOn_J37 N k2 x0 x1 x2 s0 s1 s2 H = some (rv, Hf) → xWq Z H 37 [xA x0, xI x1, xI x2, xN, xN] [.int s2, .int s1, va_rf s0] := by
  have hz : Z.1 = (cX6_hangingOn, yX6_hangingOn, 5) := by rw [hZ]; rfl
  have hδ : Z.2.1 = 48 := by rw [hZ]; rfl
  intro x0 x1 x2 s0 s1 s2 H h
  unfold F_X6_hangingOn_J37 at h
  obtain ⟨b2, e_b2, h⟩ := x_bnd h
  obtain ⟨H1, e_H1, h⟩ := x_bnd h
  refine x_callVv (as := [.inl s1, .inl s2]) (st := []) cs_X6_103 (ci := 6) ⟨rfl, rfl⟩ rfl rfl hz (by omega) (by decide) dX6_hangingOn_37 e_b2 (M_X6_setClass e_H1) ?_
  refine x_iinc (w := (x2 + 1)) (pl' := [xA x0, xI x1, xI (x2 + 1), xN, xN]) hz dX6_hangingOn_40 rfl rfl (by decide) rfl ?_
  refine x_goto (t := 2) hz dX6_hangingOn_43 (by decide) ?_
  exact x_wk (xwk_c (xwk_c (xwk_c (xwk_n (xwk_n xwk_0))))) (hk2 x0 x1 (x2 + 1) H1 h)
noncomputable def F_X6_hangingOn_J2 (N : Nat) (k2 : (Option Nat) → Int32 → Int32 → xH → Option (Int32 × xH)) (k46 : (Option Nat) → xH → Option (Int32 × xH)) (x0 : (Option Nat)) (x1 : Int32) (x2 : Int32) (H : xH) : Option (Int32 × xH) :=
  (xgI H x0 6 1).bind fun v1 =>
  if v1 ≤ x2 then (k46 x0 H) else ((xob H x0 6).bind fun b4 =>
  x_bd2 (F_X6_cellAt N x0 x2 H) fun v5 H3 =>
  if (lg_cmp (v5 &&& (4611686018427387904 : Int64)) (0 : Int64)) = 0 then ((F_X6_hangingOn_J37 N k2) x0 x1 x2 x0 x2 (0 : Int32) H3) else (x_bd2 (F_X11_outcomeBits N v5 x1 H3) fun v8 H7 =>
  (F_X6_hangingOn_J37 N k2) x0 x1 x2 x0 x2 v8 H7))
set_option maxRecDepth 20000 in
set_option maxHeartbeats 4000000 in
theorem P_X6_hangingOn_J2 {N : Nat} {Z : xZ} {rv : Int32} {Hf : xH} (hZ : Z = xZm cX6_hangingOn yX6_hangingOn 5 48 (some .int) (some (.int rv)) Hf) {k2 : (Option Nat) → Int32 → Int32 → xH → Option (Int32 × xH)} (hk2 : ∀ (x0 : (Option Nat)) (x1 : Int32) (x2 : Int32) (H : xH), k2 x0 x1 x2 H = some (rv, Hf) → xWq Z H 2 [xA x0, xI x1, xI x2, xN, xN] []) {k46 : (Option Nat) → xH → Option (Int32 × xH)} (hk46 : ∀ (x0 : (Option Nat)) (H : xH), k46 x0 H = some (rv, Hf) → xWq Z H 46 [xA x0, xN, xN, xN, xN] []) : ∀ (x0 : (Option Nat)) (x1 : Int32) (x2 : Int32) (H : xH), F_X6_hangingOn_J2 N k2 k46 x0 x1 x2 H = some (rv, Hf) → xWq Z H 2 [xA x0, xI x1, xI x2, xN, xN] [] := by
  have hz : Z.1 = (cX6_hangingOn, yX6_hangingOn, 5) := by rw [hZ]; rfl
  have hδ : Z.2.1 = 48 := by rw [hZ]; rfl
  intro x0 x1 x2 H h
  unfold F_X6_hangingOn_J2 at h
  refine x_iload_n hz dX6_hangingOn_2 rfl ?_
  refine x_aload_n hz dX6_hangingOn_3 rfl ?_
  obtain ⟨v1, e_v1, h⟩ := x_bnd h
  refine x_getI hz dX6_hangingOn_4 fs_X6_37 e_v1 ?_
  refine x_icmp_ge (t := 46) hz dX6_hangingOn_7 (by decide) (fun c2 => ?_) (fun c2 => ?_)
  · replace h := x_ip c2 h
    exact x_wk (xwk_c (xwk_n (xwk_n (xwk_n (xwk_n xwk_0))))) (hk46 x0 H h)
  · replace h := x_in c2 h
    refine x_aload_n hz dX6_hangingOn_10 rfl ?_
    refine x_iload_n hz dX6_hangingOn_11 rfl ?_
    obtain ⟨b4, e_b4, h⟩ := x_bnd h
    obtain ⟨v5, H3, e_H3, h⟩ := x_b2 h
    refine x_callVl (as := [.inl x2]) (st := []) cs_X6_91 (ci := 6) ⟨rfl, rfl⟩ rfl rfl hz (by omega) (by decide) dX6_hangingOn_12 e_b4 (M_X6_cellAt e_H3) ?_
    refine x_lstore_n (pl' := [xA x0, xI x1, xI x2, xJ v5, xN]) hz dX6_hangingOn_15 (by decide) rfl ?_
    refine x_aload_n hz dX6_hangingOn_16 rfl ?_
    refine x_iload_n hz dX6_hangingOn_17 rfl ?_
    refine x_lload_n hz dX6_hangingOn_18 rfl ?_
    refine x_ldc2 (v := (4611686018427387904 : Int64)) hz dX6_hangingOn_19 wc_X6_77 ?_
    refine x_land hz dX6_hangingOn_22 ?_
    refine x_lconst (v := (0 : Int64)) hz dX6_hangingOn_23 (by decide) ?_
    refine x_lcmp hz dX6_hangingOn_24 ?_
    refine x_if_ne (t := 32) hz dX6_hangingOn_25 (by decide) (fun c6 => ?_) (fun c6 => ?_)
    · replace h := x_in c6 h
      refine x_lload_n hz dX6_hangingOn_32 rfl ?_
      refine x_iload_n hz dX6_hangingOn_33 rfl ?_
      obtain ⟨v8, H7, e_H7, h⟩ := x_b2 h
      refine x_callSi (as := [.inr (.inl v5), .inl x1]) (st := [.int x2, va_rf x0]) cs_X6_87 rfl rfl hz (by omega) (Nat.le_trans (x_sm1 rfl (x_sm1 (x_rfc _) x_sm0)) (by decide)) dX6_hangingOn_34 (M_X11_outcomeBits e_H7) ?_
      exact x_wk (xwk_c (xwk_c (xwk_c (xwk_n (xwk_n xwk_0))))) ((P_X6_hangingOn_J37 hZ hk2) x0 x1 x2 x0 x2 v8 H7 h)
    · replace h := x_ip c6 h
      refine x_iconst (v := (0 : Int32)) hz dX6_hangingOn_28 (by decide) ?_
      refine x_goto (t := 37) hz dX6_hangingOn_29 (by decide) ?_
      exact x_wk (xwk_c (xwk_c (xwk_c (xwk_n (xwk_n xwk_0))))) ((P_X6_hangingOn_J37 hZ hk2) x0 x1 x2 x0 x2 (0 : Int32) H3 h)
noncomputable def F_X6_hangingOn_L2 (N : Nat) (k46 : (Option Nat) → xH → Option (Int32 × xH)) : Nat → (Option Nat) → Int32 → Int32 → xH → Option (Int32 × xH)
  | 0 => fun _ _ _ _ => none
  | n + 1 => F_X6_hangingOn_J2 N (F_X6_hangingOn_L2 N k46 n) k46
theorem P_X6_hangingOn_L2 {N : Nat} {Z : xZ} {rv : Int32} {Hf : xH} (hZ : Z = xZm cX6_hangingOn yX6_hangingOn 5 48 (some .int) (some (.int rv)) Hf) {k46 : (Option Nat) → xH → Option (Int32 × xH)} (hk46 : ∀ (x0 : (Option Nat)) (H : xH), k46 x0 H = some (rv, Hf) → xWq Z H 46 [xA x0, xN, xN, xN, xN] []) : ∀ (n : Nat) (x0 : (Option Nat)) (x1 : Int32) (x2 : Int32) (H : xH), F_X6_hangingOn_L2 N k46 n x0 x1 x2 H = some (rv, Hf) → xWq Z H 2 [xA x0, xI x1, xI x2, xN, xN] [] := by
  intro n
  induction n with
  | zero => intro _ _ _ _ h; cases h
  | succ n ih => exact P_X6_hangingOn_J2 hZ ih hk46
noncomputable def F_X6_hangingOn_J46 (N : Nat) (x0 : (Option Nat)) (H : xH) : Option (Int32 × xH) :=
  (xgI H x0 6 1).bind fun v1 =>
  (xgI H x0 6 0).bind fun v2 =>
  x_bd2 (F_X6_fewestThings N x0 (0 : Int32) v1 (0 : Int32) (((1 : Int32) <<< (v2 &&& 31)) - (1 : Int32)) H) fun v4 H3 =>
  some (v4, H3)
set_option maxRecDepth 20000 in
set_option maxHeartbeats 4000000 in
theorem P_X6_hangingOn_J46 {N : Nat} {Z : xZ} {rv : Int32} {Hf : xH} (hZ : Z = xZm cX6_hangingOn yX6_hangingOn 5 48 (some .int) (some (.int rv)) Hf) : ∀ (x0 : (Option Nat)) (H : xH), F_X6_hangingOn_J46 N x0 H = some (rv, Hf) → xWq Z H 46 [xA x0, xN, xN, xN, xN] [] := by
  have hz : Z.1 = (cX6_hangingOn, yX6_hangingOn, 5) := by rw [hZ]; rfl
  have hδ : Z.2.1 = 48 := by rw [hZ]; rfl
  intro x0 H h
  unfold F_X6_hangingOn_J46 at h
  refine x_aload_n hz dX6_hangingOn_46 rfl ?_
  refine x_iconst (v := (0 : Int32)) hz dX6_hangingOn_47 (by decide) ?_
  refine x_aload_n hz dX6_hangingOn_48 rfl ?_
  obtain ⟨v1, e_v1, h⟩ := x_bnd h
  refine x_getI hz dX6_hangingOn_49 fs_X6_37 e_v1 ?_
  refine x_iconst (v := (0 : Int32)) hz dX6_hangingOn_52 (by decide) ?_
  refine x_iconst (v := (1 : Int32)) hz dX6_hangingOn_53 (by decide) ?_
  refine x_aload_n hz dX6_hangingOn_54 rfl ?_
  obtain ⟨v2, e_v2, h⟩ := x_bnd h
  refine x_getI hz dX6_hangingOn_55 fs_X6_32 e_v2 ?_
  refine x_ishl hz dX6_hangingOn_58 ?_
  refine x_iconst (v := (1 : Int32)) hz dX6_hangingOn_59 (by decide) ?_
  refine x_isub hz dX6_hangingOn_60 ?_
  obtain ⟨v4, H3, e_H3, h⟩ := x_b2 h
  refine x_callSi (as := [.inr (.inr x0), .inl (0 : Int32), .inl v1, .inl (0 : Int32), .inl (((1 : Int32) <<< (v2 &&& 31)) - (1 : Int32))]) (st := []) cs_X6_111 rfl rfl hz (by omega) (by decide) dX6_hangingOn_61 (M_X6_fewestThings e_H3) ?_
  cases h
  exact x_iret hZ dX6_hangingOn_64
noncomputable def F_X6_hangingOn (N : Nat) (a0 : (Option Nat)) (a1 : Int32) (H : xH) : Option (Int32 × xH) :=
  (F_X6_hangingOn_L2 N (F_X6_hangingOn_J46 N) N) a0 a1 (0 : Int32) H
set_option maxRecDepth 20000 in
set_option maxHeartbeats 4000000 in
theorem P_X6_hangingOn {N : Nat} {Z : xZ} {rv : Int32} {Hf : xH} (hZ : Z = xZm cX6_hangingOn yX6_hangingOn 5 48 (some .int) (some (.int rv)) Hf) : ∀ (a0 : (Option Nat)) (a1 : Int32) (H : xH), F_X6_hangingOn N a0 a1 H = some (rv, Hf) → xWq Z H 0 [xA a0, xI a1, xN, xN, xN] [] := by
  have hz : Z.1 = (cX6_hangingOn, yX6_hangingOn, 5) := by rw [hZ]; rfl
  have hδ : Z.2.1 = 48 := by rw [hZ]; rfl
  intro a0 a1 H h
  unfold F_X6_hangingOn at h
  refine x_iconst (v := (0 : Int32)) hz dX6_hangingOn_0 (by decide) ?_
  refine x_istore_n (pl' := [xA a0, xI a1, xI (0 : Int32), xN, xN]) hz dX6_hangingOn_1 (by decide) rfl ?_
  exact x_wk (xwk_c (xwk_c (xwk_c (xwk_n (xwk_n xwk_0))))) ((P_X6_hangingOn_L2 hZ (P_X6_hangingOn_J46 hZ) N) a0 a1 (0 : Int32) H h)
theorem M_X6_hangingOn {N : Nat} {a0 : (Option Nat)} {a1 : Int32} {H H1 : xH} {r1 : Int32} (h : F_X6_hangingOn N a0 a1 H = some (r1, H1)) : xM yX6_hangingOn cX6_hangingOn 5 (some .int) 48 [.inr (.inr a0), .inl a1] H (some (.int r1)) H1 :=
  xM_of (by decide +kernel) (xT_tb 791 (by decide +kernel) (by decide +kernel)) (by simp [xargs, x2]) rfl (P_X6_hangingOn rfl a0 a1 H h)
/-! BettingBook$Teller.init(LBettingBook$Tokens;LBettingBook$Club;)V -/
noncomputable def F_X7_init (N : Nat) (a0 : (Option Nat)) (a1 : (Option Nat)) (a2 : (Option Nat)) (H : xH) : Option xH :=
  (a0).bind fun b1 =>
  (xpA H a0 7 0 a1).bind fun H2 =>
  (xpA H2 a0 7 1 a2).bind fun H3 =>
  some H3
set_option maxRecDepth 20000 in
set_option maxHeartbeats 4000000 in
theorem P_X7_init {N : Nat} {Z : xZ} {Hf : xH} (hZ : Z = xZm cX7_init yX7_init 3 2 none none Hf) : ∀ (a0 : (Option Nat)) (a1 : (Option Nat)) (a2 : (Option Nat)) (H : xH), F_X7_init N a0 a1 a2 H = some Hf → xWq Z H 0 [xA a0, xA a1, xA a2] [] := by
  have hz : Z.1 = (cX7_init, yX7_init, 3) := by rw [hZ]; rfl
  have hδ : Z.2.1 = 2 := by rw [hZ]; rfl
  intro a0 a1 a2 H h
  unfold F_X7_init at h
  refine x_aload_n hz dX7_init_0 rfl ?_
  obtain ⟨b1, e_b1, h⟩ := x_bnd h
  refine x_objInit e_b1 hz (by omega) (by decide) ol_X7_3 oi_1 oi_2 dX7_init_1 ?_
  refine x_aload_n hz dX7_init_4 rfl ?_
  refine x_aload_n hz dX7_init_5 rfl ?_
  obtain ⟨H2, e_H2, h⟩ := x_bnd h
  refine x_putF (v := va_rf a1) hz rfl dX7_init_6 fs_X7_9F (x_nro _ _) (x_fto _ _) e_H2 ?_
  refine x_aload_n hz dX7_init_9 rfl ?_
  refine x_aload_n hz dX7_init_10 rfl ?_
  obtain ⟨H3, e_H3, h⟩ := x_bnd h
  refine x_putF (v := va_rf a2) hz rfl dX7_init_11 fs_X7_15F (x_nro _ _) (x_fto _ _) e_H3 ?_
  cases h
  exact x_vret hZ dX7_init_14
theorem M_X7_init {N : Nat} {a0 : (Option Nat)} {a1 : (Option Nat)} {a2 : (Option Nat)} {H H1 : xH} (h : F_X7_init N a0 a1 a2 H = some H1) : xM yX7_init cX7_init 3 none 2 [.inr (.inr a0), .inr (.inr a1), .inr (.inr a2)] H none H1 :=
  xM_of (by decide +kernel) (xT_tb 396 (by decide +kernel) (by decide +kernel)) (by simp [xargs, x2]) rfl (P_X7_init rfl a0 a1 a2 H h)
/-! BettingBook$Tokens.atEnd()Z -/
noncomputable def F_X8_atEnd (N : Nat) (a0 : (Option Nat)) (H : xH) : Option (Int32 × xH) :=
  (xgA H a0 8 0).bind fun v1 =>
  (xgI H a0 8 3).bind fun v2 =>
  x_bd2 (F_X11_at N v1 v2 H) fun v4 H3 =>
  if v4 = 0 then (some ((1 : Int32), H3)) else (some ((0 : Int32), H3))
set_option maxRecDepth 20000 in
set_option maxHeartbeats 4000000 in
theorem P_X8_atEnd {N : Nat} {Z : xZ} {rv : Int32} {Hf : xH} (hZ : Z = xZm cX8_atEnd yX8_atEnd 1 2 (some .boolean) (some (.int rv)) Hf) : ∀ (a0 : (Option Nat)) (H : xH), F_X8_atEnd N a0 H = some (rv, Hf) → xWq Z H 0 [xA a0] [] := by
  have hz : Z.1 = (cX8_atEnd, yX8_atEnd, 1) := by rw [hZ]; rfl
  have hδ : Z.2.1 = 2 := by rw [hZ]; rfl
  intro a0 H h
  unfold F_X8_atEnd at h
  refine x_aload_n hz dX8_atEnd_0 rfl ?_
  obtain ⟨v1, e_v1, h⟩ := x_bnd h
  refine x_getA hz dX8_atEnd_1 fs_X8_9 e_v1 ?_
  refine x_aload_n hz dX8_atEnd_4 rfl ?_
  obtain ⟨v2, e_v2, h⟩ := x_bnd h
  refine x_getI hz dX8_atEnd_5 fs_X8_22 e_v2 ?_
  obtain ⟨v4, H3, e_H3, h⟩ := x_b2 h
  refine x_callSi (as := [.inr (.inr v1), .inl v2]) (st := []) cs_X8_37 rfl rfl hz (by omega) (by decide) dX8_atEnd_8 (M_X11_at e_H3) ?_
  refine x_if_ne (t := 18) hz dX8_atEnd_11 (by decide) (fun c5 => ?_) (fun c5 => ?_)
  · replace h := x_in c5 h
    refine x_iconst (v := (0 : Int32)) hz dX8_atEnd_18 (by decide) ?_
    cases h
    exact x_zret01 hZ (Or.inl rfl) dX8_atEnd_19
  · replace h := x_ip c5 h
    refine x_iconst (v := (1 : Int32)) hz dX8_atEnd_14 (by decide) ?_
    refine x_goto (t := 19) hz dX8_atEnd_15 (by decide) ?_
    cases h
    exact x_zret01 hZ (Or.inr rfl) dX8_atEnd_19
theorem M_X8_atEnd {N : Nat} {a0 : (Option Nat)} {H H1 : xH} {r1 : Int32} (h : F_X8_atEnd N a0 H = some (r1, H1)) : xM yX8_atEnd cX8_atEnd 1 (some .boolean) 2 [.inr (.inr a0)] H (some (.int r1)) H1 :=
  xM_of (by decide +kernel) (xT_tb 412 (by decide +kernel) (by decide +kernel)) (by simp [xargs, x2]) rfl (P_X8_atEnd rfl a0 H h)
/-! BettingBook.at([JI)J -/
noncomputable def F_X11_at_ (N : Nat) (a0 : (Option Nat)) (a1 : Int32) (H : xH) : Option (Int64 × xH) :=
  if a0 = none then (some ((0 : Int64), H)) else (if a1 < 0 then (some ((0 : Int64), H)) else ((xal .long H a0).bind fun v3 =>
  if v3 ≤ a1 then (some ((0 : Int64), H)) else ((xlJ H a0 a1).bind fun v5 =>
  some (v5, H))))
set_option maxRecDepth 20000 in
set_option maxHeartbeats 4000000 in
theorem P_X11_at_ {N : Nat} {Z : xZ} {rv : Int64} {Hf : xH} (hZ : Z = xZm cX11_at_ yX11_at_ 2 1 (some .long) (some (.long rv)) Hf) : ∀ (a0 : (Option Nat)) (a1 : Int32) (H : xH), F_X11_at_ N a0 a1 H = some (rv, Hf) → xWq Z H 0 [xA a0, xI a1] [] := by
  have hz : Z.1 = (cX11_at_, yX11_at_, 2) := by rw [hZ]; rfl
  have hδ : Z.2.1 = 1 := by rw [hZ]; rfl
  intro a0 a1 H h
  unfold F_X11_at_ at h
  refine x_aload_n hz dX11_at__0 rfl ?_
  refine x_ifnull (t := 20) hz dX11_at__1 (by decide) (fun c1 => ?_) (fun c1 => ?_)
  · replace h := x_ip c1 h
    refine x_lconst (v := (0 : Int64)) hz dX11_at__20 (by decide) ?_
    cases h
    exact x_lret hZ dX11_at__21
  · replace h := x_in c1 h
    refine x_iload_n hz dX11_at__4 rfl ?_
    refine x_if_lt (t := 20) hz dX11_at__5 (by decide) (fun c2 => ?_) (fun c2 => ?_)
    · replace h := x_ip c2 h
      refine x_lconst (v := (0 : Int64)) hz dX11_at__20 (by decide) ?_
      cases h
      exact x_lret hZ dX11_at__21
    · replace h := x_in c2 h
      refine x_iload_n hz dX11_at__8 rfl ?_
      refine x_aload_n hz dX11_at__9 rfl ?_
      obtain ⟨v3, e_v3, h⟩ := x_bnd h
      refine x_alen (t0 := 1) (fun _ => rfl) hz dX11_at__10 e_v3 ?_
      refine x_icmp_ge (t := 20) hz dX11_at__11 (by decide) (fun c4 => ?_) (fun c4 => ?_)
      · replace h := x_ip c4 h
        refine x_lconst (v := (0 : Int64)) hz dX11_at__20 (by decide) ?_
        cases h
        exact x_lret hZ dX11_at__21
      · replace h := x_in c4 h
        refine x_aload_n hz dX11_at__14 rfl ?_
        refine x_iload_n hz dX11_at__15 rfl ?_
        obtain ⟨v5, e_v5, h⟩ := x_bnd h
        refine x_lald hz dX11_at__16 e_v5 ?_
        refine x_goto (t := 21) hz dX11_at__17 (by decide) ?_
        cases h
        exact x_lret hZ dX11_at__21
theorem M_X11_at_ {N : Nat} {a0 : (Option Nat)} {a1 : Int32} {H H1 : xH} {r1 : Int64} (h : F_X11_at_ N a0 a1 H = some (r1, H1)) : xM yX11_at_ cX11_at_ 2 (some .long) 1 [.inr (.inr a0), .inl a1] H (some (.long r1)) H1 :=
  xM_of (by decide +kernel) (xT_tb 421 (by decide +kernel) (by decide +kernel)) (by simp [xargs, x2]) rfl (P_X11_at_ rfl a0 a1 H h)
/-! BettingBook$Tokens.take(LBettingBook$Word;)Z -/
noncomputable def F_X8_take_J54 (N : Nat) (x2 : Int32) (s0 : (Option Nat)) (s1 : Int32) (s2 : Int32) (H : xH) : Option (Int32 × xH) :=
  (xpI H s0 8 3 (s1 + s2)).bind fun H1 =>
  if x2 = 0 ∨ x2 = 1 then some (x2, H1) else none
set_option maxRecDepth 20000 in
set_option maxHeartbeats 4000000 in
theorem P_X8_take_J54 {N : Nat} {Z : xZ} {rv : Int32} {Hf : xH} (hZ : Z = xZm cX8_take yX8_take 3 2 (some .boolean) (some (.int rv)) Hf) : ∀ (x2 : Int32) (s0 : (Option Nat)) (s1 : Int32) (s2 : Int32) (H : xH), F_X8_take_J54 N x2 s0 s1 s2 H = some (rv, Hf) → xWq Z H 54 [xN, xN, xI x2] [.int s2, .int s1, va_rf s0] := by
  have hz : Z.1 = (cX8_take, yX8_take, 3) := by rw [hZ]; rfl
  have hδ : Z.2.1 = 2 := by rw [hZ]; rfl
  intro x2 s0 s1 s2 H h
  unfold F_X8_take_J54 at h
  refine x_iadd hz dX8_take_54 ?_
  obtain ⟨H1, e_H1, h⟩ := x_bnd h
  refine x_putV (v := .int (s1 + s2)) hz dX8_take_55 fs_X8_22 rfl rfl e_H1 ?_
  refine x_iload_n hz dX8_take_58 rfl ?_
  obtain ⟨c2, h⟩ := x_inv h
  cases h
  exact x_zret01 hZ c2 dX8_take_59
noncomputable def F_X8_take_J39 (N : Nat) (x0 : (Option Nat)) (s0 : Int32) (H : xH) : Option (Int32 × xH) :=
  (xgI H x0 8 3).bind fun v1 =>
  if s0 = 0 then ((F_X8_take_J54 N) s0 x0 v1 (0 : Int32) H) else ((F_X8_take_J54 N) s0 x0 v1 (1 : Int32) H)
set_option maxRecDepth 20000 in
set_option maxHeartbeats 4000000 in
theorem P_X8_take_J39 {N : Nat} {Z : xZ} {rv : Int32} {Hf : xH} (hZ : Z = xZm cX8_take yX8_take 3 2 (some .boolean) (some (.int rv)) Hf) : ∀ (x0 : (Option Nat)) (s0 : Int32) (H : xH), F_X8_take_J39 N x0 s0 H = some (rv, Hf) → xWq Z H 39 [xA x0, xN, xN] [.int s0] := by
  have hz : Z.1 = (cX8_take, yX8_take, 3) := by rw [hZ]; rfl
  have hδ : Z.2.1 = 2 := by rw [hZ]; rfl
  intro x0 s0 H h
  unfold F_X8_take_J39 at h
  refine x_istore_n (pl' := [xA x0, xN, xI s0]) hz dX8_take_39 (by decide) rfl ?_
  refine x_aload_n hz dX8_take_40 rfl ?_
  refine x_dup hz dX8_take_41 (x_rfc _) ?_
  obtain ⟨v1, e_v1, h⟩ := x_bnd h
  refine x_getI hz dX8_take_42 fs_X8_22 e_v1 ?_
  refine x_iload_n hz dX8_take_45 rfl ?_
  refine x_if_eq (t := 53) hz dX8_take_46 (by decide) (fun c2 => ?_) (fun c2 => ?_)
  · replace h := x_ip c2 h
    refine x_iconst (v := (0 : Int32)) hz dX8_take_53 (by decide) ?_
    exact x_wk (xwk_n (xwk_n (xwk_c xwk_0))) ((P_X8_take_J54 hZ) s0 x0 v1 (0 : Int32) H h)
  · replace h := x_in c2 h
    refine x_iconst (v := (1 : Int32)) hz dX8_take_49 (by decide) ?_
    refine x_goto (t := 54) hz dX8_take_50 (by decide) ?_
    exact x_wk (xwk_n (xwk_n (xwk_c xwk_0))) ((P_X8_take_J54 hZ) s0 x0 v1 (1 : Int32) H h)
noncomputable def F_X8_take_J38 (N : Nat) (x0 : (Option Nat)) (H : xH) : Option (Int32 × xH) :=
  (F_X8_take_J39 N) x0 (0 : Int32) H
set_option maxRecDepth 20000 in
set_option maxHeartbeats 4000000 in
theorem P_X8_take_J38 {N : Nat} {Z : xZ} {rv : Int32} {Hf : xH} (hZ : Z = xZm cX8_take yX8_take 3 2 (some .boolean) (some (.int rv)) Hf) : ∀ (x0 : (Option Nat)) (H : xH), F_X8_take_J38 N x0 H = some (rv, Hf) → xWq Z H 38 [xA x0, xN, xN] [] := by
  have hz : Z.1 = (cX8_take, yX8_take, 3) := by rw [hZ]; rfl
  have hδ : Z.2.1 = 2 := by rw [hZ]; rfl
  intro x0 H h
  unfold F_X8_take_J38 at h
  refine x_iconst (v := (0 : Int32)) hz dX8_take_38 (by decide) ?_
  exact x_wk (xwk_c (xwk_n (xwk_n xwk_0))) ((P_X8_take_J39 hZ) x0 (0 : Int32) H h)
noncomputable def F_X8_take (N : Nat) (a0 : (Option Nat)) (a1 : (Option Nat)) (H : xH) : Option (Int32 × xH) :=
  (xgA H a0 8 0).bind fun v1 =>
  (xgI H a0 8 3).bind fun v2 =>
  x_bd2 (F_X11_at N v1 v2 H) fun v4 H3 =>
  if v4 = (2 : Int32) then ((xgA H3 a0 8 2).bind fun v6 =>
  (xgI H3 a0 8 3).bind fun v7 =>
  x_bd2 (F_X11_at_ N v6 v7 H3) fun v9 H8 =>
  (xgW H8 a1).bind fun v10 =>
  if (lg_cmp v9 v10) = 0 then ((F_X8_take_J39 N) a0 (1 : Int32) H8) else ((F_X8_take_J38 N) a0 H8)) else ((F_X8_take_J38 N) a0 H3)
set_option maxRecDepth 20000 in
set_option maxHeartbeats 4000000 in
theorem P_X8_take {N : Nat} {Z : xZ} {rv : Int32} {Hf : xH} (hZ : Z = xZm cX8_take yX8_take 3 2 (some .boolean) (some (.int rv)) Hf) : ∀ (a0 : (Option Nat)) (a1 : (Option Nat)) (H : xH), F_X8_take N a0 a1 H = some (rv, Hf) → xWq Z H 0 [xA a0, xA a1, xN] [] := by
  have hz : Z.1 = (cX8_take, yX8_take, 3) := by rw [hZ]; rfl
  have hδ : Z.2.1 = 2 := by rw [hZ]; rfl
  intro a0 a1 H h
  unfold F_X8_take at h
  refine x_aload_n hz dX8_take_0 rfl ?_
  obtain ⟨v1, e_v1, h⟩ := x_bnd h
  refine x_getA hz dX8_take_1 fs_X8_9 e_v1 ?_
  refine x_aload_n hz dX8_take_4 rfl ?_
  obtain ⟨v2, e_v2, h⟩ := x_bnd h
  refine x_getI hz dX8_take_5 fs_X8_22 e_v2 ?_
  obtain ⟨v4, H3, e_H3, h⟩ := x_b2 h
  refine x_callSi (as := [.inr (.inr v1), .inl v2]) (st := []) cs_X8_37 rfl rfl hz (by omega) (by decide) dX8_take_8 (M_X11_at e_H3) ?_
  refine x_iconst (v := (2 : Int32)) hz dX8_take_11 (by decide) ?_
  refine x_icmp_ne (t := 38) hz dX8_take_12 (by decide) (fun c5 => ?_) (fun c5 => ?_)
  · replace h := x_in c5 h
    exact x_wk (xwk_c (xwk_n (xwk_n xwk_0))) ((P_X8_take_J38 hZ) a0 H3 h)
  · replace h := x_ip c5 h
    refine x_aload_n hz dX8_take_15 rfl ?_
    obtain ⟨v6, e_v6, h⟩ := x_bnd h
    refine x_getA hz dX8_take_16 fs_X8_18 e_v6 ?_
    refine x_aload_n hz dX8_take_19 rfl ?_
    obtain ⟨v7, e_v7, h⟩ := x_bnd h
    refine x_getI hz dX8_take_20 fs_X8_22 e_v7 ?_
    obtain ⟨v9, H8, e_H8, h⟩ := x_b2 h
    refine x_callSl (as := [.inr (.inr v6), .inl v7]) (st := []) cs_X8_41 rfl rfl hz (by omega) (by decide) dX8_take_23 (M_X11_at_ e_H8) ?_
    refine x_aload_n hz dX8_take_26 rfl ?_
    obtain ⟨v10, e_v10, h⟩ := x_bnd h
    refine x_getW hz dX8_take_27 fw_X8_44 e_v10 ?_
    refine x_lcmp hz dX8_take_30 ?_
    refine x_if_ne (t := 38) hz dX8_take_31 (by decide) (fun c11 => ?_) (fun c11 => ?_)
    · replace h := x_in c11 h
      exact x_wk (xwk_c (xwk_n (xwk_n xwk_0))) ((P_X8_take_J38 hZ) a0 H8 h)
    · replace h := x_ip c11 h
      refine x_iconst (v := (1 : Int32)) hz dX8_take_34 (by decide) ?_
      refine x_goto (t := 39) hz dX8_take_35 (by decide) ?_
      exact x_wk (xwk_c (xwk_n (xwk_n xwk_0))) ((P_X8_take_J39 hZ) a0 (1 : Int32) H8 h)
theorem M_X8_take {N : Nat} {a0 : (Option Nat)} {a1 : (Option Nat)} {H H1 : xH} {r1 : Int32} (h : F_X8_take N a0 a1 H = some (r1, H1)) : xM yX8_take cX8_take 3 (some .boolean) 2 [.inr (.inr a0), .inr (.inr a1)] H (some (.int r1)) H1 :=
  xM_of (by decide +kernel) (xT_tb 418 (by decide +kernel) (by decide +kernel)) (by simp [xargs, x2]) rfl (P_X8_take rfl a0 a1 H h)
/-! BettingBook$Word.isOne(J)Z -/
noncomputable def F_X10_isOne_J10 (N : Nat) (k10 : Int64 → (Option Nat) → Int32 → Int32 → xH → Option (Int32 × xH)) (x0 : Int64) (x2 : (Option Nat)) (x3 : Int32) (x4 : Int32) (H : xH) : Option (Int32 × xH) :=
  if x3 ≤ x4 then (some ((0 : Int32), H)) else ((xlW H x2 x4).bind fun v2 =>
  (xgW H v2).bind fun v3 =>
  if (lg_cmp v3 x0) = 0 then (some ((1 : Int32), H)) else (k10 x0 x2 x3 (x4 + 1) H))
set_option maxRecDepth 20000 in
set_option maxHeartbeats 4000000 in
theorem P_X10_isOne_J10 {N : Nat} {Z : xZ} {rv : Int32} {Hf : xH} (hZ : Z = xZm cX10_isOne yX10_isOne 6 1 (some .boolean) (some (.int rv)) Hf) {k10 : Int64 → (Option Nat) → Int32 → Int32 → xH → Option (Int32 × xH)} (hk10 : ∀ (x0 : Int64) (x2 : (Option Nat)) (x3 : Int32) (x4 : Int32) (H : xH), k10 x0 x2 x3 x4 H = some (rv, Hf) → xWq Z H 10 [xJ x0, xN, xA x2, xI x3, xI x4, xN] []) : ∀ (x0 : Int64) (x2 : (Option Nat)) (x3 : Int32) (x4 : Int32) (H : xH), F_X10_isOne_J10 N k10 x0 x2 x3 x4 H = some (rv, Hf) → xWq Z H 10 [xJ x0, xN, xA x2, xI x3, xI x4, xN] [] := by
  have hz : Z.1 = (cX10_isOne, yX10_isOne, 6) := by rw [hZ]; rfl
  have hδ : Z.2.1 = 1 := by rw [hZ]; rfl
  intro x0 x2 x3 x4 H h
  unfold F_X10_isOne_J10 at h
  refine x_iload hz dX10_isOne_10 rfl ?_
  refine x_iload_n hz dX10_isOne_12 rfl ?_
  refine x_icmp_ge (t := 40) hz dX10_isOne_13 (by decide) (fun c1 => ?_) (fun c1 => ?_)
  · replace h := x_ip c1 h
    refine x_iconst (v := (0 : Int32)) hz dX10_isOne_40 (by decide) ?_
    cases h
    exact x_zret01 hZ (Or.inl rfl) dX10_isOne_41
  · replace h := x_in c1 h
    refine x_aload_n hz dX10_isOne_16 rfl ?_
    refine x_iload hz dX10_isOne_17 rfl ?_
    obtain ⟨v2, e_v2, h⟩ := x_bnd h
    refine x_aaldW hz dX10_isOne_19 e_v2 ?_
    refine x_astore (pl' := [xJ x0, xN, xA x2, xI x3, xI x4, xA v2]) hz dX10_isOne_20 (by decide) rfl ?_
    refine x_aload hz dX10_isOne_22 rfl ?_
    obtain ⟨v3, e_v3, h⟩ := x_bnd h
    refine x_getW hz dX10_isOne_24 fw_X10_92 e_v3 ?_
    refine x_lload_n hz dX10_isOne_27 rfl ?_
    refine x_lcmp hz dX10_isOne_28 ?_
    refine x_if_ne (t := 34) hz dX10_isOne_29 (by decide) (fun c4 => ?_) (fun c4 => ?_)
    · replace h := x_in c4 h
      refine x_iinc (w := (x4 + 1)) (pl' := [xJ x0, xN, xA x2, xI x3, xI (x4 + 1), xA v2]) hz dX10_isOne_34 rfl rfl (by decide) rfl ?_
      refine x_goto (t := 10) hz dX10_isOne_37 (by decide) ?_
      exact x_wk (xwk_c (xwk_n (xwk_c (xwk_c (xwk_c (xwk_n xwk_0)))))) (hk10 x0 x2 x3 (x4 + 1) H h)
    · replace h := x_ip c4 h
      refine x_iconst (v := (1 : Int32)) hz dX10_isOne_32 (by decide) ?_
      cases h
      exact x_zret01 hZ (Or.inr rfl) dX10_isOne_33
noncomputable def F_X10_isOne_L10 (N : Nat) : Nat → Int64 → (Option Nat) → Int32 → Int32 → xH → Option (Int32 × xH)
  | 0 => fun _ _ _ _ _ => none
  | n + 1 => F_X10_isOne_J10 N (F_X10_isOne_L10 N n)
theorem P_X10_isOne_L10 {N : Nat} {Z : xZ} {rv : Int32} {Hf : xH} (hZ : Z = xZm cX10_isOne yX10_isOne 6 1 (some .boolean) (some (.int rv)) Hf) : ∀ (n : Nat) (x0 : Int64) (x2 : (Option Nat)) (x3 : Int32) (x4 : Int32) (H : xH), F_X10_isOne_L10 N n x0 x2 x3 x4 H = some (rv, Hf) → xWq Z H 10 [xJ x0, xN, xA x2, xI x3, xI x4, xN] [] := by
  intro n
  induction n with
  | zero => intro _ _ _ _ _ h; cases h
  | succ n ih => exact P_X10_isOne_J10 hZ ih
noncomputable def F_X10_isOne (N : Nat) (a0 : Int64) (H : xH) : Option (Int32 × xH) :=
  (xalW H (some (H.2.2.2 19))).bind fun v1 =>
  (F_X10_isOne_L10 N N) a0 (some (H.2.2.2 19)) v1 (0 : Int32) H
set_option maxRecDepth 20000 in
set_option maxHeartbeats 4000000 in
theorem P_X10_isOne {N : Nat} {Z : xZ} {rv : Int32} {Hf : xH} (hZ : Z = xZm cX10_isOne yX10_isOne 6 1 (some .boolean) (some (.int rv)) Hf) : ∀ (a0 : Int64) (H : xH), F_X10_isOne N a0 H = some (rv, Hf) → xWq Z H 0 [xJ a0, xN, xN, xN, xN, xN] [] := by
  have hz : Z.1 = (cX10_isOne, yX10_isOne, 6) := by rw [hZ]; rfl
  have hδ : Z.2.1 = 1 := by rw [hZ]; rfl
  intro a0 H h
  unfold F_X10_isOne at h
  refine x_gets (i := 19) hz dX10_isOne_0 (by decide) gw_X10_96 ?_
  refine x_astore_n (pl' := [xJ a0, xN, xA (some (H.2.2.2 19)), xN, xN, xN]) hz dX10_isOne_3 (by decide) rfl ?_
  refine x_aload_n hz dX10_isOne_4 rfl ?_
  obtain ⟨v1, e_v1, h⟩ := x_bnd h
  refine x_alenW hz dX10_isOne_5 e_v1 ?_
  refine x_istore_n (pl' := [xJ a0, xN, xA (some (H.2.2.2 19)), xI v1, xN, xN]) hz dX10_isOne_6 (by decide) rfl ?_
  refine x_iconst (v := (0 : Int32)) hz dX10_isOne_7 (by decide) ?_
  refine x_istore (pl' := [xJ a0, xN, xA (some (H.2.2.2 19)), xI v1, xI (0 : Int32), xN]) hz dX10_isOne_8 (by decide) rfl ?_
  exact x_wk (xwk_c (xwk_n (xwk_c (xwk_c (xwk_c (xwk_n xwk_0)))))) ((P_X10_isOne_L10 hZ N) a0 (some (H.2.2.2 19)) v1 (0 : Int32) H h)
theorem M_X10_isOne {N : Nat} {a0 : Int64} {H H1 : xH} {r1 : Int32} (h : F_X10_isOne N a0 H = some (r1, H1)) : xM yX10_isOne cX10_isOne 6 (some .boolean) 1 [.inr (.inl a0)] H (some (.int r1)) H1 :=
  xM_of (by decide +kernel) (xT_tb 432 (by decide +kernel) (by decide +kernel)) (by simp [xargs, x2]) rfl (P_X10_isOne rfl a0 H h)
/-! BettingBook$Tokens.name()J -/
noncomputable def F_X8_name_J30 (N : Nat) (s0 : Int64) (H : xH) : Option (Int64 × xH) :=
  x_bd2 (F_X10_isOne N s0 H) fun v2 H1 =>
  if v2 = 0 then (some (s0, H1)) else (some ((0 : Int64), H1))
set_option maxRecDepth 20000 in
set_option maxHeartbeats 4000000 in
theorem P_X8_name_J30 {N : Nat} {Z : xZ} {rv : Int64} {Hf : xH} (hZ : Z = xZm cX8_name yX8_name 3 2 (some .long) (some (.long rv)) Hf) : ∀ (s0 : Int64) (H : xH), F_X8_name_J30 N s0 H = some (rv, Hf) → xWq Z H 30 [xN, xN, xN] [.long s0] := by
  have hz : Z.1 = (cX8_name, yX8_name, 3) := by rw [hZ]; rfl
  have hδ : Z.2.1 = 2 := by rw [hZ]; rfl
  intro s0 H h
  unfold F_X8_name_J30 at h
  refine x_lstore_n (pl' := [xN, xJ s0, xN]) hz dX8_name_30 (by decide) rfl ?_
  refine x_lload_n hz dX8_name_31 rfl ?_
  obtain ⟨v2, H1, e_H1, h⟩ := x_b2 h
  refine x_callSi (as := [.inr (.inl s0)]) (st := []) cs_X8_50 rfl rfl hz (by omega) (by decide) dX8_name_32 (M_X10_isOne e_H1) ?_
  refine x_if_eq (t := 42) hz dX8_name_35 (by decide) (fun c3 => ?_) (fun c3 => ?_)
  · replace h := x_ip c3 h
    refine x_lload_n hz dX8_name_42 rfl ?_
    cases h
    exact x_lret hZ dX8_name_43
  · replace h := x_in c3 h
    refine x_lconst (v := (0 : Int64)) hz dX8_name_38 (by decide) ?_
    refine x_goto (t := 43) hz dX8_name_39 (by decide) ?_
    cases h
    exact x_lret hZ dX8_name_43
noncomputable def F_X8_name (N : Nat) (a0 : (Option Nat)) (H : xH) : Option (Int64 × xH) :=
  (xgA H a0 8 0).bind fun v1 =>
  (xgI H a0 8 3).bind fun v2 =>
  x_bd2 (F_X11_at N v1 v2 H) fun v4 H3 =>
  if v4 = (2 : Int32) then ((xgA H3 a0 8 2).bind fun v6 =>
  (xgI H3 a0 8 3).bind fun v7 =>
  x_bd2 (F_X11_at_ N v6 v7 H3) fun v9 H8 =>
  (F_X8_name_J30 N) v9 H8) else ((F_X8_name_J30 N) (0 : Int64) H3)
set_option maxRecDepth 20000 in
set_option maxHeartbeats 4000000 in
theorem P_X8_name {N : Nat} {Z : xZ} {rv : Int64} {Hf : xH} (hZ : Z = xZm cX8_name yX8_name 3 2 (some .long) (some (.long rv)) Hf) : ∀ (a0 : (Option Nat)) (H : xH), F_X8_name N a0 H = some (rv, Hf) → xWq Z H 0 [xA a0, xN, xN] [] := by
  have hz : Z.1 = (cX8_name, yX8_name, 3) := by rw [hZ]; rfl
  have hδ : Z.2.1 = 2 := by rw [hZ]; rfl
  intro a0 H h
  unfold F_X8_name at h
  refine x_aload_n hz dX8_name_0 rfl ?_
  obtain ⟨v1, e_v1, h⟩ := x_bnd h
  refine x_getA hz dX8_name_1 fs_X8_9 e_v1 ?_
  refine x_aload_n hz dX8_name_4 rfl ?_
  obtain ⟨v2, e_v2, h⟩ := x_bnd h
  refine x_getI hz dX8_name_5 fs_X8_22 e_v2 ?_
  obtain ⟨v4, H3, e_H3, h⟩ := x_b2 h
  refine x_callSi (as := [.inr (.inr v1), .inl v2]) (st := []) cs_X8_37 rfl rfl hz (by omega) (by decide) dX8_name_8 (M_X11_at e_H3) ?_
  refine x_iconst (v := (2 : Int32)) hz dX8_name_11 (by decide) ?_
  refine x_icmp_ne (t := 29) hz dX8_name_12 (by decide) (fun c5 => ?_) (fun c5 => ?_)
  · replace h := x_in c5 h
    refine x_lconst (v := (0 : Int64)) hz dX8_name_29 (by decide) ?_
    exact x_wk (xwk_n (xwk_n (xwk_n xwk_0))) ((P_X8_name_J30 hZ) (0 : Int64) H3 h)
  · replace h := x_ip c5 h
    refine x_aload_n hz dX8_name_15 rfl ?_
    obtain ⟨v6, e_v6, h⟩ := x_bnd h
    refine x_getA hz dX8_name_16 fs_X8_18 e_v6 ?_
    refine x_aload_n hz dX8_name_19 rfl ?_
    obtain ⟨v7, e_v7, h⟩ := x_bnd h
    refine x_getI hz dX8_name_20 fs_X8_22 e_v7 ?_
    obtain ⟨v9, H8, e_H8, h⟩ := x_b2 h
    refine x_callSl (as := [.inr (.inr v6), .inl v7]) (st := []) cs_X8_41 rfl rfl hz (by omega) (by decide) dX8_name_23 (M_X11_at_ e_H8) ?_
    refine x_goto (t := 30) hz dX8_name_26 (by decide) ?_
    exact x_wk (xwk_n (xwk_n (xwk_n xwk_0))) ((P_X8_name_J30 hZ) v9 H8 h)
theorem M_X8_name {N : Nat} {a0 : (Option Nat)} {H H1 : xH} {r1 : Int64} (h : F_X8_name N a0 H = some (r1, H1)) : xM yX8_name cX8_name 3 (some .long) 2 [.inr (.inr a0)] H (some (.long r1)) H1 :=
  xM_of (by decide +kernel) (xT_tb 429 (by decide +kernel) (by decide +kernel)) (by simp [xargs, x2]) rfl (P_X8_name rfl a0 H h)
/-! BettingBook$Tokens.skip()V -/
noncomputable def F_X8_skip (N : Nat) (a0 : (Option Nat)) (H : xH) : Option xH :=
  (xgI H a0 8 3).bind fun v1 =>
  (xpI H a0 8 3 (v1 + (1 : Int32))).bind fun H2 =>
  some H2
set_option maxRecDepth 20000 in
set_option maxHeartbeats 4000000 in
theorem P_X8_skip {N : Nat} {Z : xZ} {Hf : xH} (hZ : Z = xZm cX8_skip yX8_skip 1 1 none none Hf) : ∀ (a0 : (Option Nat)) (H : xH), F_X8_skip N a0 H = some Hf → xWq Z H 0 [xA a0] [] := by
  have hz : Z.1 = (cX8_skip, yX8_skip, 1) := by rw [hZ]; rfl
  have hδ : Z.2.1 = 1 := by rw [hZ]; rfl
  intro a0 H h
  unfold F_X8_skip at h
  refine x_aload_n hz dX8_skip_0 rfl ?_
  refine x_dup hz dX8_skip_1 (x_rfc _) ?_
  obtain ⟨v1, e_v1, h⟩ := x_bnd h
  refine x_getI hz dX8_skip_2 fs_X8_22 e_v1 ?_
  refine x_iconst (v := (1 : Int32)) hz dX8_skip_5 (by decide) ?_
  refine x_iadd hz dX8_skip_6 ?_
  obtain ⟨H2, e_H2, h⟩ := x_bnd h
  refine x_putV (v := .int (v1 + (1 : Int32))) hz dX8_skip_7 fs_X8_22 rfl rfl e_H2 ?_
  cases h
  exact x_vret hZ dX8_skip_10
theorem M_X8_skip {N : Nat} {a0 : (Option Nat)} {H H1 : xH} (h : F_X8_skip N a0 H = some H1) : xM yX8_skip cX8_skip 1 none 1 [.inr (.inr a0)] H none H1 :=
  xM_of (by decide +kernel) (xT_tb 442 (by decide +kernel) (by decide +kernel)) (by simp [xargs, x2]) rfl (P_X8_skip rfl a0 H h)
/-! BettingBook$Tokens.takeNumber(II)I -/
noncomputable def F_X8_takeNumber (N : Nat) (a0 : (Option Nat)) (a1 : Int32) (a2 : Int32) (H : xH) : Option (Int32 × xH) :=
  (xgA H a0 8 2).bind fun v1 =>
  (xgI H a0 8 3).bind fun v2 =>
  x_bd2 (F_X11_at_ N v1 v2 H) fun v4 H3 =>
  (xgA H3 a0 8 0).bind fun v5 =>
  (xgI H3 a0 8 3).bind fun v6 =>
  x_bd2 (F_X11_at N v5 v6 H3) fun v8 H7 =>
  if v8 = (3 : Int32) then (if (lg_cmp v4 ((a1).toInt64)) < 0 then (some ((-1 : Int32), H7)) else (if (lg_cmp v4 ((a2).toInt64)) ≤ 0 then ((xgI H7 a0 8 3).bind fun v12 =>
  (xpI H7 a0 8 3 (v12 + (1 : Int32))).bind fun H13 =>
  some (((v4).toInt32), H13)) else (some ((-1 : Int32), H7)))) else (some ((-1 : Int32), H7))
set_option maxRecDepth 20000 in
set_option maxHeartbeats 4000000 in
theorem P_X8_takeNumber {N : Nat} {Z : xZ} {rv : Int32} {Hf : xH} (hZ : Z = xZm cX8_takeNumber yX8_takeNumber 5 2 (some .int) (some (.int rv)) Hf) : ∀ (a0 : (Option Nat)) (a1 : Int32) (a2 : Int32) (H : xH), F_X8_takeNumber N a0 a1 a2 H = some (rv, Hf) → xWq Z H 0 [xA a0, xI a1, xI a2, xN, xN] [] := by
  have hz : Z.1 = (cX8_takeNumber, yX8_takeNumber, 5) := by rw [hZ]; rfl
  have hδ : Z.2.1 = 2 := by rw [hZ]; rfl
  intro a0 a1 a2 H h
  unfold F_X8_takeNumber at h
  refine x_aload_n hz dX8_takeNumber_0 rfl ?_
  obtain ⟨v1, e_v1, h⟩ := x_bnd h
  refine x_getA hz dX8_takeNumber_1 fs_X8_18 e_v1 ?_
  refine x_aload_n hz dX8_takeNumber_4 rfl ?_
  obtain ⟨v2, e_v2, h⟩ := x_bnd h
  refine x_getI hz dX8_takeNumber_5 fs_X8_22 e_v2 ?_
  obtain ⟨v4, H3, e_H3, h⟩ := x_b2 h
  refine x_callSl (as := [.inr (.inr v1), .inl v2]) (st := []) cs_X8_41 rfl rfl hz (by omega) (by decide) dX8_takeNumber_8 (M_X11_at_ e_H3) ?_
  refine x_lstore_n (pl' := [xA a0, xI a1, xI a2, xJ v4, xN]) hz dX8_takeNumber_11 (by decide) rfl ?_
  refine x_aload_n hz dX8_takeNumber_12 rfl ?_
  obtain ⟨v5, e_v5, h⟩ := x_bnd h
  refine x_getA hz dX8_takeNumber_13 fs_X8_9 e_v5 ?_
  refine x_aload_n hz dX8_takeNumber_16 rfl ?_
  obtain ⟨v6, e_v6, h⟩ := x_bnd h
  refine x_getI hz dX8_takeNumber_17 fs_X8_22 e_v6 ?_
  obtain ⟨v8, H7, e_H7, h⟩ := x_b2 h
  refine x_callSi (as := [.inr (.inr v5), .inl v6]) (st := []) cs_X8_37 rfl rfl hz (by omega) (by decide) dX8_takeNumber_20 (M_X11_at e_H7) ?_
  refine x_iconst (v := (3 : Int32)) hz dX8_takeNumber_23 (by decide) ?_
  refine x_icmp_ne (t := 41) hz dX8_takeNumber_24 (by decide) (fun c9 => ?_) (fun c9 => ?_)
  · replace h := x_in c9 h
    refine x_iconst (v := (-1 : Int32)) hz dX8_takeNumber_41 (by decide) ?_
    cases h
    exact x_iret hZ dX8_takeNumber_42
  · replace h := x_ip c9 h
    refine x_lload_n hz dX8_takeNumber_27 rfl ?_
    refine x_iload_n hz dX8_takeNumber_28 rfl ?_
    refine x_i2l hz dX8_takeNumber_29 ?_
    refine x_lcmp hz dX8_takeNumber_30 ?_
    refine x_if_lt (t := 41) hz dX8_takeNumber_31 (by decide) (fun c10 => ?_) (fun c10 => ?_)
    · replace h := x_ip c10 h
      refine x_iconst (v := (-1 : Int32)) hz dX8_takeNumber_41 (by decide) ?_
      cases h
      exact x_iret hZ dX8_takeNumber_42
    · replace h := x_in c10 h
      refine x_lload_n hz dX8_takeNumber_34 rfl ?_
      refine x_iload_n hz dX8_takeNumber_35 rfl ?_
      refine x_i2l hz dX8_takeNumber_36 ?_
      refine x_lcmp hz dX8_takeNumber_37 ?_
      refine x_if_le (t := 43) hz dX8_takeNumber_38 (by decide) (fun c11 => ?_) (fun c11 => ?_)
      · replace h := x_ip c11 h
        refine x_aload_n hz dX8_takeNumber_43 rfl ?_
        refine x_dup hz dX8_takeNumber_44 (x_rfc _) ?_
        obtain ⟨v12, e_v12, h⟩ := x_bnd h
        refine x_getI hz dX8_takeNumber_45 fs_X8_22 e_v12 ?_
        refine x_iconst (v := (1 : Int32)) hz dX8_takeNumber_48 (by decide) ?_
        refine x_iadd hz dX8_takeNumber_49 ?_
        obtain ⟨H13, e_H13, h⟩ := x_bnd h
        refine x_putV (v := .int (v12 + (1 : Int32))) hz dX8_takeNumber_50 fs_X8_22 rfl rfl e_H13 ?_
        refine x_lload_n hz dX8_takeNumber_53 rfl ?_
        refine x_l2i hz dX8_takeNumber_54 ?_
        cases h
        exact x_iret hZ dX8_takeNumber_55
      · replace h := x_in c11 h
        refine x_iconst (v := (-1 : Int32)) hz dX8_takeNumber_41 (by decide) ?_
        cases h
        exact x_iret hZ dX8_takeNumber_42
theorem M_X8_takeNumber {N : Nat} {a0 : (Option Nat)} {a1 : Int32} {a2 : Int32} {H H1 : xH} {r1 : Int32} (h : F_X8_takeNumber N a0 a1 a2 H = some (r1, H1)) : xM yX8_takeNumber cX8_takeNumber 5 (some .int) 2 [.inr (.inr a0), .inl a1, .inl a2] H (some (.int r1)) H1 :=
  xM_of (by decide +kernel) (xT_tb 448 (by decide +kernel) (by decide +kernel)) (by simp [xargs, x2]) rfl (P_X8_takeNumber rfl a0 a1 a2 H h)
